theorem mX4_clear : gMv yX4_clear cX4_clear 1 none RX4 0 := ⟨q281, q282, q9, q283, rfl, by decide, by decide, by decide +kernel⟩
theorem mX6_peek : gMv yX6_peek cX6_peek 1 (some .int) RX6 0 := ⟨q241, q1348, q2, q242, rfl, by decide, by decide, by decide +kernel⟩
theorem mX6_isStep : gMv yX6_isStep cX6_isStep 4 (some .boolean) RX6 1 := ⟨q285, q1351, q2, q286, rfl, by decide, by decide, by decide +kernel⟩
theorem mX6_readScript : gMv yX6_readScript cX6_readScript 4 (some .int) RX6 1 := ⟨q277, q278, q2, q279, rfl, by decide, by decide, by decide +kernel⟩
theorem mJ7_fill_53178 : gMs yJ7_fill_53178 cJ7_fill_53178 4 none 2 := ⟨q231, q11, q232, by decide, by decide, by decide +kernel⟩
theorem mX5_clear : gMv yX5_clear cX5_clear 1 none RX5 0 := ⟨q227, q228, q3, q229, rfl, by decide, by decide, by decide +kernel⟩
theorem mX5_open : gMv yX5_open cX5_open 1 none RX5 0 := ⟨q237, q238, q3, q239, rfl, by decide, by decide, by decide +kernel⟩
theorem mX6_isClause : gMv yX6_isClause cX6_isClause 5 (some .boolean) RX6 1 := ⟨q234, q1347, q2, q235, rfl, by decide, by decide, by decide +kernel⟩
theorem mX6_readTables : gMv yX6_readTables cX6_readTables 4 (some .int) RX6 1 := ⟨q223, q224, q2, q225, rfl, by decide, by decide, by decide +kernel⟩
theorem mX8_textOfScript : gMv yX8_textOfScript cX8_textOfScript 1 (some .int) RX8 0 := ⟨q392, q1367, q1, q393, rfl, by decide, by decide, by decide +kernel⟩
theorem mX8_textOfTables : gMv yX8_textOfTables cX8_textOfTables 1 (some .int) RX8 0 := ⟨q312, q1354, q1, q313, rfl, by decide, by decide, by decide +kernel⟩
theorem mX5_isTable : gMv yX5_isTable cX5_isTable 2 (some .boolean) RX5 1 := ⟨q248, q249, q3, q250, rfl, by decide, by decide, by decide +kernel⟩
theorem mX5_asked : gMv yX5_asked cX5_asked 3 (some .int) RX5 0 := ⟨q336, q337, q3, q338, rfl, by decide, by decide, by decide +kernel⟩
theorem mX8_isAsked : gMv yX8_isAsked cX8_isAsked 2 (some .boolean) RX8 1 := ⟨q423, q1368, q1, q424, rfl, by decide, by decide, by decide +kernel⟩
theorem mX5_refusal : gMv yX5_refusal cX5_refusal 7 (some .int) RX5 5 := ⟨q585, q586, q3, q587, rfl, by decide, by decide, by decide +kernel⟩
theorem mX8_attempt : gMv yX8_attempt cX8_attempt 8 (some .int) RX8 5 := ⟨q582, q1370, q1, q583, rfl, by decide, by decide, by decide +kernel⟩
theorem mX8_isDone : gMv yX8_isDone cX8_isDone 7 (some .boolean) RX8 5 := ⟨q579, q1369, q1, q580, rfl, by decide, by decide, by decide +kernel⟩
theorem mX2_shown : gMv yX2_shown cX2_shown 1 (some .int) RX2 0 := ⟨q679, q680, q7, q681, rfl, by decide, by decide, by decide +kernel⟩
theorem mX8_isScript : gMv yX8_isScript cX8_isScript 2 (some .boolean) RX8 1 := ⟨q695, q1375, q1, q696, rfl, by decide, by decide, by decide +kernel⟩
theorem mX9_in : gMs yX9_in cX9_in 3 (some .boolean) 3 := ⟨q924, q10, q925, by decide, by decide, by decide +kernel⟩
theorem mX9_begins : gMv yX9_begins cX9_begins 1 none RX9 0 := ⟨q934, q1382, q10, q935, rfl, by decide, by decide, by decide +kernel⟩
theorem mX9_here : gMv yX9_here cX9_here 1 (some .int) RX9 0 := ⟨q946, q1386, q10, q947, rfl, by decide, by decide, by decide +kernel⟩
theorem mX9_ahead : gMv yX9_ahead cX9_ahead 1 (some .int) RX9 0 := ⟨q943, q1385, q10, q944, rfl, by decide, by decide, by decide +kernel⟩
theorem mX9_bad : gMv yX9_bad cX9_bad 1 none RX9 0 := ⟨q952, q1388, q10, q953, rfl, by decide, by decide, by decide +kernel⟩
theorem mX9_readStep : gMv yX9_readStep cX9_readStep 6 none RX9 1 := ⟨q976, q1394, q10, q977, rfl, by decide, by decide, by decide +kernel⟩
theorem mX9_ends : gMv yX9_ends cX9_ends 1 (some .int) RX9 0 := ⟨q970, q1392, q10, q971, rfl, by decide, by decide, by decide +kernel⟩
theorem mX9_readScript : gMv yX9_readScript cX9_readScript 3 (some .int) RX9 1 := ⟨q973, q1393, q10, q974, rfl, by decide, by decide, by decide +kernel⟩
theorem mX9_isLetter : gMv yX9_isLetter cX9_isLetter 2 (some .boolean) RX9 1 := ⟨q949, q1387, q10, q950, rfl, by decide, by decide, by decide +kernel⟩
theorem mX9_must : gMv yX9_must cX9_must 2 none RX9 1 := ⟨q958, q1389, q10, q959, rfl, by decide, by decide, by decide +kernel⟩
theorem mX9_readHead : gMv yX9_readHead cX9_readHead 4 none RX9 1 := ⟨q940, q1384, q10, q941, rfl, by decide, by decide, by decide +kernel⟩
theorem mX9_readTable : gMv yX9_readTable cX9_readTable 3 none RX9 1 := ⟨q937, q1383, q10, q938, rfl, by decide, by decide, by decide +kernel⟩
theorem mX9_readAll : gMv yX9_readAll cX9_readAll 2 (some .int) RX9 0 := ⟨q931, q1381, q10, q932, rfl, by decide, by decide, by decide +kernel⟩
theorem mX9_areTables : gMv yX9_areTables cX9_areTables 1 (some .boolean) RX9 0 := ⟨q1029, q1408, q10, q1030, rfl, by decide, by decide, by decide +kernel⟩
theorem mX9_isTable : gMv yX9_isTable cX9_isTable 2 (some .boolean) RX9 1 := ⟨q1020, q1405, q10, q1021, rfl, by decide, by decide, by decide +kernel⟩
theorem mX9_isAsked : gMv yX9_isAsked cX9_isAsked 2 (some .boolean) RX9 1 := ⟨q1168, q1437, q10, q1169, rfl, by decide, by decide, by decide +kernel⟩
theorem mX9_hasMean : gMv yX9_hasMean cX9_hasMean 2 (some .boolean) RX9 1 := ⟨q1250, q1447, q10, q1251, rfl, by decide, by decide, by decide +kernel⟩
theorem mX9_whyPut : gMv yX9_whyPut cX9_whyPut 5 (some .int) RX9 4 := ⟨q1017, q1404, q10, q1018, rfl, by decide, by decide, by decide +kernel⟩
theorem mX9_whyNot : gMv yX9_whyNot cX9_whyNot 6 (some .int) RX9 5 := ⟨q1014, q1403, q10, q1015, rfl, by decide, by decide, by decide +kernel⟩
theorem mX9_hand : gMv yX9_hand cX9_hand 7 (some .int) RX9 5 := ⟨q1011, q1402, q10, q1012, rfl, by decide, by decide, by decide +kernel⟩
theorem mX9_whyTake : gMv yX9_whyTake cX9_whyTake 5 (some .int) RX9 4 := ⟨q1026, q1407, q10, q1027, rfl, by decide, by decide, by decide +kernel⟩
theorem mX9_isScript : gMv yX9_isScript cX9_isScript 2 (some .boolean) RX9 1 := ⟨q1301, q1451, q10, q1302, rfl, by decide, by decide, by decide +kernel⟩
set_option maxRecDepth 100000 in
set_option maxHeartbeats 4000000 in
theorem kX8_end (l : Launch) (E : gE) (hE : gDist sh E) (a1 : Int32) : Ct l sh E yX8_end cX8_end 2 (some .boolean) (gR 0) [.ref (E.2.1 0), .int a1] g0 h0 (fun r _ _ => r = some (.int (if a1 = 0 then 1 else 0))) := by
  refine Ct.of "LeapJoin" rfl hE (by decide) (Nat.le_of_ble_eq_true rfl) (fun z F e hl => ?_)
  subst hl
  refine g_iload_n F 1 dX8_end_0 rfl rfl ?_
  refine g_if_lt (tgt := 15) F dX8_end_1 (by decide) (fun c1 => ?_) (fun c1f => ?_)
  · refine g_iconst (v := 0) F dX8_end_15 (by decide) ?_
    exact g_zret F rfl e dX8_end_16 (congrArg (fun x => some (Value.int x)) (if_neg (by simp only [g_lt, g_le, g_eq, g_l0, g_l1, g_l2, g_l3, g_l4, g_l5, g_lm1, g_l400, g_l40, g_l15] at c1 ⊢; omega)).symm)
  · refine g_iload_n F 1 dX8_end_4 rfl rfl ?_
    refine g_aload_n F 0 dX8_end_5 rfl rfl ?_
    refine g_getr (j := 0) (nn := 1) F s0 rfl rfl uX8 (by decide) q169 dX8_end_6 ?_
    refine g_geti (j := 0) (v := 0) F s1 rfl rfl uX6 (by decide) q36 rfl dX8_end_9 ?_
    refine g_icmp_le (tgt := 17) F dX8_end_12 (by decide) (fun c2 => ?_) (fun c2f => ?_)
    · refine g_aload_n F 0 dX8_end_17 rfl rfl ?_
      refine g_getr (j := 0) (nn := 1) F s0 rfl rfl uX8 (by decide) q169 dX8_end_18 ?_
      refine g_iload_n F 1 dX8_end_21 rfl rfl ?_
      refine g_puti (j := 0) F s1 rfl rfl uX6 (by decide) q36 tyX6_ok nmX6 rfl rfl rfl dX8_end_22 ?_
      refine g_iconst (v := 1) F dX8_end_25 (by decide) ?_
      exact g_zret F rfl e dX8_end_26 (congrArg (fun x => some (Value.int x)) (if_pos (by simp only [g_lt, g_le, g_eq, g_l0, g_l1, g_l2, g_l3, g_l4, g_l5, g_lm1, g_l400, g_l40, g_l15] at c1f c2 ⊢; omega)).symm)
    · refine g_iconst (v := 0) F dX8_end_15 (by decide) ?_
      exact g_zret F rfl e dX8_end_16 (congrArg (fun x => some (Value.int x)) (if_neg (by simp only [g_lt, g_le, g_eq, g_l0, g_l1, g_l2, g_l3, g_l4, g_l5, g_lm1, g_l400, g_l40, g_l15] at c1f c2f ⊢; omega)).symm)
set_option maxRecDepth 100000 in
set_option maxHeartbeats 4000000 in
theorem kX4_clear (l : Launch) (E : gE) (hE : gDist sh E) : Ct l sh E yX4_clear cX4_clear 1 none (gR 0) [.ref (E.2.1 51)] g0 h0 (fun r I1 J1 => r = none ∧ I1 = g0 ∧ J1 = h0) := by
  refine Ct.of "LeapJoin$Script" rfl hE (by decide) (Nat.le_of_ble_eq_true rfl) (fun z F e hl => ?_)
  subst hl
  refine g_aload_n F 0 dX4_clear_0 rfl rfl ?_
  refine g_iconst (v := 0) F dX4_clear_1 (by decide) ?_
  refine g_puti (j := 0) F s51 rfl rfl uX4 (by decide) q164 tyX4_ok nmX4 rfl rfl rfl dX4_clear_2 ?_
  refine g_mi (g_up_same rfl) ?_
  exact g_vret F e dX4_clear_5 ⟨rfl, rfl, rfl⟩
set_option maxRecDepth 100000 in
set_option maxHeartbeats 4000000 in
theorem kX6_peek (l : Launch) (E : gE) (hE : gDist sh E) : Ct l sh E yX6_peek cX6_peek 1 (some .int) (gR 0) [.ref (E.2.1 1)] g0 h0 (fun r I1 J1 => r = some (.int (-1)) ∧ I1 = g0 ∧ J1 = h0) := by
  refine Ct.of "LeapJoin$Tape" rfl hE (by decide) (Nat.le_of_ble_eq_true rfl) (fun z F e hl => ?_)
  subst hl
  refine g_aload_n F 0 dX6_peek_0 rfl rfl ?_
  refine g_geti (j := 2) (v := 0) F s1 rfl rfl uX6 (by decide) q38 rfl dX6_peek_1 ?_
  refine g_aload_n F 0 dX6_peek_4 rfl rfl ?_
  refine g_geti (j := 0) (v := 0) F s1 rfl rfl uX6 (by decide) q35 rfl dX6_peek_5 ?_
  refine g_icmp_ge (tgt := 48) F dX6_peek_8 (by decide) (fun _ => ?_) (fun h => absurd (by decide) h)
  refine g_aload_n F 0 dX6_peek_48 rfl rfl ?_
  refine g_geti (j := 2) (v := 0) F s1 rfl rfl uX6 (by decide) q38 rfl dX6_peek_49 ?_
  refine g_aload_n F 0 dX6_peek_52 rfl rfl ?_
  refine g_geti (j := 0) (v := 0) F s1 rfl rfl uX6 (by decide) q35 rfl dX6_peek_53 ?_
  refine g_icmp_ge (tgt := 85) F dX6_peek_56 (by decide) (fun _ => ?_) (fun h => absurd (by decide) h)
  refine g_iconst (v := (-1)) F dX6_peek_85 (by decide) ?_
  exact g_iret F e dX6_peek_86 ⟨rfl, rfl, rfl⟩
set_option maxRecDepth 100000 in
set_option maxHeartbeats 4000000 in
theorem kX6_isStep (l : Launch) (E : gE) (hE : gDist sh E) : Ct l sh E yX6_isStep cX6_isStep 4 (some .boolean) (gR 1) [.ref (E.2.1 1), .ref (E.2.1 51)] g0 h0 (fun r I1 J1 => r = some (.int 0) ∧ I1 = g0 ∧ J1 = h0) := by
  refine Ct.of "LeapJoin$Tape" rfl hE (by decide) (Nat.le_of_ble_eq_true rfl) (fun z F e hl => ?_)
  subst hl
  refine g_aload_n F 0 dX6_isStep_0 rfl rfl ?_
  refine g_callV (k := 1) (As := []) (rest := []) F (kX6_peek (zl z) E hE) mX6_peek q240 rfl s1 rfl rfl rfl (Nat.le_of_ble_eq_true rfl) dX6_isStep_1 (fun r I2 J2 h => ?_)
  obtain ⟨rfl, rfl, rfl⟩ := h
  refine g_st (st' := [.int (-1)]) rfl ?_
  refine g_istore_n (L' := [(2, .int (-1)), (0, .ref (E.2.1 1)), (1, .ref (E.2.1 51))]) F dX6_isStep_4 rfl (by decide) rfl ?_
  refine g_iload_n F 0 dX6_isStep_5 rfl rfl ?_
  refine g_bipush (v := 112) F dX6_isStep_6 (by decide) ?_
  refine g_icmp_eq (tgt := 31) F dX6_isStep_8 (by decide) (fun h => absurd h (by decide)) (fun _ => ?_)
  refine g_iload_n F 0 dX6_isStep_11 rfl rfl ?_
  refine g_bipush (v := 116) F dX6_isStep_12 (by decide) ?_
  refine g_icmp_eq (tgt := 31) F dX6_isStep_14 (by decide) (fun h => absurd h (by decide)) (fun _ => ?_)
  refine g_iload_n F 0 dX6_isStep_17 rfl rfl ?_
  refine g_bipush (v := 117) F dX6_isStep_18 (by decide) ?_
  refine g_icmp_eq (tgt := 31) F dX6_isStep_20 (by decide) (fun h => absurd h (by decide)) (fun _ => ?_)
  refine g_iload_n F 0 dX6_isStep_23 rfl rfl ?_
  refine g_bipush (v := 111) F dX6_isStep_24 (by decide) ?_
  refine g_icmp_eq (tgt := 31) F dX6_isStep_26 (by decide) (fun h => absurd h (by decide)) (fun _ => ?_)
  refine g_iconst (v := 0) F dX6_isStep_29 (by decide) ?_
  exact g_zret F rfl e dX6_isStep_30 ⟨rfl, rfl, rfl⟩
set_option maxRecDepth 100000 in
set_option maxHeartbeats 4000000 in
theorem kX6_readScript (l : Launch) (E : gE) (hE : gDist sh E) : Ct l sh E yX6_readScript cX6_readScript 4 (some .int) (gR 2) [.ref (E.2.1 1), .ref (E.2.1 51)] g0 h0 (fun r I1 J1 => r = some (.int 0) ∧ I1 = g0 ∧ J1 = h0) := by
  refine Ct.of "LeapJoin$Tape" rfl hE (by decide) (Nat.le_of_ble_eq_true rfl) (fun z F e hl => ?_)
  subst hl
  refine g_aload_n F 0 dX6_readScript_0 rfl rfl ?_
  refine g_iconst (v := 0) F dX6_readScript_1 (by decide) ?_
  refine g_puti (j := 2) F s1 rfl rfl uX6 (by decide) q38 tyX6_ok nmX6 rfl rfl rfl dX6_readScript_2 ?_
  refine g_mi (g_up_same rfl) ?_
  refine g_aload_n F 1 dX6_readScript_5 rfl rfl ?_
  refine g_callV (k := 51) (As := []) (rest := []) F (kX4_clear (zl z) E hE) mX4_clear q280 rfl s51 rfl rfl rfl (Nat.le_of_ble_eq_true rfl) dX6_readScript_6 (fun r I2 J2 h => ?_)
  obtain ⟨rfl, rfl, rfl⟩ := h
  refine g_st (st' := []) rfl ?_
  refine g_aload_n F 0 dX6_readScript_9 rfl rfl ?_
  refine g_aload_n F 1 dX6_readScript_10 rfl rfl ?_
  refine g_callV (k := 1) (As := [.ref (E.2.1 51)]) (rest := []) F (kX6_isStep (zl z) E hE) mX6_isStep q284 rfl s1 rfl rfl rfl (Nat.le_of_ble_eq_true rfl) dX6_readScript_11 (fun r I2 J2 h => ?_)
  obtain ⟨rfl, rfl, rfl⟩ := h
  refine g_st (st' := [.int 0]) rfl ?_
  refine g_istore_n (L' := [(2, .int 0), (0, .ref (E.2.1 1)), (1, .ref (E.2.1 51))]) F dX6_readScript_14 rfl (by decide) rfl ?_
  refine g_iconst (v := 1) F dX6_readScript_15 (by decide) ?_
  refine g_istore_n (L' := [(3, .int 1), (2, .int 0), (0, .ref (E.2.1 1)), (1, .ref (E.2.1 51))]) F dX6_readScript_16 rfl (by decide) rfl ?_
  refine g_iload_n F 1 dX6_readScript_17 rfl rfl ?_
  refine g_if_eq (tgt := 58) F dX6_readScript_18 (by decide) (fun _ => ?_) (fun h => absurd (by decide) h)
  refine g_iload_n F 1 dX6_readScript_58 rfl rfl ?_
  refine g_if_eq (tgt := 74) F dX6_readScript_59 (by decide) (fun _ => ?_) (fun h => absurd (by decide) h)
  refine g_aload_n F 2 dX6_readScript_74 rfl rfl ?_
  refine g_geti (j := 2) (v := 0) F s1 rfl rfl uX6 (by decide) q38 rfl dX6_readScript_75 ?_
  exact g_iret F e dX6_readScript_78 ⟨rfl, rfl, rfl⟩
set_option maxRecDepth 100000 in
set_option maxHeartbeats 4000000 in
theorem kJ7_fill_53178 (l : Launch) (E : gE) (hE : gDist sh E) : Ct l sh E yJ7_fill_53178 cJ7_fill_53178 4 none (gR 0) [.ref (E.2.1 9), .int 0] g0 h0 (fun r I1 J1 => r = none ∧ I1 = g0 ∧ J1 = h0) := by
  refine Ct.of "java/util/Arrays" rfl hE (by decide) (Nat.le_of_ble_eq_true rfl) (fun z F e hl => ?_)
  subst hl
  refine g_iconst (v := 0) F dJ7_fill_53178_0 (by decide) ?_
  refine g_istore_n (L' := [(2, .int 0), (0, .ref (E.2.1 9)), (1, .int 0)]) F dJ7_fill_53178_1 rfl (by decide) rfl ?_
  refine g_aload_n F 1 dJ7_fill_53178_2 rfl rfl ?_
  refine g_alen (v := 4) F s9 rfl (by decide) dJ7_fill_53178_3 ?_
  refine g_istore_n (L' := [(3, .int 4), (2, .int 0), (0, .ref (E.2.1 9)), (1, .int 0)]) F dJ7_fill_53178_4 rfl (by decide) rfl ?_
  refine g_iload_n F 1 dJ7_fill_53178_5 rfl rfl ?_
  refine g_iload_n F 0 dJ7_fill_53178_6 rfl rfl ?_
  refine g_icmp_ge (tgt := 20) F dJ7_fill_53178_7 (by decide) (fun h => absurd h (by decide)) (fun _ => ?_)
  refine g_aload_n F 2 dJ7_fill_53178_10 rfl rfl ?_
  refine g_iload_n F 1 dJ7_fill_53178_11 rfl rfl ?_
  refine g_iload_n F 3 dJ7_fill_53178_12 rfl rfl ?_
  refine g_iast (v := 0) F 0 s9 (by decide) (by decide) (by decide) rfl dJ7_fill_53178_13 ?_
  refine g_mi (g_up_same rfl) ?_
  refine g_iinc (v := 1) (L' := [(2, .int 1), (3, .int 4), (0, .ref (E.2.1 9)), (1, .int 0)]) F 1 dJ7_fill_53178_14 rfl (by decide) (by decide) rfl ?_
  refine g_goto (tgt := 5) F dJ7_fill_53178_17 (by decide) ?_
  refine g_iload_n F 0 dJ7_fill_53178_5 rfl rfl ?_
  refine g_iload_n F 1 dJ7_fill_53178_6 rfl rfl ?_
  refine g_icmp_ge (tgt := 20) F dJ7_fill_53178_7 (by decide) (fun h => absurd h (by decide)) (fun _ => ?_)
  refine g_aload_n F 2 dJ7_fill_53178_10 rfl rfl ?_
  refine g_iload_n F 0 dJ7_fill_53178_11 rfl rfl ?_
  refine g_iload_n F 3 dJ7_fill_53178_12 rfl rfl ?_
  refine g_iast (v := 0) F 1 s9 (by decide) (by decide) (by decide) rfl dJ7_fill_53178_13 ?_
  refine g_mi (g_up_same rfl) ?_
  refine g_iinc (v := 2) (L' := [(2, .int 2), (3, .int 4), (0, .ref (E.2.1 9)), (1, .int 0)]) F 0 dJ7_fill_53178_14 rfl (by decide) (by decide) rfl ?_
  refine g_goto (tgt := 5) F dJ7_fill_53178_17 (by decide) ?_
  refine g_iload_n F 0 dJ7_fill_53178_5 rfl rfl ?_
  refine g_iload_n F 1 dJ7_fill_53178_6 rfl rfl ?_
  refine g_icmp_ge (tgt := 20) F dJ7_fill_53178_7 (by decide) (fun h => absurd h (by decide)) (fun _ => ?_)
  refine g_aload_n F 2 dJ7_fill_53178_10 rfl rfl ?_
  refine g_iload_n F 0 dJ7_fill_53178_11 rfl rfl ?_
  refine g_iload_n F 3 dJ7_fill_53178_12 rfl rfl ?_
  refine g_iast (v := 0) F 2 s9 (by decide) (by decide) (by decide) rfl dJ7_fill_53178_13 ?_
  refine g_mi (g_up_same rfl) ?_
  refine g_iinc (v := 3) (L' := [(2, .int 3), (3, .int 4), (0, .ref (E.2.1 9)), (1, .int 0)]) F 0 dJ7_fill_53178_14 rfl (by decide) (by decide) rfl ?_
  refine g_goto (tgt := 5) F dJ7_fill_53178_17 (by decide) ?_
  refine g_iload_n F 0 dJ7_fill_53178_5 rfl rfl ?_
  refine g_iload_n F 1 dJ7_fill_53178_6 rfl rfl ?_
  refine g_icmp_ge (tgt := 20) F dJ7_fill_53178_7 (by decide) (fun h => absurd h (by decide)) (fun _ => ?_)
  refine g_aload_n F 2 dJ7_fill_53178_10 rfl rfl ?_
  refine g_iload_n F 0 dJ7_fill_53178_11 rfl rfl ?_
  refine g_iload_n F 3 dJ7_fill_53178_12 rfl rfl ?_
  refine g_iast (v := 0) F 3 s9 (by decide) (by decide) (by decide) rfl dJ7_fill_53178_13 ?_
  refine g_mi (g_up_same rfl) ?_
  refine g_iinc (v := 4) (L' := [(2, .int 4), (3, .int 4), (0, .ref (E.2.1 9)), (1, .int 0)]) F 0 dJ7_fill_53178_14 rfl (by decide) (by decide) rfl ?_
  refine g_goto (tgt := 5) F dJ7_fill_53178_17 (by decide) ?_
  refine g_iload_n F 0 dJ7_fill_53178_5 rfl rfl ?_
  refine g_iload_n F 1 dJ7_fill_53178_6 rfl rfl ?_
  refine g_icmp_ge (tgt := 20) F dJ7_fill_53178_7 (by decide) (fun _ => ?_) (fun h => absurd (by decide) h)
  exact g_vret F e dJ7_fill_53178_20 ⟨rfl, rfl, rfl⟩
set_option maxRecDepth 100000 in
set_option maxHeartbeats 4000000 in
theorem kJ7_fill_53178_2 (l : Launch) (E : gE) (hE : gDist sh E) : Ct l sh E yJ7_fill_53178 cJ7_fill_53178 4 none (gR 0) [.ref (E.2.1 10), .int 0] g0 h0 (fun r I1 J1 => r = none ∧ I1 = g0 ∧ J1 = h0) := by
  refine Ct.of "java/util/Arrays" rfl hE (by decide) (Nat.le_of_ble_eq_true rfl) (fun z F e hl => ?_)
  subst hl
  refine g_iconst (v := 0) F dJ7_fill_53178_0 (by decide) ?_
  refine g_istore_n (L' := [(2, .int 0), (0, .ref (E.2.1 10)), (1, .int 0)]) F dJ7_fill_53178_1 rfl (by decide) rfl ?_
  refine g_aload_n F 1 dJ7_fill_53178_2 rfl rfl ?_
  refine g_alen (v := 4) F s10 rfl (by decide) dJ7_fill_53178_3 ?_
  refine g_istore_n (L' := [(3, .int 4), (2, .int 0), (0, .ref (E.2.1 10)), (1, .int 0)]) F dJ7_fill_53178_4 rfl (by decide) rfl ?_
  refine g_iload_n F 1 dJ7_fill_53178_5 rfl rfl ?_
  refine g_iload_n F 0 dJ7_fill_53178_6 rfl rfl ?_
  refine g_icmp_ge (tgt := 20) F dJ7_fill_53178_7 (by decide) (fun h => absurd h (by decide)) (fun _ => ?_)
  refine g_aload_n F 2 dJ7_fill_53178_10 rfl rfl ?_
  refine g_iload_n F 1 dJ7_fill_53178_11 rfl rfl ?_
  refine g_iload_n F 3 dJ7_fill_53178_12 rfl rfl ?_
  refine g_iast (v := 0) F 0 s10 (by decide) (by decide) (by decide) rfl dJ7_fill_53178_13 ?_
  refine g_mi (g_up_same rfl) ?_
  refine g_iinc (v := 1) (L' := [(2, .int 1), (3, .int 4), (0, .ref (E.2.1 10)), (1, .int 0)]) F 1 dJ7_fill_53178_14 rfl (by decide) (by decide) rfl ?_
  refine g_goto (tgt := 5) F dJ7_fill_53178_17 (by decide) ?_
  refine g_iload_n F 0 dJ7_fill_53178_5 rfl rfl ?_
  refine g_iload_n F 1 dJ7_fill_53178_6 rfl rfl ?_
  refine g_icmp_ge (tgt := 20) F dJ7_fill_53178_7 (by decide) (fun h => absurd h (by decide)) (fun _ => ?_)
  refine g_aload_n F 2 dJ7_fill_53178_10 rfl rfl ?_
  refine g_iload_n F 0 dJ7_fill_53178_11 rfl rfl ?_
  refine g_iload_n F 3 dJ7_fill_53178_12 rfl rfl ?_
  refine g_iast (v := 0) F 1 s10 (by decide) (by decide) (by decide) rfl dJ7_fill_53178_13 ?_
  refine g_mi (g_up_same rfl) ?_
  refine g_iinc (v := 2) (L' := [(2, .int 2), (3, .int 4), (0, .ref (E.2.1 10)), (1, .int 0)]) F 0 dJ7_fill_53178_14 rfl (by decide) (by decide) rfl ?_
  refine g_goto (tgt := 5) F dJ7_fill_53178_17 (by decide) ?_
  refine g_iload_n F 0 dJ7_fill_53178_5 rfl rfl ?_
  refine g_iload_n F 1 dJ7_fill_53178_6 rfl rfl ?_
  refine g_icmp_ge (tgt := 20) F dJ7_fill_53178_7 (by decide) (fun h => absurd h (by decide)) (fun _ => ?_)
  refine g_aload_n F 2 dJ7_fill_53178_10 rfl rfl ?_
  refine g_iload_n F 0 dJ7_fill_53178_11 rfl rfl ?_
  refine g_iload_n F 3 dJ7_fill_53178_12 rfl rfl ?_
  refine g_iast (v := 0) F 2 s10 (by decide) (by decide) (by decide) rfl dJ7_fill_53178_13 ?_
  refine g_mi (g_up_same rfl) ?_
  refine g_iinc (v := 3) (L' := [(2, .int 3), (3, .int 4), (0, .ref (E.2.1 10)), (1, .int 0)]) F 0 dJ7_fill_53178_14 rfl (by decide) (by decide) rfl ?_
  refine g_goto (tgt := 5) F dJ7_fill_53178_17 (by decide) ?_
  refine g_iload_n F 0 dJ7_fill_53178_5 rfl rfl ?_
  refine g_iload_n F 1 dJ7_fill_53178_6 rfl rfl ?_
  refine g_icmp_ge (tgt := 20) F dJ7_fill_53178_7 (by decide) (fun h => absurd h (by decide)) (fun _ => ?_)
  refine g_aload_n F 2 dJ7_fill_53178_10 rfl rfl ?_
  refine g_iload_n F 0 dJ7_fill_53178_11 rfl rfl ?_
  refine g_iload_n F 3 dJ7_fill_53178_12 rfl rfl ?_
  refine g_iast (v := 0) F 3 s10 (by decide) (by decide) (by decide) rfl dJ7_fill_53178_13 ?_
  refine g_mi (g_up_same rfl) ?_
  refine g_iinc (v := 4) (L' := [(2, .int 4), (3, .int 4), (0, .ref (E.2.1 10)), (1, .int 0)]) F 0 dJ7_fill_53178_14 rfl (by decide) (by decide) rfl ?_
  refine g_goto (tgt := 5) F dJ7_fill_53178_17 (by decide) ?_
  refine g_iload_n F 0 dJ7_fill_53178_5 rfl rfl ?_
  refine g_iload_n F 1 dJ7_fill_53178_6 rfl rfl ?_
  refine g_icmp_ge (tgt := 20) F dJ7_fill_53178_7 (by decide) (fun _ => ?_) (fun h => absurd (by decide) h)
  exact g_vret F e dJ7_fill_53178_20 ⟨rfl, rfl, rfl⟩
set_option maxRecDepth 100000 in
set_option maxHeartbeats 4000000 in
theorem kX5_clear (l : Launch) (E : gE) (hE : gDist sh E) : Ct l sh E yX5_clear cX5_clear 1 none (gR 1) [.ref (E.2.1 8)] g0 h0 (fun r I1 J1 => r = none ∧ I1 = g0 ∧ J1 = h0) := by
  refine Ct.of "LeapJoin$Tables" rfl hE (by decide) (Nat.le_of_ble_eq_true rfl) (fun z F e hl => ?_)
  subst hl
  refine g_aload_n F 0 dX5_clear_0 rfl rfl ?_
  refine g_iconst (v := 0) F dX5_clear_1 (by decide) ?_
  refine g_puti (j := 0) F s8 rfl rfl uX5 (by decide) q48 tyX5_ok nmX5 rfl rfl rfl dX5_clear_2 ?_
  refine g_mi (g_up_same rfl) ?_
  refine g_aload_n F 0 dX5_clear_5 rfl rfl ?_
  refine g_iconst (v := 0) F dX5_clear_6 (by decide) ?_
  refine g_puti (j := 1) F s8 rfl rfl uX5 (by decide) q51 tyX5_ok nmX5 rfl rfl rfl dX5_clear_7 ?_
  refine g_mi (g_up_same rfl) ?_
  refine g_aload_n F 0 dX5_clear_10 rfl rfl ?_
  refine g_iconst (v := 0) F dX5_clear_11 (by decide) ?_
  refine g_puti (j := 2) F s8 rfl rfl uX5 (by decide) q53 tyX5_ok nmX5 rfl rfl rfl dX5_clear_12 ?_
  refine g_mi (g_up_same rfl) ?_
  refine g_aload_n F 0 dX5_clear_15 rfl rfl ?_
  refine g_getr (j := 3) (nn := 9) F s8 rfl rfl uX5 (by decide) q55 dX5_clear_16 ?_
  refine g_iconst (v := 0) F dX5_clear_19 (by decide) ?_
  refine g_callS (As := [.ref (E.2.1 9), .int 0]) (rest := []) F (kJ7_fill_53178 (zl z) E hE) mJ7_fill_53178 q230 rfl rfl rfl (Nat.le_of_ble_eq_true rfl) dX5_clear_20 (fun r I2 J2 h => ?_)
  obtain ⟨rfl, rfl, rfl⟩ := h
  refine g_st (st' := []) rfl ?_
  refine g_aload_n F 0 dX5_clear_23 rfl rfl ?_
  refine g_getr (j := 4) (nn := 10) F s8 rfl rfl uX5 (by decide) q58 dX5_clear_24 ?_
  refine g_iconst (v := 0) F dX5_clear_27 (by decide) ?_
  refine g_callS (As := [.ref (E.2.1 10), .int 0]) (rest := []) F (kJ7_fill_53178_2 (zl z) E hE) mJ7_fill_53178 q230 rfl rfl rfl (Nat.le_of_ble_eq_true rfl) dX5_clear_28 (fun r I2 J2 h => ?_)
  obtain ⟨rfl, rfl, rfl⟩ := h
  refine g_st (st' := []) rfl ?_
  exact g_vret F e dX5_clear_31 ⟨rfl, rfl, rfl⟩
set_option maxRecDepth 100000 in
set_option maxHeartbeats 4000000 in
theorem kX5_open (l : Launch) (E : gE) (hE : gDist sh E) : Ct l sh E yX5_open cX5_open 1 none (gR 0) [.ref (E.2.1 8)] g0 h0 (fun r I1 J1 => r = none ∧ I1 = (g_up (g_up g0 8 1 1) 8 0 1) ∧ J1 = h0) := by
  refine Ct.of "LeapJoin$Tables" rfl hE (by decide) (Nat.le_of_ble_eq_true rfl) (fun z F e hl => ?_)
  subst hl
  refine g_aload_n F 0 dX5_open_0 rfl rfl ?_
  refine g_geti (j := 0) (v := 0) F s8 rfl rfl uX5 (by decide) q48 rfl dX5_open_1 ?_
  refine g_iconst (v := 4) F dX5_open_4 (by decide) ?_
  refine g_icmp_ge (tgt := 53) F dX5_open_5 (by decide) (fun h => absurd h (by decide)) (fun _ => ?_)
  refine g_aload_n F 0 dX5_open_8 rfl rfl ?_
  refine g_getr (j := 3) (nn := 9) F s8 rfl rfl uX5 (by decide) q55 dX5_open_9 ?_
  refine g_aload_n F 0 dX5_open_12 rfl rfl ?_
  refine g_geti (j := 0) (v := 0) F s8 rfl rfl uX5 (by decide) q48 rfl dX5_open_13 ?_
  refine g_iconst (v := 0) F dX5_open_16 (by decide) ?_
  refine g_iast (v := 0) F 0 s9 (by decide) (by decide) (by decide) rfl dX5_open_17 ?_
  refine g_mi (g_up_same rfl) ?_
  refine g_aload_n F 0 dX5_open_18 rfl rfl ?_
  refine g_getr (j := 4) (nn := 10) F s8 rfl rfl uX5 (by decide) q58 dX5_open_19 ?_
  refine g_aload_n F 0 dX5_open_22 rfl rfl ?_
  refine g_geti (j := 0) (v := 0) F s8 rfl rfl uX5 (by decide) q48 rfl dX5_open_23 ?_
  refine g_iconst (v := 0) F dX5_open_26 (by decide) ?_
  refine g_iast (v := 0) F 0 s10 (by decide) (by decide) (by decide) rfl dX5_open_27 ?_
  refine g_mi (g_up_same rfl) ?_
  refine g_aload_n F 0 dX5_open_28 rfl rfl ?_
  refine g_dup F dX5_open_29 rfl ?_
  refine g_geti (j := 1) (v := 0) F s8 rfl rfl uX5 (by decide) q51 rfl dX5_open_30 ?_
  refine g_iconst (v := 1) F dX5_open_33 (by decide) ?_
  refine g_aload_n F 0 dX5_open_34 rfl rfl ?_
  refine g_geti (j := 0) (v := 0) F s8 rfl rfl uX5 (by decide) q48 rfl dX5_open_35 ?_
  refine g_ishl (v := 1) F dX5_open_38 (by decide) ?_
  refine g_ior (v := 1) F dX5_open_39 (by decide) ?_
  refine g_puti (j := 1) F s8 rfl rfl uX5 (by decide) q51 tyX5_ok nmX5 rfl rfl rfl dX5_open_40 ?_
  refine g_aload_n F 0 dX5_open_43 rfl rfl ?_
  refine g_dup F dX5_open_44 rfl ?_
  refine g_geti (j := 0) (v := 0) F s8 rfl rfl uX5 (by decide) q48 rfl dX5_open_45 ?_
  refine g_iconst (v := 1) F dX5_open_48 (by decide) ?_
  refine g_iadd (v := 1) F dX5_open_49 (by decide) ?_
  refine g_puti (j := 0) F s8 rfl rfl uX5 (by decide) q48 tyX5_ok nmX5 rfl rfl rfl dX5_open_50 ?_
  exact g_vret F e dX5_open_53 ⟨rfl, rfl, rfl⟩
set_option maxRecDepth 100000 in
set_option maxHeartbeats 4000000 in
theorem kX6_peek_2 (l : Launch) (E : gE) (hE : gDist sh E) : Ct l sh E yX6_peek cX6_peek 1 (some .int) (gR 0) [.ref (E.2.1 1)] (g_up (g_up g0 8 1 1) 8 0 1) h0 (fun r I1 J1 => r = some (.int (-1)) ∧ I1 = (g_up (g_up g0 8 1 1) 8 0 1) ∧ J1 = h0) := by
  refine Ct.of "LeapJoin$Tape" rfl hE (by decide) (Nat.le_of_ble_eq_true rfl) (fun z F e hl => ?_)
  subst hl
  refine g_aload_n F 0 dX6_peek_0 rfl rfl ?_
  refine g_geti (j := 2) (v := 0) F s1 rfl rfl uX6 (by decide) q38 rfl dX6_peek_1 ?_
  refine g_aload_n F 0 dX6_peek_4 rfl rfl ?_
  refine g_geti (j := 0) (v := 0) F s1 rfl rfl uX6 (by decide) q35 rfl dX6_peek_5 ?_
  refine g_icmp_ge (tgt := 48) F dX6_peek_8 (by decide) (fun _ => ?_) (fun h => absurd (by decide) h)
  refine g_aload_n F 0 dX6_peek_48 rfl rfl ?_
  refine g_geti (j := 2) (v := 0) F s1 rfl rfl uX6 (by decide) q38 rfl dX6_peek_49 ?_
  refine g_aload_n F 0 dX6_peek_52 rfl rfl ?_
  refine g_geti (j := 0) (v := 0) F s1 rfl rfl uX6 (by decide) q35 rfl dX6_peek_53 ?_
  refine g_icmp_ge (tgt := 85) F dX6_peek_56 (by decide) (fun _ => ?_) (fun h => absurd (by decide) h)
  refine g_iconst (v := (-1)) F dX6_peek_85 (by decide) ?_
  exact g_iret F e dX6_peek_86 ⟨rfl, rfl, rfl⟩
set_option maxRecDepth 100000 in
set_option maxHeartbeats 4000000 in
theorem kX6_isClause (l : Launch) (E : gE) (hE : gDist sh E) : Ct l sh E yX6_isClause cX6_isClause 5 (some .boolean) (gR 1) [.ref (E.2.1 1), .ref (E.2.1 8)] g0 h0 (fun r I1 J1 => r = some (.int 0) ∧ I1 = (g_up (g_up g0 8 1 1) 8 0 1) ∧ J1 = h0) := by
  refine Ct.of "LeapJoin$Tape" rfl hE (by decide) (Nat.le_of_ble_eq_true rfl) (fun z F e hl => ?_)
  subst hl
  refine g_aload_n F 1 dX6_isClause_0 rfl rfl ?_
  refine g_callV (k := 8) (As := []) (rest := []) F (kX5_open (zl z) E hE) mX5_open q236 rfl s8 rfl rfl rfl (Nat.le_of_ble_eq_true rfl) dX6_isClause_1 (fun r I2 J2 h => ?_)
  obtain ⟨rfl, rfl, rfl⟩ := h
  refine g_st (st' := []) rfl ?_
  refine g_aload_n F 1 dX6_isClause_4 rfl rfl ?_
  refine g_geti (j := 0) (v := 1) F s8 rfl rfl uX5 (by decide) q50 rfl dX6_isClause_5 ?_
  refine g_iconst (v := 1) F dX6_isClause_8 (by decide) ?_
  refine g_isub (v := 0) F dX6_isClause_9 (by decide) ?_
  refine g_istore_n (L' := [(2, .int 0), (0, .ref (E.2.1 1)), (1, .ref (E.2.1 8))]) F dX6_isClause_10 rfl (by decide) rfl ?_
  refine g_iconst (v := 0) F dX6_isClause_11 (by decide) ?_
  refine g_istore_n (L' := [(3, .int 0), (2, .int 0), (0, .ref (E.2.1 1)), (1, .ref (E.2.1 8))]) F dX6_isClause_12 rfl (by decide) rfl ?_
  refine g_iload_n F 0 dX6_isClause_13 rfl rfl ?_
  refine g_iconst (v := 3) F dX6_isClause_14 (by decide) ?_
  refine g_icmp_ge (tgt := 66) F dX6_isClause_15 (by decide) (fun h => absurd h (by decide)) (fun _ => ?_)
  refine g_aload_n F 2 dX6_isClause_18 rfl rfl ?_
  refine g_callV (k := 1) (As := []) (rest := []) F (kX6_peek_2 (zl z) E hE) mX6_peek q240 rfl s1 rfl rfl rfl (Nat.le_of_ble_eq_true rfl) dX6_isClause_19 (fun r I2 J2 h => ?_)
  obtain ⟨rfl, rfl, rfl⟩ := h
  refine g_st (st' := [.int (-1)]) rfl ?_
  refine g_bipush (v := 97) F dX6_isClause_22 (by decide) ?_
  refine g_isub (v := (-98)) F dX6_isClause_24 (by decide) ?_
  refine g_istore (L' := [(4, .int (-98)), (3, .int 0), (2, .int 0), (0, .ref (E.2.1 1)), (1, .ref (E.2.1 8))]) F dX6_isClause_25 (by decide) rfl ?_
  refine g_iload F 0 dX6_isClause_27 rfl ?_
  refine g_if_lt (tgt := 66) F dX6_isClause_29 (by decide) (fun _ => ?_) (fun h => absurd (by decide) h)
  refine g_iload_n F 2 dX6_isClause_66 rfl rfl ?_
  refine g_if_lt (tgt := 88) F dX6_isClause_67 (by decide) (fun h => absurd h (by decide)) (fun _ => ?_)
  refine g_aload_n F 4 dX6_isClause_70 rfl rfl ?_
  refine g_getr (j := 3) (nn := 9) F s8 rfl rfl uX5 (by decide) q56 dX6_isClause_71 ?_
  refine g_iload_n F 2 dX6_isClause_74 rfl rfl ?_
  refine g_iald (v := 0) F 0 s9 (by decide) (by decide) (by decide) rfl dX6_isClause_75 ?_
  refine g_if_eq (tgt := 88) F dX6_isClause_76 (by decide) (fun _ => ?_) (fun h => absurd (by decide) h)
  refine g_iconst (v := 0) F dX6_isClause_88 (by decide) ?_
  exact g_zret F rfl e dX6_isClause_89 ⟨rfl, rfl, rfl⟩
set_option maxRecDepth 100000 in
set_option maxHeartbeats 4000000 in
theorem kX6_readTables (l : Launch) (E : gE) (hE : gDist sh E) : Ct l sh E yX6_readTables cX6_readTables 4 (some .int) (gR 2) [.ref (E.2.1 1), .ref (E.2.1 8)] g0 h0 (fun r I1 J1 => r = some (.int 0) ∧ I1 = (g_up (g_up g0 8 1 1) 8 0 1) ∧ J1 = h0) := by
  refine Ct.of "LeapJoin$Tape" rfl hE (by decide) (Nat.le_of_ble_eq_true rfl) (fun z F e hl => ?_)
  subst hl
  refine g_aload_n F 0 dX6_readTables_0 rfl rfl ?_
  refine g_iconst (v := 0) F dX6_readTables_1 (by decide) ?_
  refine g_puti (j := 2) F s1 rfl rfl uX6 (by decide) q38 tyX6_ok nmX6 rfl rfl rfl dX6_readTables_2 ?_
  refine g_mi (g_up_same rfl) ?_
  refine g_aload_n F 1 dX6_readTables_5 rfl rfl ?_
  refine g_callV (k := 8) (As := []) (rest := []) F (kX5_clear (zl z) E hE) mX5_clear q226 rfl s8 rfl rfl rfl (Nat.le_of_ble_eq_true rfl) dX6_readTables_6 (fun r I2 J2 h => ?_)
  obtain ⟨rfl, rfl, rfl⟩ := h
  refine g_st (st' := []) rfl ?_
  refine g_aload_n F 0 dX6_readTables_9 rfl rfl ?_
  refine g_aload_n F 1 dX6_readTables_10 rfl rfl ?_
  refine g_callV (k := 1) (As := [.ref (E.2.1 8)]) (rest := []) F (kX6_isClause (zl z) E hE) mX6_isClause q233 rfl s1 rfl rfl rfl (Nat.le_of_ble_eq_true rfl) dX6_readTables_11 (fun r I2 J2 h => ?_)
  obtain ⟨rfl, rfl, rfl⟩ := h
  refine g_st (st' := [.int 0]) rfl ?_
  refine g_istore_n (L' := [(2, .int 0), (0, .ref (E.2.1 1)), (1, .ref (E.2.1 8))]) F dX6_readTables_14 rfl (by decide) rfl ?_
  refine g_iconst (v := 1) F dX6_readTables_15 (by decide) ?_
  refine g_istore_n (L' := [(3, .int 1), (2, .int 0), (0, .ref (E.2.1 1)), (1, .ref (E.2.1 8))]) F dX6_readTables_16 rfl (by decide) rfl ?_
  refine g_iload_n F 1 dX6_readTables_17 rfl rfl ?_
  refine g_if_eq (tgt := 57) F dX6_readTables_18 (by decide) (fun _ => ?_) (fun h => absurd (by decide) h)
  refine g_iload_n F 1 dX6_readTables_57 rfl rfl ?_
  refine g_if_eq (tgt := 73) F dX6_readTables_58 (by decide) (fun _ => ?_) (fun h => absurd (by decide) h)
  refine g_aload_n F 2 dX6_readTables_73 rfl rfl ?_
  refine g_geti (j := 2) (v := 0) F s1 rfl rfl uX6 (by decide) q38 rfl dX6_readTables_74 ?_
  exact g_iret F e dX6_readTables_77 ⟨rfl, rfl, rfl⟩
set_option maxRecDepth 100000 in
set_option maxHeartbeats 4000000 in
theorem kX8_fault (l : Launch) (E : gE) (hE : gDist sh E) (a1 : Int32) : Ct l sh E yX8_fault cX8_fault 2 (some .int) (gR 3) [.ref (E.2.1 0), .int a1] g0 h0 (fun r _ _ => r = some (.int (if a1 = 0 ∨ a1 = 1 then 0 else (-2)))) := by
  refine Ct.of "LeapJoin" rfl hE (by decide) (Nat.le_of_ble_eq_true rfl) (fun z F e hl => ?_)
  subst hl
  refine g_iload_n F 1 dX8_fault_0 rfl rfl ?_
  refine g_if_ne (tgt := 16) F dX8_fault_1 (by decide) (fun c1 => ?_) (fun c1f => ?_)
  · refine g_iload_n F 1 dX8_fault_16 rfl rfl ?_
    refine g_iconst (v := 1) F dX8_fault_17 (by decide) ?_
    refine g_icmp_ne (tgt := 33) F dX8_fault_18 (by decide) (fun c2 => ?_) (fun c2f => ?_)
    · refine g_bipush (v := (-2)) F dX8_fault_33 (by decide) ?_
      exact g_iret F e dX8_fault_35 (congrArg (fun x => some (Value.int x)) (if_neg (by simp only [g_lt, g_le, g_eq, g_l0, g_l1, g_l2, g_l3, g_l4, g_l5, g_lm1, g_l400, g_l40, g_l15] at c1 c2 ⊢; omega)).symm)
    · refine g_aload_n F 0 dX8_fault_21 rfl rfl ?_
      refine g_getr (j := 0) (nn := 1) F s0 rfl rfl uX8 (by decide) q169 dX8_fault_22 ?_
      refine g_aload_n F 0 dX8_fault_25 rfl rfl ?_
      refine g_getr (j := 12) (nn := 51) F s0 rfl rfl uX8 (by decide) q181 dX8_fault_26 ?_
      refine g_callV (k := 1) (As := [.ref (E.2.1 51)]) (rest := []) F (kX6_readScript (zl z) E hE) mX6_readScript q276 rfl s1 rfl rfl rfl (Nat.le_of_ble_eq_true rfl) dX8_fault_29 (fun r I2 J2 h => ?_)
      obtain ⟨rfl, rfl, rfl⟩ := h
      refine g_st (st' := [.int 0]) rfl ?_
      exact g_iret F e dX8_fault_32 (congrArg (fun x => some (Value.int x)) (if_pos (by simp only [g_lt, g_le, g_eq, g_l0, g_l1, g_l2, g_l3, g_l4, g_l5, g_lm1, g_l400, g_l40, g_l15] at c1 c2f ⊢; omega)).symm)
  · refine g_aload_n F 0 dX8_fault_4 rfl rfl ?_
    refine g_getr (j := 0) (nn := 1) F s0 rfl rfl uX8 (by decide) q169 dX8_fault_5 ?_
    refine g_aload_n F 0 dX8_fault_8 rfl rfl ?_
    refine g_getr (j := 2) (nn := 8) F s0 rfl rfl uX8 (by decide) q171 dX8_fault_9 ?_
    refine g_callV (k := 1) (As := [.ref (E.2.1 8)]) (rest := []) F (kX6_readTables (zl z) E hE) mX6_readTables q222 rfl s1 rfl rfl rfl (Nat.le_of_ble_eq_true rfl) dX8_fault_12 (fun r I2 J2 h => ?_)
    obtain ⟨rfl, rfl, rfl⟩ := h
    refine g_st (st' := [.int 0]) rfl ?_
    exact g_iret F e dX8_fault_15 (congrArg (fun x => some (Value.int x)) (if_pos (by simp only [g_lt, g_le, g_eq, g_l0, g_l1, g_l2, g_l3, g_l4, g_l5, g_lm1, g_l400, g_l40, g_l15] at c1f ⊢; omega)).symm)
set_option maxRecDepth 100000 in
set_option maxHeartbeats 4000000 in
theorem kX8_textOfScript (l : Launch) (E : gE) (hE : gDist sh E) : Ct l sh E yX8_textOfScript cX8_textOfScript 1 (some .int) (gR 3) [.ref (E.2.1 0)] g0 h0 (fun r I1 J1 => r = some (.int (-1)) ∧ I1 = g0 ∧ J1 = h0) := by
  refine Ct.of "LeapJoin" rfl hE (by decide) (Nat.le_of_ble_eq_true rfl) (fun z F e hl => ?_)
  subst hl
  refine g_aload_n F 0 dX8_textOfScript_0 rfl rfl ?_
  refine g_geti (j := 14) (v := 0) F s0 rfl rfl uX8 (by decide) q183 rfl dX8_textOfScript_1 ?_
  refine g_iconst (v := 4) F dX8_textOfScript_4 (by decide) ?_
  refine g_icmp_ge (tgt := 23) F dX8_textOfScript_5 (by decide) (fun h => absurd h (by decide)) (fun _ => ?_)
  refine g_aload_n F 0 dX8_textOfScript_8 rfl rfl ?_
  refine g_getr (j := 0) (nn := 1) F s0 rfl rfl uX8 (by decide) q169 dX8_textOfScript_9 ?_
  refine g_aload_n F 0 dX8_textOfScript_12 rfl rfl ?_
  refine g_getr (j := 12) (nn := 51) F s0 rfl rfl uX8 (by decide) q181 dX8_textOfScript_13 ?_
  refine g_callV (k := 1) (As := [.ref (E.2.1 51)]) (rest := []) F (kX6_readScript (zl z) E hE) mX6_readScript q276 rfl s1 rfl rfl rfl (Nat.le_of_ble_eq_true rfl) dX8_textOfScript_16 (fun r I2 J2 h => ?_)
  obtain ⟨rfl, rfl, rfl⟩ := h
  refine g_st (st' := [.int 0]) rfl ?_
  refine g_iconst (v := (-1)) F dX8_textOfScript_19 (by decide) ?_
  refine g_icmp_eq (tgt := 25) F dX8_textOfScript_20 (by decide) (fun h => absurd h (by decide)) (fun _ => ?_)
  refine g_iconst (v := (-1)) F dX8_textOfScript_23 (by decide) ?_
  exact g_iret F e dX8_textOfScript_24 ⟨rfl, rfl, rfl⟩
set_option maxRecDepth 100000 in
set_option maxHeartbeats 4000000 in
theorem kX8_textOfTables (l : Launch) (E : gE) (hE : gDist sh E) : Ct l sh E yX8_textOfTables cX8_textOfTables 1 (some .int) (gR 3) [.ref (E.2.1 0)] g0 h0 (fun r I1 J1 => r = some (.int (-1)) ∧ I1 = (g_up (g_up g0 8 1 1) 8 0 1) ∧ J1 = h0) := by
  refine Ct.of "LeapJoin" rfl hE (by decide) (Nat.le_of_ble_eq_true rfl) (fun z F e hl => ?_)
  subst hl
  refine g_aload_n F 0 dX8_textOfTables_0 rfl rfl ?_
  refine g_getr (j := 0) (nn := 1) F s0 rfl rfl uX8 (by decide) q169 dX8_textOfTables_1 ?_
  refine g_aload_n F 0 dX8_textOfTables_4 rfl rfl ?_
  refine g_getr (j := 2) (nn := 8) F s0 rfl rfl uX8 (by decide) q171 dX8_textOfTables_5 ?_
  refine g_callV (k := 1) (As := [.ref (E.2.1 8)]) (rest := []) F (kX6_readTables (zl z) E hE) mX6_readTables q222 rfl s1 rfl rfl rfl (Nat.le_of_ble_eq_true rfl) dX8_textOfTables_8 (fun r I2 J2 h => ?_)
  obtain ⟨rfl, rfl, rfl⟩ := h
  refine g_st (st' := [.int 0]) rfl ?_
  refine g_iconst (v := (-1)) F dX8_textOfTables_11 (by decide) ?_
  refine g_icmp_eq (tgt := 17) F dX8_textOfTables_12 (by decide) (fun h => absurd h (by decide)) (fun _ => ?_)
  refine g_iconst (v := (-1)) F dX8_textOfTables_15 (by decide) ?_
  exact g_iret F e dX8_textOfTables_16 ⟨rfl, rfl, rfl⟩
set_option maxRecDepth 100000 in
set_option maxHeartbeats 4000000 in
theorem kX8_text (l : Launch) (E : gE) (hE : gDist sh E) (a1 : Int32) : Ct l sh E yX8_text cX8_text 2 (some .int) (gR 4) [.ref (E.2.1 0), .int a1] g0 h0 (fun r _ _ => r = some (.int (-1))) := by
  refine Ct.of "LeapJoin" rfl hE (by decide) (Nat.le_of_ble_eq_true rfl) (fun z F e hl => ?_)
  subst hl
  refine g_iload_n F 1 dX8_text_0 rfl rfl ?_
  refine g_if_ne (tgt := 9) F dX8_text_1 (by decide) (fun c1 => ?_) (fun c1f => ?_)
  · refine g_iload_n F 1 dX8_text_9 rfl rfl ?_
    refine g_iconst (v := 1) F dX8_text_10 (by decide) ?_
    refine g_icmp_ne (tgt := 19) F dX8_text_11 (by decide) (fun c2 => ?_) (fun c2f => ?_)
    · refine g_iconst (v := (-1)) F dX8_text_19 (by decide) ?_
      exact g_iret F e dX8_text_20 rfl
    · refine g_aload_n F 0 dX8_text_14 rfl rfl ?_
      refine g_callV (k := 0) (As := []) (rest := []) F (kX8_textOfScript (zl z) E hE) mX8_textOfScript q391 rfl s0 rfl rfl rfl (Nat.le_of_ble_eq_true rfl) dX8_text_15 (fun r I2 J2 h => ?_)
      obtain ⟨rfl, rfl, rfl⟩ := h
      refine g_st (st' := [.int (-1)]) rfl ?_
      exact g_iret F e dX8_text_18 rfl
  · refine g_aload_n F 0 dX8_text_4 rfl rfl ?_
    refine g_callV (k := 0) (As := []) (rest := []) F (kX8_textOfTables (zl z) E hE) mX8_textOfTables q311 rfl s0 rfl rfl rfl (Nat.le_of_ble_eq_true rfl) dX8_text_5 (fun r I2 J2 h => ?_)
    obtain ⟨rfl, rfl, rfl⟩ := h
    refine g_st (st' := [.int (-1)]) rfl ?_
    exact g_iret F e dX8_text_8 rfl
set_option maxRecDepth 100000 in
set_option maxHeartbeats 4000000 in
theorem kX8_rule (l : Launch) (E : gE) (hE : gDist sh E) (a1 : Int32) : Ct l sh E yX8_rule cX8_rule 2 (some .int) (gR 0) [.ref (E.2.1 0), .int a1] g0 h0 (fun r _ _ => r = some (.int (-1))) := by
  refine Ct.of "LeapJoin" rfl hE (by decide) (Nat.le_of_ble_eq_true rfl) (fun z F e hl => ?_)
  subst hl
  refine g_aload_n F 0 dX8_rule_0 rfl rfl ?_
  refine g_getr (j := 1) (nn := 3) F s0 rfl rfl uX8 (by decide) q170 dX8_rule_1 ?_
  refine g_geti (j := 0) (v := 0) F s3 rfl rfl uX5 (by decide) q49 rfl dX8_rule_4 ?_
  refine g_if_ne (tgt := 12) F dX8_rule_7 (by decide) (fun h => absurd (by decide) h) (fun _ => ?_)
  refine g_iconst (v := (-1)) F dX8_rule_10 (by decide) ?_
  exact g_iret F e dX8_rule_11 rfl
set_option maxRecDepth 100000 in
set_option maxHeartbeats 4000000 in
theorem kX5_isTable (l : Launch) (E : gE) (hE : gDist sh E) (a1 : Int32) : Ct l sh E yX5_isTable cX5_isTable 2 (some .boolean) (gR 0) [.ref (E.2.1 3), .int a1] g0 h0 (fun r I1 J1 => r = some (.int 0) ∧ I1 = g0 ∧ J1 = h0) := by
  refine Ct.of "LeapJoin$Tables" rfl hE (by decide) (Nat.le_of_ble_eq_true rfl) (fun z F e hl => ?_)
  subst hl
  refine g_iload_n F 1 dX5_isTable_0 rfl rfl ?_
  refine g_if_lt (tgt := 16) F dX5_isTable_1 (by decide) (fun c1 => ?_) (fun c1f => ?_)
  · refine g_iconst (v := 0) F dX5_isTable_16 (by decide) ?_
    exact g_zret F rfl e dX5_isTable_17 ⟨rfl, rfl, rfl⟩
  · refine g_iload_n F 1 dX5_isTable_4 rfl rfl ?_
    refine g_aload_n F 0 dX5_isTable_5 rfl rfl ?_
    refine g_geti (j := 0) (v := 0) F s3 rfl rfl uX5 (by decide) q48 rfl dX5_isTable_6 ?_
    refine g_icmp_ge (tgt := 16) F dX5_isTable_9 (by decide) (fun _ => ?_) (fun c2 => by exfalso; simp only [g_lt, g_le, g_eq, g_l0, g_l1, g_l2, g_l3, g_l4, g_l5, g_lm1, g_l400, g_l40, g_l15] at c2 c1f; omega)
    refine g_iconst (v := 0) F dX5_isTable_16 (by decide) ?_
    exact g_zret F rfl e dX5_isTable_17 ⟨rfl, rfl, rfl⟩
set_option maxRecDepth 100000 in
set_option maxHeartbeats 4000000 in
theorem kX8_cell (l : Launch) (E : gE) (hE : gDist sh E) (a1 : Int32) (a2 : Int32) (a3 : Int32) : Ct l sh E yX8_cell cX8_cell 4 (some .int) (gR 1) [.ref (E.2.1 0), .int a1, .int a2, .int a3] g0 h0 (fun r _ _ => r = some (.int (-1))) := by
  refine Ct.of "LeapJoin" rfl hE (by decide) (Nat.le_of_ble_eq_true rfl) (fun z F e hl => ?_)
  subst hl
  refine g_aload_n F 0 dX8_cell_0 rfl rfl ?_
  refine g_getr (j := 1) (nn := 3) F s0 rfl rfl uX8 (by decide) q170 dX8_cell_1 ?_
  refine g_iload_n F 1 dX8_cell_4 rfl rfl ?_
  refine g_callV (k := 3) (As := [.int a1]) (rest := []) F (kX5_isTable (zl z) E hE a1) mX5_isTable q412 rfl s3 rfl rfl rfl (Nat.le_of_ble_eq_true rfl) dX8_cell_5 (fun r I2 J2 h => ?_)
  obtain ⟨rfl, rfl, rfl⟩ := h
  refine g_st (st' := [.int 0]) rfl ?_
  refine g_if_eq (tgt := 45) F dX8_cell_8 (by decide) (fun _ => ?_) (fun h => absurd (by decide) h)
  refine g_iconst (v := (-1)) F dX8_cell_45 (by decide) ?_
  exact g_iret F e dX8_cell_46 rfl
set_option maxRecDepth 100000 in
set_option maxHeartbeats 4000000 in
theorem kX8_rows (l : Launch) (E : gE) (hE : gDist sh E) : Ct l sh E yX8_rows cX8_rows 1 (some .int) (gR 0) [.ref (E.2.1 0)] g0 h0 (fun r _ _ => r = some (.int (-1))) := by
  refine Ct.of "LeapJoin" rfl hE (by decide) (Nat.le_of_ble_eq_true rfl) (fun z F e hl => ?_)
  subst hl
  refine g_aload_n F 0 dX8_rows_0 rfl rfl ?_
  refine g_getr (j := 1) (nn := 3) F s0 rfl rfl uX8 (by decide) q170 dX8_rows_1 ?_
  refine g_geti (j := 0) (v := 0) F s3 rfl rfl uX5 (by decide) q49 rfl dX8_rows_4 ?_
  refine g_if_ne (tgt := 14) F dX8_rows_7 (by decide) (fun h => absurd (by decide) h) (fun _ => ?_)
  refine g_iconst (v := (-1)) F dX8_rows_10 (by decide) ?_
  refine g_goto (tgt := 21) F dX8_rows_11 (by decide) ?_
  exact g_iret F e dX8_rows_21 rfl
set_option maxRecDepth 100000 in
set_option maxHeartbeats 4000000 in
theorem kX5_asked (l : Launch) (E : gE) (hE : gDist sh E) : Ct l sh E yX5_asked cX5_asked 3 (some .int) (gR 0) [.ref (E.2.1 3)] g0 h0 (fun r I1 J1 => r = some (.int 0) ∧ I1 = g0 ∧ J1 = h0) := by
  refine Ct.of "LeapJoin$Tables" rfl hE (by decide) (Nat.le_of_ble_eq_true rfl) (fun z F e hl => ?_)
  subst hl
  refine g_iconst (v := 0) F dX5_asked_0 (by decide) ?_
  refine g_istore_n (L' := [(1, .int 0), (0, .ref (E.2.1 3))]) F dX5_asked_1 rfl (by decide) rfl ?_
  refine g_iconst (v := 0) F dX5_asked_2 (by decide) ?_
  refine g_istore_n (L' := [(2, .int 0), (1, .int 0), (0, .ref (E.2.1 3))]) F dX5_asked_3 rfl (by decide) rfl ?_
  refine g_iload_n F 0 dX5_asked_4 rfl rfl ?_
  refine g_aload_n F 2 dX5_asked_5 rfl rfl ?_
  refine g_geti (j := 0) (v := 0) F s3 rfl rfl uX5 (by decide) q48 rfl dX5_asked_6 ?_
  refine g_icmp_ge (tgt := 34) F dX5_asked_9 (by decide) (fun _ => ?_) (fun h => absurd (by decide) h)
  refine g_iload_n F 1 dX5_asked_34 rfl rfl ?_
  exact g_iret F e dX5_asked_35 ⟨rfl, rfl, rfl⟩
set_option maxRecDepth 100000 in
set_option maxHeartbeats 4000000 in
theorem kX8_isAsked (l : Launch) (E : gE) (hE : gDist sh E) (a1 : Int32) : Ct l sh E yX8_isAsked cX8_isAsked 2 (some .boolean) (gR 1) [.ref (E.2.1 0), .int a1] g0 h0 (fun r I1 J1 => r = some (.int 0) ∧ I1 = g0 ∧ J1 = h0) := by
  refine Ct.of "LeapJoin" rfl hE (by decide) (Nat.le_of_ble_eq_true rfl) (fun z F e hl => ?_)
  subst hl
  refine g_iload_n F 1 dX8_isAsked_0 rfl rfl ?_
  refine g_if_lt (tgt := 27) F dX8_isAsked_1 (by decide) (fun c1 => ?_) (fun c1f => ?_)
  · refine g_iconst (v := 0) F dX8_isAsked_27 (by decide) ?_
    exact g_zret F rfl e dX8_isAsked_28 ⟨rfl, rfl, rfl⟩
  · refine g_iload_n F 1 dX8_isAsked_4 rfl rfl ?_
    refine g_iconst (v := 4) F dX8_isAsked_5 (by decide) ?_
    refine g_icmp_ge (tgt := 27) F dX8_isAsked_6 (by decide) (fun c2 => ?_) (fun c2f => ?_)
    · refine g_iconst (v := 0) F dX8_isAsked_27 (by decide) ?_
      exact g_zret F rfl e dX8_isAsked_28 ⟨rfl, rfl, rfl⟩
    · refine g_aload_n F 0 dX8_isAsked_9 rfl rfl ?_
      refine g_getr (j := 1) (nn := 3) F s0 rfl rfl uX8 (by decide) q170 dX8_isAsked_10 ?_
      refine g_callV (k := 3) (As := []) (rest := []) F (kX5_asked (zl z) E hE) mX5_asked q403 rfl s3 rfl rfl rfl (Nat.le_of_ble_eq_true rfl) dX8_isAsked_13 (fun r I2 J2 h => ?_)
      obtain ⟨rfl, rfl, rfl⟩ := h
      refine g_st (st' := [.int 0]) rfl ?_
      refine g_iload_n F 1 dX8_isAsked_16 rfl rfl ?_
      refine g_ishr (v := 0) F dX8_isAsked_17 (g_0shr _) ?_
      refine g_iconst (v := 1) F dX8_isAsked_18 (by decide) ?_
      refine g_iand (v := 0) F dX8_isAsked_19 (by decide) ?_
      refine g_if_eq (tgt := 27) F dX8_isAsked_20 (by decide) (fun _ => ?_) (fun h => absurd (by decide) h)
      refine g_iconst (v := 0) F dX8_isAsked_27 (by decide) ?_
      exact g_zret F rfl e dX8_isAsked_28 ⟨rfl, rfl, rfl⟩
set_option maxRecDepth 100000 in
set_option maxHeartbeats 4000000 in
theorem kX8_row (l : Launch) (E : gE) (hE : gDist sh E) (a1 : Int32) (a2 : Int32) : Ct l sh E yX8_row cX8_row 3 (some .int) (gR 2) [.ref (E.2.1 0), .int a1, .int a2] g0 h0 (fun r _ _ => r = some (.int (-1))) := by
  refine Ct.of "LeapJoin" rfl hE (by decide) (Nat.le_of_ble_eq_true rfl) (fun z F e hl => ?_)
  subst hl
  refine g_aload_n F 0 dX8_row_0 rfl rfl ?_
  refine g_iload_n F 2 dX8_row_1 rfl rfl ?_
  refine g_callV (k := 0) (As := [.int a2]) (rest := []) F (kX8_isAsked (zl z) E hE a2) mX8_isAsked q422 rfl s0 rfl rfl rfl (Nat.le_of_ble_eq_true rfl) dX8_row_2 (fun r I2 J2 h => ?_)
  obtain ⟨rfl, rfl, rfl⟩ := h
  refine g_st (st' := [.int 0]) rfl ?_
  refine g_if_eq (tgt := 23) F dX8_row_5 (by decide) (fun _ => ?_) (fun h => absurd (by decide) h)
  refine g_iconst (v := (-1)) F dX8_row_23 (by decide) ?_
  exact g_iret F e dX8_row_24 rfl
set_option maxRecDepth 100000 in
set_option maxHeartbeats 4000000 in
theorem kX8_leaps (l : Launch) (E : gE) (hE : gDist sh E) : Ct l sh E yX8_leaps cX8_leaps 1 (some .int) (gR 0) [.ref (E.2.1 0)] g0 h0 (fun r _ _ => r = some (.int (-1))) := by
  refine Ct.of "LeapJoin" rfl hE (by decide) (Nat.le_of_ble_eq_true rfl) (fun z F e hl => ?_)
  subst hl
  refine g_aload_n F 0 dX8_leaps_0 rfl rfl ?_
  refine g_getr (j := 1) (nn := 3) F s0 rfl rfl uX8 (by decide) q170 dX8_leaps_1 ?_
  refine g_geti (j := 0) (v := 0) F s3 rfl rfl uX5 (by decide) q49 rfl dX8_leaps_4 ?_
  refine g_if_ne (tgt := 14) F dX8_leaps_7 (by decide) (fun h => absurd (by decide) h) (fun _ => ?_)
  refine g_iconst (v := (-1)) F dX8_leaps_10 (by decide) ?_
  refine g_goto (tgt := 21) F dX8_leaps_11 (by decide) ?_
  exact g_iret F e dX8_leaps_21 rfl
set_option maxRecDepth 100000 in
set_option maxHeartbeats 4000000 in
theorem kX8_beginnings (l : Launch) (E : gE) (hE : gDist sh E) (a1 : Int32) : Ct l sh E yX8_beginnings cX8_beginnings 2 (some .int) (gR 0) [.ref (E.2.1 0), .int a1] g0 h0 (fun r _ _ => r = some (.int (-1))) := by
  refine Ct.of "LeapJoin" rfl hE (by decide) (Nat.le_of_ble_eq_true rfl) (fun z F e hl => ?_)
  subst hl
  refine g_aload_n F 0 dX8_beginnings_0 rfl rfl ?_
  refine g_getr (j := 1) (nn := 3) F s0 rfl rfl uX8 (by decide) q170 dX8_beginnings_1 ?_
  refine g_geti (j := 0) (v := 0) F s3 rfl rfl uX5 (by decide) q49 rfl dX8_beginnings_4 ?_
  refine g_if_eq (tgt := 26) F dX8_beginnings_7 (by decide) (fun _ => ?_) (fun h => absurd (by decide) h)
  refine g_iconst (v := (-1)) F dX8_beginnings_26 (by decide) ?_
  exact g_iret F e dX8_beginnings_27 rfl
set_option maxRecDepth 100000 in
set_option maxHeartbeats 4000000 in
theorem kX8_best (l : Launch) (E : gE) (hE : gDist sh E) (a1 : Int32) : Ct l sh E yX8_best cX8_best 2 (some .int) (gR 0) [.ref (E.2.1 0), .int a1] g0 h0 (fun r _ _ => r = some (.int (-1))) := by
  refine Ct.of "LeapJoin" rfl hE (by decide) (Nat.le_of_ble_eq_true rfl) (fun z F e hl => ?_)
  subst hl
  refine g_aload_n F 0 dX8_best_0 rfl rfl ?_
  refine g_getr (j := 1) (nn := 3) F s0 rfl rfl uX8 (by decide) q170 dX8_best_1 ?_
  refine g_geti (j := 0) (v := 0) F s3 rfl rfl uX5 (by decide) q49 rfl dX8_best_4 ?_
  refine g_if_eq (tgt := 19) F dX8_best_7 (by decide) (fun _ => ?_) (fun h => absurd (by decide) h)
  refine g_iconst (v := (-1)) F dX8_best_19 (by decide) ?_
  exact g_iret F e dX8_best_20 rfl
set_option maxRecDepth 100000 in
set_option maxHeartbeats 4000000 in
theorem kX8_plain (l : Launch) (E : gE) (hE : gDist sh E) : Ct l sh E yX8_plain cX8_plain 3 (some .int) (gR 0) [.ref (E.2.1 0)] g0 h0 (fun r _ _ => r = some (.int (-1))) := by
  refine Ct.of "LeapJoin" rfl hE (by decide) (Nat.le_of_ble_eq_true rfl) (fun z F e hl => ?_)
  subst hl
  refine g_aload_n F 0 dX8_plain_0 rfl rfl ?_
  refine g_getr (j := 1) (nn := 3) F s0 rfl rfl uX8 (by decide) q170 dX8_plain_1 ?_
  refine g_geti (j := 0) (v := 0) F s3 rfl rfl uX5 (by decide) q49 rfl dX8_plain_4 ?_
  refine g_if_ne (tgt := 12) F dX8_plain_7 (by decide) (fun h => absurd (by decide) h) (fun _ => ?_)
  refine g_iconst (v := (-1)) F dX8_plain_10 (by decide) ?_
  exact g_iret F e dX8_plain_11 rfl
set_option maxRecDepth 100000 in
set_option maxHeartbeats 4000000 in
theorem kX8_given (l : Launch) (E : gE) (hE : gDist sh E) (a1 : Int32) : Ct l sh E yX8_given cX8_given 2 (some .int) (gR 1) [.ref (E.2.1 0), .int a1] g0 h0 (fun r _ _ => r = some (.int (-1))) := by
  refine Ct.of "LeapJoin" rfl hE (by decide) (Nat.le_of_ble_eq_true rfl) (fun z F e hl => ?_)
  subst hl
  refine g_aload_n F 0 dX8_given_0 rfl rfl ?_
  refine g_getr (j := 1) (nn := 3) F s0 rfl rfl uX8 (by decide) q170 dX8_given_1 ?_
  refine g_iload_n F 1 dX8_given_4 rfl rfl ?_
  refine g_callV (k := 3) (As := [.int a1]) (rest := []) F (kX5_isTable (zl z) E hE a1) mX5_isTable q412 rfl s3 rfl rfl rfl (Nat.le_of_ble_eq_true rfl) dX8_given_5 (fun r I2 J2 h => ?_)
  obtain ⟨rfl, rfl, rfl⟩ := h
  refine g_st (st' := [.int 0]) rfl ?_
  refine g_if_eq (tgt := 30) F dX8_given_8 (by decide) (fun _ => ?_) (fun h => absurd (by decide) h)
  refine g_iconst (v := (-1)) F dX8_given_30 (by decide) ?_
  exact g_iret F e dX8_given_31 rfl
set_option maxRecDepth 100000 in
set_option maxHeartbeats 4000000 in
theorem kX8_without (l : Launch) (E : gE) (hE : gDist sh E) (a1 : Int32) : Ct l sh E yX8_without cX8_without 3 (some .int) (gR 1) [.ref (E.2.1 0), .int a1] g0 h0 (fun r _ _ => r = some (.int (-1))) := by
  refine Ct.of "LeapJoin" rfl hE (by decide) (Nat.le_of_ble_eq_true rfl) (fun z F e hl => ?_)
  subst hl
  refine g_aload_n F 0 dX8_without_0 rfl rfl ?_
  refine g_getr (j := 1) (nn := 3) F s0 rfl rfl uX8 (by decide) q170 dX8_without_1 ?_
  refine g_iload_n F 1 dX8_without_4 rfl rfl ?_
  refine g_callV (k := 3) (As := [.int a1]) (rest := []) F (kX5_isTable (zl z) E hE a1) mX5_isTable q412 rfl s3 rfl rfl rfl (Nat.le_of_ble_eq_true rfl) dX8_without_5 (fun r I2 J2 h => ?_)
  obtain ⟨rfl, rfl, rfl⟩ := h
  refine g_st (st' := [.int 0]) rfl ?_
  refine g_if_ne (tgt := 13) F dX8_without_8 (by decide) (fun h => absurd (by decide) h) (fun _ => ?_)
  refine g_iconst (v := (-1)) F dX8_without_11 (by decide) ?_
  exact g_iret F e dX8_without_12 rfl
set_option maxRecDepth 100000 in
set_option maxHeartbeats 4000000 in
theorem kX8_projected (l : Launch) (E : gE) (hE : gDist sh E) (a1 : Int32) : Ct l sh E yX8_projected cX8_projected 2 (some .int) (gR 0) [.ref (E.2.1 0), .int a1] g0 h0 (fun r _ _ => r = some (.int (-1))) := by
  refine Ct.of "LeapJoin" rfl hE (by decide) (Nat.le_of_ble_eq_true rfl) (fun z F e hl => ?_)
  subst hl
  refine g_aload_n F 0 dX8_projected_0 rfl rfl ?_
  refine g_getr (j := 1) (nn := 3) F s0 rfl rfl uX8 (by decide) q170 dX8_projected_1 ?_
  refine g_geti (j := 0) (v := 0) F s3 rfl rfl uX5 (by decide) q49 rfl dX8_projected_4 ?_
  refine g_if_eq (tgt := 35) F dX8_projected_7 (by decide) (fun _ => ?_) (fun h => absurd (by decide) h)
  refine g_iconst (v := (-1)) F dX8_projected_35 (by decide) ?_
  exact g_iret F e dX8_projected_36 rfl
set_option maxRecDepth 100000 in
set_option maxHeartbeats 4000000 in
theorem kX8_times (l : Launch) (E : gE) (hE : gDist sh E) (a1 : Int32) (a2 : Int32) : Ct l sh E yX8_times cX8_times 3 (some .int) (gR 2) [.ref (E.2.1 0), .int a1, .int a2] g0 h0 (fun r _ _ => r = some (.int (-1))) := by
  refine Ct.of "LeapJoin" rfl hE (by decide) (Nat.le_of_ble_eq_true rfl) (fun z F e hl => ?_)
  subst hl
  refine g_aload_n F 0 dX8_times_0 rfl rfl ?_
  refine g_iload_n F 1 dX8_times_1 rfl rfl ?_
  refine g_callV (k := 0) (As := [.int a1]) (rest := []) F (kX8_isAsked (zl z) E hE a1) mX8_isAsked q422 rfl s0 rfl rfl rfl (Nat.le_of_ble_eq_true rfl) dX8_times_2 (fun r I2 J2 h => ?_)
  obtain ⟨rfl, rfl, rfl⟩ := h
  refine g_st (st' := [.int 0]) rfl ?_
  refine g_if_ne (tgt := 10) F dX8_times_5 (by decide) (fun h => absurd (by decide) h) (fun _ => ?_)
  refine g_iconst (v := (-1)) F dX8_times_8 (by decide) ?_
  exact g_iret F e dX8_times_9 rfl
set_option maxRecDepth 100000 in
set_option maxHeartbeats 4000000 in
theorem kX8_distinct (l : Launch) (E : gE) (hE : gDist sh E) (a1 : Int32) (a2 : Int32) : Ct l sh E yX8_distinct cX8_distinct 3 (some .int) (gR 2) [.ref (E.2.1 0), .int a1, .int a2] g0 h0 (fun r _ _ => r = some (.int (-1))) := by
  refine Ct.of "LeapJoin" rfl hE (by decide) (Nat.le_of_ble_eq_true rfl) (fun z F e hl => ?_)
  subst hl
  refine g_aload_n F 0 dX8_distinct_0 rfl rfl ?_
  refine g_iload_n F 1 dX8_distinct_1 rfl rfl ?_
  refine g_callV (k := 0) (As := [.int a1]) (rest := []) F (kX8_isAsked (zl z) E hE a1) mX8_isAsked q422 rfl s0 rfl rfl rfl (Nat.le_of_ble_eq_true rfl) dX8_distinct_2 (fun r I2 J2 h => ?_)
  obtain ⟨rfl, rfl, rfl⟩ := h
  refine g_st (st' := [.int 0]) rfl ?_
  refine g_if_eq (tgt := 17) F dX8_distinct_5 (by decide) (fun _ => ?_) (fun h => absurd (by decide) h)
  refine g_iconst (v := (-1)) F dX8_distinct_17 (by decide) ?_
  exact g_iret F e dX8_distinct_18 rfl
set_option maxRecDepth 100000 in
set_option maxHeartbeats 4000000 in
theorem kX8_tells (l : Launch) (E : gE) (hE : gDist sh E) (a1 : Int32) (a2 : Int32) : Ct l sh E yX8_tells cX8_tells 3 (some .boolean) (gR 2) [.ref (E.2.1 0), .int a1, .int a2] g0 h0 (fun r _ _ => r = some (.int (0))) := by
  refine Ct.of "LeapJoin" rfl hE (by decide) (Nat.le_of_ble_eq_true rfl) (fun z F e hl => ?_)
  subst hl
  refine g_aload_n F 0 dX8_tells_0 rfl rfl ?_
  refine g_iload_n F 1 dX8_tells_1 rfl rfl ?_
  refine g_callV (k := 0) (As := [.int a1]) (rest := []) F (kX8_isAsked (zl z) E hE a1) mX8_isAsked q422 rfl s0 rfl rfl rfl (Nat.le_of_ble_eq_true rfl) dX8_tells_2 (fun r I2 J2 h => ?_)
  obtain ⟨rfl, rfl, rfl⟩ := h
  refine g_st (st' := [.int 0]) rfl ?_
  refine g_if_eq (tgt := 36) F dX8_tells_5 (by decide) (fun _ => ?_) (fun h => absurd (by decide) h)
  refine g_iconst (v := 0) F dX8_tells_36 (by decide) ?_
  exact g_zret F rfl e dX8_tells_37 rfl
set_option maxRecDepth 100000 in
set_option maxHeartbeats 4000000 in
theorem kX8_behind (l : Launch) (E : gE) (hE : gDist sh E) (a1 : Int32) (a2 : Int32) (a3 : Int32) (a4 : Int32) : Ct l sh E yX8_behind cX8_behind 6 (some .int) (gR 0) [.ref (E.2.1 0), .int a1, .int a2, .int a3, .int a4] g0 h0 (fun r _ _ => r = some (.int (-1))) := by
  refine Ct.of "LeapJoin" rfl hE (by decide) (Nat.le_of_ble_eq_true rfl) (fun z F e hl => ?_)
  subst hl
  refine g_aload_n F 0 dX8_behind_0 rfl rfl ?_
  refine g_getr (j := 1) (nn := 3) F s0 rfl rfl uX8 (by decide) q170 dX8_behind_1 ?_
  refine g_geti (j := 0) (v := 0) F s3 rfl rfl uX5 (by decide) q49 rfl dX8_behind_4 ?_
  refine g_if_ne (tgt := 12) F dX8_behind_7 (by decide) (fun h => absurd (by decide) h) (fun _ => ?_)
  refine g_iconst (v := (-1)) F dX8_behind_10 (by decide) ?_
  exact g_iret F e dX8_behind_11 rfl
set_option maxRecDepth 100000 in
set_option maxHeartbeats 4000000 in
theorem kX8_has (l : Launch) (E : gE) (hE : gDist sh E) (a1 : Int32) (a2 : Int32) (a3 : Int32) (a4 : Int32) : Ct l sh E yX8_has cX8_has 6 (some .boolean) (gR 0) [.ref (E.2.1 0), .int a1, .int a2, .int a3, .int a4] g0 h0 (fun r _ _ => r = some (.int (0))) := by
  refine Ct.of "LeapJoin" rfl hE (by decide) (Nat.le_of_ble_eq_true rfl) (fun z F e hl => ?_)
  subst hl
  refine g_aload_n F 0 dX8_has_0 rfl rfl ?_
  refine g_getr (j := 1) (nn := 3) F s0 rfl rfl uX8 (by decide) q170 dX8_has_1 ?_
  refine g_geti (j := 0) (v := 0) F s3 rfl rfl uX5 (by decide) q49 rfl dX8_has_4 ?_
  refine g_if_ne (tgt := 12) F dX8_has_7 (by decide) (fun h => absurd (by decide) h) (fun _ => ?_)
  refine g_iconst (v := 0) F dX8_has_10 (by decide) ?_
  exact g_zret F rfl e dX8_has_11 rfl
set_option maxRecDepth 100000 in
set_option maxHeartbeats 4000000 in
theorem kX8_mean (l : Launch) (E : gE) (hE : gDist sh E) (a1 : Int32) : Ct l sh E yX8_mean cX8_mean 2 (some .long) (gR 2) [.ref (E.2.1 0), .int a1] g0 h0 (fun r _ _ => r = some (.long (-1000000))) := by
  refine Ct.of "LeapJoin" rfl hE (by decide) (Nat.le_of_ble_eq_true rfl) (fun z F e hl => ?_)
  subst hl
  refine g_aload_n F 0 dX8_mean_0 rfl rfl ?_
  refine g_iload_n F 1 dX8_mean_1 rfl rfl ?_
  refine g_callV (k := 0) (As := [.int a1]) (rest := []) F (kX8_isAsked (zl z) E hE a1) mX8_isAsked q422 rfl s0 rfl rfl rfl (Nat.le_of_ble_eq_true rfl) dX8_mean_2 (fun r I2 J2 h => ?_)
  obtain ⟨rfl, rfl, rfl⟩ := h
  refine g_st (st' := [.int 0]) rfl ?_
  refine g_if_eq (tgt := 18) F dX8_mean_5 (by decide) (fun _ => ?_) (fun h => absurd (by decide) h)
  refine g_ldc2_w F dX8_mean_18 q541 ?_
  exact g_lret F e dX8_mean_21 rfl
set_option maxRecDepth 100000 in
set_option maxHeartbeats 4000000 in
theorem kX8_meanAs (l : Launch) (E : gE) (hE : gDist sh E) (a1 : Int32) (a2 : Int32) : Ct l sh E yX8_meanAs cX8_meanAs 5 (some .int) (gR 2) [.ref (E.2.1 0), .int a1, .int a2] g0 h0 (fun r _ _ => r = some (.int (-1000000))) := by
  refine Ct.of "LeapJoin" rfl hE (by decide) (Nat.le_of_ble_eq_true rfl) (fun z F e hl => ?_)
  subst hl
  refine g_aload_n F 0 dX8_meanAs_0 rfl rfl ?_
  refine g_iload_n F 1 dX8_meanAs_1 rfl rfl ?_
  refine g_callV (k := 0) (As := [.int a1]) (rest := []) F (kX8_isAsked (zl z) E hE a1) mX8_isAsked q422 rfl s0 rfl rfl rfl (Nat.le_of_ble_eq_true rfl) dX8_meanAs_2 (fun r I2 J2 h => ?_)
  obtain ⟨rfl, rfl, rfl⟩ := h
  refine g_st (st' := [.int 0]) rfl ?_
  refine g_if_eq (tgt := 27) F dX8_meanAs_5 (by decide) (fun _ => ?_) (fun h => absurd (by decide) h)
  refine g_ldc_w F dX8_meanAs_27 q555 ?_
  exact g_iret F e dX8_meanAs_30 rfl
set_option maxRecDepth 100000 in
set_option maxHeartbeats 4000000 in
theorem kX8_spread (l : Launch) (E : gE) (hE : gDist sh E) (a1 : Int32) : Ct l sh E yX8_spread cX8_spread 2 (some .long) (gR 2) [.ref (E.2.1 0), .int a1] g0 h0 (fun r _ _ => r = some (.long (-1000000))) := by
  refine Ct.of "LeapJoin" rfl hE (by decide) (Nat.le_of_ble_eq_true rfl) (fun z F e hl => ?_)
  subst hl
  refine g_aload_n F 0 dX8_spread_0 rfl rfl ?_
  refine g_iload_n F 1 dX8_spread_1 rfl rfl ?_
  refine g_callV (k := 0) (As := [.int a1]) (rest := []) F (kX8_isAsked (zl z) E hE a1) mX8_isAsked q422 rfl s0 rfl rfl rfl (Nat.le_of_ble_eq_true rfl) dX8_spread_2 (fun r I2 J2 h => ?_)
  obtain ⟨rfl, rfl, rfl⟩ := h
  refine g_st (st' := [.int 0]) rfl ?_
  refine g_if_eq (tgt := 18) F dX8_spread_5 (by decide) (fun _ => ?_) (fun h => absurd (by decide) h)
  refine g_ldc2_w F dX8_spread_18 q541 ?_
  exact g_lret F e dX8_spread_21 rfl
set_option maxRecDepth 100000 in
set_option maxHeartbeats 4000000 in
theorem kX8_skew (l : Launch) (E : gE) (hE : gDist sh E) (a1 : Int32) : Ct l sh E yX8_skew cX8_skew 3 (some .int) (gR 2) [.ref (E.2.1 0), .int a1] g0 h0 (fun r _ _ => r = some (.int (-1000000))) := by
  refine Ct.of "LeapJoin" rfl hE (by decide) (Nat.le_of_ble_eq_true rfl) (fun z F e hl => ?_)
  subst hl
  refine g_aload_n F 0 dX8_skew_0 rfl rfl ?_
  refine g_iload_n F 1 dX8_skew_1 rfl rfl ?_
  refine g_callV (k := 0) (As := [.int a1]) (rest := []) F (kX8_isAsked (zl z) E hE a1) mX8_isAsked q422 rfl s0 rfl rfl rfl (Nat.le_of_ble_eq_true rfl) dX8_skew_2 (fun r I2 J2 h => ?_)
  obtain ⟨rfl, rfl, rfl⟩ := h
  refine g_st (st' := [.int 0]) rfl ?_
  refine g_if_eq (tgt := 18) F dX8_skew_5 (by decide) (fun _ => ?_) (fun h => absurd (by decide) h)
  refine g_ldc_w F dX8_skew_18 q555 ?_
  exact g_iret F e dX8_skew_21 rfl
set_option maxRecDepth 100000 in
set_option maxHeartbeats 4000000 in
theorem kX5_refusal (l : Launch) (E : gE) (hE : gDist sh E) (a2 : Int32) (a3 : Int32) (a4 : Int32) (a5 : Int32) : Ct l sh E yX5_refusal cX5_refusal 7 (some .int) (gR 0) [.ref (E.2.1 3), .int 0, .int a2, .int a3, .int a4, .int a5] g0 h0 (fun r I1 J1 => r = some (.int 0) ∧ I1 = g0 ∧ J1 = h0) := by
  refine Ct.of "LeapJoin$Tables" rfl hE (by decide) (Nat.le_of_ble_eq_true rfl) (fun z F e hl => ?_)
  subst hl
  refine g_aload_n F 0 dX5_refusal_0 rfl rfl ?_
  refine g_geti (j := 0) (v := 0) F s3 rfl rfl uX5 (by decide) q48 rfl dX5_refusal_1 ?_
  refine g_if_ne (tgt := 9) F dX5_refusal_4 (by decide) (fun h => absurd (by decide) h) (fun _ => ?_)
  refine g_iconst (v := 0) F dX5_refusal_7 (by decide) ?_
  exact g_iret F e dX5_refusal_8 ⟨rfl, rfl, rfl⟩
set_option maxRecDepth 100000 in
set_option maxHeartbeats 4000000 in
theorem kX8_attempt (l : Launch) (E : gE) (hE : gDist sh E) (a2 : Int32) (a3 : Int32) (a4 : Int32) (a5 : Int32) : Ct l sh E yX8_attempt cX8_attempt 8 (some .int) (gR 1) [.ref (E.2.1 0), .int 0, .int a2, .int a3, .int a4, .int a5] g0 h0 (fun r I1 J1 => r = some (.int 0) ∧ I1 = g0 ∧ J1 = h0) := by
  refine Ct.of "LeapJoin" rfl hE (by decide) (Nat.le_of_ble_eq_true rfl) (fun z F e hl => ?_)
  subst hl
  refine g_aload_n F 0 dX8_attempt_0 rfl rfl ?_
  refine g_getr (j := 1) (nn := 3) F s0 rfl rfl uX8 (by decide) q170 dX8_attempt_1 ?_
  refine g_iload_n F 1 dX8_attempt_4 rfl rfl ?_
  refine g_iload_n F 2 dX8_attempt_5 rfl rfl ?_
  refine g_iload_n F 3 dX8_attempt_6 rfl rfl ?_
  refine g_iload F 4 dX8_attempt_7 rfl ?_
  refine g_iload F 5 dX8_attempt_9 rfl ?_
  refine g_callV (k := 3) (As := [.int 0, .int a2, .int a3, .int a4, .int a5]) (rest := []) F (kX5_refusal (zl z) E hE a2 a3 a4 a5) mX5_refusal q584 rfl s3 rfl rfl rfl (Nat.le_of_ble_eq_true rfl) dX8_attempt_11 (fun r I2 J2 h => ?_)
  obtain ⟨rfl, rfl, rfl⟩ := h
  refine g_st (st' := [.int 0]) rfl ?_
  refine g_istore (L' := [(6, .int 0), (0, .ref (E.2.1 0)), (1, .int 0), (2, .int a2), (3, .int a3), (4, .int a4), (5, .int a5)]) F dX8_attempt_14 (by decide) rfl ?_
  refine g_iload F 0 dX8_attempt_16 rfl ?_
  refine g_iconst (v := (-1)) F dX8_attempt_18 (by decide) ?_
  refine g_icmp_eq (tgt := 25) F dX8_attempt_19 (by decide) (fun h => absurd h (by decide)) (fun _ => ?_)
  refine g_iload F 0 dX8_attempt_22 rfl ?_
  exact g_iret F e dX8_attempt_24 ⟨rfl, rfl, rfl⟩
set_option maxRecDepth 100000 in
set_option maxHeartbeats 4000000 in
theorem kX8_isDone (l : Launch) (E : gE) (hE : gDist sh E) (a2 : Int32) (a3 : Int32) (a4 : Int32) (a5 : Int32) : Ct l sh E yX8_isDone cX8_isDone 7 (some .boolean) (gR 2) [.ref (E.2.1 0), .int 0, .int a2, .int a3, .int a4, .int a5] g0 h0 (fun r I1 J1 => r = some (.int 0) ∧ I1 = (g_up g0 53 0 1) ∧ J1 = h0) := by
  refine Ct.of "LeapJoin" rfl hE (by decide) (Nat.le_of_ble_eq_true rfl) (fun z F e hl => ?_)
  subst hl
  refine g_aload_n F 0 dX8_isDone_0 rfl rfl ?_
  refine g_iload_n F 1 dX8_isDone_1 rfl rfl ?_
  refine g_iload_n F 2 dX8_isDone_2 rfl rfl ?_
  refine g_iload_n F 3 dX8_isDone_3 rfl rfl ?_
  refine g_iload F 4 dX8_isDone_4 rfl ?_
  refine g_iload F 5 dX8_isDone_6 rfl ?_
  refine g_callV (k := 0) (As := [.int 0, .int a2, .int a3, .int a4, .int a5]) (rest := []) F (kX8_attempt (zl z) E hE a2 a3 a4 a5) mX8_attempt q581 rfl s0 rfl rfl rfl (Nat.le_of_ble_eq_true rfl) dX8_isDone_8 (fun r I2 J2 h => ?_)
  obtain ⟨rfl, rfl, rfl⟩ := h
  refine g_st (st' := [.int 0]) rfl ?_
  refine g_istore (L' := [(6, .int 0), (0, .ref (E.2.1 0)), (1, .int 0), (2, .int a2), (3, .int a3), (4, .int a4), (5, .int a5)]) F dX8_isDone_11 (by decide) rfl ?_
  refine g_iload F 0 dX8_isDone_13 rfl ?_
  refine g_if_lt (tgt := 35) F dX8_isDone_15 (by decide) (fun h => absurd h (by decide)) (fun _ => ?_)
  refine g_iload F 0 dX8_isDone_18 rfl ?_
  refine g_iconst (v := 4) F dX8_isDone_20 (by decide) ?_
  refine g_icmp_ge (tgt := 35) F dX8_isDone_21 (by decide) (fun h => absurd h (by decide)) (fun _ => ?_)
  refine g_aload_n F 1 dX8_isDone_24 rfl rfl ?_
  refine g_getr (j := 13) (nn := 53) F s0 rfl rfl uX8 (by decide) q182 dX8_isDone_25 ?_
  refine g_iload F 0 dX8_isDone_28 rfl ?_
  refine g_dup2 F dX8_isDone_30 rfl rfl ?_
  refine g_iald (v := 0) F 0 s53 (by decide) (by decide) (by decide) rfl dX8_isDone_31 ?_
  refine g_iconst (v := 1) F dX8_isDone_32 (by decide) ?_
  refine g_iadd (v := 1) F dX8_isDone_33 (by decide) ?_
  refine g_iast (v := 1) F 0 s53 (by decide) (by decide) (by decide) rfl dX8_isDone_34 ?_
  refine g_iload F 0 dX8_isDone_35 rfl ?_
  refine g_iconst (v := (-1)) F dX8_isDone_37 (by decide) ?_
  refine g_icmp_ne (tgt := 45) F dX8_isDone_38 (by decide) (fun _ => ?_) (fun h => absurd h (by decide))
  refine g_iconst (v := 0) F dX8_isDone_45 (by decide) ?_
  exact g_zret F rfl e dX8_isDone_46 ⟨rfl, rfl, rfl⟩
set_option maxRecDepth 100000 in
set_option maxHeartbeats 4000000 in
theorem kX8_put (l : Launch) (E : gE) (hE : gDist sh E) (a1 : Int32) (a2 : Int32) (a3 : Int32) (a4 : Int32) : Ct l sh E yX8_put cX8_put 5 (some .int) (gR 3) [.ref (E.2.1 0), .int a1, .int a2, .int a3, .int a4] g0 h0 (fun r _ _ => r = some (.int (-1))) := by
  refine Ct.of "LeapJoin" rfl hE (by decide) (Nat.le_of_ble_eq_true rfl) (fun z F e hl => ?_)
  subst hl
  refine g_aload_n F 0 dX8_put_0 rfl rfl ?_
  refine g_iconst (v := 0) F dX8_put_1 (by decide) ?_
  refine g_iload_n F 1 dX8_put_2 rfl rfl ?_
  refine g_iload_n F 2 dX8_put_3 rfl rfl ?_
  refine g_iload_n F 3 dX8_put_4 rfl rfl ?_
  refine g_iload F 4 dX8_put_5 rfl ?_
  refine g_callV (k := 0) (As := [.int 0, .int a1, .int a2, .int a3, .int a4]) (rest := []) F (kX8_isDone (zl z) E hE a1 a2 a3 a4) mX8_isDone q578 rfl s0 rfl rfl rfl (Nat.le_of_ble_eq_true rfl) dX8_put_7 (fun r I2 J2 h => ?_)
  obtain ⟨rfl, rfl, rfl⟩ := h
  refine g_st (st' := [.int 0]) rfl ?_
  refine g_if_eq (tgt := 25) F dX8_put_10 (by decide) (fun _ => ?_) (fun h => absurd (by decide) h)
  refine g_iconst (v := (-1)) F dX8_put_25 (by decide) ?_
  exact g_iret F e dX8_put_26 rfl
set_option maxRecDepth 100000 in
set_option maxHeartbeats 4000000 in
theorem kX5_refusal_2 (l : Launch) (E : gE) (hE : gDist sh E) (a2 : Int32) (a3 : Int32) (a4 : Int32) (a5 : Int32) : Ct l sh E yX5_refusal cX5_refusal 7 (some .int) (gR 0) [.ref (E.2.1 3), .int 1, .int a2, .int a3, .int a4, .int a5] g0 h0 (fun r I1 J1 => r = some (.int 0) ∧ I1 = g0 ∧ J1 = h0) := by
  refine Ct.of "LeapJoin$Tables" rfl hE (by decide) (Nat.le_of_ble_eq_true rfl) (fun z F e hl => ?_)
  subst hl
  refine g_aload_n F 0 dX5_refusal_0 rfl rfl ?_
  refine g_geti (j := 0) (v := 0) F s3 rfl rfl uX5 (by decide) q48 rfl dX5_refusal_1 ?_
  refine g_if_ne (tgt := 9) F dX5_refusal_4 (by decide) (fun h => absurd (by decide) h) (fun _ => ?_)
  refine g_iconst (v := 0) F dX5_refusal_7 (by decide) ?_
  exact g_iret F e dX5_refusal_8 ⟨rfl, rfl, rfl⟩
set_option maxRecDepth 100000 in
set_option maxHeartbeats 4000000 in
theorem kX8_attempt_2 (l : Launch) (E : gE) (hE : gDist sh E) (a2 : Int32) (a3 : Int32) (a4 : Int32) (a5 : Int32) : Ct l sh E yX8_attempt cX8_attempt 8 (some .int) (gR 1) [.ref (E.2.1 0), .int 1, .int a2, .int a3, .int a4, .int a5] g0 h0 (fun r I1 J1 => r = some (.int 0) ∧ I1 = g0 ∧ J1 = h0) := by
  refine Ct.of "LeapJoin" rfl hE (by decide) (Nat.le_of_ble_eq_true rfl) (fun z F e hl => ?_)
  subst hl
  refine g_aload_n F 0 dX8_attempt_0 rfl rfl ?_
  refine g_getr (j := 1) (nn := 3) F s0 rfl rfl uX8 (by decide) q170 dX8_attempt_1 ?_
  refine g_iload_n F 1 dX8_attempt_4 rfl rfl ?_
  refine g_iload_n F 2 dX8_attempt_5 rfl rfl ?_
  refine g_iload_n F 3 dX8_attempt_6 rfl rfl ?_
  refine g_iload F 4 dX8_attempt_7 rfl ?_
  refine g_iload F 5 dX8_attempt_9 rfl ?_
  refine g_callV (k := 3) (As := [.int 1, .int a2, .int a3, .int a4, .int a5]) (rest := []) F (kX5_refusal_2 (zl z) E hE a2 a3 a4 a5) mX5_refusal q584 rfl s3 rfl rfl rfl (Nat.le_of_ble_eq_true rfl) dX8_attempt_11 (fun r I2 J2 h => ?_)
  obtain ⟨rfl, rfl, rfl⟩ := h
  refine g_st (st' := [.int 0]) rfl ?_
  refine g_istore (L' := [(6, .int 0), (0, .ref (E.2.1 0)), (1, .int 1), (2, .int a2), (3, .int a3), (4, .int a4), (5, .int a5)]) F dX8_attempt_14 (by decide) rfl ?_
  refine g_iload F 0 dX8_attempt_16 rfl ?_
  refine g_iconst (v := (-1)) F dX8_attempt_18 (by decide) ?_
  refine g_icmp_eq (tgt := 25) F dX8_attempt_19 (by decide) (fun h => absurd h (by decide)) (fun _ => ?_)
  refine g_iload F 0 dX8_attempt_22 rfl ?_
  exact g_iret F e dX8_attempt_24 ⟨rfl, rfl, rfl⟩
set_option maxRecDepth 100000 in
set_option maxHeartbeats 4000000 in
theorem kX8_isDone_2 (l : Launch) (E : gE) (hE : gDist sh E) (a2 : Int32) (a3 : Int32) (a4 : Int32) (a5 : Int32) : Ct l sh E yX8_isDone cX8_isDone 7 (some .boolean) (gR 2) [.ref (E.2.1 0), .int 1, .int a2, .int a3, .int a4, .int a5] g0 h0 (fun r I1 J1 => r = some (.int 0) ∧ I1 = (g_up g0 53 0 1) ∧ J1 = h0) := by
  refine Ct.of "LeapJoin" rfl hE (by decide) (Nat.le_of_ble_eq_true rfl) (fun z F e hl => ?_)
  subst hl
  refine g_aload_n F 0 dX8_isDone_0 rfl rfl ?_
  refine g_iload_n F 1 dX8_isDone_1 rfl rfl ?_
  refine g_iload_n F 2 dX8_isDone_2 rfl rfl ?_
  refine g_iload_n F 3 dX8_isDone_3 rfl rfl ?_
  refine g_iload F 4 dX8_isDone_4 rfl ?_
  refine g_iload F 5 dX8_isDone_6 rfl ?_
  refine g_callV (k := 0) (As := [.int 1, .int a2, .int a3, .int a4, .int a5]) (rest := []) F (kX8_attempt_2 (zl z) E hE a2 a3 a4 a5) mX8_attempt q581 rfl s0 rfl rfl rfl (Nat.le_of_ble_eq_true rfl) dX8_isDone_8 (fun r I2 J2 h => ?_)
  obtain ⟨rfl, rfl, rfl⟩ := h
  refine g_st (st' := [.int 0]) rfl ?_
  refine g_istore (L' := [(6, .int 0), (0, .ref (E.2.1 0)), (1, .int 1), (2, .int a2), (3, .int a3), (4, .int a4), (5, .int a5)]) F dX8_isDone_11 (by decide) rfl ?_
  refine g_iload F 0 dX8_isDone_13 rfl ?_
  refine g_if_lt (tgt := 35) F dX8_isDone_15 (by decide) (fun h => absurd h (by decide)) (fun _ => ?_)
  refine g_iload F 0 dX8_isDone_18 rfl ?_
  refine g_iconst (v := 4) F dX8_isDone_20 (by decide) ?_
  refine g_icmp_ge (tgt := 35) F dX8_isDone_21 (by decide) (fun h => absurd h (by decide)) (fun _ => ?_)
  refine g_aload_n F 1 dX8_isDone_24 rfl rfl ?_
  refine g_getr (j := 13) (nn := 53) F s0 rfl rfl uX8 (by decide) q182 dX8_isDone_25 ?_
  refine g_iload F 0 dX8_isDone_28 rfl ?_
  refine g_dup2 F dX8_isDone_30 rfl rfl ?_
  refine g_iald (v := 0) F 0 s53 (by decide) (by decide) (by decide) rfl dX8_isDone_31 ?_
  refine g_iconst (v := 1) F dX8_isDone_32 (by decide) ?_
  refine g_iadd (v := 1) F dX8_isDone_33 (by decide) ?_
  refine g_iast (v := 1) F 0 s53 (by decide) (by decide) (by decide) rfl dX8_isDone_34 ?_
  refine g_iload F 0 dX8_isDone_35 rfl ?_
  refine g_iconst (v := (-1)) F dX8_isDone_37 (by decide) ?_
  refine g_icmp_ne (tgt := 45) F dX8_isDone_38 (by decide) (fun _ => ?_) (fun h => absurd h (by decide))
  refine g_iconst (v := 0) F dX8_isDone_45 (by decide) ?_
  exact g_zret F rfl e dX8_isDone_46 ⟨rfl, rfl, rfl⟩
set_option maxRecDepth 100000 in
set_option maxHeartbeats 4000000 in
theorem kX8_take (l : Launch) (E : gE) (hE : gDist sh E) (a1 : Int32) (a2 : Int32) (a3 : Int32) (a4 : Int32) : Ct l sh E yX8_take cX8_take 5 (some .int) (gR 3) [.ref (E.2.1 0), .int a1, .int a2, .int a3, .int a4] g0 h0 (fun r _ _ => r = some (.int (-1))) := by
  refine Ct.of "LeapJoin" rfl hE (by decide) (Nat.le_of_ble_eq_true rfl) (fun z F e hl => ?_)
  subst hl
  refine g_aload_n F 0 dX8_take_0 rfl rfl ?_
  refine g_iconst (v := 1) F dX8_take_1 (by decide) ?_
  refine g_iload_n F 1 dX8_take_2 rfl rfl ?_
  refine g_iload_n F 2 dX8_take_3 rfl rfl ?_
  refine g_iload_n F 3 dX8_take_4 rfl rfl ?_
  refine g_iload F 4 dX8_take_5 rfl ?_
  refine g_callV (k := 0) (As := [.int 1, .int a1, .int a2, .int a3, .int a4]) (rest := []) F (kX8_isDone_2 (zl z) E hE a1 a2 a3 a4) mX8_isDone q578 rfl s0 rfl rfl rfl (Nat.le_of_ble_eq_true rfl) dX8_take_7 (fun r I2 J2 h => ?_)
  obtain ⟨rfl, rfl, rfl⟩ := h
  refine g_st (st' := [.int 0]) rfl ?_
  refine g_if_eq (tgt := 25) F dX8_take_10 (by decide) (fun _ => ?_) (fun h => absurd (by decide) h)
  refine g_iconst (v := (-1)) F dX8_take_25 (by decide) ?_
  exact g_iret F e dX8_take_26 rfl
set_option maxRecDepth 100000 in
set_option maxHeartbeats 4000000 in
theorem kX5_refusal_3 (l : Launch) (E : gE) (hE : gDist sh E) (a2 : Int32) : Ct l sh E yX5_refusal cX5_refusal 7 (some .int) (gR 0) [.ref (E.2.1 3), .int 2, .int a2, .int (-1), .int (-1), .int (-1)] g0 h0 (fun r I1 J1 => r = some (.int 0) ∧ I1 = g0 ∧ J1 = h0) := by
  refine Ct.of "LeapJoin$Tables" rfl hE (by decide) (Nat.le_of_ble_eq_true rfl) (fun z F e hl => ?_)
  subst hl
  refine g_aload_n F 0 dX5_refusal_0 rfl rfl ?_
  refine g_geti (j := 0) (v := 0) F s3 rfl rfl uX5 (by decide) q48 rfl dX5_refusal_1 ?_
  refine g_if_ne (tgt := 9) F dX5_refusal_4 (by decide) (fun h => absurd (by decide) h) (fun _ => ?_)
  refine g_iconst (v := 0) F dX5_refusal_7 (by decide) ?_
  exact g_iret F e dX5_refusal_8 ⟨rfl, rfl, rfl⟩
set_option maxRecDepth 100000 in
set_option maxHeartbeats 4000000 in
theorem kX8_attempt_3 (l : Launch) (E : gE) (hE : gDist sh E) (a2 : Int32) : Ct l sh E yX8_attempt cX8_attempt 8 (some .int) (gR 1) [.ref (E.2.1 0), .int 2, .int a2, .int (-1), .int (-1), .int (-1)] g0 h0 (fun r I1 J1 => r = some (.int 0) ∧ I1 = g0 ∧ J1 = h0) := by
  refine Ct.of "LeapJoin" rfl hE (by decide) (Nat.le_of_ble_eq_true rfl) (fun z F e hl => ?_)
  subst hl
  refine g_aload_n F 0 dX8_attempt_0 rfl rfl ?_
  refine g_getr (j := 1) (nn := 3) F s0 rfl rfl uX8 (by decide) q170 dX8_attempt_1 ?_
  refine g_iload_n F 1 dX8_attempt_4 rfl rfl ?_
  refine g_iload_n F 2 dX8_attempt_5 rfl rfl ?_
  refine g_iload_n F 3 dX8_attempt_6 rfl rfl ?_
  refine g_iload F 4 dX8_attempt_7 rfl ?_
  refine g_iload F 5 dX8_attempt_9 rfl ?_
  refine g_callV (k := 3) (As := [.int 2, .int a2, .int (-1), .int (-1), .int (-1)]) (rest := []) F (kX5_refusal_3 (zl z) E hE a2) mX5_refusal q584 rfl s3 rfl rfl rfl (Nat.le_of_ble_eq_true rfl) dX8_attempt_11 (fun r I2 J2 h => ?_)
  obtain ⟨rfl, rfl, rfl⟩ := h
  refine g_st (st' := [.int 0]) rfl ?_
  refine g_istore (L' := [(6, .int 0), (0, .ref (E.2.1 0)), (1, .int 2), (2, .int a2), (3, .int (-1)), (4, .int (-1)), (5, .int (-1))]) F dX8_attempt_14 (by decide) rfl ?_
  refine g_iload F 0 dX8_attempt_16 rfl ?_
  refine g_iconst (v := (-1)) F dX8_attempt_18 (by decide) ?_
  refine g_icmp_eq (tgt := 25) F dX8_attempt_19 (by decide) (fun h => absurd h (by decide)) (fun _ => ?_)
  refine g_iload F 0 dX8_attempt_22 rfl ?_
  exact g_iret F e dX8_attempt_24 ⟨rfl, rfl, rfl⟩
set_option maxRecDepth 100000 in
set_option maxHeartbeats 4000000 in
theorem kX8_isDone_3 (l : Launch) (E : gE) (hE : gDist sh E) (a2 : Int32) : Ct l sh E yX8_isDone cX8_isDone 7 (some .boolean) (gR 2) [.ref (E.2.1 0), .int 2, .int a2, .int (-1), .int (-1), .int (-1)] g0 h0 (fun r I1 J1 => r = some (.int 0) ∧ I1 = (g_up g0 53 0 1) ∧ J1 = h0) := by
  refine Ct.of "LeapJoin" rfl hE (by decide) (Nat.le_of_ble_eq_true rfl) (fun z F e hl => ?_)
  subst hl
  refine g_aload_n F 0 dX8_isDone_0 rfl rfl ?_
  refine g_iload_n F 1 dX8_isDone_1 rfl rfl ?_
  refine g_iload_n F 2 dX8_isDone_2 rfl rfl ?_
  refine g_iload_n F 3 dX8_isDone_3 rfl rfl ?_
  refine g_iload F 4 dX8_isDone_4 rfl ?_
  refine g_iload F 5 dX8_isDone_6 rfl ?_
  refine g_callV (k := 0) (As := [.int 2, .int a2, .int (-1), .int (-1), .int (-1)]) (rest := []) F (kX8_attempt_3 (zl z) E hE a2) mX8_attempt q581 rfl s0 rfl rfl rfl (Nat.le_of_ble_eq_true rfl) dX8_isDone_8 (fun r I2 J2 h => ?_)
  obtain ⟨rfl, rfl, rfl⟩ := h
  refine g_st (st' := [.int 0]) rfl ?_
  refine g_istore (L' := [(6, .int 0), (0, .ref (E.2.1 0)), (1, .int 2), (2, .int a2), (3, .int (-1)), (4, .int (-1)), (5, .int (-1))]) F dX8_isDone_11 (by decide) rfl ?_
  refine g_iload F 0 dX8_isDone_13 rfl ?_
  refine g_if_lt (tgt := 35) F dX8_isDone_15 (by decide) (fun h => absurd h (by decide)) (fun _ => ?_)
  refine g_iload F 0 dX8_isDone_18 rfl ?_
  refine g_iconst (v := 4) F dX8_isDone_20 (by decide) ?_
  refine g_icmp_ge (tgt := 35) F dX8_isDone_21 (by decide) (fun h => absurd h (by decide)) (fun _ => ?_)
  refine g_aload_n F 1 dX8_isDone_24 rfl rfl ?_
  refine g_getr (j := 13) (nn := 53) F s0 rfl rfl uX8 (by decide) q182 dX8_isDone_25 ?_
  refine g_iload F 0 dX8_isDone_28 rfl ?_
  refine g_dup2 F dX8_isDone_30 rfl rfl ?_
  refine g_iald (v := 0) F 0 s53 (by decide) (by decide) (by decide) rfl dX8_isDone_31 ?_
  refine g_iconst (v := 1) F dX8_isDone_32 (by decide) ?_
  refine g_iadd (v := 1) F dX8_isDone_33 (by decide) ?_
  refine g_iast (v := 1) F 0 s53 (by decide) (by decide) (by decide) rfl dX8_isDone_34 ?_
  refine g_iload F 0 dX8_isDone_35 rfl ?_
  refine g_iconst (v := (-1)) F dX8_isDone_37 (by decide) ?_
  refine g_icmp_ne (tgt := 45) F dX8_isDone_38 (by decide) (fun _ => ?_) (fun h => absurd h (by decide))
  refine g_iconst (v := 0) F dX8_isDone_45 (by decide) ?_
  exact g_zret F rfl e dX8_isDone_46 ⟨rfl, rfl, rfl⟩
set_option maxRecDepth 100000 in
set_option maxHeartbeats 4000000 in
theorem kX8_use (l : Launch) (E : gE) (hE : gDist sh E) (a1 : Int32) : Ct l sh E yX8_use cX8_use 2 (some .int) (gR 3) [.ref (E.2.1 0), .int a1] g0 h0 (fun r _ _ => r = some (.int (-1))) := by
  refine Ct.of "LeapJoin" rfl hE (by decide) (Nat.le_of_ble_eq_true rfl) (fun z F e hl => ?_)
  subst hl
  refine g_aload_n F 0 dX8_use_0 rfl rfl ?_
  refine g_iconst (v := 2) F dX8_use_1 (by decide) ?_
  refine g_iload_n F 1 dX8_use_2 rfl rfl ?_
  refine g_iconst (v := (-1)) F dX8_use_3 (by decide) ?_
  refine g_iconst (v := (-1)) F dX8_use_4 (by decide) ?_
  refine g_iconst (v := (-1)) F dX8_use_5 (by decide) ?_
  refine g_callV (k := 0) (As := [.int 2, .int a1, .int (-1), .int (-1), .int (-1)]) (rest := []) F (kX8_isDone_3 (zl z) E hE a1) mX8_isDone q578 rfl s0 rfl rfl rfl (Nat.le_of_ble_eq_true rfl) dX8_use_6 (fun r I2 J2 h => ?_)
  obtain ⟨rfl, rfl, rfl⟩ := h
  refine g_st (st' := [.int 0]) rfl ?_
  refine g_if_ne (tgt := 14) F dX8_use_9 (by decide) (fun h => absurd (by decide) h) (fun _ => ?_)
  refine g_iconst (v := (-1)) F dX8_use_12 (by decide) ?_
  exact g_iret F e dX8_use_13 rfl
set_option maxRecDepth 100000 in
set_option maxHeartbeats 4000000 in
theorem kX5_refusal_4 (l : Launch) (E : gE) (hE : gDist sh E) (a2 : Int32) : Ct l sh E yX5_refusal cX5_refusal 7 (some .int) (gR 0) [.ref (E.2.1 3), .int 3, .int a2, .int (-1), .int (-1), .int (-1)] g0 h0 (fun r I1 J1 => r = some (.int 0) ∧ I1 = g0 ∧ J1 = h0) := by
  refine Ct.of "LeapJoin$Tables" rfl hE (by decide) (Nat.le_of_ble_eq_true rfl) (fun z F e hl => ?_)
  subst hl
  refine g_aload_n F 0 dX5_refusal_0 rfl rfl ?_
  refine g_geti (j := 0) (v := 0) F s3 rfl rfl uX5 (by decide) q48 rfl dX5_refusal_1 ?_
  refine g_if_ne (tgt := 9) F dX5_refusal_4 (by decide) (fun h => absurd (by decide) h) (fun _ => ?_)
  refine g_iconst (v := 0) F dX5_refusal_7 (by decide) ?_
  exact g_iret F e dX5_refusal_8 ⟨rfl, rfl, rfl⟩
set_option maxRecDepth 100000 in
set_option maxHeartbeats 4000000 in
theorem kX8_attempt_4 (l : Launch) (E : gE) (hE : gDist sh E) (a2 : Int32) : Ct l sh E yX8_attempt cX8_attempt 8 (some .int) (gR 1) [.ref (E.2.1 0), .int 3, .int a2, .int (-1), .int (-1), .int (-1)] g0 h0 (fun r I1 J1 => r = some (.int 0) ∧ I1 = g0 ∧ J1 = h0) := by
  refine Ct.of "LeapJoin" rfl hE (by decide) (Nat.le_of_ble_eq_true rfl) (fun z F e hl => ?_)
  subst hl
  refine g_aload_n F 0 dX8_attempt_0 rfl rfl ?_
  refine g_getr (j := 1) (nn := 3) F s0 rfl rfl uX8 (by decide) q170 dX8_attempt_1 ?_
  refine g_iload_n F 1 dX8_attempt_4 rfl rfl ?_
  refine g_iload_n F 2 dX8_attempt_5 rfl rfl ?_
  refine g_iload_n F 3 dX8_attempt_6 rfl rfl ?_
  refine g_iload F 4 dX8_attempt_7 rfl ?_
  refine g_iload F 5 dX8_attempt_9 rfl ?_
  refine g_callV (k := 3) (As := [.int 3, .int a2, .int (-1), .int (-1), .int (-1)]) (rest := []) F (kX5_refusal_4 (zl z) E hE a2) mX5_refusal q584 rfl s3 rfl rfl rfl (Nat.le_of_ble_eq_true rfl) dX8_attempt_11 (fun r I2 J2 h => ?_)
  obtain ⟨rfl, rfl, rfl⟩ := h
  refine g_st (st' := [.int 0]) rfl ?_
  refine g_istore (L' := [(6, .int 0), (0, .ref (E.2.1 0)), (1, .int 3), (2, .int a2), (3, .int (-1)), (4, .int (-1)), (5, .int (-1))]) F dX8_attempt_14 (by decide) rfl ?_
  refine g_iload F 0 dX8_attempt_16 rfl ?_
  refine g_iconst (v := (-1)) F dX8_attempt_18 (by decide) ?_
  refine g_icmp_eq (tgt := 25) F dX8_attempt_19 (by decide) (fun h => absurd h (by decide)) (fun _ => ?_)
  refine g_iload F 0 dX8_attempt_22 rfl ?_
  exact g_iret F e dX8_attempt_24 ⟨rfl, rfl, rfl⟩
set_option maxRecDepth 100000 in
set_option maxHeartbeats 4000000 in
theorem kX8_isDone_4 (l : Launch) (E : gE) (hE : gDist sh E) (a2 : Int32) : Ct l sh E yX8_isDone cX8_isDone 7 (some .boolean) (gR 2) [.ref (E.2.1 0), .int 3, .int a2, .int (-1), .int (-1), .int (-1)] g0 h0 (fun r I1 J1 => r = some (.int 0) ∧ I1 = (g_up g0 53 0 1) ∧ J1 = h0) := by
  refine Ct.of "LeapJoin" rfl hE (by decide) (Nat.le_of_ble_eq_true rfl) (fun z F e hl => ?_)
  subst hl
  refine g_aload_n F 0 dX8_isDone_0 rfl rfl ?_
  refine g_iload_n F 1 dX8_isDone_1 rfl rfl ?_
  refine g_iload_n F 2 dX8_isDone_2 rfl rfl ?_
  refine g_iload_n F 3 dX8_isDone_3 rfl rfl ?_
  refine g_iload F 4 dX8_isDone_4 rfl ?_
  refine g_iload F 5 dX8_isDone_6 rfl ?_
  refine g_callV (k := 0) (As := [.int 3, .int a2, .int (-1), .int (-1), .int (-1)]) (rest := []) F (kX8_attempt_4 (zl z) E hE a2) mX8_attempt q581 rfl s0 rfl rfl rfl (Nat.le_of_ble_eq_true rfl) dX8_isDone_8 (fun r I2 J2 h => ?_)
  obtain ⟨rfl, rfl, rfl⟩ := h
  refine g_st (st' := [.int 0]) rfl ?_
  refine g_istore (L' := [(6, .int 0), (0, .ref (E.2.1 0)), (1, .int 3), (2, .int a2), (3, .int (-1)), (4, .int (-1)), (5, .int (-1))]) F dX8_isDone_11 (by decide) rfl ?_
  refine g_iload F 0 dX8_isDone_13 rfl ?_
  refine g_if_lt (tgt := 35) F dX8_isDone_15 (by decide) (fun h => absurd h (by decide)) (fun _ => ?_)
  refine g_iload F 0 dX8_isDone_18 rfl ?_
  refine g_iconst (v := 4) F dX8_isDone_20 (by decide) ?_
  refine g_icmp_ge (tgt := 35) F dX8_isDone_21 (by decide) (fun h => absurd h (by decide)) (fun _ => ?_)
  refine g_aload_n F 1 dX8_isDone_24 rfl rfl ?_
  refine g_getr (j := 13) (nn := 53) F s0 rfl rfl uX8 (by decide) q182 dX8_isDone_25 ?_
  refine g_iload F 0 dX8_isDone_28 rfl ?_
  refine g_dup2 F dX8_isDone_30 rfl rfl ?_
  refine g_iald (v := 0) F 0 s53 (by decide) (by decide) (by decide) rfl dX8_isDone_31 ?_
  refine g_iconst (v := 1) F dX8_isDone_32 (by decide) ?_
  refine g_iadd (v := 1) F dX8_isDone_33 (by decide) ?_
  refine g_iast (v := 1) F 0 s53 (by decide) (by decide) (by decide) rfl dX8_isDone_34 ?_
  refine g_iload F 0 dX8_isDone_35 rfl ?_
  refine g_iconst (v := (-1)) F dX8_isDone_37 (by decide) ?_
  refine g_icmp_ne (tgt := 45) F dX8_isDone_38 (by decide) (fun _ => ?_) (fun h => absurd h (by decide))
  refine g_iconst (v := 0) F dX8_isDone_45 (by decide) ?_
  exact g_zret F rfl e dX8_isDone_46 ⟨rfl, rfl, rfl⟩
set_option maxRecDepth 100000 in
set_option maxHeartbeats 4000000 in
theorem kX8_order (l : Launch) (E : gE) (hE : gDist sh E) (a1 : Int32) : Ct l sh E yX8_order cX8_order 3 (some .int) (gR 3) [.ref (E.2.1 0), .int a1] g0 h0 (fun r _ _ => r = some (.int (-1))) := by
  refine Ct.of "LeapJoin" rfl hE (by decide) (Nat.le_of_ble_eq_true rfl) (fun z F e hl => ?_)
  subst hl
  refine g_aload_n F 0 dX8_order_0 rfl rfl ?_
  refine g_getr (j := 1) (nn := 3) F s0 rfl rfl uX8 (by decide) q170 dX8_order_1 ?_
  refine g_geti (j := 2) (v := 0) F s3 rfl rfl uX5 (by decide) q54 rfl dX8_order_4 ?_
  refine g_istore_n (L' := [(2, .int 0), (0, .ref (E.2.1 0)), (1, .int a1)]) F dX8_order_7 rfl (by decide) rfl ?_
  refine g_aload_n F 1 dX8_order_8 rfl rfl ?_
  refine g_iconst (v := 3) F dX8_order_9 (by decide) ?_
  refine g_iload_n F 2 dX8_order_10 rfl rfl ?_
  refine g_iconst (v := (-1)) F dX8_order_11 (by decide) ?_
  refine g_iconst (v := (-1)) F dX8_order_12 (by decide) ?_
  refine g_iconst (v := (-1)) F dX8_order_13 (by decide) ?_
  refine g_callV (k := 0) (As := [.int 3, .int a1, .int (-1), .int (-1), .int (-1)]) (rest := []) F (kX8_isDone_4 (zl z) E hE a1) mX8_isDone q578 rfl s0 rfl rfl rfl (Nat.le_of_ble_eq_true rfl) dX8_order_14 (fun r I2 J2 h => ?_)
  obtain ⟨rfl, rfl, rfl⟩ := h
  refine g_st (st' := [.int 0]) rfl ?_
  refine g_if_eq (tgt := 24) F dX8_order_17 (by decide) (fun _ => ?_) (fun h => absurd (by decide) h)
  refine g_iconst (v := (-1)) F dX8_order_24 (by decide) ?_
  exact g_iret F e dX8_order_25 rfl
set_option maxRecDepth 100000 in
set_option maxHeartbeats 4000000 in
theorem kX8_ways (l : Launch) (E : gE) (hE : gDist sh E) (a1 : Int32) (a2 : Int64) : Ct l sh E yX8_ways cX8_ways 5 (some .int) (gR 0) [.ref (E.2.1 0), .int a1, .long a2] g0 h0 (fun r _ _ => r = some (.int (-1))) := by
  refine Ct.of "LeapJoin" rfl hE (by decide) (Nat.le_of_ble_eq_true rfl) (fun z F e hl => ?_)
  subst hl
  refine g_aload_n F 0 dX8_ways_0 rfl rfl ?_
  refine g_getr (j := 1) (nn := 3) F s0 rfl rfl uX8 (by decide) q170 dX8_ways_1 ?_
  refine g_geti (j := 0) (v := 0) F s3 rfl rfl uX5 (by decide) q49 rfl dX8_ways_4 ?_
  refine g_if_eq (tgt := 21) F dX8_ways_7 (by decide) (fun _ => ?_) (fun h => absurd (by decide) h)
  refine g_iconst (v := (-1)) F dX8_ways_21 (by decide) ?_
  exact g_iret F e dX8_ways_22 rfl
set_option maxRecDepth 100000 in
set_option maxHeartbeats 4000000 in
theorem kX8_status (l : Launch) (E : gE) (hE : gDist sh E) (a1 : Int32) : Ct l sh E yX8_status cX8_status 2 (some .int) (gR 0) [.ref (E.2.1 0), .int a1] g0 h0 (fun r _ _ => r = some (.int (if 0 ≤ a1 ∧ a1 < 4 then 0 else (-1)))) := by
  refine Ct.of "LeapJoin" rfl hE (by decide) (Nat.le_of_ble_eq_true rfl) (fun z F e hl => ?_)
  subst hl
  refine g_iload_n F 1 dX8_status_0 rfl rfl ?_
  refine g_if_lt (tgt := 18) F dX8_status_1 (by decide) (fun c1 => ?_) (fun c1f => ?_)
  · refine g_iconst (v := (-1)) F dX8_status_18 (by decide) ?_
    exact g_iret F e dX8_status_19 (congrArg (fun x => some (Value.int x)) (if_neg (by simp only [g_lt, g_le, g_eq, g_l0, g_l1, g_l2, g_l3, g_l4, g_l5, g_lm1, g_l400, g_l40, g_l15] at c1 ⊢; omega)).symm)
  · refine g_iload_n F 1 dX8_status_4 rfl rfl ?_
    refine g_iconst (v := 4) F dX8_status_5 (by decide) ?_
    refine g_icmp_ge (tgt := 18) F dX8_status_6 (by decide) (fun c2 => ?_) (fun c2f => ?_)
    · refine g_iconst (v := (-1)) F dX8_status_18 (by decide) ?_
      exact g_iret F e dX8_status_19 (congrArg (fun x => some (Value.int x)) (if_neg (by simp only [g_lt, g_le, g_eq, g_l0, g_l1, g_l2, g_l3, g_l4, g_l5, g_lm1, g_l400, g_l40, g_l15] at c1f c2 ⊢; omega)).symm)
    · refine g_aload_n F 0 dX8_status_9 rfl rfl ?_
      refine g_getr (j := 13) (nn := 53) F s0 rfl rfl uX8 (by decide) q182 dX8_status_10 ?_
      refine g_iload_n F 1 dX8_status_13 rfl rfl ?_
      refine g_ialdX (v := 0) F s53 (vp_in_iff.mpr (by simp only [g_lt, g_le, g_eq, g_l0, g_l1, g_l2, g_l3, g_l4, g_l5, g_lm1, g_l400, g_l40, g_l15] at c1f c2f; omega)) (by decide) rfl dX8_status_14 ?_
      refine g_goto (tgt := 19) F dX8_status_15 (by decide) ?_
      exact g_iret F e dX8_status_19 (congrArg (fun x => some (Value.int x)) (if_pos (by simp only [g_lt, g_le, g_eq, g_l0, g_l1, g_l2, g_l3, g_l4, g_l5, g_lm1, g_l400, g_l40, g_l15] at c1f c2f ⊢; omega)).symm)
set_option maxRecDepth 100000 in
set_option maxHeartbeats 4000000 in
theorem kX8_undo (l : Launch) (E : gE) (hE : gDist sh E) : Ct l sh E yX8_undo cX8_undo 1 (some .int) (gR 0) [.ref (E.2.1 0)] g0 h0 (fun r _ _ => r = some (.int (-1))) := by
  refine Ct.of "LeapJoin" rfl hE (by decide) (Nat.le_of_ble_eq_true rfl) (fun z F e hl => ?_)
  subst hl
  refine g_aload_n F 0 dX8_undo_0 rfl rfl ?_
  refine g_getr (j := 10) (nn := 48) F s0 rfl rfl uX8 (by decide) q179 dX8_undo_1 ?_
  refine g_geti (j := 0) (v := 0) F s48 rfl rfl uX3 (by decide) q153 rfl dX8_undo_4 ?_
  refine g_if_ne (tgt := 12) F dX8_undo_7 (by decide) (fun h => absurd (by decide) h) (fun _ => ?_)
  refine g_iconst (v := (-1)) F dX8_undo_10 (by decide) ?_
  exact g_iret F e dX8_undo_11 rfl
set_option maxRecDepth 100000 in
set_option maxHeartbeats 4000000 in
theorem kX2_shown (l : Launch) (E : gE) (hE : gDist sh E) : Ct l sh E yX2_shown cX2_shown 1 (some .int) (gR 1) [.ref (E.2.1 44)] g0 h0 (fun r I1 J1 => r = some (.int 0) ∧ I1 = g0 ∧ J1 = h0) := by
  refine Ct.of "LeapJoin$Log" rfl hE (by decide) (Nat.le_of_ble_eq_true rfl) (fun z F e hl => ?_)
  subst hl
  refine g_aload_n F 0 dX2_shown_0 rfl rfl ?_
  refine g_geti (j := 2) (v := 0) F s44 rfl rfl uX2 (by decide) q143 rfl dX2_shown_1 ?_
  refine g_bipush (v := 60) F dX2_shown_4 (by decide) ?_
  refine g_mmin (v := 0) F q615 (by decide) (Nat.le_of_ble_eq_true rfl) (Nat.le_of_ble_eq_true rfl) (Nat.le_of_ble_eq_true rfl) dX2_shown_6 ?_
  exact g_iret F e dX2_shown_9 ⟨rfl, rfl, rfl⟩
set_option maxRecDepth 100000 in
set_option maxHeartbeats 4000000 in
theorem kX8_log (l : Launch) (E : gE) (hE : gDist sh E) (a1 : Int32) (a2 : Int32) : Ct l sh E yX8_log cX8_log 3 (some .int) (gR 2) [.ref (E.2.1 0), .int a1, .int a2] g0 h0 (fun r _ _ => r = some (.int (-1000000))) := by
  refine Ct.of "LeapJoin" rfl hE (by decide) (Nat.le_of_ble_eq_true rfl) (fun z F e hl => ?_)
  subst hl
  refine g_iload_n F 1 dX8_log_0 rfl rfl ?_
  refine g_if_lt (tgt := 24) F dX8_log_1 (by decide) (fun c1 => ?_) (fun c1f => ?_)
  · refine g_ldc_w F dX8_log_24 q555 ?_
    exact g_iret F e dX8_log_27 rfl
  · refine g_iload_n F 1 dX8_log_4 rfl rfl ?_
    refine g_aload_n F 0 dX8_log_5 rfl rfl ?_
    refine g_getr (j := 8) (nn := 44) F s0 rfl rfl uX8 (by decide) q177 dX8_log_6 ?_
    refine g_callV (k := 44) (As := []) (rest := [.int a1]) F (kX2_shown (zl z) E hE) mX2_shown q678 rfl s44 rfl rfl rfl (Nat.le_of_ble_eq_true rfl) dX8_log_9 (fun r I2 J2 h => ?_)
    obtain ⟨rfl, rfl, rfl⟩ := h
    refine g_st (st' := [.int 0, .int a1]) rfl ?_
    refine g_icmp_ge (tgt := 24) F dX8_log_12 (by decide) (fun _ => ?_) (fun c2 => by exfalso; simp only [g_lt, g_le, g_eq, g_l0, g_l1, g_l2, g_l3, g_l4, g_l5, g_lm1, g_l400, g_l40, g_l15] at c2 c1f; omega)
    refine g_ldc_w F dX8_log_24 q555 ?_
    exact g_iret F e dX8_log_27 rfl
set_option maxRecDepth 100000 in
set_option maxHeartbeats 4000000 in
theorem kX8_would (l : Launch) (E : gE) (hE : gDist sh E) (a1 : Int32) (a2 : Int32) (a3 : Int32) (a4 : Int32) (a5 : Int32) : Ct l sh E yX8_would cX8_would 6 (some .int) (gR 1) [.ref (E.2.1 0), .int a1, .int a2, .int a3, .int a4, .int a5] g0 h0 (fun r _ _ => r = some (.int (-1))) := by
  refine Ct.of "LeapJoin" rfl hE (by decide) (Nat.le_of_ble_eq_true rfl) (fun z F e hl => ?_)
  subst hl
  refine g_iload F 5 dX8_would_0 rfl ?_
  refine g_if_lt (tgt := 28) F dX8_would_2 (by decide) (fun c1 => ?_) (fun c1f => ?_)
  · refine g_iconst (v := (-1)) F dX8_would_28 (by decide) ?_
    exact g_iret F e dX8_would_29 rfl
  · refine g_iload F 5 dX8_would_5 rfl ?_
    refine g_iconst (v := 1) F dX8_would_7 (by decide) ?_
    refine g_icmp_gt (tgt := 28) F dX8_would_8 (by decide) (fun c2 => ?_) (fun c2f => ?_)
    · refine g_iconst (v := (-1)) F dX8_would_28 (by decide) ?_
      exact g_iret F e dX8_would_29 rfl
    · refine g_aload_n F 0 dX8_would_11 rfl rfl ?_
      refine g_getr (j := 1) (nn := 3) F s0 rfl rfl uX8 (by decide) q170 dX8_would_12 ?_
      refine g_iconst (v := 0) F dX8_would_15 (by decide) ?_
      refine g_iload_n F 1 dX8_would_16 rfl rfl ?_
      refine g_iload_n F 2 dX8_would_17 rfl rfl ?_
      refine g_iload_n F 3 dX8_would_18 rfl rfl ?_
      refine g_iload F 4 dX8_would_19 rfl ?_
      refine g_callV (k := 3) (As := [.int 0, .int a1, .int a2, .int a3, .int a4]) (rest := []) F (kX5_refusal (zl z) E hE a1 a2 a3 a4) mX5_refusal q584 rfl s3 rfl rfl rfl (Nat.le_of_ble_eq_true rfl) dX8_would_21 (fun r I2 J2 h => ?_)
      obtain ⟨rfl, rfl, rfl⟩ := h
      refine g_st (st' := [.int 0]) rfl ?_
      refine g_iconst (v := (-1)) F dX8_would_24 (by decide) ?_
      refine g_icmp_eq (tgt := 30) F dX8_would_25 (by decide) (fun h => absurd h (by decide)) (fun _ => ?_)
      refine g_iconst (v := (-1)) F dX8_would_28 (by decide) ?_
      exact g_iret F e dX8_would_29 rfl
set_option maxRecDepth 100000 in
set_option maxHeartbeats 4000000 in
theorem kX8_isScript (l : Launch) (E : gE) (hE : gDist sh E) (a1 : Int32) : Ct l sh E yX8_isScript cX8_isScript 2 (some .boolean) (gR 0) [.ref (E.2.1 0), .int a1] g0 h0 (fun r I1 J1 => r = some (.int 0) ∧ I1 = g0 ∧ J1 = h0) := by
  refine Ct.of "LeapJoin" rfl hE (by decide) (Nat.le_of_ble_eq_true rfl) (fun z F e hl => ?_)
  subst hl
  refine g_iload_n F 1 dX8_isScript_0 rfl rfl ?_
  refine g_if_lt (tgt := 21) F dX8_isScript_1 (by decide) (fun c1 => ?_) (fun c1f => ?_)
  · refine g_iconst (v := 0) F dX8_isScript_21 (by decide) ?_
    exact g_zret F rfl e dX8_isScript_22 ⟨rfl, rfl, rfl⟩
  · refine g_iload_n F 1 dX8_isScript_4 rfl rfl ?_
    refine g_aload_n F 0 dX8_isScript_5 rfl rfl ?_
    refine g_geti (j := 14) (v := 0) F s0 rfl rfl uX8 (by decide) q183 rfl dX8_isScript_6 ?_
    refine g_icmp_ge (tgt := 21) F dX8_isScript_9 (by decide) (fun _ => ?_) (fun c2 => by exfalso; simp only [g_lt, g_le, g_eq, g_l0, g_l1, g_l2, g_l3, g_l4, g_l5, g_lm1, g_l400, g_l40, g_l15] at c2 c1f; omega)
    refine g_iconst (v := 0) F dX8_isScript_21 (by decide) ?_
    exact g_zret F rfl e dX8_isScript_22 ⟨rfl, rfl, rfl⟩
set_option maxRecDepth 100000 in
set_option maxHeartbeats 4000000 in
theorem kX8_step (l : Launch) (E : gE) (hE : gDist sh E) (a1 : Int32) (a2 : Int32) (a3 : Int32) : Ct l sh E yX8_step cX8_step 4 (some .int) (gR 1) [.ref (E.2.1 0), .int a1, .int a2, .int a3] g0 h0 (fun r _ _ => r = some (.int (-1000000))) := by
  refine Ct.of "LeapJoin" rfl hE (by decide) (Nat.le_of_ble_eq_true rfl) (fun z F e hl => ?_)
  subst hl
  refine g_aload_n F 0 dX8_step_0 rfl rfl ?_
  refine g_iload_n F 1 dX8_step_1 rfl rfl ?_
  refine g_callV (k := 0) (As := [.int a1]) (rest := []) F (kX8_isScript (zl z) E hE a1) mX8_isScript q694 rfl s0 rfl rfl rfl (Nat.le_of_ble_eq_true rfl) dX8_step_2 (fun r I2 J2 h => ?_)
  obtain ⟨rfl, rfl, rfl⟩ := h
  refine g_st (st' := [.int 0]) rfl ?_
  refine g_if_eq (tgt := 34) F dX8_step_5 (by decide) (fun _ => ?_) (fun h => absurd (by decide) h)
  refine g_ldc_w F dX8_step_34 q555 ?_
  exact g_iret F e dX8_step_37 rfl
set_option maxRecDepth 100000 in
set_option maxHeartbeats 4000000 in
theorem kX8_run (l : Launch) (E : gE) (hE : gDist sh E) (a1 : Int32) (a2 : Int32) : Ct l sh E yX8_run cX8_run 4 (some .int) (gR 1) [.ref (E.2.1 0), .int a1, .int a2] g0 h0 (fun r _ _ => r = some (.int (-1000000))) := by
  refine Ct.of "LeapJoin" rfl hE (by decide) (Nat.le_of_ble_eq_true rfl) (fun z F e hl => ?_)
  subst hl
  refine g_aload_n F 0 dX8_run_0 rfl rfl ?_
  refine g_iload_n F 1 dX8_run_1 rfl rfl ?_
  refine g_callV (k := 0) (As := [.int a1]) (rest := []) F (kX8_isScript (zl z) E hE a1) mX8_isScript q694 rfl s0 rfl rfl rfl (Nat.le_of_ble_eq_true rfl) dX8_run_2 (fun r I2 J2 h => ?_)
  obtain ⟨rfl, rfl, rfl⟩ := h
  refine g_st (st' := [.int 0]) rfl ?_
  refine g_if_eq (tgt := 27) F dX8_run_5 (by decide) (fun _ => ?_) (fun h => absurd (by decide) h)
  refine g_ldc_w F dX8_run_27 q555 ?_
  exact g_iret F e dX8_run_30 rfl
set_option maxRecDepth 100000 in
set_option maxHeartbeats 4000000 in
theorem kX8_perform (l : Launch) (E : gE) (hE : gDist sh E) (a1 : Int32) : Ct l sh E yX8_perform cX8_perform 5 (some .int) (gR 1) [.ref (E.2.1 0), .int a1] g0 h0 (fun r _ _ => r = some (.int (-1))) := by
  refine Ct.of "LeapJoin" rfl hE (by decide) (Nat.le_of_ble_eq_true rfl) (fun z F e hl => ?_)
  subst hl
  refine g_aload_n F 0 dX8_perform_0 rfl rfl ?_
  refine g_iload_n F 1 dX8_perform_1 rfl rfl ?_
  refine g_callV (k := 0) (As := [.int a1]) (rest := []) F (kX8_isScript (zl z) E hE a1) mX8_isScript q694 rfl s0 rfl rfl rfl (Nat.le_of_ble_eq_true rfl) dX8_perform_2 (fun r I2 J2 h => ?_)
  obtain ⟨rfl, rfl, rfl⟩ := h
  refine g_st (st' := [.int 0]) rfl ?_
  refine g_if_eq (tgt := 18) F dX8_perform_5 (by decide) (fun _ => ?_) (fun h => absurd (by decide) h)
  refine g_iconst (v := (-1)) F dX8_perform_18 (by decide) ?_
  exact g_iret F e dX8_perform_19 rfl
set_option maxRecDepth 100000 in
set_option maxHeartbeats 4000000 in
theorem kX8_most (l : Launch) (E : gE) (hE : gDist sh E) (a1 : Int32) : Ct l sh E yX8_most cX8_most 2 (some .int) (gR 0) [.ref (E.2.1 0), .int a1] g0 h0 (fun r _ _ => r = some (.int (-1000000))) := by
  refine Ct.of "LeapJoin" rfl hE (by decide) (Nat.le_of_ble_eq_true rfl) (fun z F e hl => ?_)
  subst hl
  refine g_aload_n F 0 dX8_most_0 rfl rfl ?_
  refine g_getr (j := 1) (nn := 3) F s0 rfl rfl uX8 (by decide) q170 dX8_most_1 ?_
  refine g_geti (j := 0) (v := 0) F s3 rfl rfl uX5 (by decide) q49 rfl dX8_most_4 ?_
  refine g_if_ne (tgt := 14) F dX8_most_7 (by decide) (fun h => absurd (by decide) h) (fun _ => ?_)
  refine g_ldc_w F dX8_most_10 q555 ?_
  exact g_iret F e dX8_most_13 rfl
set_option maxRecDepth 100000 in
set_option maxHeartbeats 4000000 in
theorem kX8_image (l : Launch) (E : gE) (hE : gDist sh E) : Ct l sh E yX8_image cX8_image 1 (some .int) (gR 0) [.ref (E.2.1 0)] g0 h0 (fun r _ _ => r = some (.int (-1))) := by
  refine Ct.of "LeapJoin" rfl hE (by decide) (Nat.le_of_ble_eq_true rfl) (fun z F e hl => ?_)
  subst hl
  refine g_aload_n F 0 dX8_image_0 rfl rfl ?_
  refine g_getr (j := 1) (nn := 3) F s0 rfl rfl uX8 (by decide) q170 dX8_image_1 ?_
  refine g_geti (j := 0) (v := 0) F s3 rfl rfl uX5 (by decide) q49 rfl dX8_image_4 ?_
  refine g_if_ne (tgt := 12) F dX8_image_7 (by decide) (fun h => absurd (by decide) h) (fun _ => ?_)
  refine g_iconst (v := (-1)) F dX8_image_10 (by decide) ?_
  exact g_iret F e dX8_image_11 rfl
set_option maxRecDepth 100000 in
set_option maxHeartbeats 4000000 in
theorem kX8_back (l : Launch) (E : gE) (hE : gDist sh E) : Ct l sh E yX8_back cX8_back 1 (some .int) (gR 0) [.ref (E.2.1 0)] g0 h0 (fun r _ _ => r = some (.int (-1))) := by
  refine Ct.of "LeapJoin" rfl hE (by decide) (Nat.le_of_ble_eq_true rfl) (fun z F e hl => ?_)
  subst hl
  refine g_aload_n F 0 dX8_back_0 rfl rfl ?_
  refine g_geti (j := 15) (v := 0) F s0 rfl rfl uX8 (by decide) q184 rfl dX8_back_1 ?_
  refine g_if_ne (tgt := 9) F dX8_back_4 (by decide) (fun h => absurd (by decide) h) (fun _ => ?_)
  refine g_iconst (v := (-1)) F dX8_back_7 (by decide) ?_
  exact g_iret F e dX8_back_8 rfl
set_option maxRecDepth 100000 in
set_option maxHeartbeats 4000000 in
theorem kX8_count (l : Launch) (E : gE) (hE : gDist sh E) (a1 : Int32) : Ct l sh E yX8_count cX8_count 2 (some .int) (gR 2) [.ref (E.2.1 0), .int a1] g0 h0 (fun r _ _ => r = some (.int (if 0 ≤ a1 ∧ a1 < 5 then 0 else (-1000000)))) := by
  refine Ct.of "LeapJoin" rfl hE (by decide) (Nat.le_of_ble_eq_true rfl) (fun z F e hl => ?_)
  subst hl
  refine g_iload_n F 1 dX8_count_0 rfl rfl ?_
  by_cases c1 : a1 = 0
  · refine g_tableIn (tgt := 36) F dX8_count_1 (by rw [c1]; decide) (by rw [c1]; decide) (by rw [c1]; rfl) (by decide) ?_
    refine g_aload_n F 0 dX8_count_36 rfl rfl ?_
    refine g_getr (j := 1) (nn := 3) F s0 rfl rfl uX8 (by decide) q170 dX8_count_37 ?_
    refine g_geti (j := 0) (v := 0) F s3 rfl rfl uX5 (by decide) q49 rfl dX8_count_40 ?_
    exact g_iret F e dX8_count_43 (congrArg (fun x => some (Value.int x)) (if_pos (by simp only [g_lt, g_le, g_eq, g_l0, g_l1, g_l2, g_l3, g_l4, g_l5, g_lm1, g_l400, g_l40, g_l15] at c1 ⊢; omega)).symm)
  by_cases c2 : a1 = 1
  · refine g_tableIn (tgt := 44) F dX8_count_1 (by rw [c2]; decide) (by rw [c2]; decide) (by rw [c2]; rfl) (by decide) ?_
    refine g_aload_n F 0 dX8_count_44 rfl rfl ?_
    refine g_geti (j := 14) (v := 0) F s0 rfl rfl uX8 (by decide) q183 rfl dX8_count_45 ?_
    exact g_iret F e dX8_count_48 (congrArg (fun x => some (Value.int x)) (if_pos (by simp only [g_lt, g_le, g_eq, g_l0, g_l1, g_l2, g_l3, g_l4, g_l5, g_lm1, g_l400, g_l40, g_l15] at c1 c2 ⊢; omega)).symm)
  by_cases c3 : a1 = 2
  · refine g_tableIn (tgt := 49) F dX8_count_1 (by rw [c3]; decide) (by rw [c3]; decide) (by rw [c3]; rfl) (by decide) ?_
    refine g_aload_n F 0 dX8_count_49 rfl rfl ?_
    refine g_getr (j := 0) (nn := 1) F s0 rfl rfl uX8 (by decide) q169 dX8_count_50 ?_
    refine g_geti (j := 0) (v := 0) F s1 rfl rfl uX6 (by decide) q36 rfl dX8_count_53 ?_
    exact g_iret F e dX8_count_56 (congrArg (fun x => some (Value.int x)) (if_pos (by simp only [g_lt, g_le, g_eq, g_l0, g_l1, g_l2, g_l3, g_l4, g_l5, g_lm1, g_l400, g_l40, g_l15] at c1 c2 c3 ⊢; omega)).symm)
  by_cases c4 : a1 = 3
  · refine g_tableIn (tgt := 57) F dX8_count_1 (by rw [c4]; decide) (by rw [c4]; decide) (by rw [c4]; rfl) (by decide) ?_
    refine g_aload_n F 0 dX8_count_57 rfl rfl ?_
    refine g_getr (j := 8) (nn := 44) F s0 rfl rfl uX8 (by decide) q177 dX8_count_58 ?_
    refine g_callV (k := 44) (As := []) (rest := []) F (kX2_shown (zl z) E hE) mX2_shown q678 rfl s44 rfl rfl rfl (Nat.le_of_ble_eq_true rfl) dX8_count_61 (fun r I2 J2 h => ?_)
    obtain ⟨rfl, rfl, rfl⟩ := h
    refine g_st (st' := [.int 0]) rfl ?_
    exact g_iret F e dX8_count_64 (congrArg (fun x => some (Value.int x)) (if_pos (by simp only [g_lt, g_le, g_eq, g_l0, g_l1, g_l2, g_l3, g_l4, g_l5, g_lm1, g_l400, g_l40, g_l15] at c1 c2 c3 c4 ⊢; omega)).symm)
  by_cases c5 : a1 = 4
  · refine g_tableIn (tgt := 65) F dX8_count_1 (by rw [c5]; decide) (by rw [c5]; decide) (by rw [c5]; rfl) (by decide) ?_
    refine g_aload_n F 0 dX8_count_65 rfl rfl ?_
    refine g_getr (j := 10) (nn := 48) F s0 rfl rfl uX8 (by decide) q179 dX8_count_66 ?_
    refine g_geti (j := 0) (v := 0) F s48 rfl rfl uX3 (by decide) q153 rfl dX8_count_69 ?_
    exact g_iret F e dX8_count_72 (congrArg (fun x => some (Value.int x)) (if_pos (by simp only [g_lt, g_le, g_eq, g_l0, g_l1, g_l2, g_l3, g_l4, g_l5, g_lm1, g_l400, g_l40, g_l15] at c1 c2 c3 c4 c5 ⊢; omega)).symm)
  refine g_tableOut (tgt := 73) F dX8_count_1 (by simp only [g_lt, g_le, g_eq, g_l0, g_l1, g_l2, g_l3, g_l4, g_l5, g_lm1, g_l400, g_l40, g_l15] at c1 c2 c3 c4 c5 ⊢; omega) (by decide) ?_
  refine g_ldc_w F dX8_count_73 q555 ?_
  exact g_iret F e dX8_count_76 (congrArg (fun x => some (Value.int x)) (if_neg (by simp only [g_lt, g_le, g_eq, g_l0, g_l1, g_l2, g_l3, g_l4, g_l5, g_lm1, g_l400, g_l40, g_l15] at c1 c2 c3 c4 c5 ⊢; omega)).symm)
set_option maxRecDepth 100000 in
set_option maxHeartbeats 4000000 in
theorem kX9_in (l : Launch) (E : gE) (hE : gDist sh E) (a0 : Int32) : Ct l sh E yX9_in cX9_in 3 (some .boolean) (gR 0) [.int a0, .int 0, .int 0] g0 h0 (fun r I1 J1 => (r = some (.int 0) ∧ I1 = g0 ∧ J1 = h0 ∧ a0 < 0) ∨ (r = some (.int 0) ∧ I1 = g0 ∧ J1 = h0 ∧ ¬ a0 < 0 ∧ 0 < a0) ∨ (r = some (.int 1) ∧ I1 = g0 ∧ J1 = h0 ∧ ¬ a0 < 0 ∧ ¬ 0 < a0)) := by
  refine Ct.of "LeapJoinModel" rfl hE (by decide) (Nat.le_of_ble_eq_true rfl) (fun z F e hl => ?_)
  subst hl
  refine g_iload_n F 0 dX9_in_0 rfl rfl ?_
  refine g_iload_n F 1 dX9_in_1 rfl rfl ?_
  refine g_icmp_lt (tgt := 14) F dX9_in_2 (by decide) (fun c1 => ?_) (fun c1f => ?_)
  · refine g_iconst (v := 0) F dX9_in_14 (by decide) ?_
    exact g_zret F rfl e dX9_in_15 (Or.inl ⟨rfl, rfl, rfl, c1⟩)
  · refine g_iload_n F 0 dX9_in_5 rfl rfl ?_
    refine g_iload_n F 2 dX9_in_6 rfl rfl ?_
    refine g_icmp_gt (tgt := 14) F dX9_in_7 (by decide) (fun c2 => ?_) (fun c2f => ?_)
    · refine g_iconst (v := 0) F dX9_in_14 (by decide) ?_
      exact g_zret F rfl e dX9_in_15 (Or.inr (Or.inl ⟨rfl, rfl, rfl, c1f, c2⟩))
    · refine g_iconst (v := 1) F dX9_in_10 (by decide) ?_
      refine g_goto (tgt := 15) F dX9_in_11 (by decide) ?_
      exact g_zret F rfl e dX9_in_15 (Or.inr (Or.inr (⟨rfl, rfl, rfl, c1f, c2f⟩)))
set_option maxRecDepth 100000 in
set_option maxHeartbeats 4000000 in
theorem kX9_end (l : Launch) (E : gE) (hE : gDist sh E) (a1 : Int32) : Ct l sh E yX9_end cX9_end 2 (some .boolean) (gR 1) [.ref (E.2.1 62), .int a1] g0 h0 (fun r _ _ => r = some (.int (if a1 = 0 then 1 else 0))) := by
  refine Ct.of "LeapJoinModel" rfl hE (by decide) (Nat.le_of_ble_eq_true rfl) (fun z F e hl => ?_)
  subst hl
  refine g_iload_n F 1 dX9_end_0 rfl rfl ?_
  refine g_iconst (v := 0) F dX9_end_1 (by decide) ?_
  refine g_aload_n F 0 dX9_end_2 rfl rfl ?_
  refine g_geti (j := 2) (v := 0) F s62 rfl rfl uX9 (by decide) q823 rfl dX9_end_3 ?_
  refine g_callS (As := [.int a1, .int 0, .int 0]) (rest := []) F (kX9_in (zl z) E hE a1) mX9_in q923 rfl rfl rfl (Nat.le_of_ble_eq_true rfl) dX9_end_6 (fun r I2 J2 h => ?_)
  rcases h with ⟨rfl, rfl, rfl, c1⟩ | ⟨rfl, rfl, rfl, c2, c3⟩ | ⟨rfl, rfl, rfl, c4, c5⟩
  · refine g_st (st' := [.int 0]) rfl ?_
    refine g_if_ne (tgt := 14) F dX9_end_9 (by decide) (fun h => absurd (by decide) h) (fun _ => ?_)
    refine g_iconst (v := 0) F dX9_end_12 (by decide) ?_
    exact g_zret F rfl e dX9_end_13 (congrArg (fun x => some (Value.int x)) (if_neg (by simp only [g_lt, g_le, g_eq, g_l0, g_l1, g_l2, g_l3, g_l4, g_l5, g_lm1, g_l400, g_l40, g_l15] at c1 ⊢; omega)).symm)
  · refine g_st (st' := [.int 0]) rfl ?_
    refine g_if_ne (tgt := 14) F dX9_end_9 (by decide) (fun h => absurd (by decide) h) (fun _ => ?_)
    refine g_iconst (v := 0) F dX9_end_12 (by decide) ?_
    exact g_zret F rfl e dX9_end_13 (congrArg (fun x => some (Value.int x)) (if_neg (by simp only [g_lt, g_le, g_eq, g_l0, g_l1, g_l2, g_l3, g_l4, g_l5, g_lm1, g_l400, g_l40, g_l15] at c2 c3 ⊢; omega)).symm)
  · refine g_st (st' := [.int 1]) rfl ?_
    refine g_if_ne (tgt := 14) F dX9_end_9 (by decide) (fun _ => ?_) (fun h => absurd h (by decide))
    refine g_aload_n F 0 dX9_end_14 rfl rfl ?_
    refine g_iload_n F 1 dX9_end_15 rfl rfl ?_
    refine g_puti (j := 2) F s62 rfl rfl uX9 (by decide) q823 tyX9_ok nmX9 rfl rfl rfl dX9_end_16 ?_
    refine g_iconst (v := 1) F dX9_end_19 (by decide) ?_
    exact g_zret F rfl e dX9_end_20 (congrArg (fun x => some (Value.int x)) (if_pos (by simp only [g_lt, g_le, g_eq, g_l0, g_l1, g_l2, g_l3, g_l4, g_l5, g_lm1, g_l400, g_l40, g_l15] at c4 c5 ⊢; omega)).symm)
set_option maxRecDepth 100000 in
set_option maxHeartbeats 4000000 in
theorem kX9_begins (l : Launch) (E : gE) (hE : gDist sh E) : Ct l sh E yX9_begins cX9_begins 1 none (gR 0) [.ref (E.2.1 62)] g0 h0 (fun r I1 J1 => r = none ∧ I1 = (g_up g0 62 4 (-1)) ∧ J1 = h0) := by
  refine Ct.of "LeapJoinModel" rfl hE (by decide) (Nat.le_of_ble_eq_true rfl) (fun z F e hl => ?_)
  subst hl
  refine g_aload_n F 0 dX9_begins_0 rfl rfl ?_
  refine g_iconst (v := 0) F dX9_begins_1 (by decide) ?_
  refine g_puti (j := 3) F s62 rfl rfl uX9 (by decide) q824 tyX9_ok nmX9 rfl rfl rfl dX9_begins_2 ?_
  refine g_mi (g_up_same rfl) ?_
  refine g_aload_n F 0 dX9_begins_5 rfl rfl ?_
  refine g_iconst (v := (-1)) F dX9_begins_6 (by decide) ?_
  refine g_puti (j := 4) F s62 rfl rfl uX9 (by decide) q825 tyX9_ok nmX9 rfl rfl rfl dX9_begins_7 ?_
  exact g_vret F e dX9_begins_10 ⟨rfl, rfl, rfl⟩
set_option maxRecDepth 100000 in
set_option maxHeartbeats 4000000 in
theorem kX9_here (l : Launch) (E : gE) (hE : gDist sh E) : Ct l sh E yX9_here cX9_here 1 (some .int) (gR 0) [.ref (E.2.1 62)] (g_up g0 62 4 (-1)) h0 (fun r I1 J1 => r = some (.int (-1)) ∧ I1 = (g_up g0 62 4 (-1)) ∧ J1 = h0) := by
  refine Ct.of "LeapJoinModel" rfl hE (by decide) (Nat.le_of_ble_eq_true rfl) (fun z F e hl => ?_)
  subst hl
  refine g_aload_n F 0 dX9_here_0 rfl rfl ?_
  refine g_geti (j := 3) (v := 0) F s62 rfl rfl uX9 (by decide) q824 rfl dX9_here_1 ?_
  refine g_aload_n F 0 dX9_here_4 rfl rfl ?_
  refine g_geti (j := 2) (v := 0) F s62 rfl rfl uX9 (by decide) q823 rfl dX9_here_5 ?_
  refine g_icmp_ge (tgt := 23) F dX9_here_8 (by decide) (fun _ => ?_) (fun h => absurd (by decide) h)
  refine g_iconst (v := (-1)) F dX9_here_23 (by decide) ?_
  exact g_iret F e dX9_here_24 ⟨rfl, rfl, rfl⟩
set_option maxRecDepth 100000 in
set_option maxHeartbeats 4000000 in
theorem kX9_ahead (l : Launch) (E : gE) (hE : gDist sh E) : Ct l sh E yX9_ahead cX9_ahead 1 (some .int) (gR 1) [.ref (E.2.1 62)] (g_up g0 62 4 (-1)) h0 (fun r I1 J1 => r = some (.int (-1)) ∧ I1 = (g_up g0 62 4 (-1)) ∧ J1 = h0) := by
  refine Ct.of "LeapJoinModel" rfl hE (by decide) (Nat.le_of_ble_eq_true rfl) (fun z F e hl => ?_)
  subst hl
  refine g_aload_n F 0 dX9_ahead_0 rfl rfl ?_
  refine g_callV (k := 62) (As := []) (rest := []) F (kX9_here (zl z) E hE) mX9_here q945 rfl s62 rfl rfl rfl (Nat.le_of_ble_eq_true rfl) dX9_ahead_1 (fun r I2 J2 h => ?_)
  obtain ⟨rfl, rfl, rfl⟩ := h
  refine g_st (st' := [.int (-1)]) rfl ?_
  refine g_bipush (v := 32) F dX9_ahead_4 (by decide) ?_
  refine g_icmp_ne (tgt := 22) F dX9_ahead_6 (by decide) (fun _ => ?_) (fun h => absurd h (by decide))
  refine g_aload_n F 0 dX9_ahead_22 rfl rfl ?_
  refine g_callV (k := 62) (As := []) (rest := []) F (kX9_here (zl z) E hE) mX9_here q945 rfl s62 rfl rfl rfl (Nat.le_of_ble_eq_true rfl) dX9_ahead_23 (fun r I2 J2 h => ?_)
  obtain ⟨rfl, rfl, rfl⟩ := h
  refine g_st (st' := [.int (-1)]) rfl ?_
  exact g_iret F e dX9_ahead_26 ⟨rfl, rfl, rfl⟩
set_option maxRecDepth 100000 in
set_option maxHeartbeats 4000000 in
theorem kX9_bad (l : Launch) (E : gE) (hE : gDist sh E) : Ct l sh E yX9_bad cX9_bad 1 none (gR 0) [.ref (E.2.1 62)] (g_up g0 62 4 (-1)) h0 (fun r I1 J1 => r = none ∧ I1 = (g_up (g_up g0 62 4 (-1)) 62 4 0) ∧ J1 = h0) := by
  refine Ct.of "LeapJoinModel" rfl hE (by decide) (Nat.le_of_ble_eq_true rfl) (fun z F e hl => ?_)
  subst hl
  refine g_aload_n F 0 dX9_bad_0 rfl rfl ?_
  refine g_aload_n F 0 dX9_bad_1 rfl rfl ?_
  refine g_geti (j := 4) (v := (-1)) F s62 rfl rfl uX9 (by decide) q825 rfl dX9_bad_2 ?_
  refine g_iconst (v := (-1)) F dX9_bad_5 (by decide) ?_
  refine g_icmp_ne (tgt := 16) F dX9_bad_6 (by decide) (fun h => absurd (by decide) h) (fun _ => ?_)
  refine g_aload_n F 0 dX9_bad_9 rfl rfl ?_
  refine g_geti (j := 3) (v := 0) F s62 rfl rfl uX9 (by decide) q824 rfl dX9_bad_10 ?_
  refine g_goto (tgt := 20) F dX9_bad_13 (by decide) ?_
  refine g_puti (j := 4) F s62 rfl rfl uX9 (by decide) q825 tyX9_ok nmX9 rfl rfl rfl dX9_bad_20 ?_
  exact g_vret F e dX9_bad_23 ⟨rfl, rfl, rfl⟩
set_option maxRecDepth 100000 in
set_option maxHeartbeats 4000000 in
theorem kX9_readStep (l : Launch) (E : gE) (hE : gDist sh E) : Ct l sh E yX9_readStep cX9_readStep 6 none (gR 2) [.ref (E.2.1 62), .int 240] (g_up g0 62 4 (-1)) h0 (fun r I1 J1 => r = none ∧ I1 = (g_up (g_up g0 62 4 (-1)) 62 4 0) ∧ J1 = h0) := by
  refine Ct.of "LeapJoinModel" rfl hE (by decide) (Nat.le_of_ble_eq_true rfl) (fun z F e hl => ?_)
  subst hl
  refine g_aload_n F 0 dX9_readStep_0 rfl rfl ?_
  refine g_callV (k := 62) (As := []) (rest := []) F (kX9_ahead (zl z) E hE) mX9_ahead q942 rfl s62 rfl rfl rfl (Nat.le_of_ble_eq_true rfl) dX9_readStep_1 (fun r I2 J2 h => ?_)
  obtain ⟨rfl, rfl, rfl⟩ := h
  refine g_st (st' := [.int (-1)]) rfl ?_
  refine g_istore_n (L' := [(2, .int (-1)), (0, .ref (E.2.1 62)), (1, .int 240)]) F dX9_readStep_4 rfl (by decide) rfl ?_
  refine g_iload_n F 0 dX9_readStep_5 rfl rfl ?_
  refine g_bipush (v := 112) F dX9_readStep_6 (by decide) ?_
  refine g_icmp_ne (tgt := 15) F dX9_readStep_8 (by decide) (fun _ => ?_) (fun h => absurd h (by decide))
  refine g_iload_n F 0 dX9_readStep_15 rfl rfl ?_
  refine g_bipush (v := 116) F dX9_readStep_16 (by decide) ?_
  refine g_icmp_ne (tgt := 25) F dX9_readStep_18 (by decide) (fun _ => ?_) (fun h => absurd h (by decide))
  refine g_iload_n F 0 dX9_readStep_25 rfl rfl ?_
  refine g_bipush (v := 117) F dX9_readStep_26 (by decide) ?_
  refine g_icmp_ne (tgt := 35) F dX9_readStep_28 (by decide) (fun _ => ?_) (fun h => absurd h (by decide))
  refine g_iload_n F 0 dX9_readStep_35 rfl rfl ?_
  refine g_bipush (v := 111) F dX9_readStep_36 (by decide) ?_
  refine g_icmp_ne (tgt := 45) F dX9_readStep_38 (by decide) (fun _ => ?_) (fun h => absurd h (by decide))
  refine g_iconst (v := (-1)) F dX9_readStep_45 (by decide) ?_
  refine g_istore_n (L' := [(3, .int (-1)), (2, .int (-1)), (0, .ref (E.2.1 62)), (1, .int 240)]) F dX9_readStep_46 rfl (by decide) rfl ?_
  refine g_iload_n F 0 dX9_readStep_47 rfl rfl ?_
  refine g_iconst (v := (-1)) F dX9_readStep_48 (by decide) ?_
  refine g_icmp_ne (tgt := 57) F dX9_readStep_49 (by decide) (fun h => absurd (by decide) h) (fun _ => ?_)
  refine g_aload_n F 2 dX9_readStep_52 rfl rfl ?_
  refine g_callV (k := 62) (As := []) (rest := []) F (kX9_bad (zl z) E hE) mX9_bad q951 rfl s62 rfl rfl rfl (Nat.le_of_ble_eq_true rfl) dX9_readStep_53 (fun r I2 J2 h => ?_)
  obtain ⟨rfl, rfl, rfl⟩ := h
  refine g_st (st' := []) rfl ?_
  exact g_vret F e dX9_readStep_56 ⟨rfl, rfl, rfl⟩
set_option maxRecDepth 100000 in
set_option maxHeartbeats 4000000 in
theorem kX9_ends (l : Launch) (E : gE) (hE : gDist sh E) : Ct l sh E yX9_ends cX9_ends 1 (some .int) (gR 0) [.ref (E.2.1 62)] (g_up (g_up (g_up g0 62 4 (-1)) 62 4 0) 69 4 1) h0 (fun r I1 J1 => r = some (.int 0) ∧ I1 = (g_up (g_up (g_up g0 62 4 (-1)) 62 4 0) 69 4 1) ∧ J1 = h0) := by
  refine Ct.of "LeapJoinModel" rfl hE (by decide) (Nat.le_of_ble_eq_true rfl) (fun z F e hl => ?_)
  subst hl
  refine g_aload_n F 0 dX9_ends_0 rfl rfl ?_
  refine g_geti (j := 4) (v := 0) F s62 rfl rfl uX9 (by decide) q825 rfl dX9_ends_1 ?_
  refine g_iconst (v := (-1)) F dX9_ends_4 (by decide) ?_
  refine g_icmp_ne (tgt := 20) F dX9_ends_5 (by decide) (fun _ => ?_) (fun h => absurd h (by decide))
  refine g_aload_n F 0 dX9_ends_20 rfl rfl ?_
  refine g_geti (j := 4) (v := 0) F s62 rfl rfl uX9 (by decide) q825 rfl dX9_ends_21 ?_
  exact g_iret F e dX9_ends_24 ⟨rfl, rfl, rfl⟩
set_option maxRecDepth 100000 in
set_option maxHeartbeats 4000000 in
theorem kX9_readScript (l : Launch) (E : gE) (hE : gDist sh E) : Ct l sh E yX9_readScript cX9_readScript 3 (some .int) (gR 3) [.ref (E.2.1 62), .int 4] g0 h0 (fun r I1 J1 => r = some (.int 0) ∧ I1 = (g_up (g_up (g_up g0 62 4 (-1)) 62 4 0) 69 4 1) ∧ J1 = h0) := by
  refine Ct.of "LeapJoinModel" rfl hE (by decide) (Nat.le_of_ble_eq_true rfl) (fun z F e hl => ?_)
  subst hl
  refine g_aload_n F 0 dX9_readScript_0 rfl rfl ?_
  refine g_callV (k := 62) (As := []) (rest := []) F (kX9_begins (zl z) E hE) mX9_begins q933 rfl s62 rfl rfl rfl (Nat.le_of_ble_eq_true rfl) dX9_readScript_1 (fun r I2 J2 h => ?_)
  obtain ⟨rfl, rfl, rfl⟩ := h
  refine g_st (st' := []) rfl ?_
  refine g_aload_n F 0 dX9_readScript_4 rfl rfl ?_
  refine g_getr (j := 11) (nn := 69) F s62 rfl rfl uX9 (by decide) q832 dX9_readScript_5 ?_
  refine g_iload_n F 1 dX9_readScript_8 rfl rfl ?_
  refine g_iconst (v := 0) F dX9_readScript_9 (by decide) ?_
  refine g_iast (v := 0) F 4 s69 (by decide) (by decide) (by decide) rfl dX9_readScript_10 ?_
  refine g_mi (g_up_same rfl) ?_
  refine g_iconst (v := 1) F dX9_readScript_11 (by decide) ?_
  refine g_istore_n (L' := [(2, .int 1), (0, .ref (E.2.1 62)), (1, .int 4)]) F dX9_readScript_12 rfl (by decide) rfl ?_
  refine g_iload_n F 0 dX9_readScript_13 rfl rfl ?_
  refine g_if_eq (tgt := 99) F dX9_readScript_14 (by decide) (fun h => absurd h (by decide)) (fun _ => ?_)
  refine g_aload_n F 1 dX9_readScript_17 rfl rfl ?_
  refine g_iconst (v := 5) F dX9_readScript_18 (by decide) ?_
  refine g_bipush (v := 12) F dX9_readScript_19 (by decide) ?_
  refine g_iload_n F 2 dX9_readScript_21 rfl rfl ?_
  refine g_imul (v := 48) F dX9_readScript_22 (by decide) ?_
  refine g_aload_n F 1 dX9_readScript_23 rfl rfl ?_
  refine g_getr (j := 11) (nn := 69) F s62 rfl rfl uX9 (by decide) q832 dX9_readScript_24 ?_
  refine g_iload_n F 2 dX9_readScript_27 rfl rfl ?_
  refine g_iald (v := 0) F 4 s69 (by decide) (by decide) (by decide) rfl dX9_readScript_28 ?_
  refine g_iadd (v := 48) F dX9_readScript_29 (by decide) ?_
  refine g_imul (v := 240) F dX9_readScript_30 (by decide) ?_
  refine g_callV (k := 62) (As := [.int 240]) (rest := []) F (kX9_readStep (zl z) E hE) mX9_readStep q975 rfl s62 rfl rfl rfl (Nat.le_of_ble_eq_true rfl) dX9_readScript_31 (fun r I2 J2 h => ?_)
  obtain ⟨rfl, rfl, rfl⟩ := h
  refine g_st (st' := []) rfl ?_
  refine g_aload_n F 1 dX9_readScript_34 rfl rfl ?_
  refine g_getr (j := 11) (nn := 69) F s62 rfl rfl uX9 (by decide) q832 dX9_readScript_35 ?_
  refine g_iload_n F 2 dX9_readScript_38 rfl rfl ?_
  refine g_dup2 F dX9_readScript_39 rfl rfl ?_
  refine g_iald (v := 0) F 4 s69 (by decide) (by decide) (by decide) rfl dX9_readScript_40 ?_
  refine g_iconst (v := 1) F dX9_readScript_41 (by decide) ?_
  refine g_iadd (v := 1) F dX9_readScript_42 (by decide) ?_
  refine g_iast (v := 1) F 4 s69 (by decide) (by decide) (by decide) rfl dX9_readScript_43 ?_
  refine g_aload_n F 1 dX9_readScript_44 rfl rfl ?_
  refine g_geti (j := 4) (v := 0) F s62 rfl rfl uX9 (by decide) q825 rfl dX9_readScript_45 ?_
  refine g_iconst (v := (-1)) F dX9_readScript_48 (by decide) ?_
  refine g_icmp_ne (tgt := 76) F dX9_readScript_49 (by decide) (fun _ => ?_) (fun h => absurd h (by decide))
  refine g_iconst (v := 0) F dX9_readScript_76 (by decide) ?_
  refine g_istore_n (L' := [(2, .int 0), (0, .ref (E.2.1 62)), (1, .int 4)]) F dX9_readScript_77 rfl (by decide) rfl ?_
  refine g_aload_n F 1 dX9_readScript_78 rfl rfl ?_
  refine g_dup F dX9_readScript_79 rfl ?_
  refine g_geti (j := 3) (v := 0) F s62 rfl rfl uX9 (by decide) q824 rfl dX9_readScript_80 ?_
  refine g_iload_n F 0 dX9_readScript_83 rfl rfl ?_
  refine g_if_eq (tgt := 91) F dX9_readScript_84 (by decide) (fun _ => ?_) (fun h => absurd (by decide) h)
  refine g_iconst (v := 0) F dX9_readScript_91 (by decide) ?_
  refine g_iadd (v := 0) F dX9_readScript_92 (by decide) ?_
  refine g_puti (j := 3) F s62 rfl rfl uX9 (by decide) q824 tyX9_ok nmX9 rfl rfl rfl dX9_readScript_93 ?_
  refine g_mi (g_up_same rfl) ?_
  refine g_goto (tgt := 13) F dX9_readScript_96 (by decide) ?_
  refine g_iload_n F 0 dX9_readScript_13 rfl rfl ?_
  refine g_if_eq (tgt := 99) F dX9_readScript_14 (by decide) (fun _ => ?_) (fun h => absurd (by decide) h)
  refine g_aload_n F 1 dX9_readScript_99 rfl rfl ?_
  refine g_callV (k := 62) (As := []) (rest := []) F (kX9_ends (zl z) E hE) mX9_ends q969 rfl s62 rfl rfl rfl (Nat.le_of_ble_eq_true rfl) dX9_readScript_100 (fun r I2 J2 h => ?_)
  obtain ⟨rfl, rfl, rfl⟩ := h
  refine g_st (st' := [.int 0]) rfl ?_
  exact g_iret F e dX9_readScript_103 ⟨rfl, rfl, rfl⟩
set_option maxRecDepth 100000 in
set_option maxHeartbeats 4000000 in
theorem kX9_isLetter (l : Launch) (E : gE) (hE : gDist sh E) : Ct l sh E yX9_isLetter cX9_isLetter 2 (some .boolean) (gR 0) [.ref (E.2.1 62), .int (-1)] (g_up g0 62 4 (-1)) h0 (fun r I1 J1 => r = some (.int 0) ∧ I1 = (g_up g0 62 4 (-1)) ∧ J1 = h0) := by
  refine Ct.of "LeapJoinModel" rfl hE (by decide) (Nat.le_of_ble_eq_true rfl) (fun z F e hl => ?_)
  subst hl
  refine g_iload_n F 1 dX9_isLetter_0 rfl rfl ?_
  refine g_bipush (v := 97) F dX9_isLetter_1 (by decide) ?_
  refine g_icmp_lt (tgt := 16) F dX9_isLetter_3 (by decide) (fun _ => ?_) (fun h => absurd (by decide) h)
  refine g_iconst (v := 0) F dX9_isLetter_16 (by decide) ?_
  exact g_zret F rfl e dX9_isLetter_17 ⟨rfl, rfl, rfl⟩
set_option maxRecDepth 100000 in
set_option maxHeartbeats 4000000 in
theorem kX9_bad_2 (l : Launch) (E : gE) (hE : gDist sh E) : Ct l sh E yX9_bad cX9_bad 1 none (gR 0) [.ref (E.2.1 62)] (g_up (g_up g0 62 4 (-1)) 62 4 0) h0 (fun r I1 J1 => r = none ∧ I1 = (g_up (g_up g0 62 4 (-1)) 62 4 0) ∧ J1 = h0) := by
  refine Ct.of "LeapJoinModel" rfl hE (by decide) (Nat.le_of_ble_eq_true rfl) (fun z F e hl => ?_)
  subst hl
  refine g_aload_n F 0 dX9_bad_0 rfl rfl ?_
  refine g_aload_n F 0 dX9_bad_1 rfl rfl ?_
  refine g_geti (j := 4) (v := 0) F s62 rfl rfl uX9 (by decide) q825 rfl dX9_bad_2 ?_
  refine g_iconst (v := (-1)) F dX9_bad_5 (by decide) ?_
  refine g_icmp_ne (tgt := 16) F dX9_bad_6 (by decide) (fun _ => ?_) (fun h => absurd h (by decide))
  refine g_aload_n F 0 dX9_bad_16 rfl rfl ?_
  refine g_geti (j := 4) (v := 0) F s62 rfl rfl uX9 (by decide) q825 rfl dX9_bad_17 ?_
  refine g_puti (j := 4) F s62 rfl rfl uX9 (by decide) q825 tyX9_ok nmX9 rfl rfl rfl dX9_bad_20 ?_
  refine g_mi (g_up_same rfl) ?_
  exact g_vret F e dX9_bad_23 ⟨rfl, rfl, rfl⟩
set_option maxRecDepth 100000 in
set_option maxHeartbeats 4000000 in
theorem kX9_must (l : Launch) (E : gE) (hE : gDist sh E) : Ct l sh E yX9_must cX9_must 2 none (gR 1) [.ref (E.2.1 62), .int 58] (g_up (g_up g0 62 4 (-1)) 62 4 0) h0 (fun r I1 J1 => r = none ∧ I1 = (g_up (g_up g0 62 4 (-1)) 62 4 0) ∧ J1 = h0) := by
  refine Ct.of "LeapJoinModel" rfl hE (by decide) (Nat.le_of_ble_eq_true rfl) (fun z F e hl => ?_)
  subst hl
  refine g_aload_n F 0 dX9_must_0 rfl rfl ?_
  refine g_geti (j := 4) (v := 0) F s62 rfl rfl uX9 (by decide) q825 rfl dX9_must_1 ?_
  refine g_iconst (v := (-1)) F dX9_must_4 (by decide) ?_
  refine g_icmp_ne (tgt := 29) F dX9_must_5 (by decide) (fun _ => ?_) (fun h => absurd h (by decide))
  refine g_aload_n F 0 dX9_must_29 rfl rfl ?_
  refine g_callV (k := 62) (As := []) (rest := []) F (kX9_bad_2 (zl z) E hE) mX9_bad q951 rfl s62 rfl rfl rfl (Nat.le_of_ble_eq_true rfl) dX9_must_30 (fun r I2 J2 h => ?_)
  obtain ⟨rfl, rfl, rfl⟩ := h
  refine g_st (st' := []) rfl ?_
  exact g_vret F e dX9_must_33 ⟨rfl, rfl, rfl⟩
set_option maxRecDepth 100000 in
set_option maxHeartbeats 4000000 in
theorem kX9_readHead (l : Launch) (E : gE) (hE : gDist sh E) : Ct l sh E yX9_readHead cX9_readHead 4 none (gR 2) [.ref (E.2.1 62), .int 0] (g_up g0 62 4 (-1)) h0 (fun r I1 J1 => r = none ∧ I1 = (g_up (g_up g0 62 4 (-1)) 62 4 0) ∧ J1 = h0) := by
  refine Ct.of "LeapJoinModel" rfl hE (by decide) (Nat.le_of_ble_eq_true rfl) (fun z F e hl => ?_)
  subst hl
  refine g_aload_n F 0 dX9_readHead_0 rfl rfl ?_
  refine g_getr (j := 5) (nn := 64) F s62 rfl rfl uX9 (by decide) q826 dX9_readHead_1 ?_
  refine g_iload_n F 1 dX9_readHead_4 rfl rfl ?_
  refine g_iconst (v := 0) F dX9_readHead_5 (by decide) ?_
  refine g_iast (v := 0) F 0 s64 (by decide) (by decide) (by decide) rfl dX9_readHead_6 ?_
  refine g_mi (g_up_same rfl) ?_
  refine g_iconst (v := 0) F dX9_readHead_7 (by decide) ?_
  refine g_istore_n (L' := [(2, .int 0), (0, .ref (E.2.1 62)), (1, .int 0)]) F dX9_readHead_8 rfl (by decide) rfl ?_
  refine g_aload_n F 1 dX9_readHead_9 rfl rfl ?_
  refine g_aload_n F 1 dX9_readHead_10 rfl rfl ?_
  refine g_callV (k := 62) (As := []) (rest := [.ref (E.2.1 62)]) F (kX9_ahead (zl z) E hE) mX9_ahead q942 rfl s62 rfl rfl rfl (Nat.le_of_ble_eq_true rfl) dX9_readHead_11 (fun r I2 J2 h => ?_)
  obtain ⟨rfl, rfl, rfl⟩ := h
  refine g_st (st' := [.int (-1), .ref (E.2.1 62)]) rfl ?_
  refine g_callV (k := 62) (As := [.int (-1)]) (rest := []) F (kX9_isLetter (zl z) E hE) mX9_isLetter q948 rfl s62 rfl rfl rfl (Nat.le_of_ble_eq_true rfl) dX9_readHead_14 (fun r I2 J2 h => ?_)
  obtain ⟨rfl, rfl, rfl⟩ := h
  refine g_st (st' := [.int 0]) rfl ?_
  refine g_if_ne (tgt := 24) F dX9_readHead_17 (by decide) (fun h => absurd (by decide) h) (fun _ => ?_)
  refine g_aload_n F 1 dX9_readHead_20 rfl rfl ?_
  refine g_callV (k := 62) (As := []) (rest := []) F (kX9_bad (zl z) E hE) mX9_bad q951 rfl s62 rfl rfl rfl (Nat.le_of_ble_eq_true rfl) dX9_readHead_21 (fun r I2 J2 h => ?_)
  obtain ⟨rfl, rfl, rfl⟩ := h
  refine g_st (st' := []) rfl ?_
  refine g_aload_n F 1 dX9_readHead_24 rfl rfl ?_
  refine g_geti (j := 4) (v := 0) F s62 rfl rfl uX9 (by decide) q825 rfl dX9_readHead_25 ?_
  refine g_iconst (v := (-1)) F dX9_readHead_28 (by decide) ?_
  refine g_icmp_ne (tgt := 121) F dX9_readHead_29 (by decide) (fun _ => ?_) (fun h => absurd h (by decide))
  refine g_aload_n F 1 dX9_readHead_121 rfl rfl ?_
  refine g_bipush (v := 58) F dX9_readHead_122 (by decide) ?_
  refine g_callV (k := 62) (As := [.int 58]) (rest := []) F (kX9_must (zl z) E hE) mX9_must q957 rfl s62 rfl rfl rfl (Nat.le_of_ble_eq_true rfl) dX9_readHead_124 (fun r I2 J2 h => ?_)
  obtain ⟨rfl, rfl, rfl⟩ := h
  refine g_st (st' := []) rfl ?_
  exact g_vret F e dX9_readHead_127 ⟨rfl, rfl, rfl⟩
set_option maxRecDepth 100000 in
set_option maxHeartbeats 4000000 in
theorem kX9_readTable (l : Launch) (E : gE) (hE : gDist sh E) : Ct l sh E yX9_readTable cX9_readTable 3 none (gR 3) [.ref (E.2.1 62), .int 0] (g_up g0 62 4 (-1)) h0 (fun r I1 J1 => r = none ∧ I1 = (g_up (g_up g0 62 4 (-1)) 62 4 0) ∧ J1 = h0) := by
  refine Ct.of "LeapJoinModel" rfl hE (by decide) (Nat.le_of_ble_eq_true rfl) (fun z F e hl => ?_)
  subst hl
  refine g_aload_n F 0 dX9_readTable_0 rfl rfl ?_
  refine g_iload_n F 1 dX9_readTable_1 rfl rfl ?_
  refine g_callV (k := 62) (As := [.int 0]) (rest := []) F (kX9_readHead (zl z) E hE) mX9_readHead q939 rfl s62 rfl rfl rfl (Nat.le_of_ble_eq_true rfl) dX9_readTable_2 (fun r I2 J2 h => ?_)
  obtain ⟨rfl, rfl, rfl⟩ := h
  refine g_st (st' := []) rfl ?_
  refine g_aload_n F 0 dX9_readTable_5 rfl rfl ?_
  refine g_getr (j := 7) (nn := 66) F s62 rfl rfl uX9 (by decide) q828 dX9_readTable_6 ?_
  refine g_iload_n F 1 dX9_readTable_9 rfl rfl ?_
  refine g_iconst (v := 0) F dX9_readTable_10 (by decide) ?_
  refine g_iast (v := 0) F 0 s66 (by decide) (by decide) (by decide) rfl dX9_readTable_11 ?_
  refine g_mi (g_up_same rfl) ?_
  refine g_aload_n F 0 dX9_readTable_12 rfl rfl ?_
  refine g_geti (j := 4) (v := 0) F s62 rfl rfl uX9 (by decide) q825 rfl dX9_readTable_13 ?_
  refine g_iconst (v := (-1)) F dX9_readTable_16 (by decide) ?_
  refine g_icmp_ne (tgt := 34) F dX9_readTable_17 (by decide) (fun _ => ?_) (fun h => absurd h (by decide))
  refine g_iconst (v := 0) F dX9_readTable_34 (by decide) ?_
  refine g_istore_n (L' := [(2, .int 0), (0, .ref (E.2.1 62)), (1, .int 0)]) F dX9_readTable_35 rfl (by decide) rfl ?_
  refine g_iload_n F 0 dX9_readTable_36 rfl rfl ?_
  refine g_if_eq (tgt := 100) F dX9_readTable_37 (by decide) (fun _ => ?_) (fun h => absurd (by decide) h)
  exact g_vret F e dX9_readTable_100 ⟨rfl, rfl, rfl⟩
set_option maxRecDepth 100000 in
set_option maxHeartbeats 4000000 in
theorem kX9_ends_2 (l : Launch) (E : gE) (hE : gDist sh E) : Ct l sh E yX9_ends cX9_ends 1 (some .int) (gR 0) [.ref (E.2.1 62)] (g_up (g_up (g_up g0 62 4 (-1)) 62 4 0) 62 9 1) h0 (fun r I1 J1 => r = some (.int 0) ∧ I1 = (g_up (g_up (g_up g0 62 4 (-1)) 62 4 0) 62 9 1) ∧ J1 = h0) := by
  refine Ct.of "LeapJoinModel" rfl hE (by decide) (Nat.le_of_ble_eq_true rfl) (fun z F e hl => ?_)
  subst hl
  refine g_aload_n F 0 dX9_ends_0 rfl rfl ?_
  refine g_geti (j := 4) (v := 0) F s62 rfl rfl uX9 (by decide) q825 rfl dX9_ends_1 ?_
  refine g_iconst (v := (-1)) F dX9_ends_4 (by decide) ?_
  refine g_icmp_ne (tgt := 20) F dX9_ends_5 (by decide) (fun _ => ?_) (fun h => absurd h (by decide))
  refine g_aload_n F 0 dX9_ends_20 rfl rfl ?_
  refine g_geti (j := 4) (v := 0) F s62 rfl rfl uX9 (by decide) q825 rfl dX9_ends_21 ?_
  exact g_iret F e dX9_ends_24 ⟨rfl, rfl, rfl⟩
set_option maxRecDepth 100000 in
set_option maxHeartbeats 4000000 in
theorem kX9_readAll (l : Launch) (E : gE) (hE : gDist sh E) : Ct l sh E yX9_readAll cX9_readAll 2 (some .int) (gR 4) [.ref (E.2.1 62)] g0 h0 (fun r I1 J1 => r = some (.int 0) ∧ I1 = (g_up (g_up (g_up g0 62 4 (-1)) 62 4 0) 62 9 1) ∧ J1 = h0) := by
  refine Ct.of "LeapJoinModel" rfl hE (by decide) (Nat.le_of_ble_eq_true rfl) (fun z F e hl => ?_)
  subst hl
  refine g_aload_n F 0 dX9_readAll_0 rfl rfl ?_
  refine g_callV (k := 62) (As := []) (rest := []) F (kX9_begins (zl z) E hE) mX9_begins q933 rfl s62 rfl rfl rfl (Nat.le_of_ble_eq_true rfl) dX9_readAll_1 (fun r I2 J2 h => ?_)
  obtain ⟨rfl, rfl, rfl⟩ := h
  refine g_st (st' := []) rfl ?_
  refine g_aload_n F 0 dX9_readAll_4 rfl rfl ?_
  refine g_iconst (v := 0) F dX9_readAll_5 (by decide) ?_
  refine g_puti (j := 9) F s62 rfl rfl uX9 (by decide) q830 tyX9_ok nmX9 rfl rfl rfl dX9_readAll_6 ?_
  refine g_mi (g_up_same rfl) ?_
  refine g_iconst (v := 1) F dX9_readAll_9 (by decide) ?_
  refine g_istore_n (L' := [(1, .int 1), (0, .ref (E.2.1 62))]) F dX9_readAll_10 rfl (by decide) rfl ?_
  refine g_iload_n F 0 dX9_readAll_11 rfl rfl ?_
  refine g_if_eq (tgt := 85) F dX9_readAll_12 (by decide) (fun h => absurd h (by decide)) (fun _ => ?_)
  refine g_aload_n F 1 dX9_readAll_15 rfl rfl ?_
  refine g_aload_n F 1 dX9_readAll_16 rfl rfl ?_
  refine g_geti (j := 9) (v := 0) F s62 rfl rfl uX9 (by decide) q830 rfl dX9_readAll_17 ?_
  refine g_callV (k := 62) (As := [.int 0]) (rest := []) F (kX9_readTable (zl z) E hE) mX9_readTable q936 rfl s62 rfl rfl rfl (Nat.le_of_ble_eq_true rfl) dX9_readAll_20 (fun r I2 J2 h => ?_)
  obtain ⟨rfl, rfl, rfl⟩ := h
  refine g_st (st' := []) rfl ?_
  refine g_aload_n F 1 dX9_readAll_23 rfl rfl ?_
  refine g_dup F dX9_readAll_24 rfl ?_
  refine g_geti (j := 9) (v := 0) F s62 rfl rfl uX9 (by decide) q830 rfl dX9_readAll_25 ?_
  refine g_iconst (v := 1) F dX9_readAll_28 (by decide) ?_
  refine g_iadd (v := 1) F dX9_readAll_29 (by decide) ?_
  refine g_puti (j := 9) F s62 rfl rfl uX9 (by decide) q830 tyX9_ok nmX9 rfl rfl rfl dX9_readAll_30 ?_
  refine g_aload_n F 1 dX9_readAll_33 rfl rfl ?_
  refine g_geti (j := 4) (v := 0) F s62 rfl rfl uX9 (by decide) q825 rfl dX9_readAll_34 ?_
  refine g_iconst (v := (-1)) F dX9_readAll_37 (by decide) ?_
  refine g_icmp_ne (tgt := 62) F dX9_readAll_38 (by decide) (fun _ => ?_) (fun h => absurd h (by decide))
  refine g_iconst (v := 0) F dX9_readAll_62 (by decide) ?_
  refine g_istore_n (L' := [(1, .int 0), (0, .ref (E.2.1 62))]) F dX9_readAll_63 rfl (by decide) rfl ?_
  refine g_aload_n F 1 dX9_readAll_64 rfl rfl ?_
  refine g_dup F dX9_readAll_65 rfl ?_
  refine g_geti (j := 3) (v := 0) F s62 rfl rfl uX9 (by decide) q824 rfl dX9_readAll_66 ?_
  refine g_iload_n F 0 dX9_readAll_69 rfl rfl ?_
  refine g_if_eq (tgt := 77) F dX9_readAll_70 (by decide) (fun _ => ?_) (fun h => absurd (by decide) h)
  refine g_iconst (v := 0) F dX9_readAll_77 (by decide) ?_
  refine g_iadd (v := 0) F dX9_readAll_78 (by decide) ?_
  refine g_puti (j := 3) F s62 rfl rfl uX9 (by decide) q824 tyX9_ok nmX9 rfl rfl rfl dX9_readAll_79 ?_
  refine g_mi (g_up_same rfl) ?_
  refine g_goto (tgt := 11) F dX9_readAll_82 (by decide) ?_
  refine g_iload_n F 0 dX9_readAll_11 rfl rfl ?_
  refine g_if_eq (tgt := 85) F dX9_readAll_12 (by decide) (fun _ => ?_) (fun h => absurd (by decide) h)
  refine g_aload_n F 1 dX9_readAll_85 rfl rfl ?_
  refine g_callV (k := 62) (As := []) (rest := []) F (kX9_ends_2 (zl z) E hE) mX9_ends q969 rfl s62 rfl rfl rfl (Nat.le_of_ble_eq_true rfl) dX9_readAll_86 (fun r I2 J2 h => ?_)
  obtain ⟨rfl, rfl, rfl⟩ := h
  refine g_st (st' := [.int 0]) rfl ?_
  exact g_iret F e dX9_readAll_89 ⟨rfl, rfl, rfl⟩
set_option maxRecDepth 100000 in
set_option maxHeartbeats 4000000 in
theorem kX9_fault (l : Launch) (E : gE) (hE : gDist sh E) (a1 : Int32) : Ct l sh E yX9_fault cX9_fault 2 (some .int) (gR 5) [.ref (E.2.1 62), .int a1] g0 h0 (fun r _ _ => r = some (.int (if a1 = 0 ∨ a1 = 1 then 0 else (-2)))) := by
  refine Ct.of "LeapJoinModel" rfl hE (by decide) (Nat.le_of_ble_eq_true rfl) (fun z F e hl => ?_)
  subst hl
  refine g_iload_n F 1 dX9_fault_0 rfl rfl ?_
  refine g_if_ne (tgt := 11) F dX9_fault_1 (by decide) (fun c1 => ?_) (fun c1f => ?_)
  · refine g_iload_n F 1 dX9_fault_11 rfl rfl ?_
    refine g_iconst (v := 1) F dX9_fault_12 (by decide) ?_
    refine g_icmp_ne (tgt := 24) F dX9_fault_13 (by decide) (fun c2 => ?_) (fun c2f => ?_)
    · refine g_bipush (v := (-2)) F dX9_fault_24 (by decide) ?_
      exact g_iret F e dX9_fault_26 (congrArg (fun x => some (Value.int x)) (if_neg (by simp only [g_lt, g_le, g_eq, g_l0, g_l1, g_l2, g_l3, g_l4, g_l5, g_lm1, g_l400, g_l40, g_l15] at c1 c2 ⊢; omega)).symm)
    · refine g_aload_n F 0 dX9_fault_16 rfl rfl ?_
      refine g_iconst (v := 4) F dX9_fault_17 (by decide) ?_
      refine g_callV (k := 62) (As := [.int 4]) (rest := []) F (kX9_readScript (zl z) E hE) mX9_readScript q972 rfl s62 rfl rfl rfl (Nat.le_of_ble_eq_true rfl) dX9_fault_18 (fun r I2 J2 h => ?_)
      obtain ⟨rfl, rfl, rfl⟩ := h
      refine g_st (st' := [.int 0]) rfl ?_
      refine g_goto (tgt := 26) F dX9_fault_21 (by decide) ?_
      exact g_iret F e dX9_fault_26 (congrArg (fun x => some (Value.int x)) (if_pos (by simp only [g_lt, g_le, g_eq, g_l0, g_l1, g_l2, g_l3, g_l4, g_l5, g_lm1, g_l400, g_l40, g_l15] at c1 c2f ⊢; omega)).symm)
  · refine g_aload_n F 0 dX9_fault_4 rfl rfl ?_
    refine g_callV (k := 62) (As := []) (rest := []) F (kX9_readAll (zl z) E hE) mX9_readAll q930 rfl s62 rfl rfl rfl (Nat.le_of_ble_eq_true rfl) dX9_fault_5 (fun r I2 J2 h => ?_)
    obtain ⟨rfl, rfl, rfl⟩ := h
    refine g_st (st' := [.int 0]) rfl ?_
    refine g_goto (tgt := 26) F dX9_fault_8 (by decide) ?_
    exact g_iret F e dX9_fault_26 (congrArg (fun x => some (Value.int x)) (if_pos (by simp only [g_lt, g_le, g_eq, g_l0, g_l1, g_l2, g_l3, g_l4, g_l5, g_lm1, g_l400, g_l40, g_l15] at c1f ⊢; omega)).symm)
set_option maxRecDepth 100000 in
set_option maxHeartbeats 4000000 in
theorem kX9_readStep_2 (l : Launch) (E : gE) (hE : gDist sh E) : Ct l sh E yX9_readStep cX9_readStep 6 none (gR 2) [.ref (E.2.1 62), .int 0] (g_up g0 62 4 (-1)) h0 (fun r I1 J1 => r = none ∧ I1 = (g_up (g_up g0 62 4 (-1)) 62 4 0) ∧ J1 = h0) := by
  refine Ct.of "LeapJoinModel" rfl hE (by decide) (Nat.le_of_ble_eq_true rfl) (fun z F e hl => ?_)
  subst hl
  refine g_aload_n F 0 dX9_readStep_0 rfl rfl ?_
  refine g_callV (k := 62) (As := []) (rest := []) F (kX9_ahead (zl z) E hE) mX9_ahead q942 rfl s62 rfl rfl rfl (Nat.le_of_ble_eq_true rfl) dX9_readStep_1 (fun r I2 J2 h => ?_)
  obtain ⟨rfl, rfl, rfl⟩ := h
  refine g_st (st' := [.int (-1)]) rfl ?_
  refine g_istore_n (L' := [(2, .int (-1)), (0, .ref (E.2.1 62)), (1, .int 0)]) F dX9_readStep_4 rfl (by decide) rfl ?_
  refine g_iload_n F 0 dX9_readStep_5 rfl rfl ?_
  refine g_bipush (v := 112) F dX9_readStep_6 (by decide) ?_
  refine g_icmp_ne (tgt := 15) F dX9_readStep_8 (by decide) (fun _ => ?_) (fun h => absurd h (by decide))
  refine g_iload_n F 0 dX9_readStep_15 rfl rfl ?_
  refine g_bipush (v := 116) F dX9_readStep_16 (by decide) ?_
  refine g_icmp_ne (tgt := 25) F dX9_readStep_18 (by decide) (fun _ => ?_) (fun h => absurd h (by decide))
  refine g_iload_n F 0 dX9_readStep_25 rfl rfl ?_
  refine g_bipush (v := 117) F dX9_readStep_26 (by decide) ?_
  refine g_icmp_ne (tgt := 35) F dX9_readStep_28 (by decide) (fun _ => ?_) (fun h => absurd h (by decide))
  refine g_iload_n F 0 dX9_readStep_35 rfl rfl ?_
  refine g_bipush (v := 111) F dX9_readStep_36 (by decide) ?_
  refine g_icmp_ne (tgt := 45) F dX9_readStep_38 (by decide) (fun _ => ?_) (fun h => absurd h (by decide))
  refine g_iconst (v := (-1)) F dX9_readStep_45 (by decide) ?_
  refine g_istore_n (L' := [(3, .int (-1)), (2, .int (-1)), (0, .ref (E.2.1 62)), (1, .int 0)]) F dX9_readStep_46 rfl (by decide) rfl ?_
  refine g_iload_n F 0 dX9_readStep_47 rfl rfl ?_
  refine g_iconst (v := (-1)) F dX9_readStep_48 (by decide) ?_
  refine g_icmp_ne (tgt := 57) F dX9_readStep_49 (by decide) (fun h => absurd (by decide) h) (fun _ => ?_)
  refine g_aload_n F 2 dX9_readStep_52 rfl rfl ?_
  refine g_callV (k := 62) (As := []) (rest := []) F (kX9_bad (zl z) E hE) mX9_bad q951 rfl s62 rfl rfl rfl (Nat.le_of_ble_eq_true rfl) dX9_readStep_53 (fun r I2 J2 h => ?_)
  obtain ⟨rfl, rfl, rfl⟩ := h
  refine g_st (st' := []) rfl ?_
  exact g_vret F e dX9_readStep_56 ⟨rfl, rfl, rfl⟩
set_option maxRecDepth 100000 in
set_option maxHeartbeats 4000000 in
theorem kX9_ends_3 (l : Launch) (E : gE) (hE : gDist sh E) : Ct l sh E yX9_ends cX9_ends 1 (some .int) (gR 0) [.ref (E.2.1 62)] (g_up (g_up (g_up g0 62 4 (-1)) 62 4 0) 69 0 1) h0 (fun r I1 J1 => r = some (.int 0) ∧ I1 = (g_up (g_up (g_up g0 62 4 (-1)) 62 4 0) 69 0 1) ∧ J1 = h0) := by
  refine Ct.of "LeapJoinModel" rfl hE (by decide) (Nat.le_of_ble_eq_true rfl) (fun z F e hl => ?_)
  subst hl
  refine g_aload_n F 0 dX9_ends_0 rfl rfl ?_
  refine g_geti (j := 4) (v := 0) F s62 rfl rfl uX9 (by decide) q825 rfl dX9_ends_1 ?_
  refine g_iconst (v := (-1)) F dX9_ends_4 (by decide) ?_
  refine g_icmp_ne (tgt := 20) F dX9_ends_5 (by decide) (fun _ => ?_) (fun h => absurd h (by decide))
  refine g_aload_n F 0 dX9_ends_20 rfl rfl ?_
  refine g_geti (j := 4) (v := 0) F s62 rfl rfl uX9 (by decide) q825 rfl dX9_ends_21 ?_
  exact g_iret F e dX9_ends_24 ⟨rfl, rfl, rfl⟩
set_option maxRecDepth 100000 in
set_option maxHeartbeats 4000000 in
theorem kX9_readScript_2 (l : Launch) (E : gE) (hE : gDist sh E) : Ct l sh E yX9_readScript cX9_readScript 3 (some .int) (gR 3) [.ref (E.2.1 62), .int 0] g0 h0 (fun r I1 J1 => r = some (.int 0) ∧ I1 = (g_up (g_up (g_up g0 62 4 (-1)) 62 4 0) 69 0 1) ∧ J1 = h0) := by
  refine Ct.of "LeapJoinModel" rfl hE (by decide) (Nat.le_of_ble_eq_true rfl) (fun z F e hl => ?_)
  subst hl
  refine g_aload_n F 0 dX9_readScript_0 rfl rfl ?_
  refine g_callV (k := 62) (As := []) (rest := []) F (kX9_begins (zl z) E hE) mX9_begins q933 rfl s62 rfl rfl rfl (Nat.le_of_ble_eq_true rfl) dX9_readScript_1 (fun r I2 J2 h => ?_)
  obtain ⟨rfl, rfl, rfl⟩ := h
  refine g_st (st' := []) rfl ?_
  refine g_aload_n F 0 dX9_readScript_4 rfl rfl ?_
  refine g_getr (j := 11) (nn := 69) F s62 rfl rfl uX9 (by decide) q832 dX9_readScript_5 ?_
  refine g_iload_n F 1 dX9_readScript_8 rfl rfl ?_
  refine g_iconst (v := 0) F dX9_readScript_9 (by decide) ?_
  refine g_iast (v := 0) F 0 s69 (by decide) (by decide) (by decide) rfl dX9_readScript_10 ?_
  refine g_mi (g_up_same rfl) ?_
  refine g_iconst (v := 1) F dX9_readScript_11 (by decide) ?_
  refine g_istore_n (L' := [(2, .int 1), (0, .ref (E.2.1 62)), (1, .int 0)]) F dX9_readScript_12 rfl (by decide) rfl ?_
  refine g_iload_n F 0 dX9_readScript_13 rfl rfl ?_
  refine g_if_eq (tgt := 99) F dX9_readScript_14 (by decide) (fun h => absurd h (by decide)) (fun _ => ?_)
  refine g_aload_n F 1 dX9_readScript_17 rfl rfl ?_
  refine g_iconst (v := 5) F dX9_readScript_18 (by decide) ?_
  refine g_bipush (v := 12) F dX9_readScript_19 (by decide) ?_
  refine g_iload_n F 2 dX9_readScript_21 rfl rfl ?_
  refine g_imul (v := 0) F dX9_readScript_22 (by decide) ?_
  refine g_aload_n F 1 dX9_readScript_23 rfl rfl ?_
  refine g_getr (j := 11) (nn := 69) F s62 rfl rfl uX9 (by decide) q832 dX9_readScript_24 ?_
  refine g_iload_n F 2 dX9_readScript_27 rfl rfl ?_
  refine g_iald (v := 0) F 0 s69 (by decide) (by decide) (by decide) rfl dX9_readScript_28 ?_
  refine g_iadd (v := 0) F dX9_readScript_29 (by decide) ?_
  refine g_imul (v := 0) F dX9_readScript_30 (by decide) ?_
  refine g_callV (k := 62) (As := [.int 0]) (rest := []) F (kX9_readStep_2 (zl z) E hE) mX9_readStep q975 rfl s62 rfl rfl rfl (Nat.le_of_ble_eq_true rfl) dX9_readScript_31 (fun r I2 J2 h => ?_)
  obtain ⟨rfl, rfl, rfl⟩ := h
  refine g_st (st' := []) rfl ?_
  refine g_aload_n F 1 dX9_readScript_34 rfl rfl ?_
  refine g_getr (j := 11) (nn := 69) F s62 rfl rfl uX9 (by decide) q832 dX9_readScript_35 ?_
  refine g_iload_n F 2 dX9_readScript_38 rfl rfl ?_
  refine g_dup2 F dX9_readScript_39 rfl rfl ?_
  refine g_iald (v := 0) F 0 s69 (by decide) (by decide) (by decide) rfl dX9_readScript_40 ?_
  refine g_iconst (v := 1) F dX9_readScript_41 (by decide) ?_
  refine g_iadd (v := 1) F dX9_readScript_42 (by decide) ?_
  refine g_iast (v := 1) F 0 s69 (by decide) (by decide) (by decide) rfl dX9_readScript_43 ?_
  refine g_aload_n F 1 dX9_readScript_44 rfl rfl ?_
  refine g_geti (j := 4) (v := 0) F s62 rfl rfl uX9 (by decide) q825 rfl dX9_readScript_45 ?_
  refine g_iconst (v := (-1)) F dX9_readScript_48 (by decide) ?_
  refine g_icmp_ne (tgt := 76) F dX9_readScript_49 (by decide) (fun _ => ?_) (fun h => absurd h (by decide))
  refine g_iconst (v := 0) F dX9_readScript_76 (by decide) ?_
  refine g_istore_n (L' := [(2, .int 0), (0, .ref (E.2.1 62)), (1, .int 0)]) F dX9_readScript_77 rfl (by decide) rfl ?_
  refine g_aload_n F 1 dX9_readScript_78 rfl rfl ?_
  refine g_dup F dX9_readScript_79 rfl ?_
  refine g_geti (j := 3) (v := 0) F s62 rfl rfl uX9 (by decide) q824 rfl dX9_readScript_80 ?_
  refine g_iload_n F 0 dX9_readScript_83 rfl rfl ?_
  refine g_if_eq (tgt := 91) F dX9_readScript_84 (by decide) (fun _ => ?_) (fun h => absurd (by decide) h)
  refine g_iconst (v := 0) F dX9_readScript_91 (by decide) ?_
  refine g_iadd (v := 0) F dX9_readScript_92 (by decide) ?_
  refine g_puti (j := 3) F s62 rfl rfl uX9 (by decide) q824 tyX9_ok nmX9 rfl rfl rfl dX9_readScript_93 ?_
  refine g_mi (g_up_same rfl) ?_
  refine g_goto (tgt := 13) F dX9_readScript_96 (by decide) ?_
  refine g_iload_n F 0 dX9_readScript_13 rfl rfl ?_
  refine g_if_eq (tgt := 99) F dX9_readScript_14 (by decide) (fun _ => ?_) (fun h => absurd (by decide) h)
  refine g_aload_n F 1 dX9_readScript_99 rfl rfl ?_
  refine g_callV (k := 62) (As := []) (rest := []) F (kX9_ends_3 (zl z) E hE) mX9_ends q969 rfl s62 rfl rfl rfl (Nat.le_of_ble_eq_true rfl) dX9_readScript_100 (fun r I2 J2 h => ?_)
  obtain ⟨rfl, rfl, rfl⟩ := h
  refine g_st (st' := [.int 0]) rfl ?_
  exact g_iret F e dX9_readScript_103 ⟨rfl, rfl, rfl⟩
set_option maxRecDepth 100000 in
set_option maxHeartbeats 4000000 in
theorem kX9_text (l : Launch) (E : gE) (hE : gDist sh E) (a1 : Int32) : Ct l sh E yX9_text cX9_text 2 (some .int) (gR 5) [.ref (E.2.1 62), .int a1] g0 h0 (fun r _ _ => r = some (.int (-1))) := by
  refine Ct.of "LeapJoinModel" rfl hE (by decide) (Nat.le_of_ble_eq_true rfl) (fun z F e hl => ?_)
  subst hl
  refine g_iload_n F 1 dX9_text_0 rfl rfl ?_
  refine g_if_ne (tgt := 22) F dX9_text_1 (by decide) (fun c1 => ?_) (fun c1f => ?_)
  · refine g_iload_n F 1 dX9_text_22 rfl rfl ?_
    refine g_iconst (v := 1) F dX9_text_23 (by decide) ?_
    refine g_icmp_ne (tgt := 69) F dX9_text_24 (by decide) (fun c2 => ?_) (fun c2f => ?_)
    · refine g_iconst (v := (-1)) F dX9_text_69 (by decide) ?_
      exact g_iret F e dX9_text_70 rfl
    · refine g_aload_n F 0 dX9_text_27 rfl rfl ?_
      refine g_geti (j := 12) (v := 0) F s62 rfl rfl uX9 (by decide) q833 rfl dX9_text_28 ?_
      refine g_iconst (v := 4) F dX9_text_31 (by decide) ?_
      refine g_icmp_ge (tgt := 69) F dX9_text_32 (by decide) (fun h => absurd h (by decide)) (fun _ => ?_)
      refine g_aload_n F 0 dX9_text_35 rfl rfl ?_
      refine g_aload_n F 0 dX9_text_36 rfl rfl ?_
      refine g_geti (j := 12) (v := 0) F s62 rfl rfl uX9 (by decide) q833 rfl dX9_text_37 ?_
      refine g_callV (k := 62) (As := [.int 0]) (rest := []) F (kX9_readScript_2 (zl z) E hE) mX9_readScript q972 rfl s62 rfl rfl rfl (Nat.le_of_ble_eq_true rfl) dX9_text_40 (fun r I2 J2 h => ?_)
      obtain ⟨rfl, rfl, rfl⟩ := h
      refine g_st (st' := [.int 0]) rfl ?_
      refine g_iconst (v := (-1)) F dX9_text_43 (by decide) ?_
      refine g_icmp_ne (tgt := 69) F dX9_text_44 (by decide) (fun _ => ?_) (fun h => absurd h (by decide))
      refine g_iconst (v := (-1)) F dX9_text_69 (by decide) ?_
      exact g_iret F e dX9_text_70 rfl
  · refine g_aload_n F 0 dX9_text_4 rfl rfl ?_
    refine g_callV (k := 62) (As := []) (rest := []) F (kX9_readAll (zl z) E hE) mX9_readAll q930 rfl s62 rfl rfl rfl (Nat.le_of_ble_eq_true rfl) dX9_text_5 (fun r I2 J2 h => ?_)
    obtain ⟨rfl, rfl, rfl⟩ := h
    refine g_st (st' := [.int 0]) rfl ?_
    refine g_iconst (v := (-1)) F dX9_text_8 (by decide) ?_
    refine g_icmp_ne (tgt := 22) F dX9_text_9 (by decide) (fun _ => ?_) (fun h => absurd h (by decide))
    refine g_iload_n F 1 dX9_text_22 rfl rfl ?_
    refine g_iconst (v := 1) F dX9_text_23 (by decide) ?_
    refine g_icmp_ne (tgt := 69) F dX9_text_24 (by decide) (fun _ => ?_) (fun c6 => by exfalso; simp only [g_lt, g_le, g_eq, g_l0, g_l1, g_l2, g_l3, g_l4, g_l5, g_lm1, g_l400, g_l40, g_l15] at c6 c1f; omega)
    refine g_iconst (v := (-1)) F dX9_text_69 (by decide) ?_
    exact g_iret F e dX9_text_70 rfl
set_option maxRecDepth 100000 in
set_option maxHeartbeats 4000000 in
theorem kX9_areTables (l : Launch) (E : gE) (hE : gDist sh E) : Ct l sh E yX9_areTables cX9_areTables 1 (some .boolean) (gR 0) [.ref (E.2.1 62)] g0 h0 (fun r I1 J1 => r = some (.int 0) ∧ I1 = g0 ∧ J1 = h0) := by
  refine Ct.of "LeapJoinModel" rfl hE (by decide) (Nat.le_of_ble_eq_true rfl) (fun z F e hl => ?_)
  subst hl
  refine g_aload_n F 0 dX9_areTables_0 rfl rfl ?_
  refine g_geti (j := 17) (v := 0) F s62 rfl rfl uX9 (by decide) q838 rfl dX9_areTables_1 ?_
  refine g_if_le (tgt := 11) F dX9_areTables_4 (by decide) (fun _ => ?_) (fun h => absurd (by decide) h)
  refine g_iconst (v := 0) F dX9_areTables_11 (by decide) ?_
  exact g_zret F rfl e dX9_areTables_12 ⟨rfl, rfl, rfl⟩
set_option maxRecDepth 100000 in
set_option maxHeartbeats 4000000 in
theorem kX9_rule (l : Launch) (E : gE) (hE : gDist sh E) (a1 : Int32) : Ct l sh E yX9_rule cX9_rule 2 (some .int) (gR 1) [.ref (E.2.1 62), .int a1] g0 h0 (fun r _ _ => r = some (.int (-1))) := by
  refine Ct.of "LeapJoinModel" rfl hE (by decide) (Nat.le_of_ble_eq_true rfl) (fun z F e hl => ?_)
  subst hl
  refine g_aload_n F 0 dX9_rule_0 rfl rfl ?_
  refine g_callV (k := 62) (As := []) (rest := []) F (kX9_areTables (zl z) E hE) mX9_areTables q1028 rfl s62 rfl rfl rfl (Nat.le_of_ble_eq_true rfl) dX9_rule_1 (fun r I2 J2 h => ?_)
  obtain ⟨rfl, rfl, rfl⟩ := h
  refine g_st (st' := [.int 0]) rfl ?_
  refine g_if_eq (tgt := 16) F dX9_rule_4 (by decide) (fun _ => ?_) (fun h => absurd (by decide) h)
  refine g_iconst (v := (-1)) F dX9_rule_16 (by decide) ?_
  exact g_iret F e dX9_rule_17 rfl
set_option maxRecDepth 100000 in
set_option maxHeartbeats 4000000 in
theorem kX9_in_2 (l : Launch) (E : gE) (hE : gDist sh E) (a0 : Int32) : Ct l sh E yX9_in cX9_in 3 (some .boolean) (gR 0) [.int a0, .int 0, .int (-1)] g0 h0 (fun r I1 J1 => r = some (.int 0) ∧ I1 = g0 ∧ J1 = h0) := by
  refine Ct.of "LeapJoinModel" rfl hE (by decide) (Nat.le_of_ble_eq_true rfl) (fun z F e hl => ?_)
  subst hl
  refine g_iload_n F 0 dX9_in_0 rfl rfl ?_
  refine g_iload_n F 1 dX9_in_1 rfl rfl ?_
  refine g_icmp_lt (tgt := 14) F dX9_in_2 (by decide) (fun c1 => ?_) (fun c1f => ?_)
  · refine g_iconst (v := 0) F dX9_in_14 (by decide) ?_
    exact g_zret F rfl e dX9_in_15 ⟨rfl, rfl, rfl⟩
  · refine g_iload_n F 0 dX9_in_5 rfl rfl ?_
    refine g_iload_n F 2 dX9_in_6 rfl rfl ?_
    refine g_icmp_gt (tgt := 14) F dX9_in_7 (by decide) (fun _ => ?_) (fun c2 => by exfalso; simp only [g_lt, g_le, g_eq, g_l0, g_l1, g_l2, g_l3, g_l4, g_l5, g_lm1, g_l400, g_l40, g_l15] at c2 c1f; omega)
    refine g_iconst (v := 0) F dX9_in_14 (by decide) ?_
    exact g_zret F rfl e dX9_in_15 ⟨rfl, rfl, rfl⟩
set_option maxRecDepth 100000 in
set_option maxHeartbeats 4000000 in
theorem kX9_isTable (l : Launch) (E : gE) (hE : gDist sh E) (a1 : Int32) : Ct l sh E yX9_isTable cX9_isTable 2 (some .boolean) (gR 1) [.ref (E.2.1 62), .int a1] g0 h0 (fun r I1 J1 => r = some (.int 0) ∧ I1 = g0 ∧ J1 = h0) := by
  refine Ct.of "LeapJoinModel" rfl hE (by decide) (Nat.le_of_ble_eq_true rfl) (fun z F e hl => ?_)
  subst hl
  refine g_iload_n F 1 dX9_isTable_0 rfl rfl ?_
  refine g_iconst (v := 0) F dX9_isTable_1 (by decide) ?_
  refine g_aload_n F 0 dX9_isTable_2 rfl rfl ?_
  refine g_geti (j := 17) (v := 0) F s62 rfl rfl uX9 (by decide) q838 rfl dX9_isTable_3 ?_
  refine g_iconst (v := 1) F dX9_isTable_6 (by decide) ?_
  refine g_isub (v := (-1)) F dX9_isTable_7 (by decide) ?_
  refine g_callS (As := [.int a1, .int 0, .int (-1)]) (rest := []) F (kX9_in_2 (zl z) E hE a1) mX9_in q923 rfl rfl rfl (Nat.le_of_ble_eq_true rfl) dX9_isTable_8 (fun r I2 J2 h => ?_)
  obtain ⟨rfl, rfl, rfl⟩ := h
  refine g_st (st' := [.int 0]) rfl ?_
  exact g_zret F rfl e dX9_isTable_11 ⟨rfl, rfl, rfl⟩
set_option maxRecDepth 100000 in
set_option maxHeartbeats 4000000 in
theorem kX9_cell (l : Launch) (E : gE) (hE : gDist sh E) (a1 : Int32) (a2 : Int32) (a3 : Int32) : Ct l sh E yX9_cell cX9_cell 4 (some .int) (gR 2) [.ref (E.2.1 62), .int a1, .int a2, .int a3] g0 h0 (fun r _ _ => r = some (.int (-1))) := by
  refine Ct.of "LeapJoinModel" rfl hE (by decide) (Nat.le_of_ble_eq_true rfl) (fun z F e hl => ?_)
  subst hl
  refine g_aload_n F 0 dX9_cell_0 rfl rfl ?_
  refine g_iload_n F 1 dX9_cell_1 rfl rfl ?_
  refine g_callV (k := 62) (As := [.int a1]) (rest := []) F (kX9_isTable (zl z) E hE a1) mX9_isTable q1019 rfl s62 rfl rfl rfl (Nat.le_of_ble_eq_true rfl) dX9_cell_2 (fun r I2 J2 h => ?_)
  obtain ⟨rfl, rfl, rfl⟩ := h
  refine g_st (st' := [.int 0]) rfl ?_
  refine g_if_eq (tgt := 54) F dX9_cell_5 (by decide) (fun _ => ?_) (fun h => absurd (by decide) h)
  refine g_iconst (v := (-1)) F dX9_cell_54 (by decide) ?_
  exact g_iret F e dX9_cell_55 rfl
set_option maxRecDepth 100000 in
set_option maxHeartbeats 4000000 in
theorem kX9_rows (l : Launch) (E : gE) (hE : gDist sh E) : Ct l sh E yX9_rows cX9_rows 1 (some .int) (gR 1) [.ref (E.2.1 62)] g0 h0 (fun r _ _ => r = some (.int (-1))) := by
  refine Ct.of "LeapJoinModel" rfl hE (by decide) (Nat.le_of_ble_eq_true rfl) (fun z F e hl => ?_)
  subst hl
  refine g_aload_n F 0 dX9_rows_0 rfl rfl ?_
  refine g_callV (k := 62) (As := []) (rest := []) F (kX9_areTables (zl z) E hE) mX9_areTables q1028 rfl s62 rfl rfl rfl (Nat.le_of_ble_eq_true rfl) dX9_rows_1 (fun r I2 J2 h => ?_)
  obtain ⟨rfl, rfl, rfl⟩ := h
  refine g_st (st' := [.int 0]) rfl ?_
  refine g_if_eq (tgt := 14) F dX9_rows_4 (by decide) (fun _ => ?_) (fun h => absurd (by decide) h)
  refine g_iconst (v := (-1)) F dX9_rows_14 (by decide) ?_
  exact g_iret F e dX9_rows_15 rfl
set_option maxRecDepth 100000 in
set_option maxHeartbeats 4000000 in
theorem kX9_isAsked (l : Launch) (E : gE) (hE : gDist sh E) (a1 : Int32) : Ct l sh E yX9_isAsked cX9_isAsked 2 (some .boolean) (gR 1) [.ref (E.2.1 62), .int a1] g0 h0 (fun r I1 J1 => r = some (.int 0) ∧ I1 = g0 ∧ J1 = h0) := by
  refine Ct.of "LeapJoinModel" rfl hE (by decide) (Nat.le_of_ble_eq_true rfl) (fun z F e hl => ?_)
  subst hl
  refine g_aload_n F 0 dX9_isAsked_0 rfl rfl ?_
  refine g_callV (k := 62) (As := []) (rest := []) F (kX9_areTables (zl z) E hE) mX9_areTables q1028 rfl s62 rfl rfl rfl (Nat.le_of_ble_eq_true rfl) dX9_isAsked_1 (fun r I2 J2 h => ?_)
  obtain ⟨rfl, rfl, rfl⟩ := h
  refine g_st (st' := [.int 0]) rfl ?_
  refine g_if_eq (tgt := 31) F dX9_isAsked_4 (by decide) (fun _ => ?_) (fun h => absurd (by decide) h)
  refine g_iconst (v := 0) F dX9_isAsked_31 (by decide) ?_
  exact g_zret F rfl e dX9_isAsked_32 ⟨rfl, rfl, rfl⟩
set_option maxRecDepth 100000 in
set_option maxHeartbeats 4000000 in
theorem kX9_row (l : Launch) (E : gE) (hE : gDist sh E) (a1 : Int32) (a2 : Int32) : Ct l sh E yX9_row cX9_row 3 (some .int) (gR 2) [.ref (E.2.1 62), .int a1, .int a2] g0 h0 (fun r _ _ => r = some (.int (-1))) := by
  refine Ct.of "LeapJoinModel" rfl hE (by decide) (Nat.le_of_ble_eq_true rfl) (fun z F e hl => ?_)
  subst hl
  refine g_aload_n F 0 dX9_row_0 rfl rfl ?_
  refine g_iload_n F 2 dX9_row_1 rfl rfl ?_
  refine g_callV (k := 62) (As := [.int a2]) (rest := []) F (kX9_isAsked (zl z) E hE a2) mX9_isAsked q1167 rfl s62 rfl rfl rfl (Nat.le_of_ble_eq_true rfl) dX9_row_2 (fun r I2 J2 h => ?_)
  obtain ⟨rfl, rfl, rfl⟩ := h
  refine g_st (st' := [.int 0]) rfl ?_
  refine g_if_eq (tgt := 29) F dX9_row_5 (by decide) (fun _ => ?_) (fun h => absurd (by decide) h)
  refine g_iconst (v := (-1)) F dX9_row_29 (by decide) ?_
  exact g_iret F e dX9_row_30 rfl
set_option maxRecDepth 100000 in
set_option maxHeartbeats 4000000 in
theorem kX9_leaps_ (l : Launch) (E : gE) (hE : gDist sh E) : Ct l sh E yX9_leaps_ cX9_leaps_ 1 (some .int) (gR 1) [.ref (E.2.1 62)] g0 h0 (fun r _ _ => r = some (.int (-1))) := by
  refine Ct.of "LeapJoinModel" rfl hE (by decide) (Nat.le_of_ble_eq_true rfl) (fun z F e hl => ?_)
  subst hl
  refine g_aload_n F 0 dX9_leaps__0 rfl rfl ?_
  refine g_callV (k := 62) (As := []) (rest := []) F (kX9_areTables (zl z) E hE) mX9_areTables q1028 rfl s62 rfl rfl rfl (Nat.le_of_ble_eq_true rfl) dX9_leaps__1 (fun r I2 J2 h => ?_)
  obtain ⟨rfl, rfl, rfl⟩ := h
  refine g_st (st' := [.int 0]) rfl ?_
  refine g_if_ne (tgt := 9) F dX9_leaps__4 (by decide) (fun h => absurd (by decide) h) (fun _ => ?_)
  refine g_iconst (v := (-1)) F dX9_leaps__7 (by decide) ?_
  exact g_iret F e dX9_leaps__8 rfl
set_option maxRecDepth 100000 in
set_option maxHeartbeats 4000000 in
theorem kX9_beginnings (l : Launch) (E : gE) (hE : gDist sh E) (a1 : Int32) : Ct l sh E yX9_beginnings cX9_beginnings 2 (some .int) (gR 1) [.ref (E.2.1 62), .int a1] g0 h0 (fun r _ _ => r = some (.int (-1))) := by
  refine Ct.of "LeapJoinModel" rfl hE (by decide) (Nat.le_of_ble_eq_true rfl) (fun z F e hl => ?_)
  subst hl
  refine g_aload_n F 0 dX9_beginnings_0 rfl rfl ?_
  refine g_callV (k := 62) (As := []) (rest := []) F (kX9_areTables (zl z) E hE) mX9_areTables q1028 rfl s62 rfl rfl rfl (Nat.le_of_ble_eq_true rfl) dX9_beginnings_1 (fun r I2 J2 h => ?_)
  obtain ⟨rfl, rfl, rfl⟩ := h
  refine g_st (st' := [.int 0]) rfl ?_
  refine g_if_eq (tgt := 12) F dX9_beginnings_4 (by decide) (fun _ => ?_) (fun h => absurd (by decide) h)
  refine g_iconst (v := (-1)) F dX9_beginnings_12 (by decide) ?_
  exact g_iret F e dX9_beginnings_13 rfl
set_option maxRecDepth 100000 in
set_option maxHeartbeats 4000000 in
theorem kX9_best (l : Launch) (E : gE) (hE : gDist sh E) (a1 : Int32) : Ct l sh E yX9_best cX9_best 2 (some .int) (gR 1) [.ref (E.2.1 62), .int a1] g0 h0 (fun r _ _ => r = some (.int (-1))) := by
  refine Ct.of "LeapJoinModel" rfl hE (by decide) (Nat.le_of_ble_eq_true rfl) (fun z F e hl => ?_)
  subst hl
  refine g_aload_n F 0 dX9_best_0 rfl rfl ?_
  refine g_callV (k := 62) (As := []) (rest := []) F (kX9_areTables (zl z) E hE) mX9_areTables q1028 rfl s62 rfl rfl rfl (Nat.le_of_ble_eq_true rfl) dX9_best_1 (fun r I2 J2 h => ?_)
  obtain ⟨rfl, rfl, rfl⟩ := h
  refine g_st (st' := [.int 0]) rfl ?_
  refine g_if_eq (tgt := 16) F dX9_best_4 (by decide) (fun _ => ?_) (fun h => absurd (by decide) h)
  refine g_iconst (v := (-1)) F dX9_best_16 (by decide) ?_
  exact g_iret F e dX9_best_17 rfl
set_option maxRecDepth 100000 in
set_option maxHeartbeats 4000000 in
theorem kX9_plain (l : Launch) (E : gE) (hE : gDist sh E) : Ct l sh E yX9_plain cX9_plain 3 (some .int) (gR 1) [.ref (E.2.1 62)] g0 h0 (fun r _ _ => r = some (.int (-1))) := by
  refine Ct.of "LeapJoinModel" rfl hE (by decide) (Nat.le_of_ble_eq_true rfl) (fun z F e hl => ?_)
  subst hl
  refine g_aload_n F 0 dX9_plain_0 rfl rfl ?_
  refine g_callV (k := 62) (As := []) (rest := []) F (kX9_areTables (zl z) E hE) mX9_areTables q1028 rfl s62 rfl rfl rfl (Nat.le_of_ble_eq_true rfl) dX9_plain_1 (fun r I2 J2 h => ?_)
  obtain ⟨rfl, rfl, rfl⟩ := h
  refine g_st (st' := [.int 0]) rfl ?_
  refine g_if_ne (tgt := 9) F dX9_plain_4 (by decide) (fun h => absurd (by decide) h) (fun _ => ?_)
  refine g_iconst (v := (-1)) F dX9_plain_7 (by decide) ?_
  exact g_iret F e dX9_plain_8 rfl
set_option maxRecDepth 100000 in
set_option maxHeartbeats 4000000 in
theorem kX9_given (l : Launch) (E : gE) (hE : gDist sh E) (a1 : Int32) : Ct l sh E yX9_given cX9_given 2 (some .int) (gR 2) [.ref (E.2.1 62), .int a1] g0 h0 (fun r _ _ => r = some (.int (-1))) := by
  refine Ct.of "LeapJoinModel" rfl hE (by decide) (Nat.le_of_ble_eq_true rfl) (fun z F e hl => ?_)
  subst hl
  refine g_aload_n F 0 dX9_given_0 rfl rfl ?_
  refine g_iload_n F 1 dX9_given_1 rfl rfl ?_
  refine g_callV (k := 62) (As := [.int a1]) (rest := []) F (kX9_isTable (zl z) E hE a1) mX9_isTable q1019 rfl s62 rfl rfl rfl (Nat.le_of_ble_eq_true rfl) dX9_given_2 (fun r I2 J2 h => ?_)
  obtain ⟨rfl, rfl, rfl⟩ := h
  refine g_st (st' := [.int 0]) rfl ?_
  refine g_if_ne (tgt := 10) F dX9_given_5 (by decide) (fun h => absurd (by decide) h) (fun _ => ?_)
  refine g_iconst (v := (-1)) F dX9_given_8 (by decide) ?_
  exact g_iret F e dX9_given_9 rfl
set_option maxRecDepth 100000 in
set_option maxHeartbeats 4000000 in
theorem kX9_without (l : Launch) (E : gE) (hE : gDist sh E) (a1 : Int32) : Ct l sh E yX9_without cX9_without 4 (some .int) (gR 2) [.ref (E.2.1 62), .int a1] g0 h0 (fun r _ _ => r = some (.int (-1))) := by
  refine Ct.of "LeapJoinModel" rfl hE (by decide) (Nat.le_of_ble_eq_true rfl) (fun z F e hl => ?_)
  subst hl
  refine g_aload_n F 0 dX9_without_0 rfl rfl ?_
  refine g_iload_n F 1 dX9_without_1 rfl rfl ?_
  refine g_callV (k := 62) (As := [.int a1]) (rest := []) F (kX9_isTable (zl z) E hE a1) mX9_isTable q1019 rfl s62 rfl rfl rfl (Nat.le_of_ble_eq_true rfl) dX9_without_2 (fun r I2 J2 h => ?_)
  obtain ⟨rfl, rfl, rfl⟩ := h
  refine g_st (st' := [.int 0]) rfl ?_
  refine g_if_eq (tgt := 20) F dX9_without_5 (by decide) (fun _ => ?_) (fun h => absurd (by decide) h)
  refine g_iconst (v := (-1)) F dX9_without_20 (by decide) ?_
  exact g_iret F e dX9_without_21 rfl
set_option maxRecDepth 100000 in
set_option maxHeartbeats 4000000 in
theorem kX9_projected (l : Launch) (E : gE) (hE : gDist sh E) (a1 : Int32) : Ct l sh E yX9_projected cX9_projected 6 (some .int) (gR 1) [.ref (E.2.1 62), .int a1] g0 h0 (fun r _ _ => r = some (.int (-1))) := by
  refine Ct.of "LeapJoinModel" rfl hE (by decide) (Nat.le_of_ble_eq_true rfl) (fun z F e hl => ?_)
  subst hl
  refine g_aload_n F 0 dX9_projected_0 rfl rfl ?_
  refine g_callV (k := 62) (As := []) (rest := []) F (kX9_areTables (zl z) E hE) mX9_areTables q1028 rfl s62 rfl rfl rfl (Nat.le_of_ble_eq_true rfl) dX9_projected_1 (fun r I2 J2 h => ?_)
  obtain ⟨rfl, rfl, rfl⟩ := h
  refine g_st (st' := [.int 0]) rfl ?_
  refine g_if_eq (tgt := 28) F dX9_projected_4 (by decide) (fun _ => ?_) (fun h => absurd (by decide) h)
  refine g_iconst (v := (-1)) F dX9_projected_28 (by decide) ?_
  exact g_iret F e dX9_projected_29 rfl
set_option maxRecDepth 100000 in
set_option maxHeartbeats 4000000 in
theorem kX9_times (l : Launch) (E : gE) (hE : gDist sh E) (a1 : Int32) (a2 : Int32) : Ct l sh E yX9_times cX9_times 3 (some .int) (gR 2) [.ref (E.2.1 62), .int a1, .int a2] g0 h0 (fun r _ _ => r = some (.int (-1))) := by
  refine Ct.of "LeapJoinModel" rfl hE (by decide) (Nat.le_of_ble_eq_true rfl) (fun z F e hl => ?_)
  subst hl
  refine g_aload_n F 0 dX9_times_0 rfl rfl ?_
  refine g_iload_n F 1 dX9_times_1 rfl rfl ?_
  refine g_callV (k := 62) (As := [.int a1]) (rest := []) F (kX9_isAsked (zl z) E hE a1) mX9_isAsked q1167 rfl s62 rfl rfl rfl (Nat.le_of_ble_eq_true rfl) dX9_times_2 (fun r I2 J2 h => ?_)
  obtain ⟨rfl, rfl, rfl⟩ := h
  refine g_st (st' := [.int 0]) rfl ?_
  refine g_if_ne (tgt := 10) F dX9_times_5 (by decide) (fun h => absurd (by decide) h) (fun _ => ?_)
  refine g_iconst (v := (-1)) F dX9_times_8 (by decide) ?_
  exact g_iret F e dX9_times_9 rfl
set_option maxRecDepth 100000 in
set_option maxHeartbeats 4000000 in
theorem kX9_distinct (l : Launch) (E : gE) (hE : gDist sh E) (a1 : Int32) (a2 : Int32) : Ct l sh E yX9_distinct cX9_distinct 3 (some .int) (gR 2) [.ref (E.2.1 62), .int a1, .int a2] g0 h0 (fun r _ _ => r = some (.int (-1))) := by
  refine Ct.of "LeapJoinModel" rfl hE (by decide) (Nat.le_of_ble_eq_true rfl) (fun z F e hl => ?_)
  subst hl
  refine g_aload_n F 0 dX9_distinct_0 rfl rfl ?_
  refine g_iload_n F 1 dX9_distinct_1 rfl rfl ?_
  refine g_callV (k := 62) (As := [.int a1]) (rest := []) F (kX9_isAsked (zl z) E hE a1) mX9_isAsked q1167 rfl s62 rfl rfl rfl (Nat.le_of_ble_eq_true rfl) dX9_distinct_2 (fun r I2 J2 h => ?_)
  obtain ⟨rfl, rfl, rfl⟩ := h
  refine g_st (st' := [.int 0]) rfl ?_
  refine g_if_eq (tgt := 17) F dX9_distinct_5 (by decide) (fun _ => ?_) (fun h => absurd (by decide) h)
  refine g_iconst (v := (-1)) F dX9_distinct_17 (by decide) ?_
  exact g_iret F e dX9_distinct_18 rfl
set_option maxRecDepth 100000 in
set_option maxHeartbeats 4000000 in
theorem kX9_tells (l : Launch) (E : gE) (hE : gDist sh E) (a1 : Int32) (a2 : Int32) : Ct l sh E yX9_tells cX9_tells 3 (some .boolean) (gR 2) [.ref (E.2.1 62), .int a1, .int a2] g0 h0 (fun r _ _ => r = some (.int (0))) := by
  refine Ct.of "LeapJoinModel" rfl hE (by decide) (Nat.le_of_ble_eq_true rfl) (fun z F e hl => ?_)
  subst hl
  refine g_aload_n F 0 dX9_tells_0 rfl rfl ?_
  refine g_iload_n F 1 dX9_tells_1 rfl rfl ?_
  refine g_callV (k := 62) (As := [.int a1]) (rest := []) F (kX9_isAsked (zl z) E hE a1) mX9_isAsked q1167 rfl s62 rfl rfl rfl (Nat.le_of_ble_eq_true rfl) dX9_tells_2 (fun r I2 J2 h => ?_)
  obtain ⟨rfl, rfl, rfl⟩ := h
  refine g_st (st' := [.int 0]) rfl ?_
  refine g_if_eq (tgt := 16) F dX9_tells_5 (by decide) (fun _ => ?_) (fun h => absurd (by decide) h)
  refine g_iconst (v := 0) F dX9_tells_16 (by decide) ?_
  exact g_zret F rfl e dX9_tells_17 rfl
set_option maxRecDepth 100000 in
set_option maxHeartbeats 4000000 in
theorem kX9_behind (l : Launch) (E : gE) (hE : gDist sh E) (a1 : Int32) (a2 : Int32) (a3 : Int32) (a4 : Int32) : Ct l sh E yX9_behind cX9_behind 6 (some .int) (gR 1) [.ref (E.2.1 62), .int a1, .int a2, .int a3, .int a4] g0 h0 (fun r _ _ => r = some (.int (-1))) := by
  refine Ct.of "LeapJoinModel" rfl hE (by decide) (Nat.le_of_ble_eq_true rfl) (fun z F e hl => ?_)
  subst hl
  refine g_aload_n F 0 dX9_behind_0 rfl rfl ?_
  refine g_callV (k := 62) (As := []) (rest := []) F (kX9_areTables (zl z) E hE) mX9_areTables q1028 rfl s62 rfl rfl rfl (Nat.le_of_ble_eq_true rfl) dX9_behind_1 (fun r I2 J2 h => ?_)
  obtain ⟨rfl, rfl, rfl⟩ := h
  refine g_st (st' := [.int 0]) rfl ?_
  refine g_if_ne (tgt := 9) F dX9_behind_4 (by decide) (fun h => absurd (by decide) h) (fun _ => ?_)
  refine g_iconst (v := (-1)) F dX9_behind_7 (by decide) ?_
  exact g_iret F e dX9_behind_8 rfl
set_option maxRecDepth 100000 in
set_option maxHeartbeats 4000000 in
theorem kX9_has_ (l : Launch) (E : gE) (hE : gDist sh E) (a1 : Int32) (a2 : Int32) (a3 : Int32) (a4 : Int32) : Ct l sh E yX9_has_ cX9_has_ 6 (some .boolean) (gR 1) [.ref (E.2.1 62), .int a1, .int a2, .int a3, .int a4] g0 h0 (fun r _ _ => r = some (.int (0))) := by
  refine Ct.of "LeapJoinModel" rfl hE (by decide) (Nat.le_of_ble_eq_true rfl) (fun z F e hl => ?_)
  subst hl
  refine g_aload_n F 0 dX9_has__0 rfl rfl ?_
  refine g_callV (k := 62) (As := []) (rest := []) F (kX9_areTables (zl z) E hE) mX9_areTables q1028 rfl s62 rfl rfl rfl (Nat.le_of_ble_eq_true rfl) dX9_has__1 (fun r I2 J2 h => ?_)
  obtain ⟨rfl, rfl, rfl⟩ := h
  refine g_st (st' := [.int 0]) rfl ?_
  refine g_if_ne (tgt := 9) F dX9_has__4 (by decide) (fun h => absurd (by decide) h) (fun _ => ?_)
  refine g_iconst (v := 0) F dX9_has__7 (by decide) ?_
  exact g_zret F rfl e dX9_has__8 rfl
set_option maxRecDepth 100000 in
set_option maxHeartbeats 4000000 in
theorem kX9_hasMean (l : Launch) (E : gE) (hE : gDist sh E) (a1 : Int32) : Ct l sh E yX9_hasMean cX9_hasMean 2 (some .boolean) (gR 2) [.ref (E.2.1 62), .int a1] g0 h0 (fun r I1 J1 => r = some (.int 0) ∧ I1 = g0 ∧ J1 = h0) := by
  refine Ct.of "LeapJoinModel" rfl hE (by decide) (Nat.le_of_ble_eq_true rfl) (fun z F e hl => ?_)
  subst hl
  refine g_aload_n F 0 dX9_hasMean_0 rfl rfl ?_
  refine g_iload_n F 1 dX9_hasMean_1 rfl rfl ?_
  refine g_callV (k := 62) (As := [.int a1]) (rest := []) F (kX9_isAsked (zl z) E hE a1) mX9_isAsked q1167 rfl s62 rfl rfl rfl (Nat.le_of_ble_eq_true rfl) dX9_hasMean_2 (fun r I2 J2 h => ?_)
  obtain ⟨rfl, rfl, rfl⟩ := h
  refine g_st (st' := [.int 0]) rfl ?_
  refine g_if_eq (tgt := 19) F dX9_hasMean_5 (by decide) (fun _ => ?_) (fun h => absurd (by decide) h)
  refine g_iconst (v := 0) F dX9_hasMean_19 (by decide) ?_
  exact g_zret F rfl e dX9_hasMean_20 ⟨rfl, rfl, rfl⟩
set_option maxRecDepth 100000 in
set_option maxHeartbeats 4000000 in
theorem kX9_mean (l : Launch) (E : gE) (hE : gDist sh E) (a1 : Int32) : Ct l sh E yX9_mean cX9_mean 2 (some .long) (gR 3) [.ref (E.2.1 62), .int a1] g0 h0 (fun r _ _ => r = some (.long (-1000000))) := by
  refine Ct.of "LeapJoinModel" rfl hE (by decide) (Nat.le_of_ble_eq_true rfl) (fun z F e hl => ?_)
  subst hl
  refine g_aload_n F 0 dX9_mean_0 rfl rfl ?_
  refine g_iload_n F 1 dX9_mean_1 rfl rfl ?_
  refine g_callV (k := 62) (As := [.int a1]) (rest := []) F (kX9_hasMean (zl z) E hE a1) mX9_hasMean q1249 rfl s62 rfl rfl rfl (Nat.le_of_ble_eq_true rfl) dX9_mean_2 (fun r I2 J2 h => ?_)
  obtain ⟨rfl, rfl, rfl⟩ := h
  refine g_st (st' := [.int 0]) rfl ?_
  refine g_if_eq (tgt := 19) F dX9_mean_5 (by decide) (fun _ => ?_) (fun h => absurd (by decide) h)
  refine g_ldc2_w F dX9_mean_19 q1264 ?_
  exact g_lret F e dX9_mean_22 rfl
set_option maxRecDepth 100000 in
set_option maxHeartbeats 4000000 in
theorem kX9_in_3 (l : Launch) (E : gE) (hE : gDist sh E) (a0 : Int32) : Ct l sh E yX9_in cX9_in 3 (some .boolean) (gR 0) [.int a0, .int 0, .int 1] g0 h0 (fun r I1 J1 => (r = some (.int 0) ∧ I1 = g0 ∧ J1 = h0 ∧ a0 < 0) ∨ (r = some (.int 0) ∧ I1 = g0 ∧ J1 = h0 ∧ ¬ a0 < 0 ∧ 1 < a0) ∨ (r = some (.int 1) ∧ I1 = g0 ∧ J1 = h0 ∧ ¬ a0 < 0 ∧ ¬ 1 < a0)) := by
  refine Ct.of "LeapJoinModel" rfl hE (by decide) (Nat.le_of_ble_eq_true rfl) (fun z F e hl => ?_)
  subst hl
  refine g_iload_n F 0 dX9_in_0 rfl rfl ?_
  refine g_iload_n F 1 dX9_in_1 rfl rfl ?_
  refine g_icmp_lt (tgt := 14) F dX9_in_2 (by decide) (fun c1 => ?_) (fun c1f => ?_)
  · refine g_iconst (v := 0) F dX9_in_14 (by decide) ?_
    exact g_zret F rfl e dX9_in_15 (Or.inl ⟨rfl, rfl, rfl, c1⟩)
  · refine g_iload_n F 0 dX9_in_5 rfl rfl ?_
    refine g_iload_n F 2 dX9_in_6 rfl rfl ?_
    refine g_icmp_gt (tgt := 14) F dX9_in_7 (by decide) (fun c2 => ?_) (fun c2f => ?_)
    · refine g_iconst (v := 0) F dX9_in_14 (by decide) ?_
      exact g_zret F rfl e dX9_in_15 (Or.inr (Or.inl ⟨rfl, rfl, rfl, c1f, c2⟩))
    · refine g_iconst (v := 1) F dX9_in_10 (by decide) ?_
      refine g_goto (tgt := 15) F dX9_in_11 (by decide) ?_
      exact g_zret F rfl e dX9_in_15 (Or.inr (Or.inr (⟨rfl, rfl, rfl, c1f, c2f⟩)))
set_option maxRecDepth 100000 in
set_option maxHeartbeats 4000000 in
theorem kX9_meanAs (l : Launch) (E : gE) (hE : gDist sh E) (a1 : Int32) (a2 : Int32) : Ct l sh E yX9_meanAs cX9_meanAs 3 (some .int) (gR 3) [.ref (E.2.1 62), .int a1, .int a2] g0 h0 (fun r _ _ => r = some (.int (-1000000))) := by
  refine Ct.of "LeapJoinModel" rfl hE (by decide) (Nat.le_of_ble_eq_true rfl) (fun z F e hl => ?_)
  subst hl
  refine g_iload_n F 2 dX9_meanAs_0 rfl rfl ?_
  refine g_iconst (v := 0) F dX9_meanAs_1 (by decide) ?_
  refine g_iconst (v := 1) F dX9_meanAs_2 (by decide) ?_
  refine g_callS (As := [.int a2, .int 0, .int 1]) (rest := []) F (kX9_in_3 (zl z) E hE a2) mX9_in q923 rfl rfl rfl (Nat.le_of_ble_eq_true rfl) dX9_meanAs_3 (fun r I2 J2 h => ?_)
  rcases h with ⟨rfl, rfl, rfl, c1⟩ | ⟨rfl, rfl, rfl, c2, c3⟩ | ⟨rfl, rfl, rfl, c4, c5⟩
  · refine g_st (st' := [.int 0]) rfl ?_
    refine g_if_eq (tgt := 17) F dX9_meanAs_6 (by decide) (fun _ => ?_) (fun h => absurd (by decide) h)
    refine g_ldc_w F dX9_meanAs_17 q1143 ?_
    exact g_iret F e dX9_meanAs_20 rfl
  · refine g_st (st' := [.int 0]) rfl ?_
    refine g_if_eq (tgt := 17) F dX9_meanAs_6 (by decide) (fun _ => ?_) (fun h => absurd (by decide) h)
    refine g_ldc_w F dX9_meanAs_17 q1143 ?_
    exact g_iret F e dX9_meanAs_20 rfl
  · refine g_st (st' := [.int 1]) rfl ?_
    refine g_if_eq (tgt := 17) F dX9_meanAs_6 (by decide) (fun h => absurd h (by decide)) (fun _ => ?_)
    refine g_aload_n F 0 dX9_meanAs_9 rfl rfl ?_
    refine g_iload_n F 1 dX9_meanAs_10 rfl rfl ?_
    refine g_callV (k := 62) (As := [.int a1]) (rest := []) F (kX9_hasMean (zl z) E hE a1) mX9_hasMean q1249 rfl s62 rfl rfl rfl (Nat.le_of_ble_eq_true rfl) dX9_meanAs_11 (fun r I2 J2 h => ?_)
    obtain ⟨rfl, rfl, rfl⟩ := h
    refine g_st (st' := [.int 0]) rfl ?_
    refine g_if_ne (tgt := 21) F dX9_meanAs_14 (by decide) (fun h => absurd (by decide) h) (fun _ => ?_)
    refine g_ldc_w F dX9_meanAs_17 q1143 ?_
    exact g_iret F e dX9_meanAs_20 rfl
set_option maxRecDepth 100000 in
set_option maxHeartbeats 4000000 in
theorem kX9_spread (l : Launch) (E : gE) (hE : gDist sh E) (a1 : Int32) : Ct l sh E yX9_spread cX9_spread 9 (some .long) (gR 3) [.ref (E.2.1 62), .int a1] g0 h0 (fun r _ _ => r = some (.long (-1000000))) := by
  refine Ct.of "LeapJoinModel" rfl hE (by decide) (Nat.le_of_ble_eq_true rfl) (fun z F e hl => ?_)
  subst hl
  refine g_aload_n F 0 dX9_spread_0 rfl rfl ?_
  refine g_iload_n F 1 dX9_spread_1 rfl rfl ?_
  refine g_callV (k := 62) (As := [.int a1]) (rest := []) F (kX9_hasMean (zl z) E hE a1) mX9_hasMean q1249 rfl s62 rfl rfl rfl (Nat.le_of_ble_eq_true rfl) dX9_spread_2 (fun r I2 J2 h => ?_)
  obtain ⟨rfl, rfl, rfl⟩ := h
  refine g_st (st' := [.int 0]) rfl ?_
  refine g_if_ne (tgt := 12) F dX9_spread_5 (by decide) (fun h => absurd (by decide) h) (fun _ => ?_)
  refine g_ldc2_w F dX9_spread_8 q1264 ?_
  exact g_lret F e dX9_spread_11 rfl
set_option maxRecDepth 100000 in
set_option maxHeartbeats 4000000 in
theorem kX9_skew (l : Launch) (E : gE) (hE : gDist sh E) (a1 : Int32) : Ct l sh E yX9_skew cX9_skew 3 (some .int) (gR 3) [.ref (E.2.1 62), .int a1] g0 h0 (fun r _ _ => r = some (.int (-1000000))) := by
  refine Ct.of "LeapJoinModel" rfl hE (by decide) (Nat.le_of_ble_eq_true rfl) (fun z F e hl => ?_)
  subst hl
  refine g_aload_n F 0 dX9_skew_0 rfl rfl ?_
  refine g_iload_n F 1 dX9_skew_1 rfl rfl ?_
  refine g_callV (k := 62) (As := [.int a1]) (rest := []) F (kX9_hasMean (zl z) E hE a1) mX9_hasMean q1249 rfl s62 rfl rfl rfl (Nat.le_of_ble_eq_true rfl) dX9_skew_2 (fun r I2 J2 h => ?_)
  obtain ⟨rfl, rfl, rfl⟩ := h
  refine g_st (st' := [.int 0]) rfl ?_
  refine g_if_ne (tgt := 12) F dX9_skew_5 (by decide) (fun h => absurd (by decide) h) (fun _ => ?_)
  refine g_ldc_w F dX9_skew_8 q1143 ?_
  exact g_iret F e dX9_skew_11 rfl
set_option maxRecDepth 100000 in
set_option maxHeartbeats 4000000 in
theorem kX9_whyPut (l : Launch) (E : gE) (hE : gDist sh E) (a1 : Int32) (a2 : Int32) (a3 : Int32) (a4 : Int32) : Ct l sh E yX9_whyPut cX9_whyPut 5 (some .int) (gR 2) [.ref (E.2.1 62), .int a1, .int a2, .int a3, .int a4] g0 h0 (fun r I1 J1 => r = some (.int 0) ∧ I1 = g0 ∧ J1 = h0) := by
  refine Ct.of "LeapJoinModel" rfl hE (by decide) (Nat.le_of_ble_eq_true rfl) (fun z F e hl => ?_)
  subst hl
  refine g_aload_n F 0 dX9_whyPut_0 rfl rfl ?_
  refine g_iload_n F 1 dX9_whyPut_1 rfl rfl ?_
  refine g_callV (k := 62) (As := [.int a1]) (rest := []) F (kX9_isTable (zl z) E hE a1) mX9_isTable q1019 rfl s62 rfl rfl rfl (Nat.le_of_ble_eq_true rfl) dX9_whyPut_2 (fun r I2 J2 h => ?_)
  obtain ⟨rfl, rfl, rfl⟩ := h
  refine g_st (st' := [.int 0]) rfl ?_
  refine g_if_ne (tgt := 10) F dX9_whyPut_5 (by decide) (fun h => absurd (by decide) h) (fun _ => ?_)
  refine g_iconst (v := 0) F dX9_whyPut_8 (by decide) ?_
  exact g_iret F e dX9_whyPut_9 ⟨rfl, rfl, rfl⟩
set_option maxRecDepth 100000 in
set_option maxHeartbeats 4000000 in
theorem kX9_whyNot (l : Launch) (E : gE) (hE : gDist sh E) (a2 : Int32) (a3 : Int32) (a4 : Int32) (a5 : Int32) : Ct l sh E yX9_whyNot cX9_whyNot 6 (some .int) (gR 3) [.ref (E.2.1 62), .int 0, .int a2, .int a3, .int a4, .int a5] g0 h0 (fun r I1 J1 => r = some (.int 0) ∧ I1 = g0 ∧ J1 = h0) := by
  refine Ct.of "LeapJoinModel" rfl hE (by decide) (Nat.le_of_ble_eq_true rfl) (fun z F e hl => ?_)
  subst hl
  refine g_iload_n F 1 dX9_whyNot_0 rfl rfl ?_
  refine g_tableIn (tgt := 28) F dX9_whyNot_1 (by decide) (by decide) rfl (by decide) ?_
  refine g_aload_n F 0 dX9_whyNot_28 rfl rfl ?_
  refine g_iload_n F 2 dX9_whyNot_29 rfl rfl ?_
  refine g_iload_n F 3 dX9_whyNot_30 rfl rfl ?_
  refine g_iload F 4 dX9_whyNot_31 rfl ?_
  refine g_iload F 5 dX9_whyNot_33 rfl ?_
  refine g_callV (k := 62) (As := [.int a2, .int a3, .int a4, .int a5]) (rest := []) F (kX9_whyPut (zl z) E hE a2 a3 a4 a5) mX9_whyPut q1016 rfl s62 rfl rfl rfl (Nat.le_of_ble_eq_true rfl) dX9_whyNot_35 (fun r I2 J2 h => ?_)
  obtain ⟨rfl, rfl, rfl⟩ := h
  refine g_st (st' := [.int 0]) rfl ?_
  exact g_iret F e dX9_whyNot_38 ⟨rfl, rfl, rfl⟩
set_option maxRecDepth 100000 in
set_option maxHeartbeats 4000000 in
theorem kX9_hand (l : Launch) (E : gE) (hE : gDist sh E) (a2 : Int32) (a3 : Int32) (a4 : Int32) (a5 : Int32) : Ct l sh E yX9_hand cX9_hand 7 (some .int) (gR 4) [.ref (E.2.1 62), .int 0, .int a2, .int a3, .int a4, .int a5] g0 h0 (fun r I1 J1 => r = some (.int (-1)) ∧ I1 = (g_up g0 71 0 1) ∧ J1 = h0) := by
  refine Ct.of "LeapJoinModel" rfl hE (by decide) (Nat.le_of_ble_eq_true rfl) (fun z F e hl => ?_)
  subst hl
  refine g_aload_n F 0 dX9_hand_0 rfl rfl ?_
  refine g_iload_n F 1 dX9_hand_1 rfl rfl ?_
  refine g_iload_n F 2 dX9_hand_2 rfl rfl ?_
  refine g_iload_n F 3 dX9_hand_3 rfl rfl ?_
  refine g_iload F 4 dX9_hand_4 rfl ?_
  refine g_iload F 5 dX9_hand_6 rfl ?_
  refine g_callV (k := 62) (As := [.int 0, .int a2, .int a3, .int a4, .int a5]) (rest := []) F (kX9_whyNot (zl z) E hE a2 a3 a4 a5) mX9_whyNot q1013 rfl s62 rfl rfl rfl (Nat.le_of_ble_eq_true rfl) dX9_hand_8 (fun r I2 J2 h => ?_)
  obtain ⟨rfl, rfl, rfl⟩ := h
  refine g_st (st' := [.int 0]) rfl ?_
  refine g_istore (L' := [(6, .int 0), (0, .ref (E.2.1 62)), (1, .int 0), (2, .int a2), (3, .int a3), (4, .int a4), (5, .int a5)]) F dX9_hand_11 (by decide) rfl ?_
  refine g_iload F 0 dX9_hand_13 rfl ?_
  refine g_iconst (v := (-1)) F dX9_hand_15 (by decide) ?_
  refine g_icmp_eq (tgt := 32) F dX9_hand_16 (by decide) (fun h => absurd h (by decide)) (fun _ => ?_)
  refine g_aload_n F 1 dX9_hand_19 rfl rfl ?_
  refine g_getr (j := 14) (nn := 71) F s62 rfl rfl uX9 (by decide) q835 dX9_hand_20 ?_
  refine g_iload F 0 dX9_hand_23 rfl ?_
  refine g_dup2 F dX9_hand_25 rfl rfl ?_
  refine g_iald (v := 0) F 0 s71 (by decide) (by decide) (by decide) rfl dX9_hand_26 ?_
  refine g_iconst (v := 1) F dX9_hand_27 (by decide) ?_
  refine g_iadd (v := 1) F dX9_hand_28 (by decide) ?_
  refine g_iast (v := 1) F 0 s71 (by decide) (by decide) (by decide) rfl dX9_hand_29 ?_
  refine g_iconst (v := (-1)) F dX9_hand_30 (by decide) ?_
  exact g_iret F e dX9_hand_31 ⟨rfl, rfl, rfl⟩
set_option maxRecDepth 100000 in
set_option maxHeartbeats 4000000 in
theorem kX9_put (l : Launch) (E : gE) (hE : gDist sh E) (a1 : Int32) (a2 : Int32) (a3 : Int32) (a4 : Int32) : Ct l sh E yX9_put cX9_put 5 (some .int) (gR 5) [.ref (E.2.1 62), .int a1, .int a2, .int a3, .int a4] g0 h0 (fun r _ _ => r = some (.int (-1))) := by
  refine Ct.of "LeapJoinModel" rfl hE (by decide) (Nat.le_of_ble_eq_true rfl) (fun z F e hl => ?_)
  subst hl
  refine g_aload_n F 0 dX9_put_0 rfl rfl ?_
  refine g_iconst (v := 0) F dX9_put_1 (by decide) ?_
  refine g_iload_n F 1 dX9_put_2 rfl rfl ?_
  refine g_iload_n F 2 dX9_put_3 rfl rfl ?_
  refine g_iload_n F 3 dX9_put_4 rfl rfl ?_
  refine g_iload F 4 dX9_put_5 rfl ?_
  refine g_callV (k := 62) (As := [.int 0, .int a1, .int a2, .int a3, .int a4]) (rest := []) F (kX9_hand (zl z) E hE a1 a2 a3 a4) mX9_hand q1010 rfl s62 rfl rfl rfl (Nat.le_of_ble_eq_true rfl) dX9_put_7 (fun r I2 J2 h => ?_)
  obtain ⟨rfl, rfl, rfl⟩ := h
  refine g_st (st' := [.int (-1)]) rfl ?_
  exact g_iret F e dX9_put_10 rfl
set_option maxRecDepth 100000 in
set_option maxHeartbeats 4000000 in
theorem kX9_whyTake (l : Launch) (E : gE) (hE : gDist sh E) (a1 : Int32) (a2 : Int32) (a3 : Int32) (a4 : Int32) : Ct l sh E yX9_whyTake cX9_whyTake 5 (some .int) (gR 2) [.ref (E.2.1 62), .int a1, .int a2, .int a3, .int a4] g0 h0 (fun r I1 J1 => r = some (.int 0) ∧ I1 = g0 ∧ J1 = h0) := by
  refine Ct.of "LeapJoinModel" rfl hE (by decide) (Nat.le_of_ble_eq_true rfl) (fun z F e hl => ?_)
  subst hl
  refine g_aload_n F 0 dX9_whyTake_0 rfl rfl ?_
  refine g_iload_n F 1 dX9_whyTake_1 rfl rfl ?_
  refine g_callV (k := 62) (As := [.int a1]) (rest := []) F (kX9_isTable (zl z) E hE a1) mX9_isTable q1019 rfl s62 rfl rfl rfl (Nat.le_of_ble_eq_true rfl) dX9_whyTake_2 (fun r I2 J2 h => ?_)
  obtain ⟨rfl, rfl, rfl⟩ := h
  refine g_st (st' := [.int 0]) rfl ?_
  refine g_if_ne (tgt := 10) F dX9_whyTake_5 (by decide) (fun h => absurd (by decide) h) (fun _ => ?_)
  refine g_iconst (v := 0) F dX9_whyTake_8 (by decide) ?_
  exact g_iret F e dX9_whyTake_9 ⟨rfl, rfl, rfl⟩
set_option maxRecDepth 100000 in
set_option maxHeartbeats 4000000 in
theorem kX9_whyNot_2 (l : Launch) (E : gE) (hE : gDist sh E) (a2 : Int32) (a3 : Int32) (a4 : Int32) (a5 : Int32) : Ct l sh E yX9_whyNot cX9_whyNot 6 (some .int) (gR 3) [.ref (E.2.1 62), .int 1, .int a2, .int a3, .int a4, .int a5] g0 h0 (fun r I1 J1 => r = some (.int 0) ∧ I1 = g0 ∧ J1 = h0) := by
  refine Ct.of "LeapJoinModel" rfl hE (by decide) (Nat.le_of_ble_eq_true rfl) (fun z F e hl => ?_)
  subst hl
  refine g_iload_n F 1 dX9_whyNot_0 rfl rfl ?_
  refine g_tableIn (tgt := 39) F dX9_whyNot_1 (by decide) (by decide) rfl (by decide) ?_
  refine g_aload_n F 0 dX9_whyNot_39 rfl rfl ?_
  refine g_iload_n F 2 dX9_whyNot_40 rfl rfl ?_
  refine g_iload_n F 3 dX9_whyNot_41 rfl rfl ?_
  refine g_iload F 4 dX9_whyNot_42 rfl ?_
  refine g_iload F 5 dX9_whyNot_44 rfl ?_
  refine g_callV (k := 62) (As := [.int a2, .int a3, .int a4, .int a5]) (rest := []) F (kX9_whyTake (zl z) E hE a2 a3 a4 a5) mX9_whyTake q1025 rfl s62 rfl rfl rfl (Nat.le_of_ble_eq_true rfl) dX9_whyNot_46 (fun r I2 J2 h => ?_)
  obtain ⟨rfl, rfl, rfl⟩ := h
  refine g_st (st' := [.int 0]) rfl ?_
  exact g_iret F e dX9_whyNot_49 ⟨rfl, rfl, rfl⟩
set_option maxRecDepth 100000 in
set_option maxHeartbeats 4000000 in
theorem kX9_hand_2 (l : Launch) (E : gE) (hE : gDist sh E) (a2 : Int32) (a3 : Int32) (a4 : Int32) (a5 : Int32) : Ct l sh E yX9_hand cX9_hand 7 (some .int) (gR 4) [.ref (E.2.1 62), .int 1, .int a2, .int a3, .int a4, .int a5] g0 h0 (fun r I1 J1 => r = some (.int (-1)) ∧ I1 = (g_up g0 71 0 1) ∧ J1 = h0) := by
  refine Ct.of "LeapJoinModel" rfl hE (by decide) (Nat.le_of_ble_eq_true rfl) (fun z F e hl => ?_)
  subst hl
  refine g_aload_n F 0 dX9_hand_0 rfl rfl ?_
  refine g_iload_n F 1 dX9_hand_1 rfl rfl ?_
  refine g_iload_n F 2 dX9_hand_2 rfl rfl ?_
  refine g_iload_n F 3 dX9_hand_3 rfl rfl ?_
  refine g_iload F 4 dX9_hand_4 rfl ?_
  refine g_iload F 5 dX9_hand_6 rfl ?_
  refine g_callV (k := 62) (As := [.int 1, .int a2, .int a3, .int a4, .int a5]) (rest := []) F (kX9_whyNot_2 (zl z) E hE a2 a3 a4 a5) mX9_whyNot q1013 rfl s62 rfl rfl rfl (Nat.le_of_ble_eq_true rfl) dX9_hand_8 (fun r I2 J2 h => ?_)
  obtain ⟨rfl, rfl, rfl⟩ := h
  refine g_st (st' := [.int 0]) rfl ?_
  refine g_istore (L' := [(6, .int 0), (0, .ref (E.2.1 62)), (1, .int 1), (2, .int a2), (3, .int a3), (4, .int a4), (5, .int a5)]) F dX9_hand_11 (by decide) rfl ?_
  refine g_iload F 0 dX9_hand_13 rfl ?_
  refine g_iconst (v := (-1)) F dX9_hand_15 (by decide) ?_
  refine g_icmp_eq (tgt := 32) F dX9_hand_16 (by decide) (fun h => absurd h (by decide)) (fun _ => ?_)
  refine g_aload_n F 1 dX9_hand_19 rfl rfl ?_
  refine g_getr (j := 14) (nn := 71) F s62 rfl rfl uX9 (by decide) q835 dX9_hand_20 ?_
  refine g_iload F 0 dX9_hand_23 rfl ?_
  refine g_dup2 F dX9_hand_25 rfl rfl ?_
  refine g_iald (v := 0) F 0 s71 (by decide) (by decide) (by decide) rfl dX9_hand_26 ?_
  refine g_iconst (v := 1) F dX9_hand_27 (by decide) ?_
  refine g_iadd (v := 1) F dX9_hand_28 (by decide) ?_
  refine g_iast (v := 1) F 0 s71 (by decide) (by decide) (by decide) rfl dX9_hand_29 ?_
  refine g_iconst (v := (-1)) F dX9_hand_30 (by decide) ?_
  exact g_iret F e dX9_hand_31 ⟨rfl, rfl, rfl⟩
set_option maxRecDepth 100000 in
set_option maxHeartbeats 4000000 in
theorem kX9_take (l : Launch) (E : gE) (hE : gDist sh E) (a1 : Int32) (a2 : Int32) (a3 : Int32) (a4 : Int32) : Ct l sh E yX9_take cX9_take 5 (some .int) (gR 5) [.ref (E.2.1 62), .int a1, .int a2, .int a3, .int a4] g0 h0 (fun r _ _ => r = some (.int (-1))) := by
  refine Ct.of "LeapJoinModel" rfl hE (by decide) (Nat.le_of_ble_eq_true rfl) (fun z F e hl => ?_)
  subst hl
  refine g_aload_n F 0 dX9_take_0 rfl rfl ?_
  refine g_iconst (v := 1) F dX9_take_1 (by decide) ?_
  refine g_iload_n F 1 dX9_take_2 rfl rfl ?_
  refine g_iload_n F 2 dX9_take_3 rfl rfl ?_
  refine g_iload_n F 3 dX9_take_4 rfl rfl ?_
  refine g_iload F 4 dX9_take_5 rfl ?_
  refine g_callV (k := 62) (As := [.int 1, .int a1, .int a2, .int a3, .int a4]) (rest := []) F (kX9_hand_2 (zl z) E hE a1 a2 a3 a4) mX9_hand q1010 rfl s62 rfl rfl rfl (Nat.le_of_ble_eq_true rfl) dX9_take_7 (fun r I2 J2 h => ?_)
  obtain ⟨rfl, rfl, rfl⟩ := h
  refine g_st (st' := [.int (-1)]) rfl ?_
  exact g_iret F e dX9_take_10 rfl
set_option maxRecDepth 100000 in
set_option maxHeartbeats 4000000 in
theorem kX9_whyNot_3 (l : Launch) (E : gE) (hE : gDist sh E) (a2 : Int32) : Ct l sh E yX9_whyNot cX9_whyNot 6 (some .int) (gR 2) [.ref (E.2.1 62), .int 2, .int a2, .int 0, .int 0, .int 0] g0 h0 (fun r I1 J1 => r = some (.int 0) ∧ I1 = g0 ∧ J1 = h0) := by
  refine Ct.of "LeapJoinModel" rfl hE (by decide) (Nat.le_of_ble_eq_true rfl) (fun z F e hl => ?_)
  subst hl
  refine g_iload_n F 1 dX9_whyNot_0 rfl rfl ?_
  refine g_tableIn (tgt := 50) F dX9_whyNot_1 (by decide) (by decide) rfl (by decide) ?_
  refine g_aload_n F 0 dX9_whyNot_50 rfl rfl ?_
  refine g_iload_n F 2 dX9_whyNot_51 rfl rfl ?_
  refine g_callV (k := 62) (As := [.int a2]) (rest := []) F (kX9_isTable (zl z) E hE a2) mX9_isTable q1019 rfl s62 rfl rfl rfl (Nat.le_of_ble_eq_true rfl) dX9_whyNot_52 (fun r I2 J2 h => ?_)
  obtain ⟨rfl, rfl, rfl⟩ := h
  refine g_st (st' := [.int 0]) rfl ?_
  refine g_if_ne (tgt := 62) F dX9_whyNot_55 (by decide) (fun h => absurd (by decide) h) (fun _ => ?_)
  refine g_iconst (v := 0) F dX9_whyNot_58 (by decide) ?_
  refine g_goto (tgt := 79) F dX9_whyNot_59 (by decide) ?_
  exact g_iret F e dX9_whyNot_79 ⟨rfl, rfl, rfl⟩
set_option maxRecDepth 100000 in
set_option maxHeartbeats 4000000 in
theorem kX9_hand_3 (l : Launch) (E : gE) (hE : gDist sh E) (a2 : Int32) : Ct l sh E yX9_hand cX9_hand 7 (some .int) (gR 3) [.ref (E.2.1 62), .int 2, .int a2, .int 0, .int 0, .int 0] g0 h0 (fun r I1 J1 => r = some (.int (-1)) ∧ I1 = (g_up g0 71 0 1) ∧ J1 = h0) := by
  refine Ct.of "LeapJoinModel" rfl hE (by decide) (Nat.le_of_ble_eq_true rfl) (fun z F e hl => ?_)
  subst hl
  refine g_aload_n F 0 dX9_hand_0 rfl rfl ?_
  refine g_iload_n F 1 dX9_hand_1 rfl rfl ?_
  refine g_iload_n F 2 dX9_hand_2 rfl rfl ?_
  refine g_iload_n F 3 dX9_hand_3 rfl rfl ?_
  refine g_iload F 4 dX9_hand_4 rfl ?_
  refine g_iload F 5 dX9_hand_6 rfl ?_
  refine g_callV (k := 62) (As := [.int 2, .int a2, .int 0, .int 0, .int 0]) (rest := []) F (kX9_whyNot_3 (zl z) E hE a2) mX9_whyNot q1013 rfl s62 rfl rfl rfl (Nat.le_of_ble_eq_true rfl) dX9_hand_8 (fun r I2 J2 h => ?_)
  obtain ⟨rfl, rfl, rfl⟩ := h
  refine g_st (st' := [.int 0]) rfl ?_
  refine g_istore (L' := [(6, .int 0), (0, .ref (E.2.1 62)), (1, .int 2), (2, .int a2), (3, .int 0), (4, .int 0), (5, .int 0)]) F dX9_hand_11 (by decide) rfl ?_
  refine g_iload F 0 dX9_hand_13 rfl ?_
  refine g_iconst (v := (-1)) F dX9_hand_15 (by decide) ?_
  refine g_icmp_eq (tgt := 32) F dX9_hand_16 (by decide) (fun h => absurd h (by decide)) (fun _ => ?_)
  refine g_aload_n F 1 dX9_hand_19 rfl rfl ?_
  refine g_getr (j := 14) (nn := 71) F s62 rfl rfl uX9 (by decide) q835 dX9_hand_20 ?_
  refine g_iload F 0 dX9_hand_23 rfl ?_
  refine g_dup2 F dX9_hand_25 rfl rfl ?_
  refine g_iald (v := 0) F 0 s71 (by decide) (by decide) (by decide) rfl dX9_hand_26 ?_
  refine g_iconst (v := 1) F dX9_hand_27 (by decide) ?_
  refine g_iadd (v := 1) F dX9_hand_28 (by decide) ?_
  refine g_iast (v := 1) F 0 s71 (by decide) (by decide) (by decide) rfl dX9_hand_29 ?_
  refine g_iconst (v := (-1)) F dX9_hand_30 (by decide) ?_
  exact g_iret F e dX9_hand_31 ⟨rfl, rfl, rfl⟩
set_option maxRecDepth 100000 in
set_option maxHeartbeats 4000000 in
theorem kX9_use (l : Launch) (E : gE) (hE : gDist sh E) (a1 : Int32) : Ct l sh E yX9_use cX9_use 2 (some .int) (gR 4) [.ref (E.2.1 62), .int a1] g0 h0 (fun r _ _ => r = some (.int (-1))) := by
  refine Ct.of "LeapJoinModel" rfl hE (by decide) (Nat.le_of_ble_eq_true rfl) (fun z F e hl => ?_)
  subst hl
  refine g_aload_n F 0 dX9_use_0 rfl rfl ?_
  refine g_iconst (v := 2) F dX9_use_1 (by decide) ?_
  refine g_iload_n F 1 dX9_use_2 rfl rfl ?_
  refine g_iconst (v := 0) F dX9_use_3 (by decide) ?_
  refine g_iconst (v := 0) F dX9_use_4 (by decide) ?_
  refine g_iconst (v := 0) F dX9_use_5 (by decide) ?_
  refine g_callV (k := 62) (As := [.int 2, .int a1, .int 0, .int 0, .int 0]) (rest := []) F (kX9_hand_3 (zl z) E hE a1) mX9_hand q1010 rfl s62 rfl rfl rfl (Nat.le_of_ble_eq_true rfl) dX9_use_6 (fun r I2 J2 h => ?_)
  obtain ⟨rfl, rfl, rfl⟩ := h
  refine g_st (st' := [.int (-1)]) rfl ?_
  exact g_iret F e dX9_use_9 rfl
set_option maxRecDepth 100000 in
set_option maxHeartbeats 4000000 in
theorem kX9_whyNot_4 (l : Launch) (E : gE) (hE : gDist sh E) (a2 : Int32) : Ct l sh E yX9_whyNot cX9_whyNot 6 (some .int) (gR 1) [.ref (E.2.1 62), .int 3, .int a2, .int 0, .int 0, .int 0] g0 h0 (fun r I1 J1 => r = some (.int 0) ∧ I1 = g0 ∧ J1 = h0) := by
  refine Ct.of "LeapJoinModel" rfl hE (by decide) (Nat.le_of_ble_eq_true rfl) (fun z F e hl => ?_)
  subst hl
  refine g_iload_n F 1 dX9_whyNot_0 rfl rfl ?_
  refine g_tableOut (tgt := 80) F dX9_whyNot_1 (by decide) (by decide) ?_
  refine g_aload_n F 0 dX9_whyNot_80 rfl rfl ?_
  refine g_callV (k := 62) (As := []) (rest := []) F (kX9_areTables (zl z) E hE) mX9_areTables q1028 rfl s62 rfl rfl rfl (Nat.le_of_ble_eq_true rfl) dX9_whyNot_81 (fun r I2 J2 h => ?_)
  obtain ⟨rfl, rfl, rfl⟩ := h
  refine g_st (st' := [.int 0]) rfl ?_
  refine g_if_ne (tgt := 91) F dX9_whyNot_84 (by decide) (fun h => absurd (by decide) h) (fun _ => ?_)
  refine g_iconst (v := 0) F dX9_whyNot_87 (by decide) ?_
  refine g_goto (tgt := 120) F dX9_whyNot_88 (by decide) ?_
  exact g_iret F e dX9_whyNot_120 ⟨rfl, rfl, rfl⟩
set_option maxRecDepth 100000 in
set_option maxHeartbeats 4000000 in
theorem kX9_hand_4 (l : Launch) (E : gE) (hE : gDist sh E) (a2 : Int32) : Ct l sh E yX9_hand cX9_hand 7 (some .int) (gR 2) [.ref (E.2.1 62), .int 3, .int a2, .int 0, .int 0, .int 0] g0 h0 (fun r I1 J1 => r = some (.int (-1)) ∧ I1 = (g_up g0 71 0 1) ∧ J1 = h0) := by
  refine Ct.of "LeapJoinModel" rfl hE (by decide) (Nat.le_of_ble_eq_true rfl) (fun z F e hl => ?_)
  subst hl
  refine g_aload_n F 0 dX9_hand_0 rfl rfl ?_
  refine g_iload_n F 1 dX9_hand_1 rfl rfl ?_
  refine g_iload_n F 2 dX9_hand_2 rfl rfl ?_
  refine g_iload_n F 3 dX9_hand_3 rfl rfl ?_
  refine g_iload F 4 dX9_hand_4 rfl ?_
  refine g_iload F 5 dX9_hand_6 rfl ?_
  refine g_callV (k := 62) (As := [.int 3, .int a2, .int 0, .int 0, .int 0]) (rest := []) F (kX9_whyNot_4 (zl z) E hE a2) mX9_whyNot q1013 rfl s62 rfl rfl rfl (Nat.le_of_ble_eq_true rfl) dX9_hand_8 (fun r I2 J2 h => ?_)
  obtain ⟨rfl, rfl, rfl⟩ := h
  refine g_st (st' := [.int 0]) rfl ?_
  refine g_istore (L' := [(6, .int 0), (0, .ref (E.2.1 62)), (1, .int 3), (2, .int a2), (3, .int 0), (4, .int 0), (5, .int 0)]) F dX9_hand_11 (by decide) rfl ?_
  refine g_iload F 0 dX9_hand_13 rfl ?_
  refine g_iconst (v := (-1)) F dX9_hand_15 (by decide) ?_
  refine g_icmp_eq (tgt := 32) F dX9_hand_16 (by decide) (fun h => absurd h (by decide)) (fun _ => ?_)
  refine g_aload_n F 1 dX9_hand_19 rfl rfl ?_
  refine g_getr (j := 14) (nn := 71) F s62 rfl rfl uX9 (by decide) q835 dX9_hand_20 ?_
  refine g_iload F 0 dX9_hand_23 rfl ?_
  refine g_dup2 F dX9_hand_25 rfl rfl ?_
  refine g_iald (v := 0) F 0 s71 (by decide) (by decide) (by decide) rfl dX9_hand_26 ?_
  refine g_iconst (v := 1) F dX9_hand_27 (by decide) ?_
  refine g_iadd (v := 1) F dX9_hand_28 (by decide) ?_
  refine g_iast (v := 1) F 0 s71 (by decide) (by decide) (by decide) rfl dX9_hand_29 ?_
  refine g_iconst (v := (-1)) F dX9_hand_30 (by decide) ?_
  exact g_iret F e dX9_hand_31 ⟨rfl, rfl, rfl⟩
set_option maxRecDepth 100000 in
set_option maxHeartbeats 4000000 in
theorem kX9_order (l : Launch) (E : gE) (hE : gDist sh E) (a1 : Int32) : Ct l sh E yX9_order cX9_order 2 (some .int) (gR 3) [.ref (E.2.1 62), .int a1] g0 h0 (fun r _ _ => r = some (.int (-1))) := by
  refine Ct.of "LeapJoinModel" rfl hE (by decide) (Nat.le_of_ble_eq_true rfl) (fun z F e hl => ?_)
  subst hl
  refine g_aload_n F 0 dX9_order_0 rfl rfl ?_
  refine g_iconst (v := 3) F dX9_order_1 (by decide) ?_
  refine g_iload_n F 1 dX9_order_2 rfl rfl ?_
  refine g_iconst (v := 0) F dX9_order_3 (by decide) ?_
  refine g_iconst (v := 0) F dX9_order_4 (by decide) ?_
  refine g_iconst (v := 0) F dX9_order_5 (by decide) ?_
  refine g_callV (k := 62) (As := [.int 3, .int a1, .int 0, .int 0, .int 0]) (rest := []) F (kX9_hand_4 (zl z) E hE a1) mX9_hand q1010 rfl s62 rfl rfl rfl (Nat.le_of_ble_eq_true rfl) dX9_order_6 (fun r I2 J2 h => ?_)
  obtain ⟨rfl, rfl, rfl⟩ := h
  refine g_st (st' := [.int (-1)]) rfl ?_
  exact g_iret F e dX9_order_9 rfl
set_option maxRecDepth 100000 in
set_option maxHeartbeats 4000000 in
theorem kX9_ways (l : Launch) (E : gE) (hE : gDist sh E) (a1 : Int32) (a2 : Int64) : Ct l sh E yX9_ways cX9_ways 5 (some .int) (gR 1) [.ref (E.2.1 62), .int a1, .long a2] g0 h0 (fun r _ _ => r = some (.int (-1))) := by
  refine Ct.of "LeapJoinModel" rfl hE (by decide) (Nat.le_of_ble_eq_true rfl) (fun z F e hl => ?_)
  subst hl
  refine g_aload_n F 0 dX9_ways_0 rfl rfl ?_
  refine g_callV (k := 62) (As := []) (rest := []) F (kX9_areTables (zl z) E hE) mX9_areTables q1028 rfl s62 rfl rfl rfl (Nat.le_of_ble_eq_true rfl) dX9_ways_1 (fun r I2 J2 h => ?_)
  obtain ⟨rfl, rfl, rfl⟩ := h
  refine g_st (st' := [.int 0]) rfl ?_
  refine g_if_eq (tgt := 17) F dX9_ways_4 (by decide) (fun _ => ?_) (fun h => absurd (by decide) h)
  refine g_iconst (v := (-1)) F dX9_ways_17 (by decide) ?_
  exact g_iret F e dX9_ways_18 rfl
set_option maxRecDepth 100000 in
set_option maxHeartbeats 4000000 in
theorem kX9_in_4 (l : Launch) (E : gE) (hE : gDist sh E) (a0 : Int32) : Ct l sh E yX9_in cX9_in 3 (some .boolean) (gR 0) [.int a0, .int 0, .int 3] g0 h0 (fun r I1 J1 => (r = some (.int 0) ∧ I1 = g0 ∧ J1 = h0 ∧ a0 < 0) ∨ (r = some (.int 0) ∧ I1 = g0 ∧ J1 = h0 ∧ ¬ a0 < 0 ∧ 3 < a0) ∨ (r = some (.int 1) ∧ I1 = g0 ∧ J1 = h0 ∧ ¬ a0 < 0 ∧ ¬ 3 < a0)) := by
  refine Ct.of "LeapJoinModel" rfl hE (by decide) (Nat.le_of_ble_eq_true rfl) (fun z F e hl => ?_)
  subst hl
  refine g_iload_n F 0 dX9_in_0 rfl rfl ?_
  refine g_iload_n F 1 dX9_in_1 rfl rfl ?_
  refine g_icmp_lt (tgt := 14) F dX9_in_2 (by decide) (fun c1 => ?_) (fun c1f => ?_)
  · refine g_iconst (v := 0) F dX9_in_14 (by decide) ?_
    exact g_zret F rfl e dX9_in_15 (Or.inl ⟨rfl, rfl, rfl, c1⟩)
  · refine g_iload_n F 0 dX9_in_5 rfl rfl ?_
    refine g_iload_n F 2 dX9_in_6 rfl rfl ?_
    refine g_icmp_gt (tgt := 14) F dX9_in_7 (by decide) (fun c2 => ?_) (fun c2f => ?_)
    · refine g_iconst (v := 0) F dX9_in_14 (by decide) ?_
      exact g_zret F rfl e dX9_in_15 (Or.inr (Or.inl ⟨rfl, rfl, rfl, c1f, c2⟩))
    · refine g_iconst (v := 1) F dX9_in_10 (by decide) ?_
      refine g_goto (tgt := 15) F dX9_in_11 (by decide) ?_
      exact g_zret F rfl e dX9_in_15 (Or.inr (Or.inr (⟨rfl, rfl, rfl, c1f, c2f⟩)))
set_option maxRecDepth 100000 in
set_option maxHeartbeats 4000000 in
theorem kX9_status (l : Launch) (E : gE) (hE : gDist sh E) (a1 : Int32) : Ct l sh E yX9_status cX9_status 2 (some .int) (gR 1) [.ref (E.2.1 62), .int a1] g0 h0 (fun r _ _ => r = some (.int (if 0 ≤ a1 ∧ a1 < 4 then 0 else (-1)))) := by
  refine Ct.of "LeapJoinModel" rfl hE (by decide) (Nat.le_of_ble_eq_true rfl) (fun z F e hl => ?_)
  subst hl
  refine g_iload_n F 1 dX9_status_0 rfl rfl ?_
  refine g_iconst (v := 0) F dX9_status_1 (by decide) ?_
  refine g_iconst (v := 3) F dX9_status_2 (by decide) ?_
  refine g_callS (As := [.int a1, .int 0, .int 3]) (rest := []) F (kX9_in_4 (zl z) E hE a1) mX9_in q923 rfl rfl rfl (Nat.le_of_ble_eq_true rfl) dX9_status_3 (fun r I2 J2 h => ?_)
  rcases h with ⟨rfl, rfl, rfl, c1⟩ | ⟨rfl, rfl, rfl, c2, c3⟩ | ⟨rfl, rfl, rfl, c4, c5⟩
  · refine g_st (st' := [.int 0]) rfl ?_
    refine g_if_eq (tgt := 18) F dX9_status_6 (by decide) (fun _ => ?_) (fun h => absurd (by decide) h)
    refine g_iconst (v := (-1)) F dX9_status_18 (by decide) ?_
    exact g_iret F e dX9_status_19 (congrArg (fun x => some (Value.int x)) (if_neg (by simp only [g_lt, g_le, g_eq, g_l0, g_l1, g_l2, g_l3, g_l4, g_l5, g_lm1, g_l400, g_l40, g_l15] at c1 ⊢; omega)).symm)
  · refine g_st (st' := [.int 0]) rfl ?_
    refine g_if_eq (tgt := 18) F dX9_status_6 (by decide) (fun _ => ?_) (fun h => absurd (by decide) h)
    refine g_iconst (v := (-1)) F dX9_status_18 (by decide) ?_
    exact g_iret F e dX9_status_19 (congrArg (fun x => some (Value.int x)) (if_neg (by simp only [g_lt, g_le, g_eq, g_l0, g_l1, g_l2, g_l3, g_l4, g_l5, g_lm1, g_l400, g_l40, g_l15] at c2 c3 ⊢; omega)).symm)
  · refine g_st (st' := [.int 1]) rfl ?_
    refine g_if_eq (tgt := 18) F dX9_status_6 (by decide) (fun h => absurd h (by decide)) (fun _ => ?_)
    refine g_aload_n F 0 dX9_status_9 rfl rfl ?_
    refine g_getr (j := 14) (nn := 71) F s62 rfl rfl uX9 (by decide) q835 dX9_status_10 ?_
    refine g_iload_n F 1 dX9_status_13 rfl rfl ?_
    refine g_ialdX (v := 0) F s71 (vp_in_iff.mpr (by simp only [g_lt, g_le, g_eq, g_l0, g_l1, g_l2, g_l3, g_l4, g_l5, g_lm1, g_l400, g_l40, g_l15] at c4 c5; omega)) (by decide) rfl dX9_status_14 ?_
    refine g_goto (tgt := 19) F dX9_status_15 (by decide) ?_
    exact g_iret F e dX9_status_19 (congrArg (fun x => some (Value.int x)) (if_pos (by simp only [g_lt, g_le, g_eq, g_l0, g_l1, g_l2, g_l3, g_l4, g_l5, g_lm1, g_l400, g_l40, g_l15] at c4 c5 ⊢; omega)).symm)
set_option maxRecDepth 100000 in
set_option maxHeartbeats 4000000 in
theorem kX9_undo (l : Launch) (E : gE) (hE : gDist sh E) : Ct l sh E yX9_undo cX9_undo 2 (some .int) (gR 0) [.ref (E.2.1 62)] g0 h0 (fun r _ _ => r = some (.int (-1))) := by
  refine Ct.of "LeapJoinModel" rfl hE (by decide) (Nat.le_of_ble_eq_true rfl) (fun z F e hl => ?_)
  subst hl
  refine g_aload_n F 0 dX9_undo_0 rfl rfl ?_
  refine g_geti (j := 29) (v := 0) F s62 rfl rfl uX9 (by decide) q850 rfl dX9_undo_1 ?_
  refine g_if_ne (tgt := 9) F dX9_undo_4 (by decide) (fun h => absurd (by decide) h) (fun _ => ?_)
  refine g_iconst (v := (-1)) F dX9_undo_7 (by decide) ?_
  exact g_iret F e dX9_undo_8 rfl
set_option maxRecDepth 100000 in
set_option maxHeartbeats 4000000 in
theorem kX9_log (l : Launch) (E : gE) (hE : gDist sh E) (a1 : Int32) (a2 : Int32) : Ct l sh E yX9_log cX9_log 3 (some .int) (gR 1) [.ref (E.2.1 62), .int a1, .int a2] g0 h0 (fun r _ _ => r = some (.int (-1000000))) := by
  refine Ct.of "LeapJoinModel" rfl hE (by decide) (Nat.le_of_ble_eq_true rfl) (fun z F e hl => ?_)
  subst hl
  refine g_iload_n F 1 dX9_log_0 rfl rfl ?_
  refine g_iconst (v := 0) F dX9_log_1 (by decide) ?_
  refine g_aload_n F 0 dX9_log_2 rfl rfl ?_
  refine g_getr (j := 13) (nn := 70) F s62 rfl rfl uX9 (by decide) q834 dX9_log_3 ?_
  refine g_sipush (v := 150) F dX9_log_6 (by decide) ?_
  refine g_iald (v := 0) F 150 s70 (by decide) (by decide) (by decide) rfl dX9_log_9 ?_
  refine g_iconst (v := 1) F dX9_log_10 (by decide) ?_
  refine g_isub (v := (-1)) F dX9_log_11 (by decide) ?_
  refine g_callS (As := [.int a1, .int 0, .int (-1)]) (rest := []) F (kX9_in_2 (zl z) E hE a1) mX9_in q923 rfl rfl rfl (Nat.le_of_ble_eq_true rfl) dX9_log_12 (fun r I2 J2 h => ?_)
  obtain ⟨rfl, rfl, rfl⟩ := h
  refine g_st (st' := [.int 0]) rfl ?_
  refine g_if_eq (tgt := 55) F dX9_log_15 (by decide) (fun _ => ?_) (fun h => absurd (by decide) h)
  refine g_ldc_w F dX9_log_55 q1143 ?_
  exact g_iret F e dX9_log_58 rfl
set_option maxRecDepth 100000 in
set_option maxHeartbeats 4000000 in
theorem kX9_would (l : Launch) (E : gE) (hE : gDist sh E) (a1 : Int32) (a2 : Int32) (a3 : Int32) (a4 : Int32) (a5 : Int32) : Ct l sh E yX9_would cX9_would 6 (some .int) (gR 3) [.ref (E.2.1 62), .int a1, .int a2, .int a3, .int a4, .int a5] g0 h0 (fun r _ _ => r = some (.int (-1))) := by
  refine Ct.of "LeapJoinModel" rfl hE (by decide) (Nat.le_of_ble_eq_true rfl) (fun z F e hl => ?_)
  subst hl
  refine g_aload_n F 0 dX9_would_0 rfl rfl ?_
  refine g_iload_n F 1 dX9_would_1 rfl rfl ?_
  refine g_iload_n F 2 dX9_would_2 rfl rfl ?_
  refine g_iload_n F 3 dX9_would_3 rfl rfl ?_
  refine g_iload F 4 dX9_would_4 rfl ?_
  refine g_callV (k := 62) (As := [.int a1, .int a2, .int a3, .int a4]) (rest := []) F (kX9_whyPut (zl z) E hE a1 a2 a3 a4) mX9_whyPut q1016 rfl s62 rfl rfl rfl (Nat.le_of_ble_eq_true rfl) dX9_would_6 (fun r I2 J2 h => ?_)
  obtain ⟨rfl, rfl, rfl⟩ := h
  refine g_st (st' := [.int 0]) rfl ?_
  refine g_iconst (v := (-1)) F dX9_would_9 (by decide) ?_
  refine g_icmp_ne (tgt := 23) F dX9_would_10 (by decide) (fun _ => ?_) (fun h => absurd h (by decide))
  refine g_iconst (v := (-1)) F dX9_would_23 (by decide) ?_
  exact g_iret F e dX9_would_24 rfl
set_option maxRecDepth 100000 in
set_option maxHeartbeats 4000000 in
theorem kX9_isScript (l : Launch) (E : gE) (hE : gDist sh E) (a1 : Int32) : Ct l sh E yX9_isScript cX9_isScript 2 (some .boolean) (gR 1) [.ref (E.2.1 62), .int a1] g0 h0 (fun r I1 J1 => r = some (.int 0) ∧ I1 = g0 ∧ J1 = h0) := by
  refine Ct.of "LeapJoinModel" rfl hE (by decide) (Nat.le_of_ble_eq_true rfl) (fun z F e hl => ?_)
  subst hl
  refine g_iload_n F 1 dX9_isScript_0 rfl rfl ?_
  refine g_iconst (v := 0) F dX9_isScript_1 (by decide) ?_
  refine g_aload_n F 0 dX9_isScript_2 rfl rfl ?_
  refine g_geti (j := 12) (v := 0) F s62 rfl rfl uX9 (by decide) q833 rfl dX9_isScript_3 ?_
  refine g_iconst (v := 1) F dX9_isScript_6 (by decide) ?_
  refine g_isub (v := (-1)) F dX9_isScript_7 (by decide) ?_
  refine g_callS (As := [.int a1, .int 0, .int (-1)]) (rest := []) F (kX9_in_2 (zl z) E hE a1) mX9_in q923 rfl rfl rfl (Nat.le_of_ble_eq_true rfl) dX9_isScript_8 (fun r I2 J2 h => ?_)
  obtain ⟨rfl, rfl, rfl⟩ := h
  refine g_st (st' := [.int 0]) rfl ?_
  exact g_zret F rfl e dX9_isScript_11 ⟨rfl, rfl, rfl⟩
set_option maxRecDepth 100000 in
set_option maxHeartbeats 4000000 in
theorem kX9_step (l : Launch) (E : gE) (hE : gDist sh E) (a1 : Int32) (a2 : Int32) (a3 : Int32) : Ct l sh E yX9_step cX9_step 4 (some .int) (gR 2) [.ref (E.2.1 62), .int a1, .int a2, .int a3] g0 h0 (fun r _ _ => r = some (.int (-1000000))) := by
  refine Ct.of "LeapJoinModel" rfl hE (by decide) (Nat.le_of_ble_eq_true rfl) (fun z F e hl => ?_)
  subst hl
  refine g_aload_n F 0 dX9_step_0 rfl rfl ?_
  refine g_iload_n F 1 dX9_step_1 rfl rfl ?_
  refine g_callV (k := 62) (As := [.int a1]) (rest := []) F (kX9_isScript (zl z) E hE a1) mX9_isScript q1300 rfl s62 rfl rfl rfl (Nat.le_of_ble_eq_true rfl) dX9_step_2 (fun r I2 J2 h => ?_)
  obtain ⟨rfl, rfl, rfl⟩ := h
  refine g_st (st' := [.int 0]) rfl ?_
  refine g_if_eq (tgt := 51) F dX9_step_5 (by decide) (fun _ => ?_) (fun h => absurd (by decide) h)
  refine g_ldc_w F dX9_step_51 q1143 ?_
  exact g_iret F e dX9_step_54 rfl
set_option maxRecDepth 100000 in
set_option maxHeartbeats 4000000 in
theorem kX9_run (l : Launch) (E : gE) (hE : gDist sh E) (a1 : Int32) (a2 : Int32) : Ct l sh E yX9_run cX9_run 5 (some .int) (gR 2) [.ref (E.2.1 62), .int a1, .int a2] g0 h0 (fun r _ _ => r = some (.int (-1000000))) := by
  refine Ct.of "LeapJoinModel" rfl hE (by decide) (Nat.le_of_ble_eq_true rfl) (fun z F e hl => ?_)
  subst hl
  refine g_aload_n F 0 dX9_run_0 rfl rfl ?_
  refine g_iload_n F 1 dX9_run_1 rfl rfl ?_
  refine g_callV (k := 62) (As := [.int a1]) (rest := []) F (kX9_isScript (zl z) E hE a1) mX9_isScript q1300 rfl s62 rfl rfl rfl (Nat.le_of_ble_eq_true rfl) dX9_run_2 (fun r I2 J2 h => ?_)
  obtain ⟨rfl, rfl, rfl⟩ := h
  refine g_st (st' := [.int 0]) rfl ?_
  refine g_if_eq (tgt := 24) F dX9_run_5 (by decide) (fun _ => ?_) (fun h => absurd (by decide) h)
  refine g_ldc_w F dX9_run_24 q1143 ?_
  exact g_iret F e dX9_run_27 rfl
set_option maxRecDepth 100000 in
set_option maxHeartbeats 4000000 in
theorem kX9_perform (l : Launch) (E : gE) (hE : gDist sh E) (a1 : Int32) : Ct l sh E yX9_perform cX9_perform 2 (some .int) (gR 2) [.ref (E.2.1 62), .int a1] g0 h0 (fun r _ _ => r = some (.int (-1))) := by
  refine Ct.of "LeapJoinModel" rfl hE (by decide) (Nat.le_of_ble_eq_true rfl) (fun z F e hl => ?_)
  subst hl
  refine g_aload_n F 0 dX9_perform_0 rfl rfl ?_
  refine g_iload_n F 1 dX9_perform_1 rfl rfl ?_
  refine g_callV (k := 62) (As := [.int a1]) (rest := []) F (kX9_isScript (zl z) E hE a1) mX9_isScript q1300 rfl s62 rfl rfl rfl (Nat.le_of_ble_eq_true rfl) dX9_perform_2 (fun r I2 J2 h => ?_)
  obtain ⟨rfl, rfl, rfl⟩ := h
  refine g_st (st' := [.int 0]) rfl ?_
  refine g_if_eq (tgt := 24) F dX9_perform_5 (by decide) (fun _ => ?_) (fun h => absurd (by decide) h)
  refine g_iconst (v := (-1)) F dX9_perform_24 (by decide) ?_
  exact g_iret F e dX9_perform_25 rfl
set_option maxRecDepth 100000 in
set_option maxHeartbeats 4000000 in
theorem kX9_most (l : Launch) (E : gE) (hE : gDist sh E) (a1 : Int32) : Ct l sh E yX9_most cX9_most 2 (some .int) (gR 1) [.ref (E.2.1 62), .int a1] g0 h0 (fun r _ _ => r = some (.int (-1000000))) := by
  refine Ct.of "LeapJoinModel" rfl hE (by decide) (Nat.le_of_ble_eq_true rfl) (fun z F e hl => ?_)
  subst hl
  refine g_aload_n F 0 dX9_most_0 rfl rfl ?_
  refine g_callV (k := 62) (As := []) (rest := []) F (kX9_areTables (zl z) E hE) mX9_areTables q1028 rfl s62 rfl rfl rfl (Nat.le_of_ble_eq_true rfl) dX9_most_1 (fun r I2 J2 h => ?_)
  obtain ⟨rfl, rfl, rfl⟩ := h
  refine g_st (st' := [.int 0]) rfl ?_
  refine g_if_eq (tgt := 17) F dX9_most_4 (by decide) (fun _ => ?_) (fun h => absurd (by decide) h)
  refine g_ldc_w F dX9_most_17 q1143 ?_
  exact g_iret F e dX9_most_20 rfl
set_option maxRecDepth 100000 in
set_option maxHeartbeats 4000000 in
theorem kX9_image (l : Launch) (E : gE) (hE : gDist sh E) : Ct l sh E yX9_image cX9_image 2 (some .int) (gR 1) [.ref (E.2.1 62)] g0 h0 (fun r _ _ => r = some (.int (-1))) := by
  refine Ct.of "LeapJoinModel" rfl hE (by decide) (Nat.le_of_ble_eq_true rfl) (fun z F e hl => ?_)
  subst hl
  refine g_aload_n F 0 dX9_image_0 rfl rfl ?_
  refine g_callV (k := 62) (As := []) (rest := []) F (kX9_areTables (zl z) E hE) mX9_areTables q1028 rfl s62 rfl rfl rfl (Nat.le_of_ble_eq_true rfl) dX9_image_1 (fun r I2 J2 h => ?_)
  obtain ⟨rfl, rfl, rfl⟩ := h
  refine g_st (st' := [.int 0]) rfl ?_
  refine g_if_ne (tgt := 9) F dX9_image_4 (by decide) (fun h => absurd (by decide) h) (fun _ => ?_)
  refine g_iconst (v := (-1)) F dX9_image_7 (by decide) ?_
  exact g_iret F e dX9_image_8 rfl
set_option maxRecDepth 100000 in
set_option maxHeartbeats 4000000 in
theorem kX9_back (l : Launch) (E : gE) (hE : gDist sh E) : Ct l sh E yX9_back cX9_back 2 (some .int) (gR 0) [.ref (E.2.1 62)] g0 h0 (fun r _ _ => r = some (.int (-1))) := by
  refine Ct.of "LeapJoinModel" rfl hE (by decide) (Nat.le_of_ble_eq_true rfl) (fun z F e hl => ?_)
  subst hl
  refine g_aload_n F 0 dX9_back_0 rfl rfl ?_
  refine g_geti (j := 42) (v := 0) F s62 rfl rfl uX9 (by decide) q863 rfl dX9_back_1 ?_
  refine g_if_ne (tgt := 9) F dX9_back_4 (by decide) (fun h => absurd (by decide) h) (fun _ => ?_)
  refine g_iconst (v := (-1)) F dX9_back_7 (by decide) ?_
  exact g_iret F e dX9_back_8 rfl
set_option maxRecDepth 100000 in
set_option maxHeartbeats 4000000 in
theorem kX9_count (l : Launch) (E : gE) (hE : gDist sh E) (a1 : Int32) : Ct l sh E yX9_count cX9_count 2 (some .int) (gR 0) [.ref (E.2.1 62), .int a1] g0 h0 (fun r _ _ => r = some (.int (if 0 ≤ a1 ∧ a1 < 5 then 0 else (-1000000)))) := by
  refine Ct.of "LeapJoinModel" rfl hE (by decide) (Nat.le_of_ble_eq_true rfl) (fun z F e hl => ?_)
  subst hl
  refine g_iload_n F 1 dX9_count_0 rfl rfl ?_
  by_cases c1 : a1 = 0
  · refine g_tableIn (tgt := 36) F dX9_count_1 (by rw [c1]; decide) (by rw [c1]; decide) (by rw [c1]; rfl) (by decide) ?_
    refine g_aload_n F 0 dX9_count_36 rfl rfl ?_
    refine g_geti (j := 17) (v := 0) F s62 rfl rfl uX9 (by decide) q838 rfl dX9_count_37 ?_
    exact g_iret F e dX9_count_40 (congrArg (fun x => some (Value.int x)) (if_pos (by simp only [g_lt, g_le, g_eq, g_l0, g_l1, g_l2, g_l3, g_l4, g_l5, g_lm1, g_l400, g_l40, g_l15] at c1 ⊢; omega)).symm)
  by_cases c2 : a1 = 1
  · refine g_tableIn (tgt := 41) F dX9_count_1 (by rw [c2]; decide) (by rw [c2]; decide) (by rw [c2]; rfl) (by decide) ?_
    refine g_aload_n F 0 dX9_count_41 rfl rfl ?_
    refine g_geti (j := 12) (v := 0) F s62 rfl rfl uX9 (by decide) q833 rfl dX9_count_42 ?_
    exact g_iret F e dX9_count_45 (congrArg (fun x => some (Value.int x)) (if_pos (by simp only [g_lt, g_le, g_eq, g_l0, g_l1, g_l2, g_l3, g_l4, g_l5, g_lm1, g_l400, g_l40, g_l15] at c1 c2 ⊢; omega)).symm)
  by_cases c3 : a1 = 2
  · refine g_tableIn (tgt := 46) F dX9_count_1 (by rw [c3]; decide) (by rw [c3]; decide) (by rw [c3]; rfl) (by decide) ?_
    refine g_aload_n F 0 dX9_count_46 rfl rfl ?_
    refine g_geti (j := 2) (v := 0) F s62 rfl rfl uX9 (by decide) q823 rfl dX9_count_47 ?_
    exact g_iret F e dX9_count_50 (congrArg (fun x => some (Value.int x)) (if_pos (by simp only [g_lt, g_le, g_eq, g_l0, g_l1, g_l2, g_l3, g_l4, g_l5, g_lm1, g_l400, g_l40, g_l15] at c1 c2 c3 ⊢; omega)).symm)
  by_cases c4 : a1 = 3
  · refine g_tableIn (tgt := 51) F dX9_count_1 (by rw [c4]; decide) (by rw [c4]; decide) (by rw [c4]; rfl) (by decide) ?_
    refine g_aload_n F 0 dX9_count_51 rfl rfl ?_
    refine g_getr (j := 13) (nn := 70) F s62 rfl rfl uX9 (by decide) q834 dX9_count_52 ?_
    refine g_sipush (v := 150) F dX9_count_55 (by decide) ?_
    refine g_iald (v := 0) F 150 s70 (by decide) (by decide) (by decide) rfl dX9_count_58 ?_
    exact g_iret F e dX9_count_59 (congrArg (fun x => some (Value.int x)) (if_pos (by simp only [g_lt, g_le, g_eq, g_l0, g_l1, g_l2, g_l3, g_l4, g_l5, g_lm1, g_l400, g_l40, g_l15] at c1 c2 c3 c4 ⊢; omega)).symm)
  by_cases c5 : a1 = 4
  · refine g_tableIn (tgt := 60) F dX9_count_1 (by rw [c5]; decide) (by rw [c5]; decide) (by rw [c5]; rfl) (by decide) ?_
    refine g_aload_n F 0 dX9_count_60 rfl rfl ?_
    refine g_geti (j := 29) (v := 0) F s62 rfl rfl uX9 (by decide) q850 rfl dX9_count_61 ?_
    exact g_iret F e dX9_count_64 (congrArg (fun x => some (Value.int x)) (if_pos (by simp only [g_lt, g_le, g_eq, g_l0, g_l1, g_l2, g_l3, g_l4, g_l5, g_lm1, g_l400, g_l40, g_l15] at c1 c2 c3 c4 c5 ⊢; omega)).symm)
  refine g_tableOut (tgt := 65) F dX9_count_1 (by simp only [g_lt, g_le, g_eq, g_l0, g_l1, g_l2, g_l3, g_l4, g_l5, g_lm1, g_l400, g_l40, g_l15] at c1 c2 c3 c4 c5 ⊢; omega) (by decide) ?_
  refine g_ldc_w F dX9_count_65 q1143 ?_
  exact g_iret F e dX9_count_68 (congrArg (fun x => some (Value.int x)) (if_neg (by simp only [g_lt, g_le, g_eq, g_l0, g_l1, g_l2, g_l3, g_l4, g_l5, g_lm1, g_l400, g_l40, g_l15] at c1 c2 c3 c4 c5 ⊢; omega)).symm)
