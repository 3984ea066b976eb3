theorem DX9_countLess_0 : dAre cX9_countLess [(0, .iconst 0, 1), (1, .istore 5, 2), (3, .iload 5, 2), (5, .aload_n 0, 1), (6, .iload_n 1, 1), (7, .invokevirtual 186, 3), (10, .if_icmp .ge 23, 3), (13, .aload_n 0, 1), (14, .iload_n 1, 1), (15, .iload 5, 2), (17, .iload_n 2, 1), (18, .iload_n 3, 1), (19, .iload 4, 2), (21, .invokevirtual 189, 3), (24, .ifCond .ge 9, 3), (27, .iinc 5 1, 3)] := dAre0 (by decide +kernel)
theorem dX9_countLess_0 : decode cX9_countLess 0 = .ok (.iconst 0, 1) := DX9_countLess_0.1
theorem dX9_countLess_1 : decode cX9_countLess 1 = .ok (.istore 5, 2) := DX9_countLess_0.2.1
theorem dX9_countLess_3 : decode cX9_countLess 3 = .ok (.iload 5, 2) := DX9_countLess_0.2.2.1
theorem dX9_countLess_5 : decode cX9_countLess 5 = .ok (.aload_n 0, 1) := DX9_countLess_0.2.2.2.1
theorem dX9_countLess_6 : decode cX9_countLess 6 = .ok (.iload_n 1, 1) := DX9_countLess_0.2.2.2.2.1
theorem dX9_countLess_7 : decode cX9_countLess 7 = .ok (.invokevirtual 186, 3) := DX9_countLess_0.2.2.2.2.2.1
theorem dX9_countLess_10 : decode cX9_countLess 10 = .ok (.if_icmp .ge 23, 3) := DX9_countLess_0.2.2.2.2.2.2.1
theorem dX9_countLess_13 : decode cX9_countLess 13 = .ok (.aload_n 0, 1) := DX9_countLess_0.2.2.2.2.2.2.2.1
theorem dX9_countLess_14 : decode cX9_countLess 14 = .ok (.iload_n 1, 1) := DX9_countLess_0.2.2.2.2.2.2.2.2.1
theorem dX9_countLess_15 : decode cX9_countLess 15 = .ok (.iload 5, 2) := DX9_countLess_0.2.2.2.2.2.2.2.2.2.1
theorem dX9_countLess_17 : decode cX9_countLess 17 = .ok (.iload_n 2, 1) := DX9_countLess_0.2.2.2.2.2.2.2.2.2.2.1
theorem dX9_countLess_18 : decode cX9_countLess 18 = .ok (.iload_n 3, 1) := DX9_countLess_0.2.2.2.2.2.2.2.2.2.2.2.1
theorem dX9_countLess_19 : decode cX9_countLess 19 = .ok (.iload 4, 2) := DX9_countLess_0.2.2.2.2.2.2.2.2.2.2.2.2.1
theorem dX9_countLess_21 : decode cX9_countLess 21 = .ok (.invokevirtual 189, 3) := DX9_countLess_0.2.2.2.2.2.2.2.2.2.2.2.2.2.1
theorem dX9_countLess_24 : decode cX9_countLess 24 = .ok (.ifCond .ge 9, 3) := DX9_countLess_0.2.2.2.2.2.2.2.2.2.2.2.2.2.2.1
theorem dX9_countLess_27 : decode cX9_countLess 27 = .ok (.iinc 5 1, 3) := DX9_countLess_0.2.2.2.2.2.2.2.2.2.2.2.2.2.2.2.1
theorem DX9_countLess_30 : dAre cX9_countLess [(30, .goto (-27), 3), (33, .iload 5, 2), (35, .ireturn, 1)] := dAre0 (by decide +kernel)
theorem dX9_countLess_30 : decode cX9_countLess 30 = .ok (.goto (-27), 3) := DX9_countLess_30.1
theorem dX9_countLess_33 : decode cX9_countLess 33 = .ok (.iload 5, 2) := DX9_countLess_30.2.1
theorem dX9_countLess_35 : decode cX9_countLess 35 = .ok (.ireturn, 1) := DX9_countLess_30.2.2.1
theorem mX9_countLess : gMv yX9_countLess cX9_countLess 6 (some .int) RX9 4 := ⟨q992, q1398, q10, q993, rfl, by decide, by decide, by decide +kernel⟩
noncomputable def lX9_countLess_3 (v1 : Int32) (v2 : Int32) (v3 : Int32) (v4 : Int32) (I : gM) : Int32 → Option (Int32) :=
  itO fun s =>
    (fX9_many v1 I).bind fun r1 =>
    if r1 ≤ s then
      some (.inr s)
    else
      (fX9_compares v1 s v2 v3 v4 I).bind fun r2 =>
      if (0 : Int32) ≤ r2 then
        some (.inr s)
      else
        some (.inl (s + 1))
set_option maxRecDepth 100000 in
set_option maxHeartbeats 4000000 in
theorem wlX9_countLess_3 {z : gZ} {E : gE} {bk : Nat} (F : Fx z sh E "LeapJoinModel" cX9_countLess (gR 2) 6) (B : bZ z bk) (hE : gDist sh E) (v1 : Int32) (v2 : Int32) (v3 : Int32) (v4 : Int32) (I : gM) (J : gN) {r : Int32} : ∀ s : Int32, lX9_countLess_3 v1 v2 v3 v4 I s = some r → (G z 33 [(5, .int r)] [] I J) → G z 3 [(0, .ref (E.2.1 62)), (1, .int v1), (2, .int v2), (3, .int v3), (4, .int v4), (5, .int s)] [] I J := by
  intro s h X0
  unfold lX9_countLess_3 at h
  revert s
  refine itO_ind (P := fun s : Int32 => G z 3 [(0, .ref (E.2.1 62)), (1, .int v1), (2, .int v2), (3, .int v3), (4, .int v4), (5, .int s)] [] I J) (fun s y h hl hr => ?_)
  have K3_0 : ∀ x : Int32, y = .inr x → (G z 33 [(5, .int x)] [] I J) := fun x q => by have q2 := hr _ q; subst q2; exact X0
  refine g_iload F 5 dX9_countLess_3 rfl ?_
  refine g_aload_n F 0 dX9_countLess_5 rfl rfl ?_
  refine g_iload_n F 1 dX9_countLess_6 rfl rfl ?_
  refine u_callV (k := 62) (As := [.int v1]) (rest := [.int s]) (sn := fun r1 => [.int r1, .int s]) F B (fun _ => wX9_many (zl z) E hE bk v1 I J) mX9_many q994 rfl s62 rfl rfl rfl (Nat.le_of_ble_eq_true rfl) dX9_countLess_7 (fun _ => rfl) h (fun r1 h => ?_)
  refine u_icmp_ge (tgt := 33) F dX9_countLess_10 (by decide) h (fun h => ?_) (fun h => ?_)
  · obtain rfl := Option.some.inj h
    refine g_sub (Ln := [(5, .int s)]) [5] rfl ?_
    exact K3_0 s rfl
  · refine g_aload_n F 0 dX9_countLess_13 rfl rfl ?_
    refine g_iload_n F 1 dX9_countLess_14 rfl rfl ?_
    refine g_iload F 5 dX9_countLess_15 rfl ?_
    refine g_iload_n F 2 dX9_countLess_17 rfl rfl ?_
    refine g_iload_n F 3 dX9_countLess_18 rfl rfl ?_
    refine g_iload F 4 dX9_countLess_19 rfl ?_
    refine u_callV (k := 62) (As := [.int v1, .int s, .int v2, .int v3, .int v4]) (rest := []) (sn := fun r2 => [.int r2]) F B (fun _ => wX9_compares (zl z) E hE bk v1 s v2 v3 v4 I J) mX9_compares q997 rfl s62 rfl rfl rfl (Nat.le_of_ble_eq_true rfl) dX9_countLess_21 (fun _ => rfl) h (fun r2 h => ?_)
    refine u_if_ge (tgt := 33) F dX9_countLess_24 (by decide) h (fun h => ?_) (fun h => ?_)
    · obtain rfl := Option.some.inj h
      refine g_sub (Ln := [(5, .int s)]) [5] rfl ?_
      exact K3_0 s rfl
    · refine g_iinc (v := s + 1) (Ln := [(5, .int (s + 1)), (0, .ref (E.2.1 62)), (1, .int v1), (2, .int v2), (3, .int v3), (4, .int v4)]) F 5 dX9_countLess_27 rfl (add_c (by decide)) (by decide) rfl ?_
      refine g_goto (tgt := 3) F dX9_countLess_30 (by decide) ?_
      obtain rfl := Option.some.inj h
      refine g_sub (Ln := [(0, .ref (E.2.1 62)), (1, .int v1), (2, .int v2), (3, .int v3), (4, .int v4), (5, .int (s + 1))]) [1, 2, 3, 4, 5, 0] rfl ?_
      exact hl (s + 1) rfl
noncomputable def fX9_countLess (v1 : Int32) (v2 : Int32) (v3 : Int32) (v4 : Int32) (I : gM) : Option (Int32) :=
  (lX9_countLess_3 v1 v2 v3 v4 I (0 : Int32)).bind fun w3 =>
  some w3
set_option maxRecDepth 100000 in
set_option maxHeartbeats 4000000 in
theorem wX9_countLess (l : Launch) (E : gE) (hE : gDist sh E) (bk : Nat) (v1 : Int32) (v2 : Int32) (v3 : Int32) (v4 : Int32) (I : gM) (J : gN) {r : Int32} (h : fX9_countLess v1 v2 v3 v4 I = some r) : Cu l sh E bk yX9_countLess cX9_countLess 6 (some .int) (gR 2) [.ref (E.2.1 62), .int v1, .int v2, .int v3, .int v4] I J (fun r1 I1 J1 => r1 = some (.int r) ∧ I1 = I ∧ J1 = J) := by
  refine Cu.of "LeapJoinModel" rfl hE (by decide) (Nat.le_of_ble_eq_true rfl) (fun z F B e hl => ?_)
  subst hl
  unfold fX9_countLess at h
  refine g_iconst (v := 0) F dX9_countLess_0 (by decide) ?_
  refine g_istore (Ln := [(5, .int 0), (0, .ref (E.2.1 62)), (1, .int v1), (2, .int v2), (3, .int v3), (4, .int v4)]) F dX9_countLess_1 (by decide) rfl ?_
  obtain ⟨w3, ew3, h⟩ := ob h
  refine g_sub (Ln := [(0, .ref (E.2.1 62)), (1, .int v1), (2, .int v2), (3, .int v3), (4, .int v4), (5, .int 0)]) [1, 2, 3, 4, 5, 0] rfl ?_
  refine wlX9_countLess_3 F B hE v1 v2 v3 v4 I J _ ew3 ?_
  refine g_iload F 0 dX9_countLess_33 rfl ?_
  obtain rfl := Option.some.inj h
  exact g_iret F e dX9_countLess_35 ⟨rfl, rfl, rfl⟩
theorem DX9_hasRow_0 : dAre cX9_hasRow [(0, .aload_n 0, 1), (1, .iload_n 1, 1), (2, .iload_n 2, 1), (3, .iload_n 3, 1), (4, .iload 4, 2), (6, .invokevirtual 193, 3), (9, .istore 5, 2), (11, .iload 5, 2), (13, .aload_n 0, 1), (14, .iload_n 1, 1), (15, .invokevirtual 186, 3), (18, .if_icmp .ge 21, 3), (21, .aload_n 0, 1), (22, .iload_n 1, 1), (23, .iload 5, 2), (25, .iload_n 2, 1)] := dAre0 (by decide +kernel)
theorem dX9_hasRow_0 : decode cX9_hasRow 0 = .ok (.aload_n 0, 1) := DX9_hasRow_0.1
theorem dX9_hasRow_1 : decode cX9_hasRow 1 = .ok (.iload_n 1, 1) := DX9_hasRow_0.2.1
theorem dX9_hasRow_2 : decode cX9_hasRow 2 = .ok (.iload_n 2, 1) := DX9_hasRow_0.2.2.1
theorem dX9_hasRow_3 : decode cX9_hasRow 3 = .ok (.iload_n 3, 1) := DX9_hasRow_0.2.2.2.1
theorem dX9_hasRow_4 : decode cX9_hasRow 4 = .ok (.iload 4, 2) := DX9_hasRow_0.2.2.2.2.1
theorem dX9_hasRow_6 : decode cX9_hasRow 6 = .ok (.invokevirtual 193, 3) := DX9_hasRow_0.2.2.2.2.2.1
theorem dX9_hasRow_9 : decode cX9_hasRow 9 = .ok (.istore 5, 2) := DX9_hasRow_0.2.2.2.2.2.2.1
theorem dX9_hasRow_11 : decode cX9_hasRow 11 = .ok (.iload 5, 2) := DX9_hasRow_0.2.2.2.2.2.2.2.1
theorem dX9_hasRow_13 : decode cX9_hasRow 13 = .ok (.aload_n 0, 1) := DX9_hasRow_0.2.2.2.2.2.2.2.2.1
theorem dX9_hasRow_14 : decode cX9_hasRow 14 = .ok (.iload_n 1, 1) := DX9_hasRow_0.2.2.2.2.2.2.2.2.2.1
theorem dX9_hasRow_15 : decode cX9_hasRow 15 = .ok (.invokevirtual 186, 3) := DX9_hasRow_0.2.2.2.2.2.2.2.2.2.2.1
theorem dX9_hasRow_18 : decode cX9_hasRow 18 = .ok (.if_icmp .ge 21, 3) := DX9_hasRow_0.2.2.2.2.2.2.2.2.2.2.2.1
theorem dX9_hasRow_21 : decode cX9_hasRow 21 = .ok (.aload_n 0, 1) := DX9_hasRow_0.2.2.2.2.2.2.2.2.2.2.2.2.1
theorem dX9_hasRow_22 : decode cX9_hasRow 22 = .ok (.iload_n 1, 1) := DX9_hasRow_0.2.2.2.2.2.2.2.2.2.2.2.2.2.1
theorem dX9_hasRow_23 : decode cX9_hasRow 23 = .ok (.iload 5, 2) := DX9_hasRow_0.2.2.2.2.2.2.2.2.2.2.2.2.2.2.1
theorem dX9_hasRow_25 : decode cX9_hasRow 25 = .ok (.iload_n 2, 1) := DX9_hasRow_0.2.2.2.2.2.2.2.2.2.2.2.2.2.2.2.1
theorem DX9_hasRow_26 : dAre cX9_hasRow [(26, .iload_n 3, 1), (27, .iload 4, 2), (29, .invokevirtual 189, 3), (32, .ifCond .ne 7, 3), (35, .iconst 1, 1), (36, .goto 4, 3), (39, .iconst 0, 1), (40, .ireturn, 1)] := dAre0 (by decide +kernel)
theorem dX9_hasRow_26 : decode cX9_hasRow 26 = .ok (.iload_n 3, 1) := DX9_hasRow_26.1
theorem dX9_hasRow_27 : decode cX9_hasRow 27 = .ok (.iload 4, 2) := DX9_hasRow_26.2.1
theorem dX9_hasRow_29 : decode cX9_hasRow 29 = .ok (.invokevirtual 189, 3) := DX9_hasRow_26.2.2.1
theorem dX9_hasRow_32 : decode cX9_hasRow 32 = .ok (.ifCond .ne 7, 3) := DX9_hasRow_26.2.2.2.1
theorem dX9_hasRow_35 : decode cX9_hasRow 35 = .ok (.iconst 1, 1) := DX9_hasRow_26.2.2.2.2.1
theorem dX9_hasRow_36 : decode cX9_hasRow 36 = .ok (.goto 4, 3) := DX9_hasRow_26.2.2.2.2.2.1
theorem dX9_hasRow_39 : decode cX9_hasRow 39 = .ok (.iconst 0, 1) := DX9_hasRow_26.2.2.2.2.2.2.1
theorem dX9_hasRow_40 : decode cX9_hasRow 40 = .ok (.ireturn, 1) := DX9_hasRow_26.2.2.2.2.2.2.2.1
theorem mX9_hasRow : gMv yX9_hasRow cX9_hasRow 6 (some .boolean) RX9 4 := ⟨q989, q1397, q10, q990, rfl, by decide, by decide, by decide +kernel⟩
noncomputable def fX9_hasRow (v1 : Int32) (v2 : Int32) (v3 : Int32) (v4 : Int32) (I : gM) : Option (Int32) :=
  (fX9_countLess v1 v2 v3 v4 I).bind fun r1 =>
  (fX9_many v1 I).bind fun r2 =>
  if r2 ≤ r1 then
    some (0 : Int32)
  else
    (fX9_compares v1 r1 v2 v3 v4 I).bind fun r3 =>
    if r3 = 0 then
      some (1 : Int32)
    else
      some (0 : Int32)
set_option maxRecDepth 100000 in
set_option maxHeartbeats 4000000 in
theorem wX9_hasRow (l : Launch) (E : gE) (hE : gDist sh E) (bk : Nat) (v1 : Int32) (v2 : Int32) (v3 : Int32) (v4 : Int32) (I : gM) (J : gN) {r : Int32} (h : fX9_hasRow v1 v2 v3 v4 I = some r) : Cu l sh E bk yX9_hasRow cX9_hasRow 6 (some .boolean) (gR 3) [.ref (E.2.1 62), .int v1, .int v2, .int v3, .int v4] I J (fun r1 I1 J1 => r1 = some (.int r) ∧ I1 = I ∧ J1 = J) := by
  refine Cu.of "LeapJoinModel" rfl hE (by decide) (Nat.le_of_ble_eq_true rfl) (fun z F B e hl => ?_)
  subst hl
  unfold fX9_hasRow at h
  refine g_aload_n F 0 dX9_hasRow_0 rfl rfl ?_
  refine g_iload_n F 1 dX9_hasRow_1 rfl rfl ?_
  refine g_iload_n F 2 dX9_hasRow_2 rfl rfl ?_
  refine g_iload_n F 3 dX9_hasRow_3 rfl rfl ?_
  refine g_iload F 4 dX9_hasRow_4 rfl ?_
  refine u_callV (k := 62) (As := [.int v1, .int v2, .int v3, .int v4]) (rest := []) (sn := fun r1 => [.int r1]) F B (fun _ => wX9_countLess (zl z) E hE bk v1 v2 v3 v4 I J) mX9_countLess q991 rfl s62 rfl rfl rfl (Nat.le_of_ble_eq_true rfl) dX9_hasRow_6 (fun _ => rfl) h (fun r1 h => ?_)
  refine g_istore (Ln := [(5, .int r1), (0, .ref (E.2.1 62)), (1, .int v1), (2, .int v2), (3, .int v3), (4, .int v4)]) F dX9_hasRow_9 (by decide) rfl ?_
  refine g_iload F 0 dX9_hasRow_11 rfl ?_
  refine g_aload_n F 1 dX9_hasRow_13 rfl rfl ?_
  refine g_iload_n F 2 dX9_hasRow_14 rfl rfl ?_
  refine u_callV (k := 62) (As := [.int v1]) (rest := [.int r1]) (sn := fun r2 => [.int r2, .int r1]) F B (fun _ => wX9_many (zl z) E hE bk v1 I J) mX9_many q994 rfl s62 rfl rfl rfl (Nat.le_of_ble_eq_true rfl) dX9_hasRow_15 (fun _ => rfl) h (fun r2 h => ?_)
  refine u_icmp_ge (tgt := 39) F dX9_hasRow_18 (by decide) h (fun h => ?_) (fun h => ?_)
  · refine g_iconst (v := 0) F dX9_hasRow_39 (by decide) ?_
    obtain rfl := Option.some.inj h
    exact g_zret F rfl e dX9_hasRow_40 ⟨rfl, rfl, rfl⟩
  · refine g_aload_n F 1 dX9_hasRow_21 rfl rfl ?_
    refine g_iload_n F 2 dX9_hasRow_22 rfl rfl ?_
    refine g_iload F 0 dX9_hasRow_23 rfl ?_
    refine g_iload_n F 3 dX9_hasRow_25 rfl rfl ?_
    refine g_iload_n F 4 dX9_hasRow_26 rfl rfl ?_
    refine g_iload F 5 dX9_hasRow_27 rfl ?_
    refine u_callV (k := 62) (As := [.int v1, .int r1, .int v2, .int v3, .int v4]) (rest := []) (sn := fun r3 => [.int r3]) F B (fun _ => wX9_compares (zl z) E hE bk v1 r1 v2 v3 v4 I J) mX9_compares q997 rfl s62 rfl rfl rfl (Nat.le_of_ble_eq_true rfl) dX9_hasRow_29 (fun _ => rfl) h (fun r3 h => ?_)
    refine u_if_ne (tgt := 39) F dX9_hasRow_32 (by decide) h (fun h => ?_) (fun h => ?_)
    · refine g_iconst (v := 1) F dX9_hasRow_35 (by decide) ?_
      refine g_goto (tgt := 40) F dX9_hasRow_36 (by decide) ?_
      obtain rfl := Option.some.inj h
      exact g_zret F rfl e dX9_hasRow_40 ⟨rfl, rfl, rfl⟩
    · refine g_iconst (v := 0) F dX9_hasRow_39 (by decide) ?_
      obtain rfl := Option.some.inj h
      exact g_zret F rfl e dX9_hasRow_40 ⟨rfl, rfl, rfl⟩
theorem DX9_putsNow_0 : dAre cX9_putsNow [(0, .aload_n 0, 1), (1, .iload_n 1, 1), (2, .iload_n 2, 1), (3, .iload_n 3, 1), (4, .iload 4, 2), (6, .invokevirtual 193, 3), (9, .istore 5, 2), (11, .iload_n 1, 1), (12, .aload_n 0, 1), (13, .iload_n 1, 1), (14, .invokevirtual 186, 3), (17, .invokestatic 182, 3), (20, .iconst 1, 1), (21, .isub, 1), (22, .istore 6, 2), (24, .iload 6, 2)] := dAre0 (by decide +kernel)
theorem dX9_putsNow_0 : decode cX9_putsNow 0 = .ok (.aload_n 0, 1) := DX9_putsNow_0.1
theorem dX9_putsNow_1 : decode cX9_putsNow 1 = .ok (.iload_n 1, 1) := DX9_putsNow_0.2.1
theorem dX9_putsNow_2 : decode cX9_putsNow 2 = .ok (.iload_n 2, 1) := DX9_putsNow_0.2.2.1
theorem dX9_putsNow_3 : decode cX9_putsNow 3 = .ok (.iload_n 3, 1) := DX9_putsNow_0.2.2.2.1
theorem dX9_putsNow_4 : decode cX9_putsNow 4 = .ok (.iload 4, 2) := DX9_putsNow_0.2.2.2.2.1
theorem dX9_putsNow_6 : decode cX9_putsNow 6 = .ok (.invokevirtual 193, 3) := DX9_putsNow_0.2.2.2.2.2.1
theorem dX9_putsNow_9 : decode cX9_putsNow 9 = .ok (.istore 5, 2) := DX9_putsNow_0.2.2.2.2.2.2.1
theorem dX9_putsNow_11 : decode cX9_putsNow 11 = .ok (.iload_n 1, 1) := DX9_putsNow_0.2.2.2.2.2.2.2.1
theorem dX9_putsNow_12 : decode cX9_putsNow 12 = .ok (.aload_n 0, 1) := DX9_putsNow_0.2.2.2.2.2.2.2.2.1
theorem dX9_putsNow_13 : decode cX9_putsNow 13 = .ok (.iload_n 1, 1) := DX9_putsNow_0.2.2.2.2.2.2.2.2.2.1
theorem dX9_putsNow_14 : decode cX9_putsNow 14 = .ok (.invokevirtual 186, 3) := DX9_putsNow_0.2.2.2.2.2.2.2.2.2.2.1
theorem dX9_putsNow_17 : decode cX9_putsNow 17 = .ok (.invokestatic 182, 3) := DX9_putsNow_0.2.2.2.2.2.2.2.2.2.2.2.1
theorem dX9_putsNow_20 : decode cX9_putsNow 20 = .ok (.iconst 1, 1) := DX9_putsNow_0.2.2.2.2.2.2.2.2.2.2.2.2.1
theorem dX9_putsNow_21 : decode cX9_putsNow 21 = .ok (.isub, 1) := DX9_putsNow_0.2.2.2.2.2.2.2.2.2.2.2.2.2.1
theorem dX9_putsNow_22 : decode cX9_putsNow 22 = .ok (.istore 6, 2) := DX9_putsNow_0.2.2.2.2.2.2.2.2.2.2.2.2.2.2.1
theorem dX9_putsNow_24 : decode cX9_putsNow 24 = .ok (.iload 6, 2) := DX9_putsNow_0.2.2.2.2.2.2.2.2.2.2.2.2.2.2.2.1
theorem DX9_putsNow_26 : dAre cX9_putsNow [(26, .iload_n 1, 1), (27, .iload 5, 2), (29, .invokestatic 182, 3), (32, .if_icmp .lt 25, 3), (35, .aload_n 0, 1), (36, .getfield 31, 3), (39, .iload 6, 2), (41, .iconst 3, 1), (42, .iadd, 1), (43, .aload_n 0, 1), (44, .getfield 31, 3), (47, .iload 6, 2), (49, .iaload, 1), (50, .iastore, 1), (51, .iinc 6 (-1), 3), (54, .goto (-30), 3)] := dAre0 (by decide +kernel)
theorem dX9_putsNow_26 : decode cX9_putsNow 26 = .ok (.iload_n 1, 1) := DX9_putsNow_26.1
theorem dX9_putsNow_27 : decode cX9_putsNow 27 = .ok (.iload 5, 2) := DX9_putsNow_26.2.1
theorem dX9_putsNow_29 : decode cX9_putsNow 29 = .ok (.invokestatic 182, 3) := DX9_putsNow_26.2.2.1
theorem dX9_putsNow_32 : decode cX9_putsNow 32 = .ok (.if_icmp .lt 25, 3) := DX9_putsNow_26.2.2.2.1
theorem dX9_putsNow_35 : decode cX9_putsNow 35 = .ok (.aload_n 0, 1) := DX9_putsNow_26.2.2.2.2.1
theorem dX9_putsNow_36 : decode cX9_putsNow 36 = .ok (.getfield 31, 3) := DX9_putsNow_26.2.2.2.2.2.1
theorem dX9_putsNow_39 : decode cX9_putsNow 39 = .ok (.iload 6, 2) := DX9_putsNow_26.2.2.2.2.2.2.1
theorem dX9_putsNow_41 : decode cX9_putsNow 41 = .ok (.iconst 3, 1) := DX9_putsNow_26.2.2.2.2.2.2.2.1
theorem dX9_putsNow_42 : decode cX9_putsNow 42 = .ok (.iadd, 1) := DX9_putsNow_26.2.2.2.2.2.2.2.2.1
theorem dX9_putsNow_43 : decode cX9_putsNow 43 = .ok (.aload_n 0, 1) := DX9_putsNow_26.2.2.2.2.2.2.2.2.2.1
theorem dX9_putsNow_44 : decode cX9_putsNow 44 = .ok (.getfield 31, 3) := DX9_putsNow_26.2.2.2.2.2.2.2.2.2.2.1
theorem dX9_putsNow_47 : decode cX9_putsNow 47 = .ok (.iload 6, 2) := DX9_putsNow_26.2.2.2.2.2.2.2.2.2.2.2.1
theorem dX9_putsNow_49 : decode cX9_putsNow 49 = .ok (.iaload, 1) := DX9_putsNow_26.2.2.2.2.2.2.2.2.2.2.2.2.1
theorem dX9_putsNow_50 : decode cX9_putsNow 50 = .ok (.iastore, 1) := DX9_putsNow_26.2.2.2.2.2.2.2.2.2.2.2.2.2.1
theorem dX9_putsNow_51 : decode cX9_putsNow 51 = .ok (.iinc 6 (-1), 3) := DX9_putsNow_26.2.2.2.2.2.2.2.2.2.2.2.2.2.2.1
theorem dX9_putsNow_54 : decode cX9_putsNow 54 = .ok (.goto (-30), 3) := DX9_putsNow_26.2.2.2.2.2.2.2.2.2.2.2.2.2.2.2.1
theorem DX9_putsNow_57 : dAre cX9_putsNow [(57, .aload_n 0, 1), (58, .getfield 31, 3), (61, .iload_n 1, 1), (62, .iload 5, 2), (64, .invokestatic 182, 3), (67, .iload_n 2, 1), (68, .iastore, 1), (69, .aload_n 0, 1), (70, .getfield 31, 3), (73, .iload_n 1, 1), (74, .iload 5, 2), (76, .invokestatic 182, 3), (79, .iconst 1, 1), (80, .iadd, 1), (81, .iload_n 3, 1), (82, .iastore, 1)] := dAre0 (by decide +kernel)
theorem dX9_putsNow_57 : decode cX9_putsNow 57 = .ok (.aload_n 0, 1) := DX9_putsNow_57.1
theorem dX9_putsNow_58 : decode cX9_putsNow 58 = .ok (.getfield 31, 3) := DX9_putsNow_57.2.1
theorem dX9_putsNow_61 : decode cX9_putsNow 61 = .ok (.iload_n 1, 1) := DX9_putsNow_57.2.2.1
theorem dX9_putsNow_62 : decode cX9_putsNow 62 = .ok (.iload 5, 2) := DX9_putsNow_57.2.2.2.1
theorem dX9_putsNow_64 : decode cX9_putsNow 64 = .ok (.invokestatic 182, 3) := DX9_putsNow_57.2.2.2.2.1
theorem dX9_putsNow_67 : decode cX9_putsNow 67 = .ok (.iload_n 2, 1) := DX9_putsNow_57.2.2.2.2.2.1
theorem dX9_putsNow_68 : decode cX9_putsNow 68 = .ok (.iastore, 1) := DX9_putsNow_57.2.2.2.2.2.2.1
theorem dX9_putsNow_69 : decode cX9_putsNow 69 = .ok (.aload_n 0, 1) := DX9_putsNow_57.2.2.2.2.2.2.2.1
theorem dX9_putsNow_70 : decode cX9_putsNow 70 = .ok (.getfield 31, 3) := DX9_putsNow_57.2.2.2.2.2.2.2.2.1
theorem dX9_putsNow_73 : decode cX9_putsNow 73 = .ok (.iload_n 1, 1) := DX9_putsNow_57.2.2.2.2.2.2.2.2.2.1
theorem dX9_putsNow_74 : decode cX9_putsNow 74 = .ok (.iload 5, 2) := DX9_putsNow_57.2.2.2.2.2.2.2.2.2.2.1
theorem dX9_putsNow_76 : decode cX9_putsNow 76 = .ok (.invokestatic 182, 3) := DX9_putsNow_57.2.2.2.2.2.2.2.2.2.2.2.1
theorem dX9_putsNow_79 : decode cX9_putsNow 79 = .ok (.iconst 1, 1) := DX9_putsNow_57.2.2.2.2.2.2.2.2.2.2.2.2.1
theorem dX9_putsNow_80 : decode cX9_putsNow 80 = .ok (.iadd, 1) := DX9_putsNow_57.2.2.2.2.2.2.2.2.2.2.2.2.2.1
theorem dX9_putsNow_81 : decode cX9_putsNow 81 = .ok (.iload_n 3, 1) := DX9_putsNow_57.2.2.2.2.2.2.2.2.2.2.2.2.2.2.1
theorem dX9_putsNow_82 : decode cX9_putsNow 82 = .ok (.iastore, 1) := DX9_putsNow_57.2.2.2.2.2.2.2.2.2.2.2.2.2.2.2.1
theorem DX9_putsNow_83 : dAre cX9_putsNow [(83, .aload_n 0, 1), (84, .getfield 31, 3), (87, .iload_n 1, 1), (88, .iload 5, 2), (90, .invokestatic 182, 3), (93, .iconst 2, 1), (94, .iadd, 1), (95, .iload 4, 2), (97, .iastore, 1), (98, .aload_n 0, 1), (99, .getfield 31, 3), (102, .iconst 2, 1), (103, .iload_n 1, 1), (104, .iadd, 1), (105, .dup2, 1), (106, .iaload, 1)] := dAre0 (by decide +kernel)
theorem dX9_putsNow_83 : decode cX9_putsNow 83 = .ok (.aload_n 0, 1) := DX9_putsNow_83.1
theorem dX9_putsNow_84 : decode cX9_putsNow 84 = .ok (.getfield 31, 3) := DX9_putsNow_83.2.1
theorem dX9_putsNow_87 : decode cX9_putsNow 87 = .ok (.iload_n 1, 1) := DX9_putsNow_83.2.2.1
theorem dX9_putsNow_88 : decode cX9_putsNow 88 = .ok (.iload 5, 2) := DX9_putsNow_83.2.2.2.1
theorem dX9_putsNow_90 : decode cX9_putsNow 90 = .ok (.invokestatic 182, 3) := DX9_putsNow_83.2.2.2.2.1
theorem dX9_putsNow_93 : decode cX9_putsNow 93 = .ok (.iconst 2, 1) := DX9_putsNow_83.2.2.2.2.2.1
theorem dX9_putsNow_94 : decode cX9_putsNow 94 = .ok (.iadd, 1) := DX9_putsNow_83.2.2.2.2.2.2.1
theorem dX9_putsNow_95 : decode cX9_putsNow 95 = .ok (.iload 4, 2) := DX9_putsNow_83.2.2.2.2.2.2.2.1
theorem dX9_putsNow_97 : decode cX9_putsNow 97 = .ok (.iastore, 1) := DX9_putsNow_83.2.2.2.2.2.2.2.2.1
theorem dX9_putsNow_98 : decode cX9_putsNow 98 = .ok (.aload_n 0, 1) := DX9_putsNow_83.2.2.2.2.2.2.2.2.2.1
theorem dX9_putsNow_99 : decode cX9_putsNow 99 = .ok (.getfield 31, 3) := DX9_putsNow_83.2.2.2.2.2.2.2.2.2.2.1
theorem dX9_putsNow_102 : decode cX9_putsNow 102 = .ok (.iconst 2, 1) := DX9_putsNow_83.2.2.2.2.2.2.2.2.2.2.2.1
theorem dX9_putsNow_103 : decode cX9_putsNow 103 = .ok (.iload_n 1, 1) := DX9_putsNow_83.2.2.2.2.2.2.2.2.2.2.2.2.1
theorem dX9_putsNow_104 : decode cX9_putsNow 104 = .ok (.iadd, 1) := DX9_putsNow_83.2.2.2.2.2.2.2.2.2.2.2.2.2.1
theorem dX9_putsNow_105 : decode cX9_putsNow 105 = .ok (.dup2, 1) := DX9_putsNow_83.2.2.2.2.2.2.2.2.2.2.2.2.2.2.1
theorem dX9_putsNow_106 : decode cX9_putsNow 106 = .ok (.iaload, 1) := DX9_putsNow_83.2.2.2.2.2.2.2.2.2.2.2.2.2.2.2.1
theorem DX9_putsNow_107 : dAre cX9_putsNow [(107, .iconst 1, 1), (108, .iadd, 1), (109, .iastore, 1), (110, .aload_n 0, 1), (111, .iload_n 1, 1), (112, .invokevirtual 186, 3), (115, .ireturn, 1)] := dAre0 (by decide +kernel)
theorem dX9_putsNow_107 : decode cX9_putsNow 107 = .ok (.iconst 1, 1) := DX9_putsNow_107.1
theorem dX9_putsNow_108 : decode cX9_putsNow 108 = .ok (.iadd, 1) := DX9_putsNow_107.2.1
theorem dX9_putsNow_109 : decode cX9_putsNow 109 = .ok (.iastore, 1) := DX9_putsNow_107.2.2.1
theorem dX9_putsNow_110 : decode cX9_putsNow 110 = .ok (.aload_n 0, 1) := DX9_putsNow_107.2.2.2.1
theorem dX9_putsNow_111 : decode cX9_putsNow 111 = .ok (.iload_n 1, 1) := DX9_putsNow_107.2.2.2.2.1
theorem dX9_putsNow_112 : decode cX9_putsNow 112 = .ok (.invokevirtual 186, 3) := DX9_putsNow_107.2.2.2.2.2.1
theorem dX9_putsNow_115 : decode cX9_putsNow 115 = .ok (.ireturn, 1) := DX9_putsNow_107.2.2.2.2.2.2.1
theorem mX9_putsNow : gMv yX9_putsNow cX9_putsNow 7 (some .int) RX9 4 := ⟨q1004, q1401, q10, q1005, rfl, by decide, by decide, by decide +kernel⟩
noncomputable def lX9_putsNow_24 (v1 : Int32) (v5 : Int32) : (Int32 × gM) → Option (gM) :=
  itO fun s =>
    (fX9_rowAt v1 v5).bind fun r4 =>
    if s.1 < r4 then
      some (.inr s.2)
    else
      (rI 331 (s.2 70) s.1).bind fun u5 =>
      (wI s.2 70 331 (s.1 + 3) u5).bind fun I6 =>
      some (.inl (s.1 + (-1), I6))
set_option maxRecDepth 100000 in
set_option maxHeartbeats 4000000 in
theorem wlX9_putsNow_24 {z : gZ} {E : gE} {bk : Nat} (F : Fx z sh E "LeapJoinModel" cX9_putsNow (gR 3) 7) (B : bZ z bk) (hE : gDist sh E) (v1 : Int32) (v2 : Int32) (v3 : Int32) (v4 : Int32) (v5 : Int32) (J : gN) {r : gM} : ∀ s : Int32 × gM, lX9_putsNow_24 v1 v5 s = some r → (G z 57 [(0, .ref (E.2.1 62)), (1, .int v1), (2, .int v2), (3, .int v3), (4, .int v4), (5, .int v5)] [] r J) → G z 24 [(0, .ref (E.2.1 62)), (1, .int v1), (2, .int v2), (3, .int v3), (4, .int v4), (5, .int v5), (6, .int s.1)] [] s.2 J := by
  intro s h X0
  unfold lX9_putsNow_24 at h
  revert s
  refine itO_ind (P := fun s : Int32 × gM => G z 24 [(0, .ref (E.2.1 62)), (1, .int v1), (2, .int v2), (3, .int v3), (4, .int v4), (5, .int v5), (6, .int s.1)] [] s.2 J) (fun s y h hl hr => ?_)
  have K24_0 : ∀ x : gM, y = .inr x → (G z 57 [(0, .ref (E.2.1 62)), (1, .int v1), (2, .int v2), (3, .int v3), (4, .int v4), (5, .int v5)] [] x J) := fun x q => by have q2 := hr _ q; subst q2; exact X0
  refine g_iload F 6 dX9_putsNow_24 rfl ?_
  refine g_iload_n F 1 dX9_putsNow_26 rfl rfl ?_
  refine g_iload F 5 dX9_putsNow_27 rfl ?_
  refine u_callS (As := [.int v1, .int v5]) (rest := [.int s.1]) (sn := fun r4 => [.int r4, .int s.1]) F B (fun _ => wX9_rowAt (zl z) E hE bk v1 v5 s.2 J) mX9_rowAt q1000 rfl rfl rfl (Nat.le_of_ble_eq_true rfl) dX9_putsNow_29 (fun _ => rfl) h (fun r4 h => ?_)
  refine u_icmp_lt (tgt := 57) F dX9_putsNow_32 (by decide) h (fun h => ?_) (fun h => ?_)
  · obtain rfl := Option.some.inj h
    refine g_sub (Ln := [(0, .ref (E.2.1 62)), (1, .int v1), (2, .int v2), (3, .int v3), (4, .int v4), (5, .int v5)]) [0, 1, 2, 3, 4, 5] rfl ?_
    exact K24_0 s.2 rfl
  · refine g_aload_n F 0 dX9_putsNow_35 rfl rfl ?_
    refine g_getr (j := 13) (nn := 70) F s62 rfl rfl uX9 (by decide) q834 dX9_putsNow_36 ?_
    refine g_iload F 6 dX9_putsNow_39 rfl ?_
    refine g_iconst (v := 3) F dX9_putsNow_41 (by decide) ?_
    refine g_iadd (v := s.1 + 3) F dX9_putsNow_42 rfl ?_
    refine g_aload_n F 0 dX9_putsNow_43 rfl rfl ?_
    refine g_getr (j := 13) (nn := 70) F s62 rfl rfl uX9 (by decide) q834 dX9_putsNow_44 ?_
    refine g_iload F 6 dX9_putsNow_47 rfl ?_
    refine u_rI F s70 (by decide) dX9_putsNow_49 h (fun u5 h => ?_)
    refine u_wI F s70 (by decide) dX9_putsNow_50 h (fun I6 h => ?_)
    refine g_iinc (v := s.1 + (-1)) (Ln := [(6, .int (s.1 + (-1))), (0, .ref (E.2.1 62)), (1, .int v1), (2, .int v2), (3, .int v3), (4, .int v4), (5, .int v5)]) F 6 dX9_putsNow_51 rfl (add_c (by decide)) (by decide) rfl ?_
    refine g_goto (tgt := 24) F dX9_putsNow_54 (by decide) ?_
    obtain rfl := Option.some.inj h
    refine g_sub (Ln := [(0, .ref (E.2.1 62)), (1, .int v1), (2, .int v2), (3, .int v3), (4, .int v4), (5, .int v5), (6, .int (s.1 + (-1)))]) [1, 2, 3, 4, 5, 6, 0] rfl ?_
    exact hl (s.1 + (-1), I6) rfl
noncomputable def fX9_putsNow (v1 : Int32) (v2 : Int32) (v3 : Int32) (v4 : Int32) (I : gM) : Option (Int32 × gM) :=
  (fX9_countLess v1 v2 v3 v4 I).bind fun r1 =>
  (fX9_many v1 I).bind fun r2 =>
  (fX9_rowAt v1 r2).bind fun r3 =>
  (lX9_putsNow_24 v1 r1 (r3 - 1, I)).bind fun w7 =>
  (fX9_rowAt v1 r1).bind fun r8 =>
  (wI w7 70 331 r8 v2).bind fun I9 =>
  (fX9_rowAt v1 r1).bind fun r10 =>
  (wI I9 70 331 (r10 + 1) v3).bind fun I11 =>
  (fX9_rowAt v1 r1).bind fun r12 =>
  (wI I11 70 331 (r12 + 2) v4).bind fun I13 =>
  (rI 331 (I13 70) ((2 : Int32) + v1)).bind fun u14 =>
  (wI I13 70 331 ((2 : Int32) + v1) (u14 + 1)).bind fun I15 =>
  (fX9_many v1 I15).bind fun r16 =>
  some (r16, I15)
set_option maxRecDepth 100000 in
set_option maxHeartbeats 4000000 in
theorem wX9_putsNow (l : Launch) (E : gE) (hE : gDist sh E) (bk : Nat) (v1 : Int32) (v2 : Int32) (v3 : Int32) (v4 : Int32) (I : gM) (J : gN) {r : Int32 × gM} (h : fX9_putsNow v1 v2 v3 v4 I = some r) : Cu l sh E bk yX9_putsNow cX9_putsNow 7 (some .int) (gR 3) [.ref (E.2.1 62), .int v1, .int v2, .int v3, .int v4] I J (fun r1 I1 J1 => r1 = some (.int r.1) ∧ I1 = r.2 ∧ J1 = J) := by
  refine Cu.of "LeapJoinModel" rfl hE (by decide) (Nat.le_of_ble_eq_true rfl) (fun z F B e hl => ?_)
  subst hl
  unfold fX9_putsNow at h
  refine g_aload_n F 0 dX9_putsNow_0 rfl rfl ?_
  refine g_iload_n F 1 dX9_putsNow_1 rfl rfl ?_
  refine g_iload_n F 2 dX9_putsNow_2 rfl rfl ?_
  refine g_iload_n F 3 dX9_putsNow_3 rfl rfl ?_
  refine g_iload F 4 dX9_putsNow_4 rfl ?_
  refine u_callV (k := 62) (As := [.int v1, .int v2, .int v3, .int v4]) (rest := []) (sn := fun r1 => [.int r1]) F B (fun _ => wX9_countLess (zl z) E hE bk v1 v2 v3 v4 I J) mX9_countLess q991 rfl s62 rfl rfl rfl (Nat.le_of_ble_eq_true rfl) dX9_putsNow_6 (fun _ => rfl) h (fun r1 h => ?_)
  refine g_istore (Ln := [(5, .int r1), (0, .ref (E.2.1 62)), (1, .int v1), (2, .int v2), (3, .int v3), (4, .int v4)]) F dX9_putsNow_9 (by decide) rfl ?_
  refine g_iload_n F 2 dX9_putsNow_11 rfl rfl ?_
  refine g_aload_n F 1 dX9_putsNow_12 rfl rfl ?_
  refine g_iload_n F 2 dX9_putsNow_13 rfl rfl ?_
  refine u_callV (k := 62) (As := [.int v1]) (rest := [.int v1]) (sn := fun r2 => [.int r2, .int v1]) F B (fun _ => wX9_many (zl z) E hE bk v1 I J) mX9_many q994 rfl s62 rfl rfl rfl (Nat.le_of_ble_eq_true rfl) dX9_putsNow_14 (fun _ => rfl) h (fun r2 h => ?_)
  refine u_callS (As := [.int v1, .int r2]) (rest := []) (sn := fun r3 => [.int r3]) F B (fun _ => wX9_rowAt (zl z) E hE bk v1 r2 I J) mX9_rowAt q1000 rfl rfl rfl (Nat.le_of_ble_eq_true rfl) dX9_putsNow_17 (fun _ => rfl) h (fun r3 h => ?_)
  refine g_iconst (v := 1) F dX9_putsNow_20 (by decide) ?_
  refine g_isub (v := r3 - 1) F dX9_putsNow_21 rfl ?_
  refine g_istore (Ln := [(6, .int (r3 - 1)), (5, .int r1), (0, .ref (E.2.1 62)), (1, .int v1), (2, .int v2), (3, .int v3), (4, .int v4)]) F dX9_putsNow_22 (by decide) rfl ?_
  obtain ⟨w7, ew7, h⟩ := ob h
  refine g_sub (Ln := [(0, .ref (E.2.1 62)), (1, .int v1), (2, .int v2), (3, .int v3), (4, .int v4), (5, .int r1), (6, .int (r3 - 1))]) [2, 3, 4, 5, 6, 1, 0] rfl ?_
  refine wlX9_putsNow_24 F B hE v1 v2 v3 v4 r1 J _ ew7 ?_
  refine g_aload_n F 0 dX9_putsNow_57 rfl rfl ?_
  refine g_getr (j := 13) (nn := 70) F s62 rfl rfl uX9 (by decide) q834 dX9_putsNow_58 ?_
  refine g_iload_n F 1 dX9_putsNow_61 rfl rfl ?_
  refine g_iload F 5 dX9_putsNow_62 rfl ?_
  refine u_callS (As := [.int v1, .int r1]) (rest := [.ref (E.2.1 70)]) (sn := fun r8 => [.int r8, .ref (E.2.1 70)]) F B (fun _ => wX9_rowAt (zl z) E hE bk v1 r1 w7 J) mX9_rowAt q1000 rfl rfl rfl (Nat.le_of_ble_eq_true rfl) dX9_putsNow_64 (fun _ => rfl) h (fun r8 h => ?_)
  refine g_iload_n F 2 dX9_putsNow_67 rfl rfl ?_
  refine u_wI F s70 (by decide) dX9_putsNow_68 h (fun I9 h => ?_)
  refine g_aload_n F 0 dX9_putsNow_69 rfl rfl ?_
  refine g_getr (j := 13) (nn := 70) F s62 rfl rfl uX9 (by decide) q834 dX9_putsNow_70 ?_
  refine g_iload_n F 1 dX9_putsNow_73 rfl rfl ?_
  refine g_iload F 5 dX9_putsNow_74 rfl ?_
  refine u_callS (As := [.int v1, .int r1]) (rest := [.ref (E.2.1 70)]) (sn := fun r10 => [.int r10, .ref (E.2.1 70)]) F B (fun _ => wX9_rowAt (zl z) E hE bk v1 r1 I9 J) mX9_rowAt q1000 rfl rfl rfl (Nat.le_of_ble_eq_true rfl) dX9_putsNow_76 (fun _ => rfl) h (fun r10 h => ?_)
  refine g_iconst (v := 1) F dX9_putsNow_79 (by decide) ?_
  refine g_iadd (v := r10 + 1) F dX9_putsNow_80 rfl ?_
  refine g_iload_n F 3 dX9_putsNow_81 rfl rfl ?_
  refine u_wI F s70 (by decide) dX9_putsNow_82 h (fun I11 h => ?_)
  refine g_aload_n F 0 dX9_putsNow_83 rfl rfl ?_
  refine g_getr (j := 13) (nn := 70) F s62 rfl rfl uX9 (by decide) q834 dX9_putsNow_84 ?_
  refine g_iload_n F 1 dX9_putsNow_87 rfl rfl ?_
  refine g_iload F 5 dX9_putsNow_88 rfl ?_
  refine u_callS (As := [.int v1, .int r1]) (rest := [.ref (E.2.1 70)]) (sn := fun r12 => [.int r12, .ref (E.2.1 70)]) F B (fun _ => wX9_rowAt (zl z) E hE bk v1 r1 I11 J) mX9_rowAt q1000 rfl rfl rfl (Nat.le_of_ble_eq_true rfl) dX9_putsNow_90 (fun _ => rfl) h (fun r12 h => ?_)
  refine g_iconst (v := 2) F dX9_putsNow_93 (by decide) ?_
  refine g_iadd (v := r12 + 2) F dX9_putsNow_94 rfl ?_
  refine g_iload F 4 dX9_putsNow_95 rfl ?_
  refine u_wI F s70 (by decide) dX9_putsNow_97 h (fun I13 h => ?_)
  refine g_aload_n F 0 dX9_putsNow_98 rfl rfl ?_
  refine g_getr (j := 13) (nn := 70) F s62 rfl rfl uX9 (by decide) q834 dX9_putsNow_99 ?_
  refine g_iconst (v := 2) F dX9_putsNow_102 (by decide) ?_
  refine g_iload_n F 1 dX9_putsNow_103 rfl rfl ?_
  refine g_iadd (v := (2 : Int32) + v1) F dX9_putsNow_104 rfl ?_
  refine g_dup2 F dX9_putsNow_105 rfl rfl ?_
  refine u_rI F s70 (by decide) dX9_putsNow_106 h (fun u14 h => ?_)
  refine g_iconst (v := 1) F dX9_putsNow_107 (by decide) ?_
  refine g_iadd (v := u14 + 1) F dX9_putsNow_108 rfl ?_
  refine u_wI F s70 (by decide) dX9_putsNow_109 h (fun I15 h => ?_)
  refine g_aload_n F 0 dX9_putsNow_110 rfl rfl ?_
  refine g_iload_n F 1 dX9_putsNow_111 rfl rfl ?_
  refine u_callV (k := 62) (As := [.int v1]) (rest := []) (sn := fun r16 => [.int r16]) F B (fun _ => wX9_many (zl z) E hE bk v1 I15 J) mX9_many q994 rfl s62 rfl rfl rfl (Nat.le_of_ble_eq_true rfl) dX9_putsNow_112 (fun _ => rfl) h (fun r16 h => ?_)
  obtain rfl := Option.some.inj h
  exact g_iret F e dX9_putsNow_115 ⟨rfl, rfl, rfl⟩
theorem DX9_takesNow_0 : dAre cX9_takesNow [(0, .aload_n 0, 1), (1, .iload_n 1, 1), (2, .iload_n 2, 1), (3, .iload_n 3, 1), (4, .iload 4, 2), (6, .invokevirtual 193, 3), (9, .istore 5, 2), (11, .iload_n 1, 1), (12, .iload 5, 2), (14, .invokestatic 182, 3), (17, .istore 6, 2), (19, .iload 6, 2), (21, .iload_n 1, 1), (22, .aload_n 0, 1), (23, .iload_n 1, 1), (24, .invokevirtual 186, 3)] := dAre0 (by decide +kernel)
theorem dX9_takesNow_0 : decode cX9_takesNow 0 = .ok (.aload_n 0, 1) := DX9_takesNow_0.1
theorem dX9_takesNow_1 : decode cX9_takesNow 1 = .ok (.iload_n 1, 1) := DX9_takesNow_0.2.1
theorem dX9_takesNow_2 : decode cX9_takesNow 2 = .ok (.iload_n 2, 1) := DX9_takesNow_0.2.2.1
theorem dX9_takesNow_3 : decode cX9_takesNow 3 = .ok (.iload_n 3, 1) := DX9_takesNow_0.2.2.2.1
theorem dX9_takesNow_4 : decode cX9_takesNow 4 = .ok (.iload 4, 2) := DX9_takesNow_0.2.2.2.2.1
theorem dX9_takesNow_6 : decode cX9_takesNow 6 = .ok (.invokevirtual 193, 3) := DX9_takesNow_0.2.2.2.2.2.1
theorem dX9_takesNow_9 : decode cX9_takesNow 9 = .ok (.istore 5, 2) := DX9_takesNow_0.2.2.2.2.2.2.1
theorem dX9_takesNow_11 : decode cX9_takesNow 11 = .ok (.iload_n 1, 1) := DX9_takesNow_0.2.2.2.2.2.2.2.1
theorem dX9_takesNow_12 : decode cX9_takesNow 12 = .ok (.iload 5, 2) := DX9_takesNow_0.2.2.2.2.2.2.2.2.1
theorem dX9_takesNow_14 : decode cX9_takesNow 14 = .ok (.invokestatic 182, 3) := DX9_takesNow_0.2.2.2.2.2.2.2.2.2.1
theorem dX9_takesNow_17 : decode cX9_takesNow 17 = .ok (.istore 6, 2) := DX9_takesNow_0.2.2.2.2.2.2.2.2.2.2.1
theorem dX9_takesNow_19 : decode cX9_takesNow 19 = .ok (.iload 6, 2) := DX9_takesNow_0.2.2.2.2.2.2.2.2.2.2.2.1
theorem dX9_takesNow_21 : decode cX9_takesNow 21 = .ok (.iload_n 1, 1) := DX9_takesNow_0.2.2.2.2.2.2.2.2.2.2.2.2.1
theorem dX9_takesNow_22 : decode cX9_takesNow 22 = .ok (.aload_n 0, 1) := DX9_takesNow_0.2.2.2.2.2.2.2.2.2.2.2.2.2.1
theorem dX9_takesNow_23 : decode cX9_takesNow 23 = .ok (.iload_n 1, 1) := DX9_takesNow_0.2.2.2.2.2.2.2.2.2.2.2.2.2.2.1
theorem dX9_takesNow_24 : decode cX9_takesNow 24 = .ok (.invokevirtual 186, 3) := DX9_takesNow_0.2.2.2.2.2.2.2.2.2.2.2.2.2.2.2.1
theorem DX9_takesNow_27 : dAre cX9_takesNow [(27, .iconst 1, 1), (28, .isub, 1), (29, .invokestatic 182, 3), (32, .if_icmp .ge 25, 3), (35, .aload_n 0, 1), (36, .getfield 31, 3), (39, .iload 6, 2), (41, .aload_n 0, 1), (42, .getfield 31, 3), (45, .iload 6, 2), (47, .iconst 3, 1), (48, .iadd, 1), (49, .iaload, 1), (50, .iastore, 1), (51, .iinc 6 1, 3), (54, .goto (-35), 3)] := dAre0 (by decide +kernel)
theorem dX9_takesNow_27 : decode cX9_takesNow 27 = .ok (.iconst 1, 1) := DX9_takesNow_27.1
theorem dX9_takesNow_28 : decode cX9_takesNow 28 = .ok (.isub, 1) := DX9_takesNow_27.2.1
theorem dX9_takesNow_29 : decode cX9_takesNow 29 = .ok (.invokestatic 182, 3) := DX9_takesNow_27.2.2.1
theorem dX9_takesNow_32 : decode cX9_takesNow 32 = .ok (.if_icmp .ge 25, 3) := DX9_takesNow_27.2.2.2.1
theorem dX9_takesNow_35 : decode cX9_takesNow 35 = .ok (.aload_n 0, 1) := DX9_takesNow_27.2.2.2.2.1
theorem dX9_takesNow_36 : decode cX9_takesNow 36 = .ok (.getfield 31, 3) := DX9_takesNow_27.2.2.2.2.2.1
theorem dX9_takesNow_39 : decode cX9_takesNow 39 = .ok (.iload 6, 2) := DX9_takesNow_27.2.2.2.2.2.2.1
theorem dX9_takesNow_41 : decode cX9_takesNow 41 = .ok (.aload_n 0, 1) := DX9_takesNow_27.2.2.2.2.2.2.2.1
theorem dX9_takesNow_42 : decode cX9_takesNow 42 = .ok (.getfield 31, 3) := DX9_takesNow_27.2.2.2.2.2.2.2.2.1
theorem dX9_takesNow_45 : decode cX9_takesNow 45 = .ok (.iload 6, 2) := DX9_takesNow_27.2.2.2.2.2.2.2.2.2.1
theorem dX9_takesNow_47 : decode cX9_takesNow 47 = .ok (.iconst 3, 1) := DX9_takesNow_27.2.2.2.2.2.2.2.2.2.2.1
theorem dX9_takesNow_48 : decode cX9_takesNow 48 = .ok (.iadd, 1) := DX9_takesNow_27.2.2.2.2.2.2.2.2.2.2.2.1
theorem dX9_takesNow_49 : decode cX9_takesNow 49 = .ok (.iaload, 1) := DX9_takesNow_27.2.2.2.2.2.2.2.2.2.2.2.2.1
theorem dX9_takesNow_50 : decode cX9_takesNow 50 = .ok (.iastore, 1) := DX9_takesNow_27.2.2.2.2.2.2.2.2.2.2.2.2.2.1
theorem dX9_takesNow_51 : decode cX9_takesNow 51 = .ok (.iinc 6 1, 3) := DX9_takesNow_27.2.2.2.2.2.2.2.2.2.2.2.2.2.2.1
theorem dX9_takesNow_54 : decode cX9_takesNow 54 = .ok (.goto (-35), 3) := DX9_takesNow_27.2.2.2.2.2.2.2.2.2.2.2.2.2.2.2.1
theorem DX9_takesNow_57 : dAre cX9_takesNow [(57, .aload_n 0, 1), (58, .getfield 31, 3), (61, .iconst 2, 1), (62, .iload_n 1, 1), (63, .iadd, 1), (64, .dup2, 1), (65, .iaload, 1), (66, .iconst 1, 1), (67, .isub, 1), (68, .iastore, 1), (69, .aload_n 0, 1), (70, .iload_n 1, 1), (71, .invokevirtual 186, 3), (74, .ireturn, 1)] := dAre0 (by decide +kernel)
theorem dX9_takesNow_57 : decode cX9_takesNow 57 = .ok (.aload_n 0, 1) := DX9_takesNow_57.1
theorem dX9_takesNow_58 : decode cX9_takesNow 58 = .ok (.getfield 31, 3) := DX9_takesNow_57.2.1
theorem dX9_takesNow_61 : decode cX9_takesNow 61 = .ok (.iconst 2, 1) := DX9_takesNow_57.2.2.1
theorem dX9_takesNow_62 : decode cX9_takesNow 62 = .ok (.iload_n 1, 1) := DX9_takesNow_57.2.2.2.1
theorem dX9_takesNow_63 : decode cX9_takesNow 63 = .ok (.iadd, 1) := DX9_takesNow_57.2.2.2.2.1
theorem dX9_takesNow_64 : decode cX9_takesNow 64 = .ok (.dup2, 1) := DX9_takesNow_57.2.2.2.2.2.1
theorem dX9_takesNow_65 : decode cX9_takesNow 65 = .ok (.iaload, 1) := DX9_takesNow_57.2.2.2.2.2.2.1
theorem dX9_takesNow_66 : decode cX9_takesNow 66 = .ok (.iconst 1, 1) := DX9_takesNow_57.2.2.2.2.2.2.2.1
theorem dX9_takesNow_67 : decode cX9_takesNow 67 = .ok (.isub, 1) := DX9_takesNow_57.2.2.2.2.2.2.2.2.1
theorem dX9_takesNow_68 : decode cX9_takesNow 68 = .ok (.iastore, 1) := DX9_takesNow_57.2.2.2.2.2.2.2.2.2.1
theorem dX9_takesNow_69 : decode cX9_takesNow 69 = .ok (.aload_n 0, 1) := DX9_takesNow_57.2.2.2.2.2.2.2.2.2.2.1
theorem dX9_takesNow_70 : decode cX9_takesNow 70 = .ok (.iload_n 1, 1) := DX9_takesNow_57.2.2.2.2.2.2.2.2.2.2.2.1
theorem dX9_takesNow_71 : decode cX9_takesNow 71 = .ok (.invokevirtual 186, 3) := DX9_takesNow_57.2.2.2.2.2.2.2.2.2.2.2.2.1
theorem dX9_takesNow_74 : decode cX9_takesNow 74 = .ok (.ireturn, 1) := DX9_takesNow_57.2.2.2.2.2.2.2.2.2.2.2.2.2.1
theorem mX9_takesNow : gMv yX9_takesNow cX9_takesNow 7 (some .int) RX9 4 := ⟨q1041, q1412, q10, q1042, rfl, by decide, by decide, by decide +kernel⟩
noncomputable def lX9_takesNow_19 (v1 : Int32) : (Int32 × gM) → Option (gM) :=
  itO fun s =>
    (fX9_many v1 s.2).bind fun r3 =>
    (fX9_rowAt v1 (r3 - 1)).bind fun r4 =>
    if r4 ≤ s.1 then
      some (.inr s.2)
    else
      (rI 331 (s.2 70) (s.1 + 3)).bind fun u5 =>
      (wI s.2 70 331 s.1 u5).bind fun I6 =>
      some (.inl (s.1 + 1, I6))
set_option maxRecDepth 100000 in
set_option maxHeartbeats 4000000 in
theorem wlX9_takesNow_19 {z : gZ} {E : gE} {bk : Nat} (F : Fx z sh E "LeapJoinModel" cX9_takesNow (gR 3) 7) (B : bZ z bk) (hE : gDist sh E) (v1 : Int32) (J : gN) {r : gM} : ∀ s : Int32 × gM, lX9_takesNow_19 v1 s = some r → (G z 57 [(0, .ref (E.2.1 62)), (1, .int v1)] [] r J) → G z 19 [(0, .ref (E.2.1 62)), (1, .int v1), (6, .int s.1)] [] s.2 J := by
  intro s h X0
  unfold lX9_takesNow_19 at h
  revert s
  refine itO_ind (P := fun s : Int32 × gM => G z 19 [(0, .ref (E.2.1 62)), (1, .int v1), (6, .int s.1)] [] s.2 J) (fun s y h hl hr => ?_)
  have K19_0 : ∀ x : gM, y = .inr x → (G z 57 [(0, .ref (E.2.1 62)), (1, .int v1)] [] x J) := fun x q => by have q2 := hr _ q; subst q2; exact X0
  refine g_iload F 2 dX9_takesNow_19 rfl ?_
  refine g_iload_n F 1 dX9_takesNow_21 rfl rfl ?_
  refine g_aload_n F 0 dX9_takesNow_22 rfl rfl ?_
  refine g_iload_n F 1 dX9_takesNow_23 rfl rfl ?_
  refine u_callV (k := 62) (As := [.int v1]) (rest := [.int v1, .int s.1]) (sn := fun r3 => [.int r3, .int v1, .int s.1]) F B (fun _ => wX9_many (zl z) E hE bk v1 s.2 J) mX9_many q994 rfl s62 rfl rfl rfl (Nat.le_of_ble_eq_true rfl) dX9_takesNow_24 (fun _ => rfl) h (fun r3 h => ?_)
  refine g_iconst (v := 1) F dX9_takesNow_27 (by decide) ?_
  refine g_isub (v := r3 - 1) F dX9_takesNow_28 rfl ?_
  refine u_callS (As := [.int v1, .int (r3 - 1)]) (rest := [.int s.1]) (sn := fun r4 => [.int r4, .int s.1]) F B (fun _ => wX9_rowAt (zl z) E hE bk v1 (r3 - 1) s.2 J) mX9_rowAt q1000 rfl rfl rfl (Nat.le_of_ble_eq_true rfl) dX9_takesNow_29 (fun _ => rfl) h (fun r4 h => ?_)
  refine u_icmp_ge (tgt := 57) F dX9_takesNow_32 (by decide) h (fun h => ?_) (fun h => ?_)
  · obtain rfl := Option.some.inj h
    refine g_sub (Ln := [(0, .ref (E.2.1 62)), (1, .int v1)]) [0, 1] rfl ?_
    exact K19_0 s.2 rfl
  · refine g_aload_n F 0 dX9_takesNow_35 rfl rfl ?_
    refine g_getr (j := 13) (nn := 70) F s62 rfl rfl uX9 (by decide) q834 dX9_takesNow_36 ?_
    refine g_iload F 2 dX9_takesNow_39 rfl ?_
    refine g_aload_n F 0 dX9_takesNow_41 rfl rfl ?_
    refine g_getr (j := 13) (nn := 70) F s62 rfl rfl uX9 (by decide) q834 dX9_takesNow_42 ?_
    refine g_iload F 2 dX9_takesNow_45 rfl ?_
    refine g_iconst (v := 3) F dX9_takesNow_47 (by decide) ?_
    refine g_iadd (v := s.1 + 3) F dX9_takesNow_48 rfl ?_
    refine u_rI F s70 (by decide) dX9_takesNow_49 h (fun u5 h => ?_)
    refine u_wI F s70 (by decide) dX9_takesNow_50 h (fun I6 h => ?_)
    refine g_iinc (v := s.1 + 1) (Ln := [(6, .int (s.1 + 1)), (0, .ref (E.2.1 62)), (1, .int v1)]) F 2 dX9_takesNow_51 rfl (add_c (by decide)) (by decide) rfl ?_
    refine g_goto (tgt := 19) F dX9_takesNow_54 (by decide) ?_
    obtain rfl := Option.some.inj h
    refine g_sub (Ln := [(0, .ref (E.2.1 62)), (1, .int v1), (6, .int (s.1 + 1))]) [1, 2, 0] rfl ?_
    exact hl (s.1 + 1, I6) rfl
noncomputable def fX9_takesNow (v1 : Int32) (v2 : Int32) (v3 : Int32) (v4 : Int32) (I : gM) : Option (Int32 × gM) :=
  (fX9_countLess v1 v2 v3 v4 I).bind fun r1 =>
  (fX9_rowAt v1 r1).bind fun r2 =>
  (lX9_takesNow_19 v1 (r2, I)).bind fun w7 =>
  (rI 331 (w7 70) ((2 : Int32) + v1)).bind fun u8 =>
  (wI w7 70 331 ((2 : Int32) + v1) (u8 - 1)).bind fun I9 =>
  (fX9_many v1 I9).bind fun r10 =>
  some (r10, I9)
set_option maxRecDepth 100000 in
set_option maxHeartbeats 4000000 in
theorem wX9_takesNow (l : Launch) (E : gE) (hE : gDist sh E) (bk : Nat) (v1 : Int32) (v2 : Int32) (v3 : Int32) (v4 : Int32) (I : gM) (J : gN) {r : Int32 × gM} (h : fX9_takesNow v1 v2 v3 v4 I = some r) : Cu l sh E bk yX9_takesNow cX9_takesNow 7 (some .int) (gR 3) [.ref (E.2.1 62), .int v1, .int v2, .int v3, .int v4] I J (fun r1 I1 J1 => r1 = some (.int r.1) ∧ I1 = r.2 ∧ J1 = J) := by
  refine Cu.of "LeapJoinModel" rfl hE (by decide) (Nat.le_of_ble_eq_true rfl) (fun z F B e hl => ?_)
  subst hl
  unfold fX9_takesNow at h
  refine g_aload_n F 0 dX9_takesNow_0 rfl rfl ?_
  refine g_iload_n F 1 dX9_takesNow_1 rfl rfl ?_
  refine g_iload_n F 2 dX9_takesNow_2 rfl rfl ?_
  refine g_iload_n F 3 dX9_takesNow_3 rfl rfl ?_
  refine g_iload F 4 dX9_takesNow_4 rfl ?_
  refine u_callV (k := 62) (As := [.int v1, .int v2, .int v3, .int v4]) (rest := []) (sn := fun r1 => [.int r1]) F B (fun _ => wX9_countLess (zl z) E hE bk v1 v2 v3 v4 I J) mX9_countLess q991 rfl s62 rfl rfl rfl (Nat.le_of_ble_eq_true rfl) dX9_takesNow_6 (fun _ => rfl) h (fun r1 h => ?_)
  refine g_istore (Ln := [(5, .int r1), (0, .ref (E.2.1 62)), (1, .int v1), (2, .int v2), (3, .int v3), (4, .int v4)]) F dX9_takesNow_9 (by decide) rfl ?_
  refine g_iload_n F 2 dX9_takesNow_11 rfl rfl ?_
  refine g_iload F 0 dX9_takesNow_12 rfl ?_
  refine u_callS (As := [.int v1, .int r1]) (rest := []) (sn := fun r2 => [.int r2]) F B (fun _ => wX9_rowAt (zl z) E hE bk v1 r1 I J) mX9_rowAt q1000 rfl rfl rfl (Nat.le_of_ble_eq_true rfl) dX9_takesNow_14 (fun _ => rfl) h (fun r2 h => ?_)
  refine g_istore (Ln := [(6, .int r2), (5, .int r1), (0, .ref (E.2.1 62)), (1, .int v1), (2, .int v2), (3, .int v3), (4, .int v4)]) F dX9_takesNow_17 (by decide) rfl ?_
  obtain ⟨w7, ew7, h⟩ := ob h
  refine g_sub (Ln := [(0, .ref (E.2.1 62)), (1, .int v1), (6, .int r2)]) [2, 3, 0] rfl ?_
  refine wlX9_takesNow_19 F B hE v1 J _ ew7 ?_
  refine g_aload_n F 0 dX9_takesNow_57 rfl rfl ?_
  refine g_getr (j := 13) (nn := 70) F s62 rfl rfl uX9 (by decide) q834 dX9_takesNow_58 ?_
  refine g_iconst (v := 2) F dX9_takesNow_61 (by decide) ?_
  refine g_iload_n F 1 dX9_takesNow_62 rfl rfl ?_
  refine g_iadd (v := (2 : Int32) + v1) F dX9_takesNow_63 rfl ?_
  refine g_dup2 F dX9_takesNow_64 rfl rfl ?_
  refine u_rI F s70 (by decide) dX9_takesNow_65 h (fun u8 h => ?_)
  refine g_iconst (v := 1) F dX9_takesNow_66 (by decide) ?_
  refine g_isub (v := u8 - 1) F dX9_takesNow_67 rfl ?_
  refine u_wI F s70 (by decide) dX9_takesNow_68 h (fun I9 h => ?_)
  refine g_aload_n F 0 dX9_takesNow_69 rfl rfl ?_
  refine g_iload_n F 1 dX9_takesNow_70 rfl rfl ?_
  refine u_callV (k := 62) (As := [.int v1]) (rest := []) (sn := fun r10 => [.int r10]) F B (fun _ => wX9_many (zl z) E hE bk v1 I9 J) mX9_many q994 rfl s62 rfl rfl rfl (Nat.le_of_ble_eq_true rfl) dX9_takesNow_71 (fun _ => rfl) h (fun r10 h => ?_)
  obtain rfl := Option.some.inj h
  exact g_iret F e dX9_takesNow_74 ⟨rfl, rfl, rfl⟩
theorem DX9_takeTables_0 : dAre cX9_takeTables [(0, .aload_n 0, 1), (1, .aload_n 0, 1), (2, .getfield 152, 3), (5, .putfield 173, 3), (8, .iconst 0, 1), (9, .istore_n 1, 1), (10, .iload_n 1, 1), (11, .sipush 331, 3), (14, .if_icmp .ge 16, 3), (17, .aload_n 0, 1), (18, .getfield 31, 3), (21, .iload_n 1, 1), (22, .iconst 0, 1), (23, .iastore, 1), (24, .iinc 1 1, 3), (27, .goto (-17), 3)] := dAre0 (by decide +kernel)
theorem dX9_takeTables_0 : decode cX9_takeTables 0 = .ok (.aload_n 0, 1) := DX9_takeTables_0.1
theorem dX9_takeTables_1 : decode cX9_takeTables 1 = .ok (.aload_n 0, 1) := DX9_takeTables_0.2.1
theorem dX9_takeTables_2 : decode cX9_takeTables 2 = .ok (.getfield 152, 3) := DX9_takeTables_0.2.2.1
theorem dX9_takeTables_5 : decode cX9_takeTables 5 = .ok (.putfield 173, 3) := DX9_takeTables_0.2.2.2.1
theorem dX9_takeTables_8 : decode cX9_takeTables 8 = .ok (.iconst 0, 1) := DX9_takeTables_0.2.2.2.2.1
theorem dX9_takeTables_9 : decode cX9_takeTables 9 = .ok (.istore_n 1, 1) := DX9_takeTables_0.2.2.2.2.2.1
theorem dX9_takeTables_10 : decode cX9_takeTables 10 = .ok (.iload_n 1, 1) := DX9_takeTables_0.2.2.2.2.2.2.1
theorem dX9_takeTables_11 : decode cX9_takeTables 11 = .ok (.sipush 331, 3) := DX9_takeTables_0.2.2.2.2.2.2.2.1
theorem dX9_takeTables_14 : decode cX9_takeTables 14 = .ok (.if_icmp .ge 16, 3) := DX9_takeTables_0.2.2.2.2.2.2.2.2.1
theorem dX9_takeTables_17 : decode cX9_takeTables 17 = .ok (.aload_n 0, 1) := DX9_takeTables_0.2.2.2.2.2.2.2.2.2.1
theorem dX9_takeTables_18 : decode cX9_takeTables 18 = .ok (.getfield 31, 3) := DX9_takeTables_0.2.2.2.2.2.2.2.2.2.2.1
theorem dX9_takeTables_21 : decode cX9_takeTables 21 = .ok (.iload_n 1, 1) := DX9_takeTables_0.2.2.2.2.2.2.2.2.2.2.2.1
theorem dX9_takeTables_22 : decode cX9_takeTables 22 = .ok (.iconst 0, 1) := DX9_takeTables_0.2.2.2.2.2.2.2.2.2.2.2.2.1
theorem dX9_takeTables_23 : decode cX9_takeTables 23 = .ok (.iastore, 1) := DX9_takeTables_0.2.2.2.2.2.2.2.2.2.2.2.2.2.1
theorem dX9_takeTables_24 : decode cX9_takeTables 24 = .ok (.iinc 1 1, 3) := DX9_takeTables_0.2.2.2.2.2.2.2.2.2.2.2.2.2.2.1
theorem dX9_takeTables_27 : decode cX9_takeTables 27 = .ok (.goto (-17), 3) := DX9_takeTables_0.2.2.2.2.2.2.2.2.2.2.2.2.2.2.2.1
theorem DX9_takeTables_30 : dAre cX9_takeTables [(30, .aload_n 0, 1), (31, .getfield 31, 3), (34, .iconst 0, 1), (35, .iconst 1, 1), (36, .aload_n 0, 1), (37, .getfield 173, 3), (40, .ishl, 1), (41, .iconst 1, 1), (42, .isub, 1), (43, .iastore, 1), (44, .iconst 0, 1), (45, .istore_n 1, 1), (46, .iload_n 1, 1), (47, .aload_n 0, 1), (48, .getfield 173, 3), (51, .if_icmp .ge 139, 3)] := dAre0 (by decide +kernel)
theorem dX9_takeTables_30 : decode cX9_takeTables 30 = .ok (.aload_n 0, 1) := DX9_takeTables_30.1
theorem dX9_takeTables_31 : decode cX9_takeTables 31 = .ok (.getfield 31, 3) := DX9_takeTables_30.2.1
theorem dX9_takeTables_34 : decode cX9_takeTables 34 = .ok (.iconst 0, 1) := DX9_takeTables_30.2.2.1
theorem dX9_takeTables_35 : decode cX9_takeTables 35 = .ok (.iconst 1, 1) := DX9_takeTables_30.2.2.2.1
theorem dX9_takeTables_36 : decode cX9_takeTables 36 = .ok (.aload_n 0, 1) := DX9_takeTables_30.2.2.2.2.1
theorem dX9_takeTables_37 : decode cX9_takeTables 37 = .ok (.getfield 173, 3) := DX9_takeTables_30.2.2.2.2.2.1
theorem dX9_takeTables_40 : decode cX9_takeTables 40 = .ok (.ishl, 1) := DX9_takeTables_30.2.2.2.2.2.2.1
theorem dX9_takeTables_41 : decode cX9_takeTables 41 = .ok (.iconst 1, 1) := DX9_takeTables_30.2.2.2.2.2.2.2.1
theorem dX9_takeTables_42 : decode cX9_takeTables 42 = .ok (.isub, 1) := DX9_takeTables_30.2.2.2.2.2.2.2.2.1
theorem dX9_takeTables_43 : decode cX9_takeTables 43 = .ok (.iastore, 1) := DX9_takeTables_30.2.2.2.2.2.2.2.2.2.1
theorem dX9_takeTables_44 : decode cX9_takeTables 44 = .ok (.iconst 0, 1) := DX9_takeTables_30.2.2.2.2.2.2.2.2.2.2.1
theorem dX9_takeTables_45 : decode cX9_takeTables 45 = .ok (.istore_n 1, 1) := DX9_takeTables_30.2.2.2.2.2.2.2.2.2.2.2.1
theorem dX9_takeTables_46 : decode cX9_takeTables 46 = .ok (.iload_n 1, 1) := DX9_takeTables_30.2.2.2.2.2.2.2.2.2.2.2.2.1
theorem dX9_takeTables_47 : decode cX9_takeTables 47 = .ok (.aload_n 0, 1) := DX9_takeTables_30.2.2.2.2.2.2.2.2.2.2.2.2.2.1
theorem dX9_takeTables_48 : decode cX9_takeTables 48 = .ok (.getfield 173, 3) := DX9_takeTables_30.2.2.2.2.2.2.2.2.2.2.2.2.2.2.1
theorem dX9_takeTables_51 : decode cX9_takeTables 51 = .ok (.if_icmp .ge 139, 3) := DX9_takeTables_30.2.2.2.2.2.2.2.2.2.2.2.2.2.2.2.1
theorem DX9_takeTables_54 : dAre cX9_takeTables [(54, .aload_n 0, 1), (55, .getfield 37, 3), (58, .iload_n 1, 1), (59, .aload_n 0, 1), (60, .getfield 13, 3), (63, .iload_n 1, 1), (64, .iaload, 1), (65, .iastore, 1), (66, .iconst 0, 1), (67, .istore_n 2, 1), (68, .iload_n 2, 1), (69, .iconst 3, 1), (70, .if_icmp .ge 29, 3), (73, .aload_n 0, 1), (74, .getfield 40, 3), (77, .iconst 3, 1)] := dAre0 (by decide +kernel)
theorem dX9_takeTables_54 : decode cX9_takeTables 54 = .ok (.aload_n 0, 1) := DX9_takeTables_54.1
theorem dX9_takeTables_55 : decode cX9_takeTables 55 = .ok (.getfield 37, 3) := DX9_takeTables_54.2.1
theorem dX9_takeTables_58 : decode cX9_takeTables 58 = .ok (.iload_n 1, 1) := DX9_takeTables_54.2.2.1
theorem dX9_takeTables_59 : decode cX9_takeTables 59 = .ok (.aload_n 0, 1) := DX9_takeTables_54.2.2.2.1
theorem dX9_takeTables_60 : decode cX9_takeTables 60 = .ok (.getfield 13, 3) := DX9_takeTables_54.2.2.2.2.1
theorem dX9_takeTables_63 : decode cX9_takeTables 63 = .ok (.iload_n 1, 1) := DX9_takeTables_54.2.2.2.2.2.1
theorem dX9_takeTables_64 : decode cX9_takeTables 64 = .ok (.iaload, 1) := DX9_takeTables_54.2.2.2.2.2.2.1
theorem dX9_takeTables_65 : decode cX9_takeTables 65 = .ok (.iastore, 1) := DX9_takeTables_54.2.2.2.2.2.2.2.1
theorem dX9_takeTables_66 : decode cX9_takeTables 66 = .ok (.iconst 0, 1) := DX9_takeTables_54.2.2.2.2.2.2.2.2.1
theorem dX9_takeTables_67 : decode cX9_takeTables 67 = .ok (.istore_n 2, 1) := DX9_takeTables_54.2.2.2.2.2.2.2.2.2.1
theorem dX9_takeTables_68 : decode cX9_takeTables 68 = .ok (.iload_n 2, 1) := DX9_takeTables_54.2.2.2.2.2.2.2.2.2.2.1
theorem dX9_takeTables_69 : decode cX9_takeTables 69 = .ok (.iconst 3, 1) := DX9_takeTables_54.2.2.2.2.2.2.2.2.2.2.2.1
theorem dX9_takeTables_70 : decode cX9_takeTables 70 = .ok (.if_icmp .ge 29, 3) := DX9_takeTables_54.2.2.2.2.2.2.2.2.2.2.2.2.1
theorem dX9_takeTables_73 : decode cX9_takeTables 73 = .ok (.aload_n 0, 1) := DX9_takeTables_54.2.2.2.2.2.2.2.2.2.2.2.2.2.1
theorem dX9_takeTables_74 : decode cX9_takeTables 74 = .ok (.getfield 40, 3) := DX9_takeTables_54.2.2.2.2.2.2.2.2.2.2.2.2.2.2.1
theorem dX9_takeTables_77 : decode cX9_takeTables 77 = .ok (.iconst 3, 1) := DX9_takeTables_54.2.2.2.2.2.2.2.2.2.2.2.2.2.2.2.1
theorem DX9_takeTables_78 : dAre cX9_takeTables [(78, .iload_n 1, 1), (79, .imul, 1), (80, .iload_n 2, 1), (81, .iadd, 1), (82, .aload_n 0, 1), (83, .getfield 16, 3), (86, .iconst 3, 1), (87, .iload_n 1, 1), (88, .imul, 1), (89, .iload_n 2, 1), (90, .iadd, 1), (91, .iaload, 1), (92, .iastore, 1), (93, .iinc 2 1, 3), (96, .goto (-28), 3), (99, .iconst 0, 1)] := dAre0 (by decide +kernel)
theorem dX9_takeTables_78 : decode cX9_takeTables 78 = .ok (.iload_n 1, 1) := DX9_takeTables_78.1
theorem dX9_takeTables_79 : decode cX9_takeTables 79 = .ok (.imul, 1) := DX9_takeTables_78.2.1
theorem dX9_takeTables_80 : decode cX9_takeTables 80 = .ok (.iload_n 2, 1) := DX9_takeTables_78.2.2.1
theorem dX9_takeTables_81 : decode cX9_takeTables 81 = .ok (.iadd, 1) := DX9_takeTables_78.2.2.2.1
theorem dX9_takeTables_82 : decode cX9_takeTables 82 = .ok (.aload_n 0, 1) := DX9_takeTables_78.2.2.2.2.1
theorem dX9_takeTables_83 : decode cX9_takeTables 83 = .ok (.getfield 16, 3) := DX9_takeTables_78.2.2.2.2.2.1
theorem dX9_takeTables_86 : decode cX9_takeTables 86 = .ok (.iconst 3, 1) := DX9_takeTables_78.2.2.2.2.2.2.1
theorem dX9_takeTables_87 : decode cX9_takeTables 87 = .ok (.iload_n 1, 1) := DX9_takeTables_78.2.2.2.2.2.2.2.1
theorem dX9_takeTables_88 : decode cX9_takeTables 88 = .ok (.imul, 1) := DX9_takeTables_78.2.2.2.2.2.2.2.2.1
theorem dX9_takeTables_89 : decode cX9_takeTables 89 = .ok (.iload_n 2, 1) := DX9_takeTables_78.2.2.2.2.2.2.2.2.2.1
theorem dX9_takeTables_90 : decode cX9_takeTables 90 = .ok (.iadd, 1) := DX9_takeTables_78.2.2.2.2.2.2.2.2.2.2.1
theorem dX9_takeTables_91 : decode cX9_takeTables 91 = .ok (.iaload, 1) := DX9_takeTables_78.2.2.2.2.2.2.2.2.2.2.2.1
theorem dX9_takeTables_92 : decode cX9_takeTables 92 = .ok (.iastore, 1) := DX9_takeTables_78.2.2.2.2.2.2.2.2.2.2.2.2.1
theorem dX9_takeTables_93 : decode cX9_takeTables 93 = .ok (.iinc 2 1, 3) := DX9_takeTables_78.2.2.2.2.2.2.2.2.2.2.2.2.2.1
theorem dX9_takeTables_96 : decode cX9_takeTables 96 = .ok (.goto (-28), 3) := DX9_takeTables_78.2.2.2.2.2.2.2.2.2.2.2.2.2.2.1
theorem dX9_takeTables_99 : decode cX9_takeTables 99 = .ok (.iconst 0, 1) := DX9_takeTables_78.2.2.2.2.2.2.2.2.2.2.2.2.2.2.2.1
theorem DX9_takeTables_100 : dAre cX9_takeTables [(100, .istore_n 2, 1), (101, .iload_n 2, 1), (102, .aload_n 0, 1), (103, .getfield 19, 3), (106, .iload_n 1, 1), (107, .iaload, 1), (108, .if_icmp .ge 76, 3), (111, .iconst 3, 1), (112, .bipush 12, 2), (114, .iload_n 1, 1), (115, .imul, 1), (116, .iload_n 2, 1), (117, .iadd, 1), (118, .imul, 1), (119, .istore_n 3, 1), (120, .aload_n 0, 1)] := dAre0 (by decide +kernel)
theorem dX9_takeTables_100 : decode cX9_takeTables 100 = .ok (.istore_n 2, 1) := DX9_takeTables_100.1
theorem dX9_takeTables_101 : decode cX9_takeTables 101 = .ok (.iload_n 2, 1) := DX9_takeTables_100.2.1
theorem dX9_takeTables_102 : decode cX9_takeTables 102 = .ok (.aload_n 0, 1) := DX9_takeTables_100.2.2.1
theorem dX9_takeTables_103 : decode cX9_takeTables 103 = .ok (.getfield 19, 3) := DX9_takeTables_100.2.2.2.1
theorem dX9_takeTables_106 : decode cX9_takeTables 106 = .ok (.iload_n 1, 1) := DX9_takeTables_100.2.2.2.2.1
theorem dX9_takeTables_107 : decode cX9_takeTables 107 = .ok (.iaload, 1) := DX9_takeTables_100.2.2.2.2.2.1
theorem dX9_takeTables_108 : decode cX9_takeTables 108 = .ok (.if_icmp .ge 76, 3) := DX9_takeTables_100.2.2.2.2.2.2.1
theorem dX9_takeTables_111 : decode cX9_takeTables 111 = .ok (.iconst 3, 1) := DX9_takeTables_100.2.2.2.2.2.2.2.1
theorem dX9_takeTables_112 : decode cX9_takeTables 112 = .ok (.bipush 12, 2) := DX9_takeTables_100.2.2.2.2.2.2.2.2.1
theorem dX9_takeTables_114 : decode cX9_takeTables 114 = .ok (.iload_n 1, 1) := DX9_takeTables_100.2.2.2.2.2.2.2.2.2.1
theorem dX9_takeTables_115 : decode cX9_takeTables 115 = .ok (.imul, 1) := DX9_takeTables_100.2.2.2.2.2.2.2.2.2.2.1
theorem dX9_takeTables_116 : decode cX9_takeTables 116 = .ok (.iload_n 2, 1) := DX9_takeTables_100.2.2.2.2.2.2.2.2.2.2.2.1
theorem dX9_takeTables_117 : decode cX9_takeTables 117 = .ok (.iadd, 1) := DX9_takeTables_100.2.2.2.2.2.2.2.2.2.2.2.2.1
theorem dX9_takeTables_118 : decode cX9_takeTables 118 = .ok (.imul, 1) := DX9_takeTables_100.2.2.2.2.2.2.2.2.2.2.2.2.2.1
theorem dX9_takeTables_119 : decode cX9_takeTables 119 = .ok (.istore_n 3, 1) := DX9_takeTables_100.2.2.2.2.2.2.2.2.2.2.2.2.2.2.1
theorem dX9_takeTables_120 : decode cX9_takeTables 120 = .ok (.aload_n 0, 1) := DX9_takeTables_100.2.2.2.2.2.2.2.2.2.2.2.2.2.2.2.1
theorem DX9_takeTables_121 : dAre cX9_takeTables [(121, .iload_n 1, 1), (122, .aload_n 0, 1), (123, .getfield 22, 3), (126, .iload_n 3, 1), (127, .iaload, 1), (128, .aload_n 0, 1), (129, .getfield 22, 3), (132, .iload_n 3, 1), (133, .iconst 1, 1), (134, .iadd, 1), (135, .iaload, 1), (136, .aload_n 0, 1), (137, .getfield 22, 3), (140, .iload_n 3, 1), (141, .iconst 2, 1), (142, .iadd, 1)] := dAre0 (by decide +kernel)
theorem dX9_takeTables_121 : decode cX9_takeTables 121 = .ok (.iload_n 1, 1) := DX9_takeTables_121.1
theorem dX9_takeTables_122 : decode cX9_takeTables 122 = .ok (.aload_n 0, 1) := DX9_takeTables_121.2.1
theorem dX9_takeTables_123 : decode cX9_takeTables 123 = .ok (.getfield 22, 3) := DX9_takeTables_121.2.2.1
theorem dX9_takeTables_126 : decode cX9_takeTables 126 = .ok (.iload_n 3, 1) := DX9_takeTables_121.2.2.2.1
theorem dX9_takeTables_127 : decode cX9_takeTables 127 = .ok (.iaload, 1) := DX9_takeTables_121.2.2.2.2.1
theorem dX9_takeTables_128 : decode cX9_takeTables 128 = .ok (.aload_n 0, 1) := DX9_takeTables_121.2.2.2.2.2.1
theorem dX9_takeTables_129 : decode cX9_takeTables 129 = .ok (.getfield 22, 3) := DX9_takeTables_121.2.2.2.2.2.2.1
theorem dX9_takeTables_132 : decode cX9_takeTables 132 = .ok (.iload_n 3, 1) := DX9_takeTables_121.2.2.2.2.2.2.2.1
theorem dX9_takeTables_133 : decode cX9_takeTables 133 = .ok (.iconst 1, 1) := DX9_takeTables_121.2.2.2.2.2.2.2.2.1
theorem dX9_takeTables_134 : decode cX9_takeTables 134 = .ok (.iadd, 1) := DX9_takeTables_121.2.2.2.2.2.2.2.2.2.1
theorem dX9_takeTables_135 : decode cX9_takeTables 135 = .ok (.iaload, 1) := DX9_takeTables_121.2.2.2.2.2.2.2.2.2.2.1
theorem dX9_takeTables_136 : decode cX9_takeTables 136 = .ok (.aload_n 0, 1) := DX9_takeTables_121.2.2.2.2.2.2.2.2.2.2.2.1
theorem dX9_takeTables_137 : decode cX9_takeTables 137 = .ok (.getfield 22, 3) := DX9_takeTables_121.2.2.2.2.2.2.2.2.2.2.2.2.1
theorem dX9_takeTables_140 : decode cX9_takeTables 140 = .ok (.iload_n 3, 1) := DX9_takeTables_121.2.2.2.2.2.2.2.2.2.2.2.2.2.1
theorem dX9_takeTables_141 : decode cX9_takeTables 141 = .ok (.iconst 2, 1) := DX9_takeTables_121.2.2.2.2.2.2.2.2.2.2.2.2.2.2.1
theorem dX9_takeTables_142 : decode cX9_takeTables 142 = .ok (.iadd, 1) := DX9_takeTables_121.2.2.2.2.2.2.2.2.2.2.2.2.2.2.2.1
theorem DX9_takeTables_143 : dAre cX9_takeTables [(143, .iaload, 1), (144, .invokevirtual 197, 3), (147, .ifCond .ne 31, 3), (150, .aload_n 0, 1), (151, .iload_n 1, 1), (152, .aload_n 0, 1), (153, .getfield 22, 3), (156, .iload_n 3, 1), (157, .iaload, 1), (158, .aload_n 0, 1), (159, .getfield 22, 3), (162, .iload_n 3, 1), (163, .iconst 1, 1), (164, .iadd, 1), (165, .iaload, 1), (166, .aload_n 0, 1)] := dAre0 (by decide +kernel)
theorem dX9_takeTables_143 : decode cX9_takeTables 143 = .ok (.iaload, 1) := DX9_takeTables_143.1
theorem dX9_takeTables_144 : decode cX9_takeTables 144 = .ok (.invokevirtual 197, 3) := DX9_takeTables_143.2.1
theorem dX9_takeTables_147 : decode cX9_takeTables 147 = .ok (.ifCond .ne 31, 3) := DX9_takeTables_143.2.2.1
theorem dX9_takeTables_150 : decode cX9_takeTables 150 = .ok (.aload_n 0, 1) := DX9_takeTables_143.2.2.2.1
theorem dX9_takeTables_151 : decode cX9_takeTables 151 = .ok (.iload_n 1, 1) := DX9_takeTables_143.2.2.2.2.1
theorem dX9_takeTables_152 : decode cX9_takeTables 152 = .ok (.aload_n 0, 1) := DX9_takeTables_143.2.2.2.2.2.1
theorem dX9_takeTables_153 : decode cX9_takeTables 153 = .ok (.getfield 22, 3) := DX9_takeTables_143.2.2.2.2.2.2.1
theorem dX9_takeTables_156 : decode cX9_takeTables 156 = .ok (.iload_n 3, 1) := DX9_takeTables_143.2.2.2.2.2.2.2.1
theorem dX9_takeTables_157 : decode cX9_takeTables 157 = .ok (.iaload, 1) := DX9_takeTables_143.2.2.2.2.2.2.2.2.1
theorem dX9_takeTables_158 : decode cX9_takeTables 158 = .ok (.aload_n 0, 1) := DX9_takeTables_143.2.2.2.2.2.2.2.2.2.1
theorem dX9_takeTables_159 : decode cX9_takeTables 159 = .ok (.getfield 22, 3) := DX9_takeTables_143.2.2.2.2.2.2.2.2.2.2.1
theorem dX9_takeTables_162 : decode cX9_takeTables 162 = .ok (.iload_n 3, 1) := DX9_takeTables_143.2.2.2.2.2.2.2.2.2.2.2.1
theorem dX9_takeTables_163 : decode cX9_takeTables 163 = .ok (.iconst 1, 1) := DX9_takeTables_143.2.2.2.2.2.2.2.2.2.2.2.2.1
theorem dX9_takeTables_164 : decode cX9_takeTables 164 = .ok (.iadd, 1) := DX9_takeTables_143.2.2.2.2.2.2.2.2.2.2.2.2.2.1
theorem dX9_takeTables_165 : decode cX9_takeTables 165 = .ok (.iaload, 1) := DX9_takeTables_143.2.2.2.2.2.2.2.2.2.2.2.2.2.2.1
theorem dX9_takeTables_166 : decode cX9_takeTables 166 = .ok (.aload_n 0, 1) := DX9_takeTables_143.2.2.2.2.2.2.2.2.2.2.2.2.2.2.2.1
theorem DX9_takeTables_167 : dAre cX9_takeTables [(167, .getfield 22, 3), (170, .iload_n 3, 1), (171, .iconst 2, 1), (172, .iadd, 1), (173, .iaload, 1), (174, .invokevirtual 201, 3), (177, .pop, 1), (178, .iinc 2 1, 3), (181, .goto (-80), 3), (184, .iinc 1 1, 3), (187, .goto (-141), 3), (190, .aload_n 0, 1), (191, .iconst 0, 1), (192, .putfield 204, 3), (195, .aload_n 0, 1), (196, .iconst 0, 1)] := dAre0 (by decide +kernel)
theorem dX9_takeTables_167 : decode cX9_takeTables 167 = .ok (.getfield 22, 3) := DX9_takeTables_167.1
theorem dX9_takeTables_170 : decode cX9_takeTables 170 = .ok (.iload_n 3, 1) := DX9_takeTables_167.2.1
theorem dX9_takeTables_171 : decode cX9_takeTables 171 = .ok (.iconst 2, 1) := DX9_takeTables_167.2.2.1
theorem dX9_takeTables_172 : decode cX9_takeTables 172 = .ok (.iadd, 1) := DX9_takeTables_167.2.2.2.1
theorem dX9_takeTables_173 : decode cX9_takeTables 173 = .ok (.iaload, 1) := DX9_takeTables_167.2.2.2.2.1
theorem dX9_takeTables_174 : decode cX9_takeTables 174 = .ok (.invokevirtual 201, 3) := DX9_takeTables_167.2.2.2.2.2.1
theorem dX9_takeTables_177 : decode cX9_takeTables 177 = .ok (.pop, 1) := DX9_takeTables_167.2.2.2.2.2.2.1
theorem dX9_takeTables_178 : decode cX9_takeTables 178 = .ok (.iinc 2 1, 3) := DX9_takeTables_167.2.2.2.2.2.2.2.1
theorem dX9_takeTables_181 : decode cX9_takeTables 181 = .ok (.goto (-80), 3) := DX9_takeTables_167.2.2.2.2.2.2.2.2.1
theorem dX9_takeTables_184 : decode cX9_takeTables 184 = .ok (.iinc 1 1, 3) := DX9_takeTables_167.2.2.2.2.2.2.2.2.2.1
theorem dX9_takeTables_187 : decode cX9_takeTables 187 = .ok (.goto (-141), 3) := DX9_takeTables_167.2.2.2.2.2.2.2.2.2.2.1
theorem dX9_takeTables_190 : decode cX9_takeTables 190 = .ok (.aload_n 0, 1) := DX9_takeTables_167.2.2.2.2.2.2.2.2.2.2.2.1
theorem dX9_takeTables_191 : decode cX9_takeTables 191 = .ok (.iconst 0, 1) := DX9_takeTables_167.2.2.2.2.2.2.2.2.2.2.2.2.1
theorem dX9_takeTables_192 : decode cX9_takeTables 192 = .ok (.putfield 204, 3) := DX9_takeTables_167.2.2.2.2.2.2.2.2.2.2.2.2.2.1
theorem dX9_takeTables_195 : decode cX9_takeTables 195 = .ok (.aload_n 0, 1) := DX9_takeTables_167.2.2.2.2.2.2.2.2.2.2.2.2.2.2.1
theorem dX9_takeTables_196 : decode cX9_takeTables 196 = .ok (.iconst 0, 1) := DX9_takeTables_167.2.2.2.2.2.2.2.2.2.2.2.2.2.2.2.1
theorem DX9_takeTables_197 : dAre cX9_takeTables [(197, .putfield 207, 3), (200, .aload_n 0, 1), (201, .getfield 173, 3), (204, .ireturn, 1)] := dAre0 (by decide +kernel)
theorem dX9_takeTables_197 : decode cX9_takeTables 197 = .ok (.putfield 207, 3) := DX9_takeTables_197.1
theorem dX9_takeTables_200 : decode cX9_takeTables 200 = .ok (.aload_n 0, 1) := DX9_takeTables_197.2.1
theorem dX9_takeTables_201 : decode cX9_takeTables 201 = .ok (.getfield 173, 3) := DX9_takeTables_197.2.2.1
theorem dX9_takeTables_204 : decode cX9_takeTables 204 = .ok (.ireturn, 1) := DX9_takeTables_197.2.2.2.1
theorem mX9_takeTables : gMv yX9_takeTables cX9_takeTables 4 (some .int) RX9 0 := ⟨q986, q1396, q10, q987, rfl, by decide, by decide, by decide +kernel⟩
noncomputable def lX9_takeTables_10 : (Int32 × gM) → Option (gM) :=
  itO fun s =>
    if (331 : Int32) ≤ s.1 then
      some (.inr s.2)
    else
      (wI s.2 70 331 s.1 0).bind fun I2 =>
      some (.inl (s.1 + 1, I2))
set_option maxRecDepth 100000 in
set_option maxHeartbeats 4000000 in
theorem wlX9_takeTables_10 {z : gZ} {E : gE} {bk : Nat} (F : Fx z sh E "LeapJoinModel" cX9_takeTables (gR 4) 4) (B : bZ z bk) (hE : gDist sh E) (J : gN) {r : gM} : ∀ s : Int32 × gM, lX9_takeTables_10 s = some r → (G z 30 [(0, .ref (E.2.1 62))] [] r J) → G z 10 [(0, .ref (E.2.1 62)), (1, .int s.1)] [] s.2 J := by
  intro s h X0
  unfold lX9_takeTables_10 at h
  revert s
  refine itO_ind (P := fun s : Int32 × gM => G z 10 [(0, .ref (E.2.1 62)), (1, .int s.1)] [] s.2 J) (fun s y h hl hr => ?_)
  have K10_0 : ∀ x : gM, y = .inr x → (G z 30 [(0, .ref (E.2.1 62))] [] x J) := fun x q => by have q2 := hr _ q; subst q2; exact X0
  refine g_iload_n F 1 dX9_takeTables_10 rfl rfl ?_
  refine g_sipush (v := 331) F dX9_takeTables_11 (by decide) ?_
  refine u_icmp_ge (tgt := 30) F dX9_takeTables_14 (by decide) h (fun h => ?_) (fun h => ?_)
  · obtain rfl := Option.some.inj h
    refine g_sub (Ln := [(0, .ref (E.2.1 62))]) [0] rfl ?_
    exact K10_0 s.2 rfl
  · refine g_aload_n F 0 dX9_takeTables_17 rfl rfl ?_
    refine g_getr (j := 13) (nn := 70) F s62 rfl rfl uX9 (by decide) q834 dX9_takeTables_18 ?_
    refine g_iload_n F 1 dX9_takeTables_21 rfl rfl ?_
    refine g_iconst (v := 0) F dX9_takeTables_22 (by decide) ?_
    refine u_wI F s70 (by decide) dX9_takeTables_23 h (fun I2 h => ?_)
    refine g_iinc (v := s.1 + 1) (Ln := [(1, .int (s.1 + 1)), (0, .ref (E.2.1 62))]) F 1 dX9_takeTables_24 rfl (add_c (by decide)) (by decide) rfl ?_
    refine g_goto (tgt := 10) F dX9_takeTables_27 (by decide) ?_
    obtain rfl := Option.some.inj h
    refine g_sub (Ln := [(0, .ref (E.2.1 62)), (1, .int (s.1 + 1))]) [1, 0] rfl ?_
    exact hl (s.1 + 1, I2) rfl
noncomputable def lX9_takeTables_68 (v1 : Int32) : (Int32 × gM) → Option (gM) :=
  itO fun s =>
    if (3 : Int32) ≤ s.1 then
      some (.inr s.2)
    else
      (rI 12 (s.2 65) (((3 : Int32) * v1) + s.1)).bind fun u7 =>
      (wI s.2 73 12 (((3 : Int32) * v1) + s.1) u7).bind fun I8 =>
      some (.inl (s.1 + 1, I8))
set_option maxRecDepth 100000 in
set_option maxHeartbeats 4000000 in
theorem wlX9_takeTables_68 {z : gZ} {E : gE} {bk : Nat} (F : Fx z sh E "LeapJoinModel" cX9_takeTables (gR 4) 4) (B : bZ z bk) (hE : gDist sh E) (v1 : Int32) (J : gN) {r : gM} : ∀ s : Int32 × gM, lX9_takeTables_68 v1 s = some r → (G z 99 [(0, .ref (E.2.1 62)), (1, .int v1)] [] r J) → G z 68 [(0, .ref (E.2.1 62)), (1, .int v1), (2, .int s.1)] [] s.2 J := by
  intro s h X0
  unfold lX9_takeTables_68 at h
  revert s
  refine itO_ind (P := fun s : Int32 × gM => G z 68 [(0, .ref (E.2.1 62)), (1, .int v1), (2, .int s.1)] [] s.2 J) (fun s y h hl hr => ?_)
  have K68_0 : ∀ x : gM, y = .inr x → (G z 99 [(0, .ref (E.2.1 62)), (1, .int v1)] [] x J) := fun x q => by have q2 := hr _ q; subst q2; exact X0
  refine g_iload_n F 2 dX9_takeTables_68 rfl rfl ?_
  refine g_iconst (v := 3) F dX9_takeTables_69 (by decide) ?_
  refine u_icmp_ge (tgt := 99) F dX9_takeTables_70 (by decide) h (fun h => ?_) (fun h => ?_)
  · obtain rfl := Option.some.inj h
    refine g_sub (Ln := [(0, .ref (E.2.1 62)), (1, .int v1)]) [0, 1] rfl ?_
    exact K68_0 s.2 rfl
  · refine g_aload_n F 0 dX9_takeTables_73 rfl rfl ?_
    refine g_getr (j := 16) (nn := 73) F s62 rfl rfl uX9 (by decide) q837 dX9_takeTables_74 ?_
    refine g_iconst (v := 3) F dX9_takeTables_77 (by decide) ?_
    refine g_iload_n F 1 dX9_takeTables_78 rfl rfl ?_
    refine g_imul (v := (3 : Int32) * v1) F dX9_takeTables_79 rfl ?_
    refine g_iload_n F 2 dX9_takeTables_80 rfl rfl ?_
    refine g_iadd (v := ((3 : Int32) * v1) + s.1) F dX9_takeTables_81 rfl ?_
    refine g_aload_n F 0 dX9_takeTables_82 rfl rfl ?_
    refine g_getr (j := 6) (nn := 65) F s62 rfl rfl uX9 (by decide) q827 dX9_takeTables_83 ?_
    refine g_iconst (v := 3) F dX9_takeTables_86 (by decide) ?_
    refine g_iload_n F 1 dX9_takeTables_87 rfl rfl ?_
    refine g_imul (v := (3 : Int32) * v1) F dX9_takeTables_88 rfl ?_
    refine g_iload_n F 2 dX9_takeTables_89 rfl rfl ?_
    refine g_iadd (v := ((3 : Int32) * v1) + s.1) F dX9_takeTables_90 rfl ?_
    refine u_rI F s65 (by decide) dX9_takeTables_91 h (fun u7 h => ?_)
    refine u_wI F s73 (by decide) dX9_takeTables_92 h (fun I8 h => ?_)
    refine g_iinc (v := s.1 + 1) (Ln := [(2, .int (s.1 + 1)), (0, .ref (E.2.1 62)), (1, .int v1)]) F 2 dX9_takeTables_93 rfl (add_c (by decide)) (by decide) rfl ?_
    refine g_goto (tgt := 68) F dX9_takeTables_96 (by decide) ?_
    obtain rfl := Option.some.inj h
    refine g_sub (Ln := [(0, .ref (E.2.1 62)), (1, .int v1), (2, .int (s.1 + 1))]) [1, 2, 0] rfl ?_
    exact hl (s.1 + 1, I8) rfl
noncomputable def bX9_takeTables_178 (v2 : Int32) (I : gM) : Option ((Int32 × gM) ⊕ (gM)) :=
  some (.inl (v2 + 1, I))
set_option maxRecDepth 100000 in
set_option maxHeartbeats 4000000 in
theorem wbX9_takeTables_178 {z : gZ} {E : gE} {bk : Nat} (F : Fx z sh E "LeapJoinModel" cX9_takeTables (gR 4) 4) (B : bZ z bk) (hE : gDist sh E) (v1 : Int32) (v2 : Int32) (I : gM) (J : gN) {y : (Int32 × gM) ⊕ (gM)} (h : bX9_takeTables_178 v2 I = some y) (hl : ∀ s' : Int32 × gM, y = .inl s' → G z 101 [(0, .ref (E.2.1 62)), (1, .int v1), (2, .int (s'.1))] [] s'.2 J) (K101_0 : ∀ x : gM, y = .inr x → G z 184 [(0, .ref (E.2.1 62)), (1, .int v1)] [] x J) : G z 178 [(0, .ref (E.2.1 62)), (1, .int v1), (2, .int v2)] [] I J := by
  unfold bX9_takeTables_178 at h
  refine g_iinc (v := v2 + 1) (Ln := [(2, .int (v2 + 1)), (0, .ref (E.2.1 62)), (1, .int v1)]) F 2 dX9_takeTables_178 rfl (add_c (by decide)) (by decide) rfl ?_
  refine g_goto (tgt := 101) F dX9_takeTables_181 (by decide) ?_
  obtain rfl := Option.some.inj h
  refine g_sub (Ln := [(0, .ref (E.2.1 62)), (1, .int v1), (2, .int (v2 + 1))]) [1, 2, 0] rfl ?_
  exact hl (v2 + 1, I) rfl
noncomputable def lX9_takeTables_101 (v1 : Int32) : (Int32 × gM) → Option (gM) :=
  itO fun s =>
    (rI 4 (s.2 66) v1).bind fun u10 =>
    if u10 ≤ s.1 then
      some (.inr s.2)
    else
      (rI 144 (s.2 67) ((3 : Int32) * (((12 : Int32) * v1) + s.1))).bind fun u11 =>
      (rI 144 (s.2 67) (((3 : Int32) * (((12 : Int32) * v1) + s.1)) + 1)).bind fun u12 =>
      (rI 144 (s.2 67) (((3 : Int32) * (((12 : Int32) * v1) + s.1)) + 2)).bind fun u13 =>
      (fX9_hasRow v1 u11 u12 u13 s.2).bind fun r14 =>
      if r14 = 0 then
        (rI 144 (s.2 67) ((3 : Int32) * (((12 : Int32) * v1) + s.1))).bind fun u15 =>
        (rI 144 (s.2 67) (((3 : Int32) * (((12 : Int32) * v1) + s.1)) + 1)).bind fun u16 =>
        (rI 144 (s.2 67) (((3 : Int32) * (((12 : Int32) * v1) + s.1)) + 2)).bind fun u17 =>
        (fX9_putsNow v1 u15 u16 u17 s.2).bind fun r18 =>
        bX9_takeTables_178 s.1 r18.2
      else
        bX9_takeTables_178 s.1 s.2
set_option maxRecDepth 100000 in
set_option maxHeartbeats 4000000 in
theorem wlX9_takeTables_101 {z : gZ} {E : gE} {bk : Nat} (F : Fx z sh E "LeapJoinModel" cX9_takeTables (gR 4) 4) (B : bZ z bk) (hE : gDist sh E) (v1 : Int32) (J : gN) {r : gM} : ∀ s : Int32 × gM, lX9_takeTables_101 v1 s = some r → (G z 184 [(0, .ref (E.2.1 62)), (1, .int v1)] [] r J) → G z 101 [(0, .ref (E.2.1 62)), (1, .int v1), (2, .int s.1)] [] s.2 J := by
  intro s h X0
  unfold lX9_takeTables_101 at h
  revert s
  refine itO_ind (P := fun s : Int32 × gM => G z 101 [(0, .ref (E.2.1 62)), (1, .int v1), (2, .int s.1)] [] s.2 J) (fun s y h hl hr => ?_)
  have K101_0 : ∀ x : gM, y = .inr x → (G z 184 [(0, .ref (E.2.1 62)), (1, .int v1)] [] x J) := fun x q => by have q2 := hr _ q; subst q2; exact X0
  refine g_iload_n F 2 dX9_takeTables_101 rfl rfl ?_
  refine g_aload_n F 0 dX9_takeTables_102 rfl rfl ?_
  refine g_getr (j := 7) (nn := 66) F s62 rfl rfl uX9 (by decide) q828 dX9_takeTables_103 ?_
  refine g_iload_n F 1 dX9_takeTables_106 rfl rfl ?_
  refine u_rI F s66 (by decide) dX9_takeTables_107 h (fun u10 h => ?_)
  refine u_icmp_ge (tgt := 184) F dX9_takeTables_108 (by decide) h (fun h => ?_) (fun h => ?_)
  · obtain rfl := Option.some.inj h
    refine g_sub (Ln := [(0, .ref (E.2.1 62)), (1, .int v1)]) [0, 1] rfl ?_
    exact K101_0 s.2 rfl
  · refine g_iconst (v := 3) F dX9_takeTables_111 (by decide) ?_
    refine g_bipush (v := 12) F dX9_takeTables_112 (by decide) ?_
    refine g_iload_n F 1 dX9_takeTables_114 rfl rfl ?_
    refine g_imul (v := (12 : Int32) * v1) F dX9_takeTables_115 rfl ?_
    refine g_iload_n F 2 dX9_takeTables_116 rfl rfl ?_
    refine g_iadd (v := ((12 : Int32) * v1) + s.1) F dX9_takeTables_117 rfl ?_
    refine g_imul (v := (3 : Int32) * (((12 : Int32) * v1) + s.1)) F dX9_takeTables_118 rfl ?_
    refine g_istore_n (Ln := [(3, .int ((3 : Int32) * (((12 : Int32) * v1) + s.1))), (0, .ref (E.2.1 62)), (1, .int v1), (2, .int s.1)]) F dX9_takeTables_119 rfl (by decide) rfl ?_
    refine g_aload_n F 1 dX9_takeTables_120 rfl rfl ?_
    refine g_iload_n F 2 dX9_takeTables_121 rfl rfl ?_
    refine g_aload_n F 1 dX9_takeTables_122 rfl rfl ?_
    refine g_getr (j := 8) (nn := 67) F s62 rfl rfl uX9 (by decide) q829 dX9_takeTables_123 ?_
    refine g_iload_n F 0 dX9_takeTables_126 rfl rfl ?_
    refine u_rI F s67 (by decide) dX9_takeTables_127 h (fun u11 h => ?_)
    refine g_aload_n F 1 dX9_takeTables_128 rfl rfl ?_
    refine g_getr (j := 8) (nn := 67) F s62 rfl rfl uX9 (by decide) q829 dX9_takeTables_129 ?_
    refine g_iload_n F 0 dX9_takeTables_132 rfl rfl ?_
    refine g_iconst (v := 1) F dX9_takeTables_133 (by decide) ?_
    refine g_iadd (v := ((3 : Int32) * (((12 : Int32) * v1) + s.1)) + 1) F dX9_takeTables_134 rfl ?_
    refine u_rI F s67 (by decide) dX9_takeTables_135 h (fun u12 h => ?_)
    refine g_aload_n F 1 dX9_takeTables_136 rfl rfl ?_
    refine g_getr (j := 8) (nn := 67) F s62 rfl rfl uX9 (by decide) q829 dX9_takeTables_137 ?_
    refine g_iload_n F 0 dX9_takeTables_140 rfl rfl ?_
    refine g_iconst (v := 2) F dX9_takeTables_141 (by decide) ?_
    refine g_iadd (v := ((3 : Int32) * (((12 : Int32) * v1) + s.1)) + 2) F dX9_takeTables_142 rfl ?_
    refine u_rI F s67 (by decide) dX9_takeTables_143 h (fun u13 h => ?_)
    refine u_callV (k := 62) (As := [.int v1, .int u11, .int u12, .int u13]) (rest := []) (sn := fun r14 => [.int r14]) F B (fun _ => wX9_hasRow (zl z) E hE bk v1 u11 u12 u13 s.2 J) mX9_hasRow q988 rfl s62 rfl rfl rfl (Nat.le_of_ble_eq_true rfl) dX9_takeTables_144 (fun _ => rfl) h (fun r14 h => ?_)
    refine u_if_ne (tgt := 178) F dX9_takeTables_147 (by decide) h (fun h => ?_) (fun h => ?_)
    · refine g_aload_n F 1 dX9_takeTables_150 rfl rfl ?_
      refine g_iload_n F 2 dX9_takeTables_151 rfl rfl ?_
      refine g_aload_n F 1 dX9_takeTables_152 rfl rfl ?_
      refine g_getr (j := 8) (nn := 67) F s62 rfl rfl uX9 (by decide) q829 dX9_takeTables_153 ?_
      refine g_iload_n F 0 dX9_takeTables_156 rfl rfl ?_
      refine u_rI F s67 (by decide) dX9_takeTables_157 h (fun u15 h => ?_)
      refine g_aload_n F 1 dX9_takeTables_158 rfl rfl ?_
      refine g_getr (j := 8) (nn := 67) F s62 rfl rfl uX9 (by decide) q829 dX9_takeTables_159 ?_
      refine g_iload_n F 0 dX9_takeTables_162 rfl rfl ?_
      refine g_iconst (v := 1) F dX9_takeTables_163 (by decide) ?_
      refine g_iadd (v := ((3 : Int32) * (((12 : Int32) * v1) + s.1)) + 1) F dX9_takeTables_164 rfl ?_
      refine u_rI F s67 (by decide) dX9_takeTables_165 h (fun u16 h => ?_)
      refine g_aload_n F 1 dX9_takeTables_166 rfl rfl ?_
      refine g_getr (j := 8) (nn := 67) F s62 rfl rfl uX9 (by decide) q829 dX9_takeTables_167 ?_
      refine g_iload_n F 0 dX9_takeTables_170 rfl rfl ?_
      refine g_iconst (v := 2) F dX9_takeTables_171 (by decide) ?_
      refine g_iadd (v := ((3 : Int32) * (((12 : Int32) * v1) + s.1)) + 2) F dX9_takeTables_172 rfl ?_
      refine u_rI F s67 (by decide) dX9_takeTables_173 h (fun u17 h => ?_)
      refine u_callV (k := 62) (As := [.int v1, .int u15, .int u16, .int u17]) (rest := []) (sn := fun r18 => [.int r18.1]) F B (fun _ => wX9_putsNow (zl z) E hE bk v1 u15 u16 u17 s.2 J) mX9_putsNow q1003 rfl s62 rfl rfl rfl (Nat.le_of_ble_eq_true rfl) dX9_takeTables_174 (fun _ => rfl) h (fun r18 h => ?_)
      refine g_pop F dX9_takeTables_177 rfl ?_
      refine g_sub (Ln := [(0, .ref (E.2.1 62)), (1, .int v1), (2, .int s.1)]) [1, 2, 3] rfl ?_
      exact wbX9_takeTables_178 F B hE v1 s.1 r18.2 J h hl K101_0
    · refine g_sub (Ln := [(0, .ref (E.2.1 62)), (1, .int v1), (2, .int s.1)]) [1, 2, 3] rfl ?_
      exact wbX9_takeTables_178 F B hE v1 s.1 s.2 J h hl K101_0
noncomputable def lX9_takeTables_46 : (Int32 × gM) → Option (gM) :=
  itO fun s =>
    if (s.2 62 17) ≤ s.1 then
      some (.inr s.2)
    else
      (rI 4 (s.2 64) s.1).bind fun u5 =>
      (wI s.2 72 4 s.1 u5).bind fun I6 =>
      (lX9_takeTables_68 s.1 ((0 : Int32), I6)).bind fun w9 =>
      (lX9_takeTables_101 s.1 ((0 : Int32), w9)).bind fun w19 =>
      some (.inl (s.1 + 1, w19))
set_option maxRecDepth 100000 in
set_option maxHeartbeats 4000000 in
theorem wlX9_takeTables_46 {z : gZ} {E : gE} {bk : Nat} (F : Fx z sh E "LeapJoinModel" cX9_takeTables (gR 4) 4) (B : bZ z bk) (hE : gDist sh E) (J : gN) {r : gM} : ∀ s : Int32 × gM, lX9_takeTables_46 s = some r → (G z 190 [(0, .ref (E.2.1 62))] [] r J) → G z 46 [(0, .ref (E.2.1 62)), (1, .int s.1)] [] s.2 J := by
  intro s h X0
  unfold lX9_takeTables_46 at h
  revert s
  refine itO_ind (P := fun s : Int32 × gM => G z 46 [(0, .ref (E.2.1 62)), (1, .int s.1)] [] s.2 J) (fun s y h hl hr => ?_)
  have K46_0 : ∀ x : gM, y = .inr x → (G z 190 [(0, .ref (E.2.1 62))] [] x J) := fun x q => by have q2 := hr _ q; subst q2; exact X0
  refine g_iload_n F 1 dX9_takeTables_46 rfl rfl ?_
  refine g_aload_n F 0 dX9_takeTables_47 rfl rfl ?_
  refine g_geti (j := 17) (v := s.2 62 17) F s62 rfl rfl uX9 (by decide) q838 rfl dX9_takeTables_48 ?_
  refine u_icmp_ge (tgt := 190) F dX9_takeTables_51 (by decide) h (fun h => ?_) (fun h => ?_)
  · obtain rfl := Option.some.inj h
    refine g_sub (Ln := [(0, .ref (E.2.1 62))]) [0] rfl ?_
    exact K46_0 s.2 rfl
  · refine g_aload_n F 0 dX9_takeTables_54 rfl rfl ?_
    refine g_getr (j := 15) (nn := 72) F s62 rfl rfl uX9 (by decide) q836 dX9_takeTables_55 ?_
    refine g_iload_n F 1 dX9_takeTables_58 rfl rfl ?_
    refine g_aload_n F 0 dX9_takeTables_59 rfl rfl ?_
    refine g_getr (j := 5) (nn := 64) F s62 rfl rfl uX9 (by decide) q826 dX9_takeTables_60 ?_
    refine g_iload_n F 1 dX9_takeTables_63 rfl rfl ?_
    refine u_rI F s64 (by decide) dX9_takeTables_64 h (fun u5 h => ?_)
    refine u_wI F s72 (by decide) dX9_takeTables_65 h (fun I6 h => ?_)
    refine g_iconst (v := 0) F dX9_takeTables_66 (by decide) ?_
    refine g_istore_n (Ln := [(2, .int 0), (0, .ref (E.2.1 62)), (1, .int s.1)]) F dX9_takeTables_67 rfl (by decide) rfl ?_
    obtain ⟨w9, ew9, h⟩ := ob h
    refine g_sub (Ln := [(0, .ref (E.2.1 62)), (1, .int s.1), (2, .int 0)]) [1, 2, 0] rfl ?_
    refine wlX9_takeTables_68 F B hE s.1 J _ ew9 ?_
    refine g_iconst (v := 0) F dX9_takeTables_99 (by decide) ?_
    refine g_istore_n (Ln := [(2, .int 0), (0, .ref (E.2.1 62)), (1, .int s.1)]) F dX9_takeTables_100 rfl (by decide) rfl ?_
    obtain ⟨w19, ew19, h⟩ := ob h
    refine g_sub (Ln := [(0, .ref (E.2.1 62)), (1, .int s.1), (2, .int 0)]) [1, 2, 0] rfl ?_
    refine wlX9_takeTables_101 F B hE s.1 J _ ew19 ?_
    refine g_iinc (v := s.1 + 1) (Ln := [(1, .int (s.1 + 1)), (0, .ref (E.2.1 62))]) F 1 dX9_takeTables_184 rfl (add_c (by decide)) (by decide) rfl ?_
    refine g_goto (tgt := 46) F dX9_takeTables_187 (by decide) ?_
    obtain rfl := Option.some.inj h
    refine g_sub (Ln := [(0, .ref (E.2.1 62)), (1, .int (s.1 + 1))]) [1, 0] rfl ?_
    exact hl (s.1 + 1, w19) rfl
noncomputable def fX9_takeTables (I : gM) : Option (Int32 × gM) :=
  (pU I 62 17 (I 62 9)).bind fun I1 =>
  (lX9_takeTables_10 ((0 : Int32), I1)).bind fun w3 =>
  (wI w3 70 331 0 (((1 : Int32) <<< ((w3 62 17) &&& 31)) - 1)).bind fun I4 =>
  (lX9_takeTables_46 ((0 : Int32), I4)).bind fun w20 =>
  (pU w20 62 29 (0 : Int32)).bind fun I21 =>
  (pU I21 62 42 (0 : Int32)).bind fun I22 =>
  some (I22 62 17, I22)
set_option maxRecDepth 100000 in
set_option maxHeartbeats 4000000 in
theorem wX9_takeTables (l : Launch) (E : gE) (hE : gDist sh E) (bk : Nat) (I : gM) (J : gN) {r : Int32 × gM} (h : fX9_takeTables I = some r) : Cu l sh E bk yX9_takeTables cX9_takeTables 4 (some .int) (gR 4) [.ref (E.2.1 62)] I J (fun r1 I1 J1 => r1 = some (.int r.1) ∧ I1 = r.2 ∧ J1 = J) := by
  refine Cu.of "LeapJoinModel" rfl hE (by decide) (Nat.le_of_ble_eq_true rfl) (fun z F B e hl => ?_)
  subst hl
  unfold fX9_takeTables at h
  refine g_aload_n F 0 dX9_takeTables_0 rfl rfl ?_
  refine g_aload_n F 0 dX9_takeTables_1 rfl rfl ?_
  refine g_geti (j := 9) (v := I 62 9) F s62 rfl rfl uX9 (by decide) q830 rfl dX9_takeTables_2 ?_
  refine u_puti (j := 17) F s62 rfl rfl uX9 (by decide) q838 tyX9_ok nmX9 rfl rfl rfl dX9_takeTables_5 h (fun I1 h => ?_)
  refine g_iconst (v := 0) F dX9_takeTables_8 (by decide) ?_
  refine g_istore_n (Ln := [(1, .int 0), (0, .ref (E.2.1 62))]) F dX9_takeTables_9 rfl (by decide) rfl ?_
  obtain ⟨w3, ew3, h⟩ := ob h
  refine g_sub (Ln := [(0, .ref (E.2.1 62)), (1, .int 0)]) [1, 0] rfl ?_
  refine wlX9_takeTables_10 F B hE J _ ew3 ?_
  refine g_aload_n F 0 dX9_takeTables_30 rfl rfl ?_
  refine g_getr (j := 13) (nn := 70) F s62 rfl rfl uX9 (by decide) q834 dX9_takeTables_31 ?_
  refine g_iconst (v := 0) F dX9_takeTables_34 (by decide) ?_
  refine g_iconst (v := 1) F dX9_takeTables_35 (by decide) ?_
  refine g_aload_n F 0 dX9_takeTables_36 rfl rfl ?_
  refine g_geti (j := 17) (v := w3 62 17) F s62 rfl rfl uX9 (by decide) q838 rfl dX9_takeTables_37 ?_
  refine g_ishl (v := (1 : Int32) <<< ((w3 62 17) &&& 31)) F dX9_takeTables_40 rfl ?_
  refine g_iconst (v := 1) F dX9_takeTables_41 (by decide) ?_
  refine g_isub (v := ((1 : Int32) <<< ((w3 62 17) &&& 31)) - 1) F dX9_takeTables_42 rfl ?_
  refine u_wI F s70 (by decide) dX9_takeTables_43 h (fun I4 h => ?_)
  refine g_iconst (v := 0) F dX9_takeTables_44 (by decide) ?_
  refine g_istore_n (Ln := [(1, .int 0), (0, .ref (E.2.1 62))]) F dX9_takeTables_45 rfl (by decide) rfl ?_
  obtain ⟨w20, ew20, h⟩ := ob h
  refine g_sub (Ln := [(0, .ref (E.2.1 62)), (1, .int 0)]) [1, 0] rfl ?_
  refine wlX9_takeTables_46 F B hE J _ ew20 ?_
  refine g_aload_n F 0 dX9_takeTables_190 rfl rfl ?_
  refine g_iconst (v := 0) F dX9_takeTables_191 (by decide) ?_
  refine u_puti (j := 29) F s62 rfl rfl uX9 (by decide) q850 tyX9_ok nmX9 rfl rfl rfl dX9_takeTables_192 h (fun I21 h => ?_)
  refine g_aload_n F 0 dX9_takeTables_195 rfl rfl ?_
  refine g_iconst (v := 0) F dX9_takeTables_196 (by decide) ?_
  refine u_puti (j := 42) F s62 rfl rfl uX9 (by decide) q863 tyX9_ok nmX9 rfl rfl rfl dX9_takeTables_197 h (fun I22 h => ?_)
  refine g_aload_n F 0 dX9_takeTables_200 rfl rfl ?_
  refine g_geti (j := 17) (v := I22 62 17) F s62 rfl rfl uX9 (by decide) q838 rfl dX9_takeTables_201 ?_
  obtain rfl := Option.some.inj h
  exact g_iret F e dX9_takeTables_204 ⟨rfl, rfl, rfl⟩
theorem DX9_text_0 : dAre cX9_text [(0, .iload_n 1, 1), (1, .ifCond .ne 21, 3), (4, .aload_n 0, 1), (5, .invokevirtual 167, 3), (8, .iconst (-1), 1), (9, .if_icmp .ne 13, 3), (12, .aload_n 0, 1), (13, .iconst 0, 1), (14, .putfield 101, 3), (17, .aload_n 0, 1), (18, .invokevirtual 211, 3), (21, .ireturn, 1), (22, .iload_n 1, 1), (23, .iconst 1, 1), (24, .if_icmp .ne 45, 3), (27, .aload_n 0, 1)] := dAre0 (by decide +kernel)
theorem dX9_text_0 : decode cX9_text 0 = .ok (.iload_n 1, 1) := DX9_text_0.1
theorem dX9_text_1 : decode cX9_text 1 = .ok (.ifCond .ne 21, 3) := DX9_text_0.2.1
theorem dX9_text_4 : decode cX9_text 4 = .ok (.aload_n 0, 1) := DX9_text_0.2.2.1
theorem dX9_text_5 : decode cX9_text 5 = .ok (.invokevirtual 167, 3) := DX9_text_0.2.2.2.1
theorem dX9_text_8 : decode cX9_text 8 = .ok (.iconst (-1), 1) := DX9_text_0.2.2.2.2.1
theorem dX9_text_9 : decode cX9_text 9 = .ok (.if_icmp .ne 13, 3) := DX9_text_0.2.2.2.2.2.1
theorem dX9_text_12 : decode cX9_text 12 = .ok (.aload_n 0, 1) := DX9_text_0.2.2.2.2.2.2.1
theorem dX9_text_13 : decode cX9_text 13 = .ok (.iconst 0, 1) := DX9_text_0.2.2.2.2.2.2.2.1
theorem dX9_text_14 : decode cX9_text 14 = .ok (.putfield 101, 3) := DX9_text_0.2.2.2.2.2.2.2.2.1
theorem dX9_text_17 : decode cX9_text 17 = .ok (.aload_n 0, 1) := DX9_text_0.2.2.2.2.2.2.2.2.2.1
theorem dX9_text_18 : decode cX9_text 18 = .ok (.invokevirtual 211, 3) := DX9_text_0.2.2.2.2.2.2.2.2.2.2.1
theorem dX9_text_21 : decode cX9_text 21 = .ok (.ireturn, 1) := DX9_text_0.2.2.2.2.2.2.2.2.2.2.2.1
theorem dX9_text_22 : decode cX9_text 22 = .ok (.iload_n 1, 1) := DX9_text_0.2.2.2.2.2.2.2.2.2.2.2.2.1
theorem dX9_text_23 : decode cX9_text 23 = .ok (.iconst 1, 1) := DX9_text_0.2.2.2.2.2.2.2.2.2.2.2.2.2.1
theorem dX9_text_24 : decode cX9_text 24 = .ok (.if_icmp .ne 45, 3) := DX9_text_0.2.2.2.2.2.2.2.2.2.2.2.2.2.2.1
theorem dX9_text_27 : decode cX9_text 27 = .ok (.aload_n 0, 1) := DX9_text_0.2.2.2.2.2.2.2.2.2.2.2.2.2.2.2.1
theorem DX9_text_28 : dAre cX9_text [(28, .getfield 214, 3), (31, .iconst 4, 1), (32, .if_icmp .ge 37, 3), (35, .aload_n 0, 1), (36, .aload_n 0, 1), (37, .getfield 214, 3), (40, .invokevirtual 170, 3), (43, .iconst (-1), 1), (44, .if_icmp .ne 25, 3), (47, .aload_n 0, 1), (48, .iconst 0, 1), (49, .putfield 101, 3), (52, .aload_n 0, 1), (53, .dup, 1), (54, .getfield 214, 3), (57, .iconst 1, 1)] := dAre0 (by decide +kernel)
theorem dX9_text_28 : decode cX9_text 28 = .ok (.getfield 214, 3) := DX9_text_28.1
theorem dX9_text_31 : decode cX9_text 31 = .ok (.iconst 4, 1) := DX9_text_28.2.1
theorem dX9_text_32 : decode cX9_text 32 = .ok (.if_icmp .ge 37, 3) := DX9_text_28.2.2.1
theorem dX9_text_35 : decode cX9_text 35 = .ok (.aload_n 0, 1) := DX9_text_28.2.2.2.1
theorem dX9_text_36 : decode cX9_text 36 = .ok (.aload_n 0, 1) := DX9_text_28.2.2.2.2.1
theorem dX9_text_37 : decode cX9_text 37 = .ok (.getfield 214, 3) := DX9_text_28.2.2.2.2.2.1
theorem dX9_text_40 : decode cX9_text 40 = .ok (.invokevirtual 170, 3) := DX9_text_28.2.2.2.2.2.2.1
theorem dX9_text_43 : decode cX9_text 43 = .ok (.iconst (-1), 1) := DX9_text_28.2.2.2.2.2.2.2.1
theorem dX9_text_44 : decode cX9_text 44 = .ok (.if_icmp .ne 25, 3) := DX9_text_28.2.2.2.2.2.2.2.2.1
theorem dX9_text_47 : decode cX9_text 47 = .ok (.aload_n 0, 1) := DX9_text_28.2.2.2.2.2.2.2.2.2.1
theorem dX9_text_48 : decode cX9_text 48 = .ok (.iconst 0, 1) := DX9_text_28.2.2.2.2.2.2.2.2.2.2.1
theorem dX9_text_49 : decode cX9_text 49 = .ok (.putfield 101, 3) := DX9_text_28.2.2.2.2.2.2.2.2.2.2.2.1
theorem dX9_text_52 : decode cX9_text 52 = .ok (.aload_n 0, 1) := DX9_text_28.2.2.2.2.2.2.2.2.2.2.2.2.1
theorem dX9_text_53 : decode cX9_text 53 = .ok (.dup, 1) := DX9_text_28.2.2.2.2.2.2.2.2.2.2.2.2.2.1
theorem dX9_text_54 : decode cX9_text 54 = .ok (.getfield 214, 3) := DX9_text_28.2.2.2.2.2.2.2.2.2.2.2.2.2.2.1
theorem dX9_text_57 : decode cX9_text 57 = .ok (.iconst 1, 1) := DX9_text_28.2.2.2.2.2.2.2.2.2.2.2.2.2.2.2.1
theorem DX9_text_58 : dAre cX9_text [(58, .iadd, 1), (59, .putfield 214, 3), (62, .aload_n 0, 1), (63, .getfield 214, 3), (66, .iconst 1, 1), (67, .isub, 1), (68, .ireturn, 1), (69, .iconst (-1), 1), (70, .ireturn, 1)] := dAre0 (by decide +kernel)
theorem dX9_text_58 : decode cX9_text 58 = .ok (.iadd, 1) := DX9_text_58.1
theorem dX9_text_59 : decode cX9_text 59 = .ok (.putfield 214, 3) := DX9_text_58.2.1
theorem dX9_text_62 : decode cX9_text 62 = .ok (.aload_n 0, 1) := DX9_text_58.2.2.1
theorem dX9_text_63 : decode cX9_text 63 = .ok (.getfield 214, 3) := DX9_text_58.2.2.2.1
theorem dX9_text_66 : decode cX9_text 66 = .ok (.iconst 1, 1) := DX9_text_58.2.2.2.2.1
theorem dX9_text_67 : decode cX9_text 67 = .ok (.isub, 1) := DX9_text_58.2.2.2.2.2.1
theorem dX9_text_68 : decode cX9_text 68 = .ok (.ireturn, 1) := DX9_text_58.2.2.2.2.2.2.1
theorem dX9_text_69 : decode cX9_text 69 = .ok (.iconst (-1), 1) := DX9_text_58.2.2.2.2.2.2.2.1
theorem dX9_text_70 : decode cX9_text 70 = .ok (.ireturn, 1) := DX9_text_58.2.2.2.2.2.2.2.2.1
theorem mX9_text : gMv yX9_text cX9_text 2 (some .int) RX9 1 := ⟨q982, q983, q10, q984, rfl, by decide, by decide, by decide +kernel⟩
noncomputable def bX9_text_22 (v1 : Int32) (I : gM) : Option (Int32 × gM) :=
  if v1 = 1 then
    if (4 : Int32) ≤ (I 62 12) then
      some (((-1) : Int32), I)
    else
      (fX9_readScript (I 62 12) I).bind fun r4 =>
      if r4.1 = (-1) then
        (pU r4.2 62 2 (0 : Int32)).bind fun I5 =>
        (pU I5 62 12 ((I5 62 12) + 1)).bind fun I6 =>
        some ((I6 62 12) - 1, I6)
      else
        some (((-1) : Int32), r4.2)
  else
    some (((-1) : Int32), I)
set_option maxRecDepth 100000 in
set_option maxHeartbeats 4000000 in
theorem wbX9_text_22 {z : gZ} {E : gE} {bk : Nat} (F : Fx z sh E "LeapJoinModel" cX9_text (gR 6) 2) (B : bZ z bk) (hE : gDist sh E) (v1 : Int32) (I : gM) (J : gN) {y : Int32 × gM} (h : bX9_text_22 v1 I = some y) (e : Fe z sh E (some .int) (fun r1 I1 J1 => r1 = some (.int y.1) ∧ I1 = y.2 ∧ J1 = J)) : G z 22 [(0, .ref (E.2.1 62)), (1, .int v1)] [] I J := by
  unfold bX9_text_22 at h
  refine g_iload_n F 1 dX9_text_22 rfl rfl ?_
  refine g_iconst (v := 1) F dX9_text_23 (by decide) ?_
  refine u_icmp_ne (tgt := 69) F dX9_text_24 (by decide) h (fun h => ?_) (fun h => ?_)
  · refine g_aload_n F 0 dX9_text_27 rfl rfl ?_
    refine g_geti (j := 12) (v := I 62 12) F s62 rfl rfl uX9 (by decide) q833 rfl dX9_text_28 ?_
    refine g_iconst (v := 4) F dX9_text_31 (by decide) ?_
    refine u_icmp_ge (tgt := 69) F dX9_text_32 (by decide) h (fun h => ?_) (fun h => ?_)
    · refine g_iconst (v := (-1)) F dX9_text_69 (by decide) ?_
      obtain rfl := Option.some.inj h
      exact g_iret F e dX9_text_70 ⟨rfl, rfl, rfl⟩
    · refine g_aload_n F 0 dX9_text_35 rfl rfl ?_
      refine g_aload_n F 0 dX9_text_36 rfl rfl ?_
      refine g_geti (j := 12) (v := I 62 12) F s62 rfl rfl uX9 (by decide) q833 rfl dX9_text_37 ?_
      refine u_callV (k := 62) (As := [.int (I 62 12)]) (rest := []) (sn := fun r4 => [.int r4.1]) F B (fun _ => wX9_readScript (zl z) E hE bk (I 62 12) I J) mX9_readScript q972 rfl s62 rfl rfl rfl (Nat.le_of_ble_eq_true rfl) dX9_text_40 (fun _ => rfl) h (fun r4 h => ?_)
      refine g_iconst (v := (-1)) F dX9_text_43 (by decide) ?_
      refine u_icmp_ne (tgt := 69) F dX9_text_44 (by decide) h (fun h => ?_) (fun h => ?_)
      · refine g_aload_n F 0 dX9_text_47 rfl rfl ?_
        refine g_iconst (v := 0) F dX9_text_48 (by decide) ?_
        refine u_puti (j := 2) F s62 rfl rfl uX9 (by decide) q823 tyX9_ok nmX9 rfl rfl rfl dX9_text_49 h (fun I5 h => ?_)
        refine g_aload_n F 0 dX9_text_52 rfl rfl ?_
        refine g_dup F dX9_text_53 rfl ?_
        refine g_geti (j := 12) (v := I5 62 12) F s62 rfl rfl uX9 (by decide) q833 rfl dX9_text_54 ?_
        refine g_iconst (v := 1) F dX9_text_57 (by decide) ?_
        refine g_iadd (v := (I5 62 12) + 1) F dX9_text_58 rfl ?_
        refine u_puti (j := 12) F s62 rfl rfl uX9 (by decide) q833 tyX9_ok nmX9 rfl rfl rfl dX9_text_59 h (fun I6 h => ?_)
        refine g_aload_n F 0 dX9_text_62 rfl rfl ?_
        refine g_geti (j := 12) (v := I6 62 12) F s62 rfl rfl uX9 (by decide) q833 rfl dX9_text_63 ?_
        refine g_iconst (v := 1) F dX9_text_66 (by decide) ?_
        refine g_isub (v := (I6 62 12) - 1) F dX9_text_67 rfl ?_
        obtain rfl := Option.some.inj h
        exact g_iret F e dX9_text_68 ⟨rfl, rfl, rfl⟩
      · refine g_iconst (v := (-1)) F dX9_text_69 (by decide) ?_
        obtain rfl := Option.some.inj h
        exact g_iret F e dX9_text_70 ⟨rfl, rfl, rfl⟩
  · refine g_iconst (v := (-1)) F dX9_text_69 (by decide) ?_
    obtain rfl := Option.some.inj h
    exact g_iret F e dX9_text_70 ⟨rfl, rfl, rfl⟩
noncomputable def fX9_text (v1 : Int32) (I : gM) : Option (Int32 × gM) :=
  if v1 = 0 then
    (fX9_readAll I).bind fun r1 =>
    if r1.1 = (-1) then
      (pU r1.2 62 2 (0 : Int32)).bind fun I2 =>
      (fX9_takeTables I2).bind fun r3 =>
      some (r3.1, r3.2)
    else
      bX9_text_22 v1 r1.2
  else
    bX9_text_22 v1 I
set_option maxRecDepth 100000 in
set_option maxHeartbeats 4000000 in
theorem wX9_text (l : Launch) (E : gE) (hE : gDist sh E) (bk : Nat) (v1 : Int32) (I : gM) (J : gN) {r : Int32 × gM} (h : fX9_text v1 I = some r) : Cu l sh E bk yX9_text cX9_text 2 (some .int) (gR 6) [.ref (E.2.1 62), .int v1] I J (fun r1 I1 J1 => r1 = some (.int r.1) ∧ I1 = r.2 ∧ J1 = J) := by
  refine Cu.of "LeapJoinModel" rfl hE (by decide) (Nat.le_of_ble_eq_true rfl) (fun z F B e hl => ?_)
  subst hl
  unfold fX9_text at h
  refine g_iload_n F 1 dX9_text_0 rfl rfl ?_
  refine u_if_ne (tgt := 22) F dX9_text_1 (by decide) h (fun h => ?_) (fun h => ?_)
  · refine g_aload_n F 0 dX9_text_4 rfl rfl ?_
    refine u_callV (k := 62) (As := []) (rest := []) (sn := fun r1 => [.int r1.1]) F B (fun _ => wX9_readAll (zl z) E hE bk  I J) mX9_readAll q930 rfl s62 rfl rfl rfl (Nat.le_of_ble_eq_true rfl) dX9_text_5 (fun _ => rfl) h (fun r1 h => ?_)
    refine g_iconst (v := (-1)) F dX9_text_8 (by decide) ?_
    refine u_icmp_ne (tgt := 22) F dX9_text_9 (by decide) h (fun h => ?_) (fun h => ?_)
    · refine g_aload_n F 0 dX9_text_12 rfl rfl ?_
      refine g_iconst (v := 0) F dX9_text_13 (by decide) ?_
      refine u_puti (j := 2) F s62 rfl rfl uX9 (by decide) q823 tyX9_ok nmX9 rfl rfl rfl dX9_text_14 h (fun I2 h => ?_)
      refine g_aload_n F 0 dX9_text_17 rfl rfl ?_
      refine u_callV (k := 62) (As := []) (rest := []) (sn := fun r3 => [.int r3.1]) F B (fun _ => wX9_takeTables (zl z) E hE bk  I2 J) mX9_takeTables q985 rfl s62 rfl rfl rfl (Nat.le_of_ble_eq_true rfl) dX9_text_18 (fun _ => rfl) h (fun r3 h => ?_)
      obtain rfl := Option.some.inj h
      exact g_iret F e dX9_text_21 ⟨rfl, rfl, rfl⟩
    · refine g_sub (Ln := [(0, .ref (E.2.1 62)), (1, .int v1)]) [0, 1] rfl ?_
      exact wbX9_text_22 F B hE v1 r1.2 J h e
  · refine g_sub (Ln := [(0, .ref (E.2.1 62)), (1, .int v1)]) [0, 1] rfl ?_
    exact wbX9_text_22 F B hE v1 I J h e
theorem DX9_laysOrder_0 : dAre cX9_laysOrder [(0, .bipush 15, 2), (2, .istore_n 2, 1), (3, .iload_n 1, 1), (4, .istore_n 3, 1), (5, .aload_n 0, 1), (6, .iconst 0, 1), (7, .putfield 217, 3), (10, .bipush 6, 2), (12, .istore 4, 2), (14, .iconst 0, 1), (15, .istore 5, 2), (17, .iload 5, 2), (19, .iconst 4, 1), (20, .if_icmp .ge 123, 3), (23, .iload_n 3, 1), (24, .iload 4, 2)] := dAre0 (by decide +kernel)
theorem dX9_laysOrder_0 : decode cX9_laysOrder 0 = .ok (.bipush 15, 2) := DX9_laysOrder_0.1
theorem dX9_laysOrder_2 : decode cX9_laysOrder 2 = .ok (.istore_n 2, 1) := DX9_laysOrder_0.2.1
theorem dX9_laysOrder_3 : decode cX9_laysOrder 3 = .ok (.iload_n 1, 1) := DX9_laysOrder_0.2.2.1
theorem dX9_laysOrder_4 : decode cX9_laysOrder 4 = .ok (.istore_n 3, 1) := DX9_laysOrder_0.2.2.2.1
theorem dX9_laysOrder_5 : decode cX9_laysOrder 5 = .ok (.aload_n 0, 1) := DX9_laysOrder_0.2.2.2.2.1
theorem dX9_laysOrder_6 : decode cX9_laysOrder 6 = .ok (.iconst 0, 1) := DX9_laysOrder_0.2.2.2.2.2.1
theorem dX9_laysOrder_7 : decode cX9_laysOrder 7 = .ok (.putfield 217, 3) := DX9_laysOrder_0.2.2.2.2.2.2.1
theorem dX9_laysOrder_10 : decode cX9_laysOrder 10 = .ok (.bipush 6, 2) := DX9_laysOrder_0.2.2.2.2.2.2.2.1
theorem dX9_laysOrder_12 : decode cX9_laysOrder 12 = .ok (.istore 4, 2) := DX9_laysOrder_0.2.2.2.2.2.2.2.2.1
theorem dX9_laysOrder_14 : decode cX9_laysOrder 14 = .ok (.iconst 0, 1) := DX9_laysOrder_0.2.2.2.2.2.2.2.2.2.1
theorem dX9_laysOrder_15 : decode cX9_laysOrder 15 = .ok (.istore 5, 2) := DX9_laysOrder_0.2.2.2.2.2.2.2.2.2.2.1
theorem dX9_laysOrder_17 : decode cX9_laysOrder 17 = .ok (.iload 5, 2) := DX9_laysOrder_0.2.2.2.2.2.2.2.2.2.2.2.1
theorem dX9_laysOrder_19 : decode cX9_laysOrder 19 = .ok (.iconst 4, 1) := DX9_laysOrder_0.2.2.2.2.2.2.2.2.2.2.2.2.1
theorem dX9_laysOrder_20 : decode cX9_laysOrder 20 = .ok (.if_icmp .ge 123, 3) := DX9_laysOrder_0.2.2.2.2.2.2.2.2.2.2.2.2.2.1
theorem dX9_laysOrder_23 : decode cX9_laysOrder 23 = .ok (.iload_n 3, 1) := DX9_laysOrder_0.2.2.2.2.2.2.2.2.2.2.2.2.2.2.1
theorem dX9_laysOrder_24 : decode cX9_laysOrder 24 = .ok (.iload 4, 2) := DX9_laysOrder_0.2.2.2.2.2.2.2.2.2.2.2.2.2.2.2.1
theorem DX9_laysOrder_26 : dAre cX9_laysOrder [(26, .idiv, 1), (27, .istore 6, 2), (29, .iload_n 3, 1), (30, .iload 4, 2), (32, .irem, 1), (33, .istore_n 3, 1), (34, .iload 5, 2), (36, .iconst 2, 1), (37, .if_icmp .ge 13, 3), (40, .iload 4, 2), (42, .iconst 3, 1), (43, .iload 5, 2), (45, .isub, 1), (46, .idiv, 1), (47, .goto 4, 3), (50, .iconst 1, 1)] := dAre0 (by decide +kernel)
theorem dX9_laysOrder_26 : decode cX9_laysOrder 26 = .ok (.idiv, 1) := DX9_laysOrder_26.1
theorem dX9_laysOrder_27 : decode cX9_laysOrder 27 = .ok (.istore 6, 2) := DX9_laysOrder_26.2.1
theorem dX9_laysOrder_29 : decode cX9_laysOrder 29 = .ok (.iload_n 3, 1) := DX9_laysOrder_26.2.2.1
theorem dX9_laysOrder_30 : decode cX9_laysOrder 30 = .ok (.iload 4, 2) := DX9_laysOrder_26.2.2.2.1
theorem dX9_laysOrder_32 : decode cX9_laysOrder 32 = .ok (.irem, 1) := DX9_laysOrder_26.2.2.2.2.1
theorem dX9_laysOrder_33 : decode cX9_laysOrder 33 = .ok (.istore_n 3, 1) := DX9_laysOrder_26.2.2.2.2.2.1
theorem dX9_laysOrder_34 : decode cX9_laysOrder 34 = .ok (.iload 5, 2) := DX9_laysOrder_26.2.2.2.2.2.2.1
theorem dX9_laysOrder_36 : decode cX9_laysOrder 36 = .ok (.iconst 2, 1) := DX9_laysOrder_26.2.2.2.2.2.2.2.1
theorem dX9_laysOrder_37 : decode cX9_laysOrder 37 = .ok (.if_icmp .ge 13, 3) := DX9_laysOrder_26.2.2.2.2.2.2.2.2.1
theorem dX9_laysOrder_40 : decode cX9_laysOrder 40 = .ok (.iload 4, 2) := DX9_laysOrder_26.2.2.2.2.2.2.2.2.2.1
theorem dX9_laysOrder_42 : decode cX9_laysOrder 42 = .ok (.iconst 3, 1) := DX9_laysOrder_26.2.2.2.2.2.2.2.2.2.2.1
theorem dX9_laysOrder_43 : decode cX9_laysOrder 43 = .ok (.iload 5, 2) := DX9_laysOrder_26.2.2.2.2.2.2.2.2.2.2.2.1
theorem dX9_laysOrder_45 : decode cX9_laysOrder 45 = .ok (.isub, 1) := DX9_laysOrder_26.2.2.2.2.2.2.2.2.2.2.2.2.1
theorem dX9_laysOrder_46 : decode cX9_laysOrder 46 = .ok (.idiv, 1) := DX9_laysOrder_26.2.2.2.2.2.2.2.2.2.2.2.2.2.1
theorem dX9_laysOrder_47 : decode cX9_laysOrder 47 = .ok (.goto 4, 3) := DX9_laysOrder_26.2.2.2.2.2.2.2.2.2.2.2.2.2.2.1
theorem dX9_laysOrder_50 : decode cX9_laysOrder 50 = .ok (.iconst 1, 1) := DX9_laysOrder_26.2.2.2.2.2.2.2.2.2.2.2.2.2.2.2.1
theorem DX9_laysOrder_51 : dAre cX9_laysOrder [(51, .istore 4, 2), (53, .iconst 0, 1), (54, .istore 7, 2), (56, .iload_n 2, 1), (57, .iload 7, 2), (59, .invokestatic 131, 3), (62, .ifCond .eq 8, 3), (65, .iload 6, 2), (67, .ifCond .le 28, 3), (70, .iload 6, 2), (72, .iload_n 2, 1), (73, .iload 7, 2), (75, .invokestatic 131, 3), (78, .ifCond .eq 7, 3), (81, .iconst 1, 1), (82, .goto 4, 3)] := dAre0 (by decide +kernel)
theorem dX9_laysOrder_51 : decode cX9_laysOrder 51 = .ok (.istore 4, 2) := DX9_laysOrder_51.1
theorem dX9_laysOrder_53 : decode cX9_laysOrder 53 = .ok (.iconst 0, 1) := DX9_laysOrder_51.2.1
theorem dX9_laysOrder_54 : decode cX9_laysOrder 54 = .ok (.istore 7, 2) := DX9_laysOrder_51.2.2.1
theorem dX9_laysOrder_56 : decode cX9_laysOrder 56 = .ok (.iload_n 2, 1) := DX9_laysOrder_51.2.2.2.1
theorem dX9_laysOrder_57 : decode cX9_laysOrder 57 = .ok (.iload 7, 2) := DX9_laysOrder_51.2.2.2.2.1
theorem dX9_laysOrder_59 : decode cX9_laysOrder 59 = .ok (.invokestatic 131, 3) := DX9_laysOrder_51.2.2.2.2.2.1
theorem dX9_laysOrder_62 : decode cX9_laysOrder 62 = .ok (.ifCond .eq 8, 3) := DX9_laysOrder_51.2.2.2.2.2.2.1
theorem dX9_laysOrder_65 : decode cX9_laysOrder 65 = .ok (.iload 6, 2) := DX9_laysOrder_51.2.2.2.2.2.2.2.1
theorem dX9_laysOrder_67 : decode cX9_laysOrder 67 = .ok (.ifCond .le 28, 3) := DX9_laysOrder_51.2.2.2.2.2.2.2.2.1
theorem dX9_laysOrder_70 : decode cX9_laysOrder 70 = .ok (.iload 6, 2) := DX9_laysOrder_51.2.2.2.2.2.2.2.2.2.1
theorem dX9_laysOrder_72 : decode cX9_laysOrder 72 = .ok (.iload_n 2, 1) := DX9_laysOrder_51.2.2.2.2.2.2.2.2.2.2.1
theorem dX9_laysOrder_73 : decode cX9_laysOrder 73 = .ok (.iload 7, 2) := DX9_laysOrder_51.2.2.2.2.2.2.2.2.2.2.2.1
theorem dX9_laysOrder_75 : decode cX9_laysOrder 75 = .ok (.invokestatic 131, 3) := DX9_laysOrder_51.2.2.2.2.2.2.2.2.2.2.2.2.1
theorem dX9_laysOrder_78 : decode cX9_laysOrder 78 = .ok (.ifCond .eq 7, 3) := DX9_laysOrder_51.2.2.2.2.2.2.2.2.2.2.2.2.2.1
theorem dX9_laysOrder_81 : decode cX9_laysOrder 81 = .ok (.iconst 1, 1) := DX9_laysOrder_51.2.2.2.2.2.2.2.2.2.2.2.2.2.2.1
theorem dX9_laysOrder_82 : decode cX9_laysOrder 82 = .ok (.goto 4, 3) := DX9_laysOrder_51.2.2.2.2.2.2.2.2.2.2.2.2.2.2.2.1
theorem DX9_laysOrder_85 : dAre cX9_laysOrder [(85, .iconst 0, 1), (86, .isub, 1), (87, .istore 6, 2), (89, .iinc 7 1, 3), (92, .goto (-36), 3), (95, .iload_n 2, 1), (96, .iconst 1, 1), (97, .iload 7, 2), (99, .ishl, 1), (100, .iconst (-1), 1), (101, .ixor, 1), (102, .iand, 1), (103, .istore_n 2, 1), (104, .aload_n 0, 1), (105, .invokevirtual 220, 3), (108, .iload 7, 2)] := dAre0 (by decide +kernel)
theorem dX9_laysOrder_85 : decode cX9_laysOrder 85 = .ok (.iconst 0, 1) := DX9_laysOrder_85.1
theorem dX9_laysOrder_86 : decode cX9_laysOrder 86 = .ok (.isub, 1) := DX9_laysOrder_85.2.1
theorem dX9_laysOrder_87 : decode cX9_laysOrder 87 = .ok (.istore 6, 2) := DX9_laysOrder_85.2.2.1
theorem dX9_laysOrder_89 : decode cX9_laysOrder 89 = .ok (.iinc 7 1, 3) := DX9_laysOrder_85.2.2.2.1
theorem dX9_laysOrder_92 : decode cX9_laysOrder 92 = .ok (.goto (-36), 3) := DX9_laysOrder_85.2.2.2.2.1
theorem dX9_laysOrder_95 : decode cX9_laysOrder 95 = .ok (.iload_n 2, 1) := DX9_laysOrder_85.2.2.2.2.2.1
theorem dX9_laysOrder_96 : decode cX9_laysOrder 96 = .ok (.iconst 1, 1) := DX9_laysOrder_85.2.2.2.2.2.2.1
theorem dX9_laysOrder_97 : decode cX9_laysOrder 97 = .ok (.iload 7, 2) := DX9_laysOrder_85.2.2.2.2.2.2.2.1
theorem dX9_laysOrder_99 : decode cX9_laysOrder 99 = .ok (.ishl, 1) := DX9_laysOrder_85.2.2.2.2.2.2.2.2.1
theorem dX9_laysOrder_100 : decode cX9_laysOrder 100 = .ok (.iconst (-1), 1) := DX9_laysOrder_85.2.2.2.2.2.2.2.2.2.1
theorem dX9_laysOrder_101 : decode cX9_laysOrder 101 = .ok (.ixor, 1) := DX9_laysOrder_85.2.2.2.2.2.2.2.2.2.2.1
theorem dX9_laysOrder_102 : decode cX9_laysOrder 102 = .ok (.iand, 1) := DX9_laysOrder_85.2.2.2.2.2.2.2.2.2.2.2.1
theorem dX9_laysOrder_103 : decode cX9_laysOrder 103 = .ok (.istore_n 2, 1) := DX9_laysOrder_85.2.2.2.2.2.2.2.2.2.2.2.2.1
theorem dX9_laysOrder_104 : decode cX9_laysOrder 104 = .ok (.aload_n 0, 1) := DX9_laysOrder_85.2.2.2.2.2.2.2.2.2.2.2.2.2.1
theorem dX9_laysOrder_105 : decode cX9_laysOrder 105 = .ok (.invokevirtual 220, 3) := DX9_laysOrder_85.2.2.2.2.2.2.2.2.2.2.2.2.2.2.1
theorem dX9_laysOrder_108 : decode cX9_laysOrder 108 = .ok (.iload 7, 2) := DX9_laysOrder_85.2.2.2.2.2.2.2.2.2.2.2.2.2.2.2.1
theorem DX9_laysOrder_110 : dAre cX9_laysOrder [(110, .invokestatic 131, 3), (113, .ifCond .eq 24, 3), (116, .aload_n 0, 1), (117, .getfield 43, 3), (120, .aload_n 0, 1), (121, .getfield 217, 3), (124, .iload 7, 2), (126, .iastore, 1), (127, .aload_n 0, 1), (128, .dup, 1), (129, .getfield 217, 3), (132, .iconst 1, 1), (133, .iadd, 1), (134, .putfield 217, 3), (137, .iinc 5 1, 3), (140, .goto (-123), 3)] := dAre0 (by decide +kernel)
theorem dX9_laysOrder_110 : decode cX9_laysOrder 110 = .ok (.invokestatic 131, 3) := DX9_laysOrder_110.1
theorem dX9_laysOrder_113 : decode cX9_laysOrder 113 = .ok (.ifCond .eq 24, 3) := DX9_laysOrder_110.2.1
theorem dX9_laysOrder_116 : decode cX9_laysOrder 116 = .ok (.aload_n 0, 1) := DX9_laysOrder_110.2.2.1
theorem dX9_laysOrder_117 : decode cX9_laysOrder 117 = .ok (.getfield 43, 3) := DX9_laysOrder_110.2.2.2.1
theorem dX9_laysOrder_120 : decode cX9_laysOrder 120 = .ok (.aload_n 0, 1) := DX9_laysOrder_110.2.2.2.2.1
theorem dX9_laysOrder_121 : decode cX9_laysOrder 121 = .ok (.getfield 217, 3) := DX9_laysOrder_110.2.2.2.2.2.1
theorem dX9_laysOrder_124 : decode cX9_laysOrder 124 = .ok (.iload 7, 2) := DX9_laysOrder_110.2.2.2.2.2.2.1
theorem dX9_laysOrder_126 : decode cX9_laysOrder 126 = .ok (.iastore, 1) := DX9_laysOrder_110.2.2.2.2.2.2.2.1
theorem dX9_laysOrder_127 : decode cX9_laysOrder 127 = .ok (.aload_n 0, 1) := DX9_laysOrder_110.2.2.2.2.2.2.2.2.1
theorem dX9_laysOrder_128 : decode cX9_laysOrder 128 = .ok (.dup, 1) := DX9_laysOrder_110.2.2.2.2.2.2.2.2.2.1
theorem dX9_laysOrder_129 : decode cX9_laysOrder 129 = .ok (.getfield 217, 3) := DX9_laysOrder_110.2.2.2.2.2.2.2.2.2.2.1
theorem dX9_laysOrder_132 : decode cX9_laysOrder 132 = .ok (.iconst 1, 1) := DX9_laysOrder_110.2.2.2.2.2.2.2.2.2.2.2.1
theorem dX9_laysOrder_133 : decode cX9_laysOrder 133 = .ok (.iadd, 1) := DX9_laysOrder_110.2.2.2.2.2.2.2.2.2.2.2.2.1
theorem dX9_laysOrder_134 : decode cX9_laysOrder 134 = .ok (.putfield 217, 3) := DX9_laysOrder_110.2.2.2.2.2.2.2.2.2.2.2.2.2.1
theorem dX9_laysOrder_137 : decode cX9_laysOrder 137 = .ok (.iinc 5 1, 3) := DX9_laysOrder_110.2.2.2.2.2.2.2.2.2.2.2.2.2.2.1
theorem dX9_laysOrder_140 : decode cX9_laysOrder 140 = .ok (.goto (-123), 3) := DX9_laysOrder_110.2.2.2.2.2.2.2.2.2.2.2.2.2.2.2.1
theorem dX9_laysOrder_143 : decode cX9_laysOrder 143 = .ok (.return_, 1) := by decide +kernel
theorem mX9_laysOrder : gMv yX9_laysOrder cX9_laysOrder 8 none RX9 1 := ⟨q1059, q1418, q10, q1060, rfl, by decide, by decide, by decide +kernel⟩
noncomputable def bX9_laysOrder_86 (v7 : Int32) (t0 : Int32) (t1 : Int32) : Option ((Int32 × Int32) ⊕ (Int32)) :=
  some (.inl (t1 - t0, v7 + 1))
set_option maxRecDepth 100000 in
set_option maxHeartbeats 4000000 in
theorem wbX9_laysOrder_86 {z : gZ} {E : gE} {bk : Nat} (F : Fx z sh E "LeapJoinModel" cX9_laysOrder (gR 3) 8) (B : bZ z bk) (hE : gDist sh E) (v2 : Int32) (v3 : Int32) (v4 : Int32) (v5 : Int32) (v7 : Int32) (t0 : Int32) (t1 : Int32) (I : gM) (J : gN) {y : (Int32 × Int32) ⊕ (Int32)} (h : bX9_laysOrder_86 v7 t0 t1 = some y) (hl : ∀ s' : Int32 × Int32, y = .inl s' → G z 56 [(0, .ref (E.2.1 62)), (2, .int v2), (3, .int v3), (4, .int v4), (5, .int v5), (6, .int (s'.1)), (7, .int (s'.2))] [] I J) (K56_0 : ∀ x : Int32, y = .inr x → G z 95 [(0, .ref (E.2.1 62)), (2, .int v2), (3, .int v3), (4, .int v4), (5, .int v5), (7, .int x)] [] I J) : G z 86 [(0, .ref (E.2.1 62)), (2, .int v2), (3, .int v3), (4, .int v4), (5, .int v5), (7, .int v7)] [.int t0, .int t1] I J := by
  unfold bX9_laysOrder_86 at h
  refine g_isub (v := t1 - t0) F dX9_laysOrder_86 rfl ?_
  refine g_istore (Ln := [(6, .int (t1 - t0)), (0, .ref (E.2.1 62)), (2, .int v2), (3, .int v3), (4, .int v4), (5, .int v5), (7, .int v7)]) F dX9_laysOrder_87 (by decide) rfl ?_
  refine g_iinc (v := v7 + 1) (Ln := [(7, .int (v7 + 1)), (6, .int (t1 - t0)), (0, .ref (E.2.1 62)), (2, .int v2), (3, .int v3), (4, .int v4), (5, .int v5)]) F 6 dX9_laysOrder_89 rfl (add_c (by decide)) (by decide) rfl ?_
  refine g_goto (tgt := 56) F dX9_laysOrder_92 (by decide) ?_
  obtain rfl := Option.some.inj h
  refine g_sub (Ln := [(0, .ref (E.2.1 62)), (2, .int v2), (3, .int v3), (4, .int v4), (5, .int v5), (6, .int (t1 - t0)), (7, .int (v7 + 1))]) [2, 3, 4, 5, 6, 1, 0] rfl ?_
  exact hl (t1 - t0, v7 + 1) rfl
noncomputable def bX9_laysOrder_70 (v2 : Int32) (v6 : Int32) (v7 : Int32) : Option ((Int32 × Int32) ⊕ (Int32)) :=
  (fX9_has v2 v7).bind fun r5 =>
  if r5 = 0 then
    bX9_laysOrder_86 v7 (0 : Int32) v6
  else
    bX9_laysOrder_86 v7 (1 : Int32) v6
set_option maxRecDepth 100000 in
set_option maxHeartbeats 4000000 in
theorem wbX9_laysOrder_70 {z : gZ} {E : gE} {bk : Nat} (F : Fx z sh E "LeapJoinModel" cX9_laysOrder (gR 3) 8) (B : bZ z bk) (hE : gDist sh E) (v2 : Int32) (v3 : Int32) (v4 : Int32) (v5 : Int32) (v6 : Int32) (v7 : Int32) (I : gM) (J : gN) {y : (Int32 × Int32) ⊕ (Int32)} (h : bX9_laysOrder_70 v2 v6 v7 = some y) (hl : ∀ s' : Int32 × Int32, y = .inl s' → G z 56 [(0, .ref (E.2.1 62)), (2, .int v2), (3, .int v3), (4, .int v4), (5, .int v5), (6, .int (s'.1)), (7, .int (s'.2))] [] I J) (K56_0 : ∀ x : Int32, y = .inr x → G z 95 [(0, .ref (E.2.1 62)), (2, .int v2), (3, .int v3), (4, .int v4), (5, .int v5), (7, .int x)] [] I J) : G z 70 [(0, .ref (E.2.1 62)), (2, .int v2), (3, .int v3), (4, .int v4), (5, .int v5), (6, .int v6), (7, .int v7)] [] I J := by
  unfold bX9_laysOrder_70 at h
  refine g_iload F 5 dX9_laysOrder_70 rfl ?_
  refine g_iload_n F 1 dX9_laysOrder_72 rfl rfl ?_
  refine g_iload F 6 dX9_laysOrder_73 rfl ?_
  refine u_callS (As := [.int v2, .int v7]) (rest := [.int v6]) (sn := fun r5 => [.int r5, .int v6]) F B (fun _ => wX9_has (zl z) E hE bk v2 v7 I J) mX9_has q954 rfl rfl rfl (Nat.le_of_ble_eq_true rfl) dX9_laysOrder_75 (fun _ => rfl) h (fun r5 h => ?_)
  refine u_if_eq (tgt := 85) F dX9_laysOrder_78 (by decide) h (fun h => ?_) (fun h => ?_)
  · refine g_iconst (v := 0) F dX9_laysOrder_85 (by decide) ?_
    refine g_sub (Ln := [(0, .ref (E.2.1 62)), (2, .int v2), (3, .int v3), (4, .int v4), (5, .int v5), (7, .int v7)]) [0, 1, 2, 3, 4, 6] rfl ?_
    exact wbX9_laysOrder_86 F B hE v2 v3 v4 v5 v7 (0 : Int32) v6 I J h hl K56_0
  · refine g_iconst (v := 1) F dX9_laysOrder_81 (by decide) ?_
    refine g_goto (tgt := 86) F dX9_laysOrder_82 (by decide) ?_
    refine g_sub (Ln := [(0, .ref (E.2.1 62)), (2, .int v2), (3, .int v3), (4, .int v4), (5, .int v5), (7, .int v7)]) [0, 1, 2, 3, 4, 6] rfl ?_
    exact wbX9_laysOrder_86 F B hE v2 v3 v4 v5 v7 (1 : Int32) v6 I J h hl K56_0
noncomputable def lX9_laysOrder_56 (v2 : Int32) : (Int32 × Int32) → Option (Int32) :=
  itO fun s =>
    (fX9_has v2 s.2).bind fun r4 =>
    if r4 = 0 then
      bX9_laysOrder_70 v2 s.1 s.2
    else
      if s.1 ≤ 0 then
        some (.inr s.2)
      else
        bX9_laysOrder_70 v2 s.1 s.2
set_option maxRecDepth 100000 in
set_option maxHeartbeats 4000000 in
theorem wlX9_laysOrder_56 {z : gZ} {E : gE} {bk : Nat} (F : Fx z sh E "LeapJoinModel" cX9_laysOrder (gR 3) 8) (B : bZ z bk) (hE : gDist sh E) (v2 : Int32) (v3 : Int32) (v4 : Int32) (v5 : Int32) (I : gM) (J : gN) {r : Int32} : ∀ s : Int32 × Int32, lX9_laysOrder_56 v2 s = some r → (G z 95 [(0, .ref (E.2.1 62)), (2, .int v2), (3, .int v3), (4, .int v4), (5, .int v5), (7, .int r)] [] I J) → G z 56 [(0, .ref (E.2.1 62)), (2, .int v2), (3, .int v3), (4, .int v4), (5, .int v5), (6, .int s.1), (7, .int s.2)] [] I J := by
  intro s h X0
  unfold lX9_laysOrder_56 at h
  revert s
  refine itO_ind (P := fun s : Int32 × Int32 => G z 56 [(0, .ref (E.2.1 62)), (2, .int v2), (3, .int v3), (4, .int v4), (5, .int v5), (6, .int s.1), (7, .int s.2)] [] I J) (fun s y h hl hr => ?_)
  have K56_0 : ∀ x : Int32, y = .inr x → (G z 95 [(0, .ref (E.2.1 62)), (2, .int v2), (3, .int v3), (4, .int v4), (5, .int v5), (7, .int x)] [] I J) := fun x q => by have q2 := hr _ q; subst q2; exact X0
  refine g_iload_n F 1 dX9_laysOrder_56 rfl rfl ?_
  refine g_iload F 6 dX9_laysOrder_57 rfl ?_
  refine u_callS (As := [.int v2, .int s.2]) (rest := []) (sn := fun r4 => [.int r4]) F B (fun _ => wX9_has (zl z) E hE bk v2 s.2 I J) mX9_has q954 rfl rfl rfl (Nat.le_of_ble_eq_true rfl) dX9_laysOrder_59 (fun _ => rfl) h (fun r4 h => ?_)
  refine u_if_eq (tgt := 70) F dX9_laysOrder_62 (by decide) h (fun h => ?_) (fun h => ?_)
  · refine g_sub (Ln := [(0, .ref (E.2.1 62)), (2, .int v2), (3, .int v3), (4, .int v4), (5, .int v5), (6, .int s.1), (7, .int s.2)]) [0, 1, 2, 3, 4, 5, 6] rfl ?_
    exact wbX9_laysOrder_70 F B hE v2 v3 v4 v5 s.1 s.2 I J h hl K56_0
  · refine g_iload F 5 dX9_laysOrder_65 rfl ?_
    refine u_if_le (tgt := 95) F dX9_laysOrder_67 (by decide) h (fun h => ?_) (fun h => ?_)
    · obtain rfl := Option.some.inj h
      refine g_sub (Ln := [(0, .ref (E.2.1 62)), (2, .int v2), (3, .int v3), (4, .int v4), (5, .int v5), (7, .int s.2)]) [0, 1, 2, 3, 4, 6] rfl ?_
      exact K56_0 s.2 rfl
    · refine g_sub (Ln := [(0, .ref (E.2.1 62)), (2, .int v2), (3, .int v3), (4, .int v4), (5, .int v5), (6, .int s.1), (7, .int s.2)]) [0, 1, 2, 3, 4, 5, 6] rfl ?_
      exact wbX9_laysOrder_70 F B hE v2 v3 v4 v5 s.1 s.2 I J h hl K56_0
noncomputable def bX9_laysOrder_137 (v2 : Int32) (v3 : Int32) (v4 : Int32) (v5 : Int32) (I : gM) : Option ((Int32 × Int32 × Int32 × Int32 × gM) ⊕ (gM)) :=
  some (.inl (v2, v3, v4, v5 + 1, I))
set_option maxRecDepth 100000 in
set_option maxHeartbeats 4000000 in
theorem wbX9_laysOrder_137 {z : gZ} {E : gE} {bk : Nat} (F : Fx z sh E "LeapJoinModel" cX9_laysOrder (gR 3) 8) (B : bZ z bk) (hE : gDist sh E) (v2 : Int32) (v3 : Int32) (v4 : Int32) (v5 : Int32) (I : gM) (J : gN) {y : (Int32 × Int32 × Int32 × Int32 × gM) ⊕ (gM)} (h : bX9_laysOrder_137 v2 v3 v4 v5 I = some y) (hl : ∀ s' : Int32 × Int32 × Int32 × Int32 × gM, y = .inl s' → G z 17 [(0, .ref (E.2.1 62)), (2, .int (s'.1)), (3, .int (s'.2.1)), (4, .int (s'.2.2.1)), (5, .int (s'.2.2.2.1))] [] s'.2.2.2.2 J) (K17_0 : ∀ x : gM, y = .inr x → G z 143 [] [] x J) : G z 137 [(0, .ref (E.2.1 62)), (2, .int v2), (3, .int v3), (4, .int v4), (5, .int v5)] [] I J := by
  unfold bX9_laysOrder_137 at h
  refine g_iinc (v := v5 + 1) (Ln := [(5, .int (v5 + 1)), (0, .ref (E.2.1 62)), (2, .int v2), (3, .int v3), (4, .int v4)]) F 4 dX9_laysOrder_137 rfl (add_c (by decide)) (by decide) rfl ?_
  refine g_goto (tgt := 17) F dX9_laysOrder_140 (by decide) ?_
  obtain rfl := Option.some.inj h
  refine g_sub (Ln := [(0, .ref (E.2.1 62)), (2, .int v2), (3, .int v3), (4, .int v4), (5, .int (v5 + 1))]) [1, 2, 3, 4, 0] rfl ?_
  exact hl (v2, v3, v4, v5 + 1, I) rfl
noncomputable def bX9_laysOrder_51 (v2 : Int32) (v3 : Int32) (v5 : Int32) (v6 : Int32) (t0 : Int32) (I : gM) : Option ((Int32 × Int32 × Int32 × Int32 × gM) ⊕ (gM)) :=
  (lX9_laysOrder_56 v2 (v6, (0 : Int32))).bind fun w6 =>
  (fX9_asked I).bind fun r7 =>
  (fX9_has r7 w6).bind fun r8 =>
  if r8 = 0 then
    bX9_laysOrder_137 (v2 &&& (((1 : Int32) <<< (w6 &&& 31)) ^^^ (-1))) v3 t0 v5 I
  else
    (wI I 74 4 (I 62 19) w6).bind fun I9 =>
    (pU I9 62 19 ((I9 62 19) + 1)).bind fun I10 =>
    bX9_laysOrder_137 (v2 &&& (((1 : Int32) <<< (w6 &&& 31)) ^^^ (-1))) v3 t0 v5 I10
set_option maxRecDepth 100000 in
set_option maxHeartbeats 4000000 in
theorem wbX9_laysOrder_51 {z : gZ} {E : gE} {bk : Nat} (F : Fx z sh E "LeapJoinModel" cX9_laysOrder (gR 3) 8) (B : bZ z bk) (hE : gDist sh E) (v2 : Int32) (v3 : Int32) (v5 : Int32) (v6 : Int32) (t0 : Int32) (I : gM) (J : gN) {y : (Int32 × Int32 × Int32 × Int32 × gM) ⊕ (gM)} (h : bX9_laysOrder_51 v2 v3 v5 v6 t0 I = some y) (hl : ∀ s' : Int32 × Int32 × Int32 × Int32 × gM, y = .inl s' → G z 17 [(0, .ref (E.2.1 62)), (2, .int (s'.1)), (3, .int (s'.2.1)), (4, .int (s'.2.2.1)), (5, .int (s'.2.2.2.1))] [] s'.2.2.2.2 J) (K17_0 : ∀ x : gM, y = .inr x → G z 143 [] [] x J) : G z 51 [(0, .ref (E.2.1 62)), (2, .int v2), (3, .int v3), (5, .int v5), (6, .int v6)] [.int t0] I J := by
  unfold bX9_laysOrder_51 at h
  refine g_istore (Ln := [(4, .int t0), (0, .ref (E.2.1 62)), (2, .int v2), (3, .int v3), (5, .int v5), (6, .int v6)]) F dX9_laysOrder_51 (by decide) rfl ?_
  refine g_iconst (v := 0) F dX9_laysOrder_53 (by decide) ?_
  refine g_istore (Ln := [(7, .int 0), (4, .int t0), (0, .ref (E.2.1 62)), (2, .int v2), (3, .int v3), (5, .int v5), (6, .int v6)]) F dX9_laysOrder_54 (by decide) rfl ?_
  obtain ⟨w6, ew6, h⟩ := ob h
  refine g_sub (Ln := [(0, .ref (E.2.1 62)), (2, .int v2), (3, .int v3), (4, .int t0), (5, .int v5), (6, .int v6), (7, .int 0)]) [2, 3, 4, 1, 5, 6, 0] rfl ?_
  refine wlX9_laysOrder_56 F B hE v2 v3 t0 v5 I J _ ew6 ?_
  refine g_iload_n F 1 dX9_laysOrder_95 rfl rfl ?_
  refine g_iconst (v := 1) F dX9_laysOrder_96 (by decide) ?_
  refine g_iload F 5 dX9_laysOrder_97 rfl ?_
  refine g_ishl (v := (1 : Int32) <<< (w6 &&& 31)) F dX9_laysOrder_99 rfl ?_
  refine g_iconst (v := (-1)) F dX9_laysOrder_100 (by decide) ?_
  refine g_ixor (v := ((1 : Int32) <<< (w6 &&& 31)) ^^^ (-1)) F dX9_laysOrder_101 rfl ?_
  refine g_iand (v := v2 &&& (((1 : Int32) <<< (w6 &&& 31)) ^^^ (-1))) F dX9_laysOrder_102 rfl ?_
  refine g_istore_n (Ln := [(2, .int (v2 &&& (((1 : Int32) <<< (w6 &&& 31)) ^^^ (-1)))), (0, .ref (E.2.1 62)), (3, .int v3), (4, .int t0), (5, .int v5), (7, .int w6)]) F dX9_laysOrder_103 rfl (by decide) rfl ?_
  refine g_aload_n F 1 dX9_laysOrder_104 rfl rfl ?_
  refine u_callV (k := 62) (As := []) (rest := []) (sn := fun r7 => [.int r7]) F B (fun _ => wX9_asked (zl z) E hE bk  I J) mX9_asked q1061 rfl s62 rfl rfl rfl (Nat.le_of_ble_eq_true rfl) dX9_laysOrder_105 (fun _ => rfl) h (fun r7 h => ?_)
  refine g_iload F 5 dX9_laysOrder_108 rfl ?_
  refine u_callS (As := [.int r7, .int w6]) (rest := []) (sn := fun r8 => [.int r8]) F B (fun _ => wX9_has (zl z) E hE bk r7 w6 I J) mX9_has q954 rfl rfl rfl (Nat.le_of_ble_eq_true rfl) dX9_laysOrder_110 (fun _ => rfl) h (fun r8 h => ?_)
  refine u_if_eq (tgt := 137) F dX9_laysOrder_113 (by decide) h (fun h => ?_) (fun h => ?_)
  · refine g_sub (Ln := [(0, .ref (E.2.1 62)), (2, .int (v2 &&& (((1 : Int32) <<< (w6 &&& 31)) ^^^ (-1)))), (3, .int v3), (4, .int t0), (5, .int v5)]) [1, 0, 2, 3, 4] rfl ?_
    exact wbX9_laysOrder_137 F B hE (v2 &&& (((1 : Int32) <<< (w6 &&& 31)) ^^^ (-1))) v3 t0 v5 I J h hl K17_0
  · refine g_aload_n F 1 dX9_laysOrder_116 rfl rfl ?_
    refine g_getr (j := 18) (nn := 74) F s62 rfl rfl uX9 (by decide) q839 dX9_laysOrder_117 ?_
    refine g_aload_n F 1 dX9_laysOrder_120 rfl rfl ?_
    refine g_geti (j := 19) (v := I 62 19) F s62 rfl rfl uX9 (by decide) q840 rfl dX9_laysOrder_121 ?_
    refine g_iload F 5 dX9_laysOrder_124 rfl ?_
    refine u_wI F s74 (by decide) dX9_laysOrder_126 h (fun I9 h => ?_)
    refine g_aload_n F 1 dX9_laysOrder_127 rfl rfl ?_
    refine g_dup F dX9_laysOrder_128 rfl ?_
    refine g_geti (j := 19) (v := I9 62 19) F s62 rfl rfl uX9 (by decide) q840 rfl dX9_laysOrder_129 ?_
    refine g_iconst (v := 1) F dX9_laysOrder_132 (by decide) ?_
    refine g_iadd (v := (I9 62 19) + 1) F dX9_laysOrder_133 rfl ?_
    refine u_puti (j := 19) F s62 rfl rfl uX9 (by decide) q840 tyX9_ok nmX9 rfl rfl rfl dX9_laysOrder_134 h (fun I10 h => ?_)
    refine g_sub (Ln := [(0, .ref (E.2.1 62)), (2, .int (v2 &&& (((1 : Int32) <<< (w6 &&& 31)) ^^^ (-1)))), (3, .int v3), (4, .int t0), (5, .int v5)]) [1, 0, 2, 3, 4] rfl ?_
    exact wbX9_laysOrder_137 F B hE (v2 &&& (((1 : Int32) <<< (w6 &&& 31)) ^^^ (-1))) v3 t0 v5 I10 J h hl K17_0
noncomputable def lX9_laysOrder_17 : (Int32 × Int32 × Int32 × Int32 × gM) → Option (gM) :=
  itO fun s =>
    if (4 : Int32) ≤ s.2.2.2.1 then
      some (.inr s.2.2.2.2)
    else
      (dV s.2.1 s.2.2.1).bind fun u2 =>
      (rM s.2.1 s.2.2.1).bind fun u3 =>
      if (2 : Int32) ≤ s.2.2.2.1 then
        bX9_laysOrder_51 s.1 u3 s.2.2.2.1 u2 (1 : Int32) s.2.2.2.2
      else
        (dV s.2.2.1 ((3 : Int32) - s.2.2.2.1)).bind fun u11 =>
        bX9_laysOrder_51 s.1 u3 s.2.2.2.1 u2 u11 s.2.2.2.2
set_option maxRecDepth 100000 in
set_option maxHeartbeats 4000000 in
theorem wlX9_laysOrder_17 {z : gZ} {E : gE} {bk : Nat} (F : Fx z sh E "LeapJoinModel" cX9_laysOrder (gR 3) 8) (B : bZ z bk) (hE : gDist sh E) (J : gN) {r : gM} : ∀ s : Int32 × Int32 × Int32 × Int32 × gM, lX9_laysOrder_17 s = some r → (G z 143 [] [] r J) → G z 17 [(0, .ref (E.2.1 62)), (2, .int s.1), (3, .int s.2.1), (4, .int s.2.2.1), (5, .int s.2.2.2.1)] [] s.2.2.2.2 J := by
  intro s h X0
  unfold lX9_laysOrder_17 at h
  revert s
  refine itO_ind (P := fun s : Int32 × Int32 × Int32 × Int32 × gM => G z 17 [(0, .ref (E.2.1 62)), (2, .int s.1), (3, .int s.2.1), (4, .int s.2.2.1), (5, .int s.2.2.2.1)] [] s.2.2.2.2 J) (fun s y h hl hr => ?_)
  have K17_0 : ∀ x : gM, y = .inr x → (G z 143 [] [] x J) := fun x q => by have q2 := hr _ q; subst q2; exact X0
  refine g_iload F 4 dX9_laysOrder_17 rfl ?_
  refine g_iconst (v := 4) F dX9_laysOrder_19 (by decide) ?_
  refine u_icmp_ge (tgt := 143) F dX9_laysOrder_20 (by decide) h (fun h => ?_) (fun h => ?_)
  · obtain rfl := Option.some.inj h
    refine g_sub (Ln := []) [] rfl ?_
    exact K17_0 s.2.2.2.2 rfl
  · refine g_iload_n F 2 dX9_laysOrder_23 rfl rfl ?_
    refine g_iload F 3 dX9_laysOrder_24 rfl ?_
    refine u_idiv F dX9_laysOrder_26 h (fun u2 h => ?_)
    refine g_istore (Ln := [(6, .int u2), (0, .ref (E.2.1 62)), (2, .int s.1), (3, .int s.2.1), (4, .int s.2.2.1), (5, .int s.2.2.2.1)]) F dX9_laysOrder_27 (by decide) rfl ?_
    refine g_iload_n F 3 dX9_laysOrder_29 rfl rfl ?_
    refine g_iload F 4 dX9_laysOrder_30 rfl ?_
    refine u_irem F dX9_laysOrder_32 h (fun u3 h => ?_)
    refine g_istore_n (Ln := [(3, .int u3), (6, .int u2), (0, .ref (E.2.1 62)), (2, .int s.1), (4, .int s.2.2.1), (5, .int s.2.2.2.1)]) F dX9_laysOrder_33 rfl (by decide) rfl ?_
    refine g_iload F 5 dX9_laysOrder_34 rfl ?_
    refine g_iconst (v := 2) F dX9_laysOrder_36 (by decide) ?_
    refine u_icmp_ge (tgt := 50) F dX9_laysOrder_37 (by decide) h (fun h => ?_) (fun h => ?_)
    · refine g_iconst (v := 1) F dX9_laysOrder_50 (by decide) ?_
      refine g_sub (Ln := [(0, .ref (E.2.1 62)), (2, .int s.1), (3, .int u3), (5, .int s.2.2.2.1), (6, .int u2)]) [2, 3, 0, 5, 1] rfl ?_
      exact wbX9_laysOrder_51 F B hE s.1 u3 s.2.2.2.1 u2 (1 : Int32) s.2.2.2.2 J h hl K17_0
    · refine g_iload F 4 dX9_laysOrder_40 rfl ?_
      refine g_iconst (v := 3) F dX9_laysOrder_42 (by decide) ?_
      refine g_iload F 5 dX9_laysOrder_43 rfl ?_
      refine g_isub (v := (3 : Int32) - s.2.2.2.1) F dX9_laysOrder_45 rfl ?_
      refine u_idiv F dX9_laysOrder_46 h (fun u11 h => ?_)
      refine g_goto (tgt := 51) F dX9_laysOrder_47 (by decide) ?_
      refine g_sub (Ln := [(0, .ref (E.2.1 62)), (2, .int s.1), (3, .int u3), (5, .int s.2.2.2.1), (6, .int u2)]) [2, 3, 0, 5, 1] rfl ?_
      exact wbX9_laysOrder_51 F B hE s.1 u3 s.2.2.2.1 u2 u11 s.2.2.2.2 J h hl K17_0
noncomputable def fX9_laysOrder (v1 : Int32) (I : gM) : Option (gM) :=
  (pU I 62 19 (0 : Int32)).bind fun I1 =>
  (lX9_laysOrder_17 ((15 : Int32), v1, (6 : Int32), (0 : Int32), I1)).bind fun w12 =>
  some w12
set_option maxRecDepth 100000 in
set_option maxHeartbeats 4000000 in
theorem wX9_laysOrder (l : Launch) (E : gE) (hE : gDist sh E) (bk : Nat) (v1 : Int32) (I : gM) (J : gN) {r : gM} (h : fX9_laysOrder v1 I = some r) : Cu l sh E bk yX9_laysOrder cX9_laysOrder 8 none (gR 3) [.ref (E.2.1 62), .int v1] I J (fun r1 I1 J1 => r1 = none ∧ I1 = r ∧ J1 = J) := by
  refine Cu.of "LeapJoinModel" rfl hE (by decide) (Nat.le_of_ble_eq_true rfl) (fun z F B e hl => ?_)
  subst hl
  unfold fX9_laysOrder at h
  refine g_bipush (v := 15) F dX9_laysOrder_0 (by decide) ?_
  refine g_istore_n (Ln := [(2, .int 15), (0, .ref (E.2.1 62)), (1, .int v1)]) F dX9_laysOrder_2 rfl (by decide) rfl ?_
  refine g_iload_n F 2 dX9_laysOrder_3 rfl rfl ?_
  refine g_istore_n (Ln := [(3, .int v1), (2, .int 15), (0, .ref (E.2.1 62)), (1, .int v1)]) F dX9_laysOrder_4 rfl (by decide) rfl ?_
  refine g_aload_n F 2 dX9_laysOrder_5 rfl rfl ?_
  refine g_iconst (v := 0) F dX9_laysOrder_6 (by decide) ?_
  refine u_puti (j := 19) F s62 rfl rfl uX9 (by decide) q840 tyX9_ok nmX9 rfl rfl rfl dX9_laysOrder_7 h (fun I1 h => ?_)
  refine g_bipush (v := 6) F dX9_laysOrder_10 (by decide) ?_
  refine g_istore (Ln := [(4, .int 6), (3, .int v1), (2, .int 15), (0, .ref (E.2.1 62)), (1, .int v1)]) F dX9_laysOrder_12 (by decide) rfl ?_
  refine g_iconst (v := 0) F dX9_laysOrder_14 (by decide) ?_
  refine g_istore (Ln := [(5, .int 0), (4, .int 6), (3, .int v1), (2, .int 15), (0, .ref (E.2.1 62)), (1, .int v1)]) F dX9_laysOrder_15 (by decide) rfl ?_
  obtain ⟨w12, ew12, h⟩ := ob h
  refine g_sub (Ln := [(0, .ref (E.2.1 62)), (2, .int 15), (3, .int v1), (4, .int 6), (5, .int 0)]) [4, 3, 2, 1, 0] rfl ?_
  refine wlX9_laysOrder_17 F B hE J _ ew12 ?_
  obtain rfl := Option.some.inj h
  exact g_vret F e dX9_laysOrder_143 ⟨rfl, rfl, rfl⟩
theorem DX9_columnOf_0 : dAre cX9_columnOf [(0, .iconst 0, 1), (1, .istore_n 3, 1), (2, .iload_n 3, 1), (3, .aload_n 0, 1), (4, .getfield 37, 3), (7, .iload_n 1, 1), (8, .iaload, 1), (9, .if_icmp .ge 25, 3), (12, .aload_n 0, 1), (13, .getfield 40, 3), (16, .iconst 3, 1), (17, .iload_n 1, 1), (18, .imul, 1), (19, .iload_n 3, 1), (20, .iadd, 1), (21, .iaload, 1)] := dAre0 (by decide +kernel)
theorem dX9_columnOf_0 : decode cX9_columnOf 0 = .ok (.iconst 0, 1) := DX9_columnOf_0.1
theorem dX9_columnOf_1 : decode cX9_columnOf 1 = .ok (.istore_n 3, 1) := DX9_columnOf_0.2.1
theorem dX9_columnOf_2 : decode cX9_columnOf 2 = .ok (.iload_n 3, 1) := DX9_columnOf_0.2.2.1
theorem dX9_columnOf_3 : decode cX9_columnOf 3 = .ok (.aload_n 0, 1) := DX9_columnOf_0.2.2.2.1
theorem dX9_columnOf_4 : decode cX9_columnOf 4 = .ok (.getfield 37, 3) := DX9_columnOf_0.2.2.2.2.1
theorem dX9_columnOf_7 : decode cX9_columnOf 7 = .ok (.iload_n 1, 1) := DX9_columnOf_0.2.2.2.2.2.1
theorem dX9_columnOf_8 : decode cX9_columnOf 8 = .ok (.iaload, 1) := DX9_columnOf_0.2.2.2.2.2.2.1
theorem dX9_columnOf_9 : decode cX9_columnOf 9 = .ok (.if_icmp .ge 25, 3) := DX9_columnOf_0.2.2.2.2.2.2.2.1
theorem dX9_columnOf_12 : decode cX9_columnOf 12 = .ok (.aload_n 0, 1) := DX9_columnOf_0.2.2.2.2.2.2.2.2.1
theorem dX9_columnOf_13 : decode cX9_columnOf 13 = .ok (.getfield 40, 3) := DX9_columnOf_0.2.2.2.2.2.2.2.2.2.1
theorem dX9_columnOf_16 : decode cX9_columnOf 16 = .ok (.iconst 3, 1) := DX9_columnOf_0.2.2.2.2.2.2.2.2.2.2.1
theorem dX9_columnOf_17 : decode cX9_columnOf 17 = .ok (.iload_n 1, 1) := DX9_columnOf_0.2.2.2.2.2.2.2.2.2.2.2.1
theorem dX9_columnOf_18 : decode cX9_columnOf 18 = .ok (.imul, 1) := DX9_columnOf_0.2.2.2.2.2.2.2.2.2.2.2.2.1
theorem dX9_columnOf_19 : decode cX9_columnOf 19 = .ok (.iload_n 3, 1) := DX9_columnOf_0.2.2.2.2.2.2.2.2.2.2.2.2.2.1
theorem dX9_columnOf_20 : decode cX9_columnOf 20 = .ok (.iadd, 1) := DX9_columnOf_0.2.2.2.2.2.2.2.2.2.2.2.2.2.2.1
theorem dX9_columnOf_21 : decode cX9_columnOf 21 = .ok (.iaload, 1) := DX9_columnOf_0.2.2.2.2.2.2.2.2.2.2.2.2.2.2.2.1
theorem DX9_columnOf_22 : dAre cX9_columnOf [(22, .iload_n 2, 1), (23, .if_icmp .ne 5, 3), (26, .iload_n 3, 1), (27, .ireturn, 1), (28, .iinc 3 1, 3), (31, .goto (-29), 3), (34, .iconst (-1), 1), (35, .ireturn, 1)] := dAre0 (by decide +kernel)
theorem dX9_columnOf_22 : decode cX9_columnOf 22 = .ok (.iload_n 2, 1) := DX9_columnOf_22.1
theorem dX9_columnOf_23 : decode cX9_columnOf 23 = .ok (.if_icmp .ne 5, 3) := DX9_columnOf_22.2.1
theorem dX9_columnOf_26 : decode cX9_columnOf 26 = .ok (.iload_n 3, 1) := DX9_columnOf_22.2.2.1
theorem dX9_columnOf_27 : decode cX9_columnOf 27 = .ok (.ireturn, 1) := DX9_columnOf_22.2.2.2.1
theorem dX9_columnOf_28 : decode cX9_columnOf 28 = .ok (.iinc 3 1, 3) := DX9_columnOf_22.2.2.2.2.1
theorem dX9_columnOf_31 : decode cX9_columnOf 31 = .ok (.goto (-29), 3) := DX9_columnOf_22.2.2.2.2.2.1
theorem dX9_columnOf_34 : decode cX9_columnOf 34 = .ok (.iconst (-1), 1) := DX9_columnOf_22.2.2.2.2.2.2.1
theorem dX9_columnOf_35 : decode cX9_columnOf 35 = .ok (.ireturn, 1) := DX9_columnOf_22.2.2.2.2.2.2.2.1
theorem mX9_columnOf : gMv yX9_columnOf cX9_columnOf 4 (some .int) RX9 2 := ⟨q1080, q1425, q10, q1081, rfl, by decide, by decide, by decide +kernel⟩
noncomputable def lX9_columnOf_2 (v1 : Int32) (v2 : Int32) (I : gM) : Int32 → Option ((Int32) ⊕ (Unit)) :=
  itO fun s =>
    (rI 4 (I 72) v1).bind fun u1 =>
    if u1 ≤ s then
      some (.inr (.inr ()))
    else
      (rI 12 (I 73) (((3 : Int32) * v1) + s)).bind fun u2 =>
      if u2 = v2 then
        some (.inr (.inl s))
      else
        some (.inl (s + 1))
set_option maxRecDepth 100000 in
set_option maxHeartbeats 4000000 in
theorem wlX9_columnOf_2 {z : gZ} {E : gE} {bk : Nat} (F : Fx z sh E "LeapJoinModel" cX9_columnOf (gR 0) 4) (B : bZ z bk) (hE : gDist sh E) (v1 : Int32) (v2 : Int32) (I : gM) (J : gN) {r : (Int32) ⊕ (Unit)} : ∀ s : Int32, lX9_columnOf_2 v1 v2 I s = some r → (∀ x : Int32, r = .inl x → G z 26 [(3, .int x)] [] I J) → (∀ x : Unit, r = .inr x → G z 34 [] [] I J) → G z 2 [(0, .ref (E.2.1 62)), (1, .int v1), (2, .int v2), (3, .int s)] [] I J := by
  intro s h X0 X1
  unfold lX9_columnOf_2 at h
  revert s
  refine itO_ind (P := fun s : Int32 => G z 2 [(0, .ref (E.2.1 62)), (1, .int v1), (2, .int v2), (3, .int s)] [] I J) (fun s y h hl hr => ?_)
  have K2_0 := fun (x : Int32) (q : y = .inr (.inl x)) => X0 x (hr _ q).symm
  have K2_1 := fun (x : Unit) (q : y = .inr (.inr x)) => X1 x (hr _ q).symm
  refine g_iload_n F 3 dX9_columnOf_2 rfl rfl ?_
  refine g_aload_n F 0 dX9_columnOf_3 rfl rfl ?_
  refine g_getr (j := 15) (nn := 72) F s62 rfl rfl uX9 (by decide) q836 dX9_columnOf_4 ?_
  refine g_iload_n F 1 dX9_columnOf_7 rfl rfl ?_
  refine u_rI F s72 (by decide) dX9_columnOf_8 h (fun u1 h => ?_)
  refine u_icmp_ge (tgt := 34) F dX9_columnOf_9 (by decide) h (fun h => ?_) (fun h => ?_)
  · obtain rfl := Option.some.inj h
    refine g_sub (Ln := []) [] rfl ?_
    exact K2_1 () rfl
  · refine g_aload_n F 0 dX9_columnOf_12 rfl rfl ?_
    refine g_getr (j := 16) (nn := 73) F s62 rfl rfl uX9 (by decide) q837 dX9_columnOf_13 ?_
    refine g_iconst (v := 3) F dX9_columnOf_16 (by decide) ?_
    refine g_iload_n F 1 dX9_columnOf_17 rfl rfl ?_
    refine g_imul (v := (3 : Int32) * v1) F dX9_columnOf_18 rfl ?_
    refine g_iload_n F 3 dX9_columnOf_19 rfl rfl ?_
    refine g_iadd (v := ((3 : Int32) * v1) + s) F dX9_columnOf_20 rfl ?_
    refine u_rI F s73 (by decide) dX9_columnOf_21 h (fun u2 h => ?_)
    refine g_iload_n F 2 dX9_columnOf_22 rfl rfl ?_
    refine u_icmp_ne (tgt := 28) F dX9_columnOf_23 (by decide) h (fun h => ?_) (fun h => ?_)
    · obtain rfl := Option.some.inj h
      refine g_sub (Ln := [(3, .int s)]) [3] rfl ?_
      exact K2_0 s rfl
    · refine g_iinc (v := s + 1) (Ln := [(3, .int (s + 1)), (0, .ref (E.2.1 62)), (1, .int v1), (2, .int v2)]) F 3 dX9_columnOf_28 rfl (add_c (by decide)) (by decide) rfl ?_
      refine g_goto (tgt := 2) F dX9_columnOf_31 (by decide) ?_
      obtain rfl := Option.some.inj h
      refine g_sub (Ln := [(0, .ref (E.2.1 62)), (1, .int v1), (2, .int v2), (3, .int (s + 1))]) [1, 2, 3, 0] rfl ?_
      exact hl (s + 1) rfl
noncomputable def fX9_columnOf (v1 : Int32) (v2 : Int32) (I : gM) : Option (Int32) :=
  (lX9_columnOf_2 v1 v2 I (0 : Int32)).bind fun w3 =>
  Sum.elim (fun w3_0 =>
    some w3_0)
  (fun w3_1 =>
    some ((-1) : Int32)) w3
set_option maxRecDepth 100000 in
set_option maxHeartbeats 4000000 in
theorem wX9_columnOf (l : Launch) (E : gE) (hE : gDist sh E) (bk : Nat) (v1 : Int32) (v2 : Int32) (I : gM) (J : gN) {r : Int32} (h : fX9_columnOf v1 v2 I = some r) : Cu l sh E bk yX9_columnOf cX9_columnOf 4 (some .int) (gR 0) [.ref (E.2.1 62), .int v1, .int v2] I J (fun r1 I1 J1 => r1 = some (.int r) ∧ I1 = I ∧ J1 = J) := by
  refine Cu.of "LeapJoinModel" rfl hE (by decide) (Nat.le_of_ble_eq_true rfl) (fun z F B e hl => ?_)
  subst hl
  unfold fX9_columnOf at h
  refine g_iconst (v := 0) F dX9_columnOf_0 (by decide) ?_
  refine g_istore_n (Ln := [(3, .int 0), (0, .ref (E.2.1 62)), (1, .int v1), (2, .int v2)]) F dX9_columnOf_1 rfl (by decide) rfl ?_
  obtain ⟨w3, ew3, h⟩ := ob h
  refine g_sub (Ln := [(0, .ref (E.2.1 62)), (1, .int v1), (2, .int v2), (3, .int 0)]) [1, 2, 3, 0] rfl ?_
  refine wlX9_columnOf_2 F B hE v1 v2 I J _ ew3 (fun w3_0 q => ?_) (fun w3_1 q => ?_)
  · subst q
    replace h := oE1 h
    refine g_iload_n F 0 dX9_columnOf_26 rfl rfl ?_
    obtain rfl := Option.some.inj h
    exact g_iret F e dX9_columnOf_27 ⟨rfl, rfl, rfl⟩
  · subst q
    replace h := oE2 h
    refine g_iconst (v := (-1)) F dX9_columnOf_34 (by decide) ?_
    obtain rfl := Option.some.inj h
    exact g_iret F e dX9_columnOf_35 ⟨rfl, rfl, rfl⟩
theorem DX9_fits_0 : dAre cX9_fits [(0, .iconst 1, 1), (1, .istore 4, 2), (3, .iconst 0, 1), (4, .istore 5, 2), (6, .iload 5, 2), (8, .iload_n 3, 1), (9, .if_icmp .ge 69, 3), (12, .aload_n 0, 1), (13, .iload_n 1, 1), (14, .aload_n 0, 1), (15, .getfield 43, 3), (18, .iload 5, 2), (20, .iaload, 1), (21, .invokevirtual 223, 3), (24, .istore 6, 2), (26, .iload 4, 2)] := dAre0 (by decide +kernel)
theorem dX9_fits_0 : decode cX9_fits 0 = .ok (.iconst 1, 1) := DX9_fits_0.1
theorem dX9_fits_1 : decode cX9_fits 1 = .ok (.istore 4, 2) := DX9_fits_0.2.1
theorem dX9_fits_3 : decode cX9_fits 3 = .ok (.iconst 0, 1) := DX9_fits_0.2.2.1
theorem dX9_fits_4 : decode cX9_fits 4 = .ok (.istore 5, 2) := DX9_fits_0.2.2.2.1
theorem dX9_fits_6 : decode cX9_fits 6 = .ok (.iload 5, 2) := DX9_fits_0.2.2.2.2.1
theorem dX9_fits_8 : decode cX9_fits 8 = .ok (.iload_n 3, 1) := DX9_fits_0.2.2.2.2.2.1
theorem dX9_fits_9 : decode cX9_fits 9 = .ok (.if_icmp .ge 69, 3) := DX9_fits_0.2.2.2.2.2.2.1
theorem dX9_fits_12 : decode cX9_fits 12 = .ok (.aload_n 0, 1) := DX9_fits_0.2.2.2.2.2.2.2.1
theorem dX9_fits_13 : decode cX9_fits 13 = .ok (.iload_n 1, 1) := DX9_fits_0.2.2.2.2.2.2.2.2.1
theorem dX9_fits_14 : decode cX9_fits 14 = .ok (.aload_n 0, 1) := DX9_fits_0.2.2.2.2.2.2.2.2.2.1
theorem dX9_fits_15 : decode cX9_fits 15 = .ok (.getfield 43, 3) := DX9_fits_0.2.2.2.2.2.2.2.2.2.2.1
theorem dX9_fits_18 : decode cX9_fits 18 = .ok (.iload 5, 2) := DX9_fits_0.2.2.2.2.2.2.2.2.2.2.2.1
theorem dX9_fits_20 : decode cX9_fits 20 = .ok (.iaload, 1) := DX9_fits_0.2.2.2.2.2.2.2.2.2.2.2.2.1
theorem dX9_fits_21 : decode cX9_fits 21 = .ok (.invokevirtual 223, 3) := DX9_fits_0.2.2.2.2.2.2.2.2.2.2.2.2.2.1
theorem dX9_fits_24 : decode cX9_fits 24 = .ok (.istore 6, 2) := DX9_fits_0.2.2.2.2.2.2.2.2.2.2.2.2.2.2.1
theorem dX9_fits_26 : decode cX9_fits 26 = .ok (.iload 4, 2) := DX9_fits_0.2.2.2.2.2.2.2.2.2.2.2.2.2.2.2.1
theorem DX9_fits_28 : dAre cX9_fits [(28, .ifCond .eq 41, 3), (31, .iload 6, 2), (33, .iconst (-1), 1), (34, .if_icmp .eq 31, 3), (37, .aload_n 0, 1), (38, .getfield 31, 3), (41, .iload_n 1, 1), (42, .iload_n 2, 1), (43, .invokestatic 182, 3), (46, .iload 6, 2), (48, .iadd, 1), (49, .iaload, 1), (50, .aload_n 0, 1), (51, .getfield 46, 3), (54, .aload_n 0, 1), (55, .getfield 43, 3)] := dAre0 (by decide +kernel)
theorem dX9_fits_28 : decode cX9_fits 28 = .ok (.ifCond .eq 41, 3) := DX9_fits_28.1
theorem dX9_fits_31 : decode cX9_fits 31 = .ok (.iload 6, 2) := DX9_fits_28.2.1
theorem dX9_fits_33 : decode cX9_fits 33 = .ok (.iconst (-1), 1) := DX9_fits_28.2.2.1
theorem dX9_fits_34 : decode cX9_fits 34 = .ok (.if_icmp .eq 31, 3) := DX9_fits_28.2.2.2.1
theorem dX9_fits_37 : decode cX9_fits 37 = .ok (.aload_n 0, 1) := DX9_fits_28.2.2.2.2.1
theorem dX9_fits_38 : decode cX9_fits 38 = .ok (.getfield 31, 3) := DX9_fits_28.2.2.2.2.2.1
theorem dX9_fits_41 : decode cX9_fits 41 = .ok (.iload_n 1, 1) := DX9_fits_28.2.2.2.2.2.2.1
theorem dX9_fits_42 : decode cX9_fits 42 = .ok (.iload_n 2, 1) := DX9_fits_28.2.2.2.2.2.2.2.1
theorem dX9_fits_43 : decode cX9_fits 43 = .ok (.invokestatic 182, 3) := DX9_fits_28.2.2.2.2.2.2.2.2.1
theorem dX9_fits_46 : decode cX9_fits 46 = .ok (.iload 6, 2) := DX9_fits_28.2.2.2.2.2.2.2.2.2.1
theorem dX9_fits_48 : decode cX9_fits 48 = .ok (.iadd, 1) := DX9_fits_28.2.2.2.2.2.2.2.2.2.2.1
theorem dX9_fits_49 : decode cX9_fits 49 = .ok (.iaload, 1) := DX9_fits_28.2.2.2.2.2.2.2.2.2.2.2.1
theorem dX9_fits_50 : decode cX9_fits 50 = .ok (.aload_n 0, 1) := DX9_fits_28.2.2.2.2.2.2.2.2.2.2.2.2.1
theorem dX9_fits_51 : decode cX9_fits 51 = .ok (.getfield 46, 3) := DX9_fits_28.2.2.2.2.2.2.2.2.2.2.2.2.2.1
theorem dX9_fits_54 : decode cX9_fits 54 = .ok (.aload_n 0, 1) := DX9_fits_28.2.2.2.2.2.2.2.2.2.2.2.2.2.2.1
theorem dX9_fits_55 : decode cX9_fits 55 = .ok (.getfield 43, 3) := DX9_fits_28.2.2.2.2.2.2.2.2.2.2.2.2.2.2.2.1
theorem DX9_fits_58 : dAre cX9_fits [(58, .iload 5, 2), (60, .iaload, 1), (61, .iaload, 1), (62, .if_icmp .ne 7, 3), (65, .iconst 1, 1), (66, .goto 4, 3), (69, .iconst 0, 1), (70, .istore 4, 2), (72, .iinc 5 1, 3), (75, .goto (-69), 3), (78, .iload 4, 2), (80, .ireturn, 1)] := dAre0 (by decide +kernel)
theorem dX9_fits_58 : decode cX9_fits 58 = .ok (.iload 5, 2) := DX9_fits_58.1
theorem dX9_fits_60 : decode cX9_fits 60 = .ok (.iaload, 1) := DX9_fits_58.2.1
theorem dX9_fits_61 : decode cX9_fits 61 = .ok (.iaload, 1) := DX9_fits_58.2.2.1
theorem dX9_fits_62 : decode cX9_fits 62 = .ok (.if_icmp .ne 7, 3) := DX9_fits_58.2.2.2.1
theorem dX9_fits_65 : decode cX9_fits 65 = .ok (.iconst 1, 1) := DX9_fits_58.2.2.2.2.1
theorem dX9_fits_66 : decode cX9_fits 66 = .ok (.goto 4, 3) := DX9_fits_58.2.2.2.2.2.1
theorem dX9_fits_69 : decode cX9_fits 69 = .ok (.iconst 0, 1) := DX9_fits_58.2.2.2.2.2.2.1
theorem dX9_fits_70 : decode cX9_fits 70 = .ok (.istore 4, 2) := DX9_fits_58.2.2.2.2.2.2.2.1
theorem dX9_fits_72 : decode cX9_fits 72 = .ok (.iinc 5 1, 3) := DX9_fits_58.2.2.2.2.2.2.2.2.1
theorem dX9_fits_75 : decode cX9_fits 75 = .ok (.goto (-69), 3) := DX9_fits_58.2.2.2.2.2.2.2.2.2.1
theorem dX9_fits_78 : decode cX9_fits 78 = .ok (.iload 4, 2) := DX9_fits_58.2.2.2.2.2.2.2.2.2.2.1
theorem dX9_fits_80 : decode cX9_fits 80 = .ok (.ireturn, 1) := DX9_fits_58.2.2.2.2.2.2.2.2.2.2.2.1
theorem mX9_fits : gMv yX9_fits cX9_fits 7 (some .boolean) RX9 3 := ⟨q1083, q1426, q10, q1084, rfl, by decide, by decide, by decide +kernel⟩
noncomputable def bX9_fits_70 (v5 : Int32) (t0 : Int32) : Option ((Int32 × Int32) ⊕ (Int32)) :=
  some (.inl (t0, v5 + 1))
set_option maxRecDepth 100000 in
set_option maxHeartbeats 4000000 in
theorem wbX9_fits_70 {z : gZ} {E : gE} {bk : Nat} (F : Fx z sh E "LeapJoinModel" cX9_fits (gR 1) 7) (B : bZ z bk) (hE : gDist sh E) (v1 : Int32) (v2 : Int32) (v3 : Int32) (v5 : Int32) (t0 : Int32) (I : gM) (J : gN) {y : (Int32 × Int32) ⊕ (Int32)} (h : bX9_fits_70 v5 t0 = some y) (hl : ∀ s' : Int32 × Int32, y = .inl s' → G z 6 [(0, .ref (E.2.1 62)), (1, .int v1), (2, .int v2), (3, .int v3), (4, .int (s'.1)), (5, .int (s'.2))] [] I J) (K6_0 : ∀ x : Int32, y = .inr x → G z 78 [(4, .int x)] [] I J) : G z 70 [(0, .ref (E.2.1 62)), (1, .int v1), (2, .int v2), (3, .int v3), (5, .int v5)] [.int t0] I J := by
  unfold bX9_fits_70 at h
  refine g_istore (Ln := [(4, .int t0), (0, .ref (E.2.1 62)), (1, .int v1), (2, .int v2), (3, .int v3), (5, .int v5)]) F dX9_fits_70 (by decide) rfl ?_
  refine g_iinc (v := v5 + 1) (Ln := [(5, .int (v5 + 1)), (4, .int t0), (0, .ref (E.2.1 62)), (1, .int v1), (2, .int v2), (3, .int v3)]) F 5 dX9_fits_72 rfl (add_c (by decide)) (by decide) rfl ?_
  refine g_goto (tgt := 6) F dX9_fits_75 (by decide) ?_
  obtain rfl := Option.some.inj h
  refine g_sub (Ln := [(0, .ref (E.2.1 62)), (1, .int v1), (2, .int v2), (3, .int v3), (4, .int t0), (5, .int (v5 + 1))]) [2, 3, 4, 5, 1, 0] rfl ?_
  exact hl (t0, v5 + 1) rfl
noncomputable def bX9_fits_69 (v5 : Int32) : Option ((Int32 × Int32) ⊕ (Int32)) :=
  bX9_fits_70 v5 (0 : Int32)
set_option maxRecDepth 100000 in
set_option maxHeartbeats 4000000 in
theorem wbX9_fits_69 {z : gZ} {E : gE} {bk : Nat} (F : Fx z sh E "LeapJoinModel" cX9_fits (gR 1) 7) (B : bZ z bk) (hE : gDist sh E) (v1 : Int32) (v2 : Int32) (v3 : Int32) (v5 : Int32) (I : gM) (J : gN) {y : (Int32 × Int32) ⊕ (Int32)} (h : bX9_fits_69 v5 = some y) (hl : ∀ s' : Int32 × Int32, y = .inl s' → G z 6 [(0, .ref (E.2.1 62)), (1, .int v1), (2, .int v2), (3, .int v3), (4, .int (s'.1)), (5, .int (s'.2))] [] I J) (K6_0 : ∀ x : Int32, y = .inr x → G z 78 [(4, .int x)] [] I J) : G z 69 [(0, .ref (E.2.1 62)), (1, .int v1), (2, .int v2), (3, .int v3), (5, .int v5)] [] I J := by
  unfold bX9_fits_69 at h
  refine g_iconst (v := 0) F dX9_fits_69 (by decide) ?_
  refine g_sub (Ln := [(0, .ref (E.2.1 62)), (1, .int v1), (2, .int v2), (3, .int v3), (5, .int v5)]) [0, 1, 2, 3, 4] rfl ?_
  exact wbX9_fits_70 F B hE v1 v2 v3 v5 (0 : Int32) I J h hl K6_0
noncomputable def bX9_fits_65 (v5 : Int32) : Option ((Int32 × Int32) ⊕ (Int32)) :=
  bX9_fits_70 v5 (1 : Int32)
set_option maxRecDepth 100000 in
set_option maxHeartbeats 4000000 in
theorem wbX9_fits_65 {z : gZ} {E : gE} {bk : Nat} (F : Fx z sh E "LeapJoinModel" cX9_fits (gR 1) 7) (B : bZ z bk) (hE : gDist sh E) (v1 : Int32) (v2 : Int32) (v3 : Int32) (v5 : Int32) (I : gM) (J : gN) {y : (Int32 × Int32) ⊕ (Int32)} (h : bX9_fits_65 v5 = some y) (hl : ∀ s' : Int32 × Int32, y = .inl s' → G z 6 [(0, .ref (E.2.1 62)), (1, .int v1), (2, .int v2), (3, .int v3), (4, .int (s'.1)), (5, .int (s'.2))] [] I J) (K6_0 : ∀ x : Int32, y = .inr x → G z 78 [(4, .int x)] [] I J) : G z 65 [(0, .ref (E.2.1 62)), (1, .int v1), (2, .int v2), (3, .int v3), (5, .int v5)] [] I J := by
  unfold bX9_fits_65 at h
  refine g_iconst (v := 1) F dX9_fits_65 (by decide) ?_
  refine g_goto (tgt := 70) F dX9_fits_66 (by decide) ?_
  refine g_sub (Ln := [(0, .ref (E.2.1 62)), (1, .int v1), (2, .int v2), (3, .int v3), (5, .int v5)]) [0, 1, 2, 3, 4] rfl ?_
  exact wbX9_fits_70 F B hE v1 v2 v3 v5 (1 : Int32) I J h hl K6_0
noncomputable def lX9_fits_6 (v1 : Int32) (v2 : Int32) (v3 : Int32) (I : gM) : (Int32 × Int32) → Option (Int32) :=
  itO fun s =>
    if v3 ≤ s.2 then
      some (.inr s.1)
    else
      (rI 4 (I 74) s.2).bind fun u1 =>
      (fX9_columnOf v1 u1 I).bind fun r2 =>
      if s.1 = 0 then
        bX9_fits_69 s.2
      else
        if r2 = (-1) then
          bX9_fits_65 s.2
        else
          (fX9_rowAt v1 v2).bind fun r3 =>
          (rI 331 (I 70) (r3 + r2)).bind fun u4 =>
          (rI 4 (I 74) s.2).bind fun u5 =>
          (rI 4 (I 75) u5).bind fun u6 =>
          if u4 = u6 then
            bX9_fits_65 s.2
          else
            bX9_fits_69 s.2
set_option maxRecDepth 100000 in
set_option maxHeartbeats 4000000 in
theorem wlX9_fits_6 {z : gZ} {E : gE} {bk : Nat} (F : Fx z sh E "LeapJoinModel" cX9_fits (gR 1) 7) (B : bZ z bk) (hE : gDist sh E) (v1 : Int32) (v2 : Int32) (v3 : Int32) (I : gM) (J : gN) {r : Int32} : ∀ s : Int32 × Int32, lX9_fits_6 v1 v2 v3 I s = some r → (G z 78 [(4, .int r)] [] I J) → G z 6 [(0, .ref (E.2.1 62)), (1, .int v1), (2, .int v2), (3, .int v3), (4, .int s.1), (5, .int s.2)] [] I J := by
  intro s h X0
  unfold lX9_fits_6 at h
  revert s
  refine itO_ind (P := fun s : Int32 × Int32 => G z 6 [(0, .ref (E.2.1 62)), (1, .int v1), (2, .int v2), (3, .int v3), (4, .int s.1), (5, .int s.2)] [] I J) (fun s y h hl hr => ?_)
  have K6_0 : ∀ x : Int32, y = .inr x → (G z 78 [(4, .int x)] [] I J) := fun x q => by have q2 := hr _ q; subst q2; exact X0
  refine g_iload F 5 dX9_fits_6 rfl ?_
  refine g_iload_n F 3 dX9_fits_8 rfl rfl ?_
  refine u_icmp_ge (tgt := 78) F dX9_fits_9 (by decide) h (fun h => ?_) (fun h => ?_)
  · obtain rfl := Option.some.inj h
    refine g_sub (Ln := [(4, .int s.1)]) [4] rfl ?_
    exact K6_0 s.1 rfl
  · refine g_aload_n F 0 dX9_fits_12 rfl rfl ?_
    refine g_iload_n F 1 dX9_fits_13 rfl rfl ?_
    refine g_aload_n F 0 dX9_fits_14 rfl rfl ?_
    refine g_getr (j := 18) (nn := 74) F s62 rfl rfl uX9 (by decide) q839 dX9_fits_15 ?_
    refine g_iload F 5 dX9_fits_18 rfl ?_
    refine u_rI F s74 (by decide) dX9_fits_20 h (fun u1 h => ?_)
    refine u_callV (k := 62) (As := [.int v1, .int u1]) (rest := []) (sn := fun r2 => [.int r2]) F B (fun _ => wX9_columnOf (zl z) E hE bk v1 u1 I J) mX9_columnOf q1079 rfl s62 rfl rfl rfl (Nat.le_of_ble_eq_true rfl) dX9_fits_21 (fun _ => rfl) h (fun r2 h => ?_)
    refine g_istore (Ln := [(6, .int r2), (0, .ref (E.2.1 62)), (1, .int v1), (2, .int v2), (3, .int v3), (4, .int s.1), (5, .int s.2)]) F dX9_fits_24 (by decide) rfl ?_
    refine g_iload F 5 dX9_fits_26 rfl ?_
    refine u_if_eq (tgt := 69) F dX9_fits_28 (by decide) h (fun h => ?_) (fun h => ?_)
    · refine g_sub (Ln := [(0, .ref (E.2.1 62)), (1, .int v1), (2, .int v2), (3, .int v3), (5, .int s.2)]) [1, 2, 3, 4, 6] rfl ?_
      exact wbX9_fits_69 F B hE v1 v2 v3 s.2 I J h hl K6_0
    · refine g_iload F 0 dX9_fits_31 rfl ?_
      refine g_iconst (v := (-1)) F dX9_fits_33 (by decide) ?_
      refine u_icmp_eq (tgt := 65) F dX9_fits_34 (by decide) h (fun h => ?_) (fun h => ?_)
      · refine g_sub (Ln := [(0, .ref (E.2.1 62)), (1, .int v1), (2, .int v2), (3, .int v3), (5, .int s.2)]) [1, 2, 3, 4, 6] rfl ?_
        exact wbX9_fits_65 F B hE v1 v2 v3 s.2 I J h hl K6_0
      · refine g_aload_n F 1 dX9_fits_37 rfl rfl ?_
        refine g_getr (j := 13) (nn := 70) F s62 rfl rfl uX9 (by decide) q834 dX9_fits_38 ?_
        refine g_iload_n F 2 dX9_fits_41 rfl rfl ?_
        refine g_iload_n F 3 dX9_fits_42 rfl rfl ?_
        refine u_callS (As := [.int v1, .int v2]) (rest := [.ref (E.2.1 70)]) (sn := fun r3 => [.int r3, .ref (E.2.1 70)]) F B (fun _ => wX9_rowAt (zl z) E hE bk v1 v2 I J) mX9_rowAt q1000 rfl rfl rfl (Nat.le_of_ble_eq_true rfl) dX9_fits_43 (fun _ => rfl) h (fun r3 h => ?_)
        refine g_iload F 0 dX9_fits_46 rfl ?_
        refine g_iadd (v := r3 + r2) F dX9_fits_48 rfl ?_
        refine u_rI F s70 (by decide) dX9_fits_49 h (fun u4 h => ?_)
        refine g_aload_n F 1 dX9_fits_50 rfl rfl ?_
        refine g_getr (j := 20) (nn := 75) F s62 rfl rfl uX9 (by decide) q841 dX9_fits_51 ?_
        refine g_aload_n F 1 dX9_fits_54 rfl rfl ?_
        refine g_getr (j := 18) (nn := 74) F s62 rfl rfl uX9 (by decide) q839 dX9_fits_55 ?_
        refine g_iload F 6 dX9_fits_58 rfl ?_
        refine u_rI F s74 (by decide) dX9_fits_60 h (fun u5 h => ?_)
        refine u_rI F s75 (by decide) dX9_fits_61 h (fun u6 h => ?_)
        refine u_icmp_ne (tgt := 69) F dX9_fits_62 (by decide) h (fun h => ?_) (fun h => ?_)
        · refine g_sub (Ln := [(0, .ref (E.2.1 62)), (1, .int v1), (2, .int v2), (3, .int v3), (5, .int s.2)]) [1, 2, 3, 4, 6] rfl ?_
          exact wbX9_fits_65 F B hE v1 v2 v3 s.2 I J h hl K6_0
        · refine g_sub (Ln := [(0, .ref (E.2.1 62)), (1, .int v1), (2, .int v2), (3, .int v3), (5, .int s.2)]) [1, 2, 3, 4, 6] rfl ?_
          exact wbX9_fits_69 F B hE v1 v2 v3 s.2 I J h hl K6_0
noncomputable def fX9_fits (v1 : Int32) (v2 : Int32) (v3 : Int32) (I : gM) : Option (Int32) :=
  (lX9_fits_6 v1 v2 v3 I ((1 : Int32), (0 : Int32))).bind fun w7 =>
  (bO w7).bind fun u8 =>
  some u8
set_option maxRecDepth 100000 in
set_option maxHeartbeats 4000000 in
theorem wX9_fits (l : Launch) (E : gE) (hE : gDist sh E) (bk : Nat) (v1 : Int32) (v2 : Int32) (v3 : Int32) (I : gM) (J : gN) {r : Int32} (h : fX9_fits v1 v2 v3 I = some r) : Cu l sh E bk yX9_fits cX9_fits 7 (some .boolean) (gR 1) [.ref (E.2.1 62), .int v1, .int v2, .int v3] I J (fun r1 I1 J1 => r1 = some (.int r) ∧ I1 = I ∧ J1 = J) := by
  refine Cu.of "LeapJoinModel" rfl hE (by decide) (Nat.le_of_ble_eq_true rfl) (fun z F B e hl => ?_)
  subst hl
  unfold fX9_fits at h
  refine g_iconst (v := 1) F dX9_fits_0 (by decide) ?_
  refine g_istore (Ln := [(4, .int 1), (0, .ref (E.2.1 62)), (1, .int v1), (2, .int v2), (3, .int v3)]) F dX9_fits_1 (by decide) rfl ?_
  refine g_iconst (v := 0) F dX9_fits_3 (by decide) ?_
  refine g_istore (Ln := [(5, .int 0), (4, .int 1), (0, .ref (E.2.1 62)), (1, .int v1), (2, .int v2), (3, .int v3)]) F dX9_fits_4 (by decide) rfl ?_
  obtain ⟨w7, ew7, h⟩ := ob h
  refine g_sub (Ln := [(0, .ref (E.2.1 62)), (1, .int v1), (2, .int v2), (3, .int v3), (4, .int 1), (5, .int 0)]) [2, 3, 4, 5, 1, 0] rfl ?_
  refine wlX9_fits_6 F B hE v1 v2 v3 I J _ ew7 ?_
  refine g_iload F 0 dX9_fits_78 rfl ?_
  obtain ⟨u8, eu8, h⟩ := ob h
  obtain ⟨nu8, rfl⟩ := bO_some eu8
  obtain rfl := Option.some.inj h
  exact g_zret F nu8 e dX9_fits_80 ⟨rfl, rfl, rfl⟩
theorem DX9_takesKey_0 : dAre cX9_takesKey [(0, .aload_n 0, 1), (1, .getfield 52, 3), (4, .iload_n 1, 1), (5, .iaload, 1), (6, .istore_n 3, 1), (7, .iload_n 3, 1), (8, .istore 4, 2), (10, .iload 4, 2), (12, .ifCond .le 27, 3), (15, .aload_n 0, 1), (16, .getfield 49, 3), (19, .bipush 12, 2), (21, .iload_n 1, 1), (22, .imul, 1), (23, .iload 4, 2), (25, .iadd, 1)] := dAre0 (by decide +kernel)
theorem dX9_takesKey_0 : decode cX9_takesKey 0 = .ok (.aload_n 0, 1) := DX9_takesKey_0.1
theorem dX9_takesKey_1 : decode cX9_takesKey 1 = .ok (.getfield 52, 3) := DX9_takesKey_0.2.1
theorem dX9_takesKey_4 : decode cX9_takesKey 4 = .ok (.iload_n 1, 1) := DX9_takesKey_0.2.2.1
theorem dX9_takesKey_5 : decode cX9_takesKey 5 = .ok (.iaload, 1) := DX9_takesKey_0.2.2.2.1
theorem dX9_takesKey_6 : decode cX9_takesKey 6 = .ok (.istore_n 3, 1) := DX9_takesKey_0.2.2.2.2.1
theorem dX9_takesKey_7 : decode cX9_takesKey 7 = .ok (.iload_n 3, 1) := DX9_takesKey_0.2.2.2.2.2.1
theorem dX9_takesKey_8 : decode cX9_takesKey 8 = .ok (.istore 4, 2) := DX9_takesKey_0.2.2.2.2.2.2.1
theorem dX9_takesKey_10 : decode cX9_takesKey 10 = .ok (.iload 4, 2) := DX9_takesKey_0.2.2.2.2.2.2.2.1
theorem dX9_takesKey_12 : decode cX9_takesKey 12 = .ok (.ifCond .le 27, 3) := DX9_takesKey_0.2.2.2.2.2.2.2.2.1
theorem dX9_takesKey_15 : decode cX9_takesKey 15 = .ok (.aload_n 0, 1) := DX9_takesKey_0.2.2.2.2.2.2.2.2.2.1
theorem dX9_takesKey_16 : decode cX9_takesKey 16 = .ok (.getfield 49, 3) := DX9_takesKey_0.2.2.2.2.2.2.2.2.2.2.1
theorem dX9_takesKey_19 : decode cX9_takesKey 19 = .ok (.bipush 12, 2) := DX9_takesKey_0.2.2.2.2.2.2.2.2.2.2.2.1
theorem dX9_takesKey_21 : decode cX9_takesKey 21 = .ok (.iload_n 1, 1) := DX9_takesKey_0.2.2.2.2.2.2.2.2.2.2.2.2.1
theorem dX9_takesKey_22 : decode cX9_takesKey 22 = .ok (.imul, 1) := DX9_takesKey_0.2.2.2.2.2.2.2.2.2.2.2.2.2.1
theorem dX9_takesKey_23 : decode cX9_takesKey 23 = .ok (.iload 4, 2) := DX9_takesKey_0.2.2.2.2.2.2.2.2.2.2.2.2.2.2.1
theorem dX9_takesKey_25 : decode cX9_takesKey 25 = .ok (.iadd, 1) := DX9_takesKey_0.2.2.2.2.2.2.2.2.2.2.2.2.2.2.2.1
theorem DX9_takesKey_26 : dAre cX9_takesKey [(26, .iconst 1, 1), (27, .isub, 1), (28, .iaload, 1), (29, .iload_n 2, 1), (30, .if_icmp .le 9, 3), (33, .iinc 4 (-1), 3), (36, .goto (-26), 3), (39, .iload 4, 2), (41, .ifCond .le 22, 3), (44, .aload_n 0, 1), (45, .getfield 49, 3), (48, .bipush 12, 2), (50, .iload_n 1, 1), (51, .imul, 1), (52, .iload 4, 2), (54, .iadd, 1)] := dAre0 (by decide +kernel)
theorem dX9_takesKey_26 : decode cX9_takesKey 26 = .ok (.iconst 1, 1) := DX9_takesKey_26.1
theorem dX9_takesKey_27 : decode cX9_takesKey 27 = .ok (.isub, 1) := DX9_takesKey_26.2.1
theorem dX9_takesKey_28 : decode cX9_takesKey 28 = .ok (.iaload, 1) := DX9_takesKey_26.2.2.1
theorem dX9_takesKey_29 : decode cX9_takesKey 29 = .ok (.iload_n 2, 1) := DX9_takesKey_26.2.2.2.1
theorem dX9_takesKey_30 : decode cX9_takesKey 30 = .ok (.if_icmp .le 9, 3) := DX9_takesKey_26.2.2.2.2.1
theorem dX9_takesKey_33 : decode cX9_takesKey 33 = .ok (.iinc 4 (-1), 3) := DX9_takesKey_26.2.2.2.2.2.1
theorem dX9_takesKey_36 : decode cX9_takesKey 36 = .ok (.goto (-26), 3) := DX9_takesKey_26.2.2.2.2.2.2.1
theorem dX9_takesKey_39 : decode cX9_takesKey 39 = .ok (.iload 4, 2) := DX9_takesKey_26.2.2.2.2.2.2.2.1
theorem dX9_takesKey_41 : decode cX9_takesKey 41 = .ok (.ifCond .le 22, 3) := DX9_takesKey_26.2.2.2.2.2.2.2.2.1
theorem dX9_takesKey_44 : decode cX9_takesKey 44 = .ok (.aload_n 0, 1) := DX9_takesKey_26.2.2.2.2.2.2.2.2.2.1
theorem dX9_takesKey_45 : decode cX9_takesKey 45 = .ok (.getfield 49, 3) := DX9_takesKey_26.2.2.2.2.2.2.2.2.2.2.1
theorem dX9_takesKey_48 : decode cX9_takesKey 48 = .ok (.bipush 12, 2) := DX9_takesKey_26.2.2.2.2.2.2.2.2.2.2.2.1
theorem dX9_takesKey_50 : decode cX9_takesKey 50 = .ok (.iload_n 1, 1) := DX9_takesKey_26.2.2.2.2.2.2.2.2.2.2.2.2.1
theorem dX9_takesKey_51 : decode cX9_takesKey 51 = .ok (.imul, 1) := DX9_takesKey_26.2.2.2.2.2.2.2.2.2.2.2.2.2.1
theorem dX9_takesKey_52 : decode cX9_takesKey 52 = .ok (.iload 4, 2) := DX9_takesKey_26.2.2.2.2.2.2.2.2.2.2.2.2.2.2.1
theorem dX9_takesKey_54 : decode cX9_takesKey 54 = .ok (.iadd, 1) := DX9_takesKey_26.2.2.2.2.2.2.2.2.2.2.2.2.2.2.2.1
theorem DX9_takesKey_55 : dAre cX9_takesKey [(55, .iconst 1, 1), (56, .isub, 1), (57, .iaload, 1), (58, .iload_n 2, 1), (59, .if_icmp .ne 4, 3), (62, .return_, 1), (63, .iload_n 3, 1), (64, .istore 5, 2), (66, .iload 5, 2), (68, .iload 4, 2), (70, .if_icmp .le 35, 3), (73, .aload_n 0, 1), (74, .getfield 49, 3), (77, .bipush 12, 2), (79, .iload_n 1, 1), (80, .imul, 1)] := dAre0 (by decide +kernel)
theorem dX9_takesKey_55 : decode cX9_takesKey 55 = .ok (.iconst 1, 1) := DX9_takesKey_55.1
theorem dX9_takesKey_56 : decode cX9_takesKey 56 = .ok (.isub, 1) := DX9_takesKey_55.2.1
theorem dX9_takesKey_57 : decode cX9_takesKey 57 = .ok (.iaload, 1) := DX9_takesKey_55.2.2.1
theorem dX9_takesKey_58 : decode cX9_takesKey 58 = .ok (.iload_n 2, 1) := DX9_takesKey_55.2.2.2.1
theorem dX9_takesKey_59 : decode cX9_takesKey 59 = .ok (.if_icmp .ne 4, 3) := DX9_takesKey_55.2.2.2.2.1
theorem dX9_takesKey_62 : decode cX9_takesKey 62 = .ok (.return_, 1) := DX9_takesKey_55.2.2.2.2.2.1
theorem dX9_takesKey_63 : decode cX9_takesKey 63 = .ok (.iload_n 3, 1) := DX9_takesKey_55.2.2.2.2.2.2.1
theorem dX9_takesKey_64 : decode cX9_takesKey 64 = .ok (.istore 5, 2) := DX9_takesKey_55.2.2.2.2.2.2.2.1
theorem dX9_takesKey_66 : decode cX9_takesKey 66 = .ok (.iload 5, 2) := DX9_takesKey_55.2.2.2.2.2.2.2.2.1
theorem dX9_takesKey_68 : decode cX9_takesKey 68 = .ok (.iload 4, 2) := DX9_takesKey_55.2.2.2.2.2.2.2.2.2.1
theorem dX9_takesKey_70 : decode cX9_takesKey 70 = .ok (.if_icmp .le 35, 3) := DX9_takesKey_55.2.2.2.2.2.2.2.2.2.2.1
theorem dX9_takesKey_73 : decode cX9_takesKey 73 = .ok (.aload_n 0, 1) := DX9_takesKey_55.2.2.2.2.2.2.2.2.2.2.2.1
theorem dX9_takesKey_74 : decode cX9_takesKey 74 = .ok (.getfield 49, 3) := DX9_takesKey_55.2.2.2.2.2.2.2.2.2.2.2.2.1
theorem dX9_takesKey_77 : decode cX9_takesKey 77 = .ok (.bipush 12, 2) := DX9_takesKey_55.2.2.2.2.2.2.2.2.2.2.2.2.2.1
theorem dX9_takesKey_79 : decode cX9_takesKey 79 = .ok (.iload_n 1, 1) := DX9_takesKey_55.2.2.2.2.2.2.2.2.2.2.2.2.2.2.1
theorem dX9_takesKey_80 : decode cX9_takesKey 80 = .ok (.imul, 1) := DX9_takesKey_55.2.2.2.2.2.2.2.2.2.2.2.2.2.2.2.1
theorem DX9_takesKey_81 : dAre cX9_takesKey [(81, .iload 5, 2), (83, .iadd, 1), (84, .aload_n 0, 1), (85, .getfield 49, 3), (88, .bipush 12, 2), (90, .iload_n 1, 1), (91, .imul, 1), (92, .iload 5, 2), (94, .iadd, 1), (95, .iconst 1, 1), (96, .isub, 1), (97, .iaload, 1), (98, .iastore, 1), (99, .iinc 5 (-1), 3), (102, .goto (-36), 3), (105, .aload_n 0, 1)] := dAre0 (by decide +kernel)
theorem dX9_takesKey_81 : decode cX9_takesKey 81 = .ok (.iload 5, 2) := DX9_takesKey_81.1
theorem dX9_takesKey_83 : decode cX9_takesKey 83 = .ok (.iadd, 1) := DX9_takesKey_81.2.1
theorem dX9_takesKey_84 : decode cX9_takesKey 84 = .ok (.aload_n 0, 1) := DX9_takesKey_81.2.2.1
theorem dX9_takesKey_85 : decode cX9_takesKey 85 = .ok (.getfield 49, 3) := DX9_takesKey_81.2.2.2.1
theorem dX9_takesKey_88 : decode cX9_takesKey 88 = .ok (.bipush 12, 2) := DX9_takesKey_81.2.2.2.2.1
theorem dX9_takesKey_90 : decode cX9_takesKey 90 = .ok (.iload_n 1, 1) := DX9_takesKey_81.2.2.2.2.2.1
theorem dX9_takesKey_91 : decode cX9_takesKey 91 = .ok (.imul, 1) := DX9_takesKey_81.2.2.2.2.2.2.1
theorem dX9_takesKey_92 : decode cX9_takesKey 92 = .ok (.iload 5, 2) := DX9_takesKey_81.2.2.2.2.2.2.2.1
theorem dX9_takesKey_94 : decode cX9_takesKey 94 = .ok (.iadd, 1) := DX9_takesKey_81.2.2.2.2.2.2.2.2.1
theorem dX9_takesKey_95 : decode cX9_takesKey 95 = .ok (.iconst 1, 1) := DX9_takesKey_81.2.2.2.2.2.2.2.2.2.1
theorem dX9_takesKey_96 : decode cX9_takesKey 96 = .ok (.isub, 1) := DX9_takesKey_81.2.2.2.2.2.2.2.2.2.2.1
theorem dX9_takesKey_97 : decode cX9_takesKey 97 = .ok (.iaload, 1) := DX9_takesKey_81.2.2.2.2.2.2.2.2.2.2.2.1
theorem dX9_takesKey_98 : decode cX9_takesKey 98 = .ok (.iastore, 1) := DX9_takesKey_81.2.2.2.2.2.2.2.2.2.2.2.2.1
theorem dX9_takesKey_99 : decode cX9_takesKey 99 = .ok (.iinc 5 (-1), 3) := DX9_takesKey_81.2.2.2.2.2.2.2.2.2.2.2.2.2.1
theorem dX9_takesKey_102 : decode cX9_takesKey 102 = .ok (.goto (-36), 3) := DX9_takesKey_81.2.2.2.2.2.2.2.2.2.2.2.2.2.2.1
theorem dX9_takesKey_105 : decode cX9_takesKey 105 = .ok (.aload_n 0, 1) := DX9_takesKey_81.2.2.2.2.2.2.2.2.2.2.2.2.2.2.2.1
theorem DX9_takesKey_106 : dAre cX9_takesKey [(106, .getfield 49, 3), (109, .bipush 12, 2), (111, .iload_n 1, 1), (112, .imul, 1), (113, .iload 4, 2), (115, .iadd, 1), (116, .iload_n 2, 1), (117, .iastore, 1), (118, .aload_n 0, 1), (119, .getfield 52, 3), (122, .iload_n 1, 1), (123, .dup2, 1), (124, .iaload, 1), (125, .iconst 1, 1), (126, .iadd, 1), (127, .iastore, 1)] := dAre0 (by decide +kernel)
theorem dX9_takesKey_106 : decode cX9_takesKey 106 = .ok (.getfield 49, 3) := DX9_takesKey_106.1
theorem dX9_takesKey_109 : decode cX9_takesKey 109 = .ok (.bipush 12, 2) := DX9_takesKey_106.2.1
theorem dX9_takesKey_111 : decode cX9_takesKey 111 = .ok (.iload_n 1, 1) := DX9_takesKey_106.2.2.1
theorem dX9_takesKey_112 : decode cX9_takesKey 112 = .ok (.imul, 1) := DX9_takesKey_106.2.2.2.1
theorem dX9_takesKey_113 : decode cX9_takesKey 113 = .ok (.iload 4, 2) := DX9_takesKey_106.2.2.2.2.1
theorem dX9_takesKey_115 : decode cX9_takesKey 115 = .ok (.iadd, 1) := DX9_takesKey_106.2.2.2.2.2.1
theorem dX9_takesKey_116 : decode cX9_takesKey 116 = .ok (.iload_n 2, 1) := DX9_takesKey_106.2.2.2.2.2.2.1
theorem dX9_takesKey_117 : decode cX9_takesKey 117 = .ok (.iastore, 1) := DX9_takesKey_106.2.2.2.2.2.2.2.1
theorem dX9_takesKey_118 : decode cX9_takesKey 118 = .ok (.aload_n 0, 1) := DX9_takesKey_106.2.2.2.2.2.2.2.2.1
theorem dX9_takesKey_119 : decode cX9_takesKey 119 = .ok (.getfield 52, 3) := DX9_takesKey_106.2.2.2.2.2.2.2.2.2.1
theorem dX9_takesKey_122 : decode cX9_takesKey 122 = .ok (.iload_n 1, 1) := DX9_takesKey_106.2.2.2.2.2.2.2.2.2.2.1
theorem dX9_takesKey_123 : decode cX9_takesKey 123 = .ok (.dup2, 1) := DX9_takesKey_106.2.2.2.2.2.2.2.2.2.2.2.1
theorem dX9_takesKey_124 : decode cX9_takesKey 124 = .ok (.iaload, 1) := DX9_takesKey_106.2.2.2.2.2.2.2.2.2.2.2.2.1
theorem dX9_takesKey_125 : decode cX9_takesKey 125 = .ok (.iconst 1, 1) := DX9_takesKey_106.2.2.2.2.2.2.2.2.2.2.2.2.2.1
theorem dX9_takesKey_126 : decode cX9_takesKey 126 = .ok (.iadd, 1) := DX9_takesKey_106.2.2.2.2.2.2.2.2.2.2.2.2.2.2.1
theorem dX9_takesKey_127 : decode cX9_takesKey 127 = .ok (.iastore, 1) := DX9_takesKey_106.2.2.2.2.2.2.2.2.2.2.2.2.2.2.2.1
theorem dX9_takesKey_128 : decode cX9_takesKey 128 = .ok (.return_, 1) := by decide +kernel
theorem mX9_takesKey : gMv yX9_takesKey cX9_takesKey 6 none RX9 2 := ⟨q1086, q1427, q10, q1087, rfl, by decide, by decide, by decide +kernel⟩
noncomputable def lX9_takesKey_10 (v1 : Int32) (v2 : Int32) (I : gM) : Int32 → Option (Int32) :=
  itO fun s =>
    if s ≤ 0 then
      some (.inr s)
    else
      (rI 192 (I 76) ((((12 : Int32) * v1) + s) - 1)).bind fun u2 =>
      if u2 ≤ v2 then
        some (.inr s)
      else
        some (.inl (s + (-1)))
set_option maxRecDepth 100000 in
set_option maxHeartbeats 4000000 in
theorem wlX9_takesKey_10 {z : gZ} {E : gE} {bk : Nat} (F : Fx z sh E "LeapJoinModel" cX9_takesKey (gR 0) 6) (B : bZ z bk) (hE : gDist sh E) (v1 : Int32) (v2 : Int32) (v3 : Int32) (I : gM) (J : gN) {r : Int32} : ∀ s : Int32, lX9_takesKey_10 v1 v2 I s = some r → (G z 39 [(0, .ref (E.2.1 62)), (1, .int v1), (2, .int v2), (3, .int v3), (4, .int r)] [] I J) → G z 10 [(0, .ref (E.2.1 62)), (1, .int v1), (2, .int v2), (3, .int v3), (4, .int s)] [] I J := by
  intro s h X0
  unfold lX9_takesKey_10 at h
  revert s
  refine itO_ind (P := fun s : Int32 => G z 10 [(0, .ref (E.2.1 62)), (1, .int v1), (2, .int v2), (3, .int v3), (4, .int s)] [] I J) (fun s y h hl hr => ?_)
  have K10_0 : ∀ x : Int32, y = .inr x → (G z 39 [(0, .ref (E.2.1 62)), (1, .int v1), (2, .int v2), (3, .int v3), (4, .int x)] [] I J) := fun x q => by have q2 := hr _ q; subst q2; exact X0
  refine g_iload F 4 dX9_takesKey_10 rfl ?_
  refine u_if_le (tgt := 39) F dX9_takesKey_12 (by decide) h (fun h => ?_) (fun h => ?_)
  · obtain rfl := Option.some.inj h
    refine g_sub (Ln := [(0, .ref (E.2.1 62)), (1, .int v1), (2, .int v2), (3, .int v3), (4, .int s)]) [0, 1, 2, 3, 4] rfl ?_
    exact K10_0 s rfl
  · refine g_aload_n F 0 dX9_takesKey_15 rfl rfl ?_
    refine g_getr (j := 21) (nn := 76) F s62 rfl rfl uX9 (by decide) q842 dX9_takesKey_16 ?_
    refine g_bipush (v := 12) F dX9_takesKey_19 (by decide) ?_
    refine g_iload_n F 1 dX9_takesKey_21 rfl rfl ?_
    refine g_imul (v := (12 : Int32) * v1) F dX9_takesKey_22 rfl ?_
    refine g_iload F 4 dX9_takesKey_23 rfl ?_
    refine g_iadd (v := ((12 : Int32) * v1) + s) F dX9_takesKey_25 rfl ?_
    refine g_iconst (v := 1) F dX9_takesKey_26 (by decide) ?_
    refine g_isub (v := (((12 : Int32) * v1) + s) - 1) F dX9_takesKey_27 rfl ?_
    refine u_rI F s76 (by decide) dX9_takesKey_28 h (fun u2 h => ?_)
    refine g_iload_n F 2 dX9_takesKey_29 rfl rfl ?_
    refine u_icmp_le (tgt := 39) F dX9_takesKey_30 (by decide) h (fun h => ?_) (fun h => ?_)
    · obtain rfl := Option.some.inj h
      refine g_sub (Ln := [(0, .ref (E.2.1 62)), (1, .int v1), (2, .int v2), (3, .int v3), (4, .int s)]) [0, 1, 2, 3, 4] rfl ?_
      exact K10_0 s rfl
    · refine g_iinc (v := s + (-1)) (Ln := [(4, .int (s + (-1))), (0, .ref (E.2.1 62)), (1, .int v1), (2, .int v2), (3, .int v3)]) F 4 dX9_takesKey_33 rfl (add_c (by decide)) (by decide) rfl ?_
      refine g_goto (tgt := 10) F dX9_takesKey_36 (by decide) ?_
      obtain rfl := Option.some.inj h
      refine g_sub (Ln := [(0, .ref (E.2.1 62)), (1, .int v1), (2, .int v2), (3, .int v3), (4, .int (s + (-1)))]) [1, 2, 3, 4, 0] rfl ?_
      exact hl (s + (-1)) rfl
noncomputable def lX9_takesKey_66 (v1 : Int32) (v4 : Int32) : (Int32 × gM) → Option (gM) :=
  itO fun s =>
    if s.1 ≤ v4 then
      some (.inr s.2)
    else
      (rI 192 (s.2 76) ((((12 : Int32) * v1) + s.1) - 1)).bind fun u4 =>
      (wI s.2 76 192 (((12 : Int32) * v1) + s.1) u4).bind fun I5 =>
      some (.inl (s.1 + (-1), I5))
set_option maxRecDepth 100000 in
set_option maxHeartbeats 4000000 in
theorem wlX9_takesKey_66 {z : gZ} {E : gE} {bk : Nat} (F : Fx z sh E "LeapJoinModel" cX9_takesKey (gR 0) 6) (B : bZ z bk) (hE : gDist sh E) (v1 : Int32) (v2 : Int32) (v4 : Int32) (J : gN) {r : gM} : ∀ s : Int32 × gM, lX9_takesKey_66 v1 v4 s = some r → (G z 105 [(0, .ref (E.2.1 62)), (1, .int v1), (2, .int v2), (4, .int v4)] [] r J) → G z 66 [(0, .ref (E.2.1 62)), (1, .int v1), (2, .int v2), (4, .int v4), (5, .int s.1)] [] s.2 J := by
  intro s h X0
  unfold lX9_takesKey_66 at h
  revert s
  refine itO_ind (P := fun s : Int32 × gM => G z 66 [(0, .ref (E.2.1 62)), (1, .int v1), (2, .int v2), (4, .int v4), (5, .int s.1)] [] s.2 J) (fun s y h hl hr => ?_)
  have K66_0 : ∀ x : gM, y = .inr x → (G z 105 [(0, .ref (E.2.1 62)), (1, .int v1), (2, .int v2), (4, .int v4)] [] x J) := fun x q => by have q2 := hr _ q; subst q2; exact X0
  refine g_iload F 4 dX9_takesKey_66 rfl ?_
  refine g_iload F 3 dX9_takesKey_68 rfl ?_
  refine u_icmp_le (tgt := 105) F dX9_takesKey_70 (by decide) h (fun h => ?_) (fun h => ?_)
  · obtain rfl := Option.some.inj h
    refine g_sub (Ln := [(0, .ref (E.2.1 62)), (1, .int v1), (2, .int v2), (4, .int v4)]) [0, 1, 2, 3] rfl ?_
    exact K66_0 s.2 rfl
  · refine g_aload_n F 0 dX9_takesKey_73 rfl rfl ?_
    refine g_getr (j := 21) (nn := 76) F s62 rfl rfl uX9 (by decide) q842 dX9_takesKey_74 ?_
    refine g_bipush (v := 12) F dX9_takesKey_77 (by decide) ?_
    refine g_iload_n F 1 dX9_takesKey_79 rfl rfl ?_
    refine g_imul (v := (12 : Int32) * v1) F dX9_takesKey_80 rfl ?_
    refine g_iload F 4 dX9_takesKey_81 rfl ?_
    refine g_iadd (v := ((12 : Int32) * v1) + s.1) F dX9_takesKey_83 rfl ?_
    refine g_aload_n F 0 dX9_takesKey_84 rfl rfl ?_
    refine g_getr (j := 21) (nn := 76) F s62 rfl rfl uX9 (by decide) q842 dX9_takesKey_85 ?_
    refine g_bipush (v := 12) F dX9_takesKey_88 (by decide) ?_
    refine g_iload_n F 1 dX9_takesKey_90 rfl rfl ?_
    refine g_imul (v := (12 : Int32) * v1) F dX9_takesKey_91 rfl ?_
    refine g_iload F 4 dX9_takesKey_92 rfl ?_
    refine g_iadd (v := ((12 : Int32) * v1) + s.1) F dX9_takesKey_94 rfl ?_
    refine g_iconst (v := 1) F dX9_takesKey_95 (by decide) ?_
    refine g_isub (v := (((12 : Int32) * v1) + s.1) - 1) F dX9_takesKey_96 rfl ?_
    refine u_rI F s76 (by decide) dX9_takesKey_97 h (fun u4 h => ?_)
    refine u_wI F s76 (by decide) dX9_takesKey_98 h (fun I5 h => ?_)
    refine g_iinc (v := s.1 + (-1)) (Ln := [(5, .int (s.1 + (-1))), (0, .ref (E.2.1 62)), (1, .int v1), (2, .int v2), (4, .int v4)]) F 4 dX9_takesKey_99 rfl (add_c (by decide)) (by decide) rfl ?_
    refine g_goto (tgt := 66) F dX9_takesKey_102 (by decide) ?_
    obtain rfl := Option.some.inj h
    refine g_sub (Ln := [(0, .ref (E.2.1 62)), (1, .int v1), (2, .int v2), (4, .int v4), (5, .int (s.1 + (-1)))]) [1, 2, 3, 4, 0] rfl ?_
    exact hl (s.1 + (-1), I5) rfl
noncomputable def bX9_takesKey_63 (v1 : Int32) (v2 : Int32) (v3 : Int32) (v4 : Int32) (I : gM) : Option (gM) :=
  (lX9_takesKey_66 v1 v4 (v3, I)).bind fun w6 =>
  (wI w6 76 192 (((12 : Int32) * v1) + v4) v2).bind fun I7 =>
  (rI 16 (I7 77) v1).bind fun u8 =>
  (wI I7 77 16 v1 (u8 + 1)).bind fun I9 =>
  some I9
set_option maxRecDepth 100000 in
set_option maxHeartbeats 4000000 in
theorem wbX9_takesKey_63 {z : gZ} {E : gE} {bk : Nat} (F : Fx z sh E "LeapJoinModel" cX9_takesKey (gR 0) 6) (B : bZ z bk) (hE : gDist sh E) (v1 : Int32) (v2 : Int32) (v3 : Int32) (v4 : Int32) (I : gM) (J : gN) {y : gM} (h : bX9_takesKey_63 v1 v2 v3 v4 I = some y) (e : Fe z sh E none (fun r1 I1 J1 => r1 = none ∧ I1 = y ∧ J1 = J)) : G z 63 [(0, .ref (E.2.1 62)), (1, .int v1), (2, .int v2), (3, .int v3), (4, .int v4)] [] I J := by
  unfold bX9_takesKey_63 at h
  refine g_iload_n F 3 dX9_takesKey_63 rfl rfl ?_
  refine g_istore (Ln := [(5, .int v3), (0, .ref (E.2.1 62)), (1, .int v1), (2, .int v2), (3, .int v3), (4, .int v4)]) F dX9_takesKey_64 (by decide) rfl ?_
  obtain ⟨w6, ew6, h⟩ := ob h
  refine g_sub (Ln := [(0, .ref (E.2.1 62)), (1, .int v1), (2, .int v2), (4, .int v4), (5, .int v3)]) [1, 2, 3, 5, 0] rfl ?_
  refine wlX9_takesKey_66 F B hE v1 v2 v4 J _ ew6 ?_
  refine g_aload_n F 0 dX9_takesKey_105 rfl rfl ?_
  refine g_getr (j := 21) (nn := 76) F s62 rfl rfl uX9 (by decide) q842 dX9_takesKey_106 ?_
  refine g_bipush (v := 12) F dX9_takesKey_109 (by decide) ?_
  refine g_iload_n F 1 dX9_takesKey_111 rfl rfl ?_
  refine g_imul (v := (12 : Int32) * v1) F dX9_takesKey_112 rfl ?_
  refine g_iload F 3 dX9_takesKey_113 rfl ?_
  refine g_iadd (v := ((12 : Int32) * v1) + v4) F dX9_takesKey_115 rfl ?_
  refine g_iload_n F 2 dX9_takesKey_116 rfl rfl ?_
  refine u_wI F s76 (by decide) dX9_takesKey_117 h (fun I7 h => ?_)
  refine g_aload_n F 0 dX9_takesKey_118 rfl rfl ?_
  refine g_getr (j := 22) (nn := 77) F s62 rfl rfl uX9 (by decide) q843 dX9_takesKey_119 ?_
  refine g_iload_n F 1 dX9_takesKey_122 rfl rfl ?_
  refine g_dup2 F dX9_takesKey_123 rfl rfl ?_
  refine u_rI F s77 (by decide) dX9_takesKey_124 h (fun u8 h => ?_)
  refine g_iconst (v := 1) F dX9_takesKey_125 (by decide) ?_
  refine g_iadd (v := u8 + 1) F dX9_takesKey_126 rfl ?_
  refine u_wI F s77 (by decide) dX9_takesKey_127 h (fun I9 h => ?_)
  obtain rfl := Option.some.inj h
  exact g_vret F e dX9_takesKey_128 ⟨rfl, rfl, rfl⟩
noncomputable def bX9_takesKey_39 (v1 : Int32) (v2 : Int32) (v3 : Int32) (v4 : Int32) (I : gM) : Option (gM) :=
  if v4 ≤ 0 then
    bX9_takesKey_63 v1 v2 v3 v4 I
  else
    (rI 192 (I 76) ((((12 : Int32) * v1) + v4) - 1)).bind fun u10 =>
    if u10 = v2 then
      some I
    else
      bX9_takesKey_63 v1 v2 v3 v4 I
set_option maxRecDepth 100000 in
set_option maxHeartbeats 4000000 in
theorem wbX9_takesKey_39 {z : gZ} {E : gE} {bk : Nat} (F : Fx z sh E "LeapJoinModel" cX9_takesKey (gR 0) 6) (B : bZ z bk) (hE : gDist sh E) (v1 : Int32) (v2 : Int32) (v3 : Int32) (v4 : Int32) (I : gM) (J : gN) {y : gM} (h : bX9_takesKey_39 v1 v2 v3 v4 I = some y) (e : Fe z sh E none (fun r1 I1 J1 => r1 = none ∧ I1 = y ∧ J1 = J)) : G z 39 [(0, .ref (E.2.1 62)), (1, .int v1), (2, .int v2), (3, .int v3), (4, .int v4)] [] I J := by
  unfold bX9_takesKey_39 at h
  refine g_iload F 4 dX9_takesKey_39 rfl ?_
  refine u_if_le (tgt := 63) F dX9_takesKey_41 (by decide) h (fun h => ?_) (fun h => ?_)
  · refine g_sub (Ln := [(0, .ref (E.2.1 62)), (1, .int v1), (2, .int v2), (3, .int v3), (4, .int v4)]) [0, 1, 2, 3, 4] rfl ?_
    exact wbX9_takesKey_63 F B hE v1 v2 v3 v4 I J h e
  · refine g_aload_n F 0 dX9_takesKey_44 rfl rfl ?_
    refine g_getr (j := 21) (nn := 76) F s62 rfl rfl uX9 (by decide) q842 dX9_takesKey_45 ?_
    refine g_bipush (v := 12) F dX9_takesKey_48 (by decide) ?_
    refine g_iload_n F 1 dX9_takesKey_50 rfl rfl ?_
    refine g_imul (v := (12 : Int32) * v1) F dX9_takesKey_51 rfl ?_
    refine g_iload F 4 dX9_takesKey_52 rfl ?_
    refine g_iadd (v := ((12 : Int32) * v1) + v4) F dX9_takesKey_54 rfl ?_
    refine g_iconst (v := 1) F dX9_takesKey_55 (by decide) ?_
    refine g_isub (v := (((12 : Int32) * v1) + v4) - 1) F dX9_takesKey_56 rfl ?_
    refine u_rI F s76 (by decide) dX9_takesKey_57 h (fun u10 h => ?_)
    refine g_iload_n F 2 dX9_takesKey_58 rfl rfl ?_
    refine u_icmp_ne (tgt := 63) F dX9_takesKey_59 (by decide) h (fun h => ?_) (fun h => ?_)
    · obtain rfl := Option.some.inj h
      exact g_vret F e dX9_takesKey_62 ⟨rfl, rfl, rfl⟩
    · refine g_sub (Ln := [(0, .ref (E.2.1 62)), (1, .int v1), (2, .int v2), (3, .int v3), (4, .int v4)]) [0, 1, 2, 3, 4] rfl ?_
      exact wbX9_takesKey_63 F B hE v1 v2 v3 v4 I J h e
noncomputable def fX9_takesKey (v1 : Int32) (v2 : Int32) (I : gM) : Option (gM) :=
  (rI 16 (I 77) v1).bind fun u1 =>
  (lX9_takesKey_10 v1 v2 I u1).bind fun w3 =>
  bX9_takesKey_39 v1 v2 u1 w3 I
set_option maxRecDepth 100000 in
set_option maxHeartbeats 4000000 in
theorem wX9_takesKey (l : Launch) (E : gE) (hE : gDist sh E) (bk : Nat) (v1 : Int32) (v2 : Int32) (I : gM) (J : gN) {r : gM} (h : fX9_takesKey v1 v2 I = some r) : Cu l sh E bk yX9_takesKey cX9_takesKey 6 none (gR 0) [.ref (E.2.1 62), .int v1, .int v2] I J (fun r1 I1 J1 => r1 = none ∧ I1 = r ∧ J1 = J) := by
  refine Cu.of "LeapJoinModel" rfl hE (by decide) (Nat.le_of_ble_eq_true rfl) (fun z F B e hl => ?_)
  subst hl
  unfold fX9_takesKey at h
  refine g_aload_n F 0 dX9_takesKey_0 rfl rfl ?_
  refine g_getr (j := 22) (nn := 77) F s62 rfl rfl uX9 (by decide) q843 dX9_takesKey_1 ?_
  refine g_iload_n F 1 dX9_takesKey_4 rfl rfl ?_
  refine u_rI F s77 (by decide) dX9_takesKey_5 h (fun u1 h => ?_)
  refine g_istore_n (Ln := [(3, .int u1), (0, .ref (E.2.1 62)), (1, .int v1), (2, .int v2)]) F dX9_takesKey_6 rfl (by decide) rfl ?_
  refine g_iload_n F 0 dX9_takesKey_7 rfl rfl ?_
  refine g_istore (Ln := [(4, .int u1), (3, .int u1), (0, .ref (E.2.1 62)), (1, .int v1), (2, .int v2)]) F dX9_takesKey_8 (by decide) rfl ?_
  obtain ⟨w3, ew3, h⟩ := ob h
  refine g_sub (Ln := [(0, .ref (E.2.1 62)), (1, .int v1), (2, .int v2), (3, .int u1), (4, .int u1)]) [2, 3, 4, 1, 0] rfl ?_
  refine wlX9_takesKey_10 F B hE v1 v2 u1 I J _ ew3 ?_
  refine g_sub (Ln := [(0, .ref (E.2.1 62)), (1, .int v1), (2, .int v2), (3, .int u1), (4, .int w3)]) [0, 1, 2, 3, 4] rfl ?_
  exact wbX9_takesKey_39 F B hE v1 v2 u1 w3 I J h e
theorem DX9_isIn_0 : dAre cX9_isIn [(0, .aload_n 0, 1), (1, .iload_n 1, 1), (2, .invokevirtual 176, 3), (5, .ifCond .eq 22, 3), (8, .aload_n 0, 1), (9, .iload_n 1, 1), (10, .aload_n 0, 1), (11, .getfield 43, 3), (14, .iload_n 2, 1), (15, .iaload, 1), (16, .invokevirtual 223, 3), (19, .iconst (-1), 1), (20, .if_icmp .eq 7, 3), (23, .iconst 1, 1), (24, .goto 4, 3), (27, .iconst 0, 1)] := dAre0 (by decide +kernel)
theorem dX9_isIn_0 : decode cX9_isIn 0 = .ok (.aload_n 0, 1) := DX9_isIn_0.1
theorem dX9_isIn_1 : decode cX9_isIn 1 = .ok (.iload_n 1, 1) := DX9_isIn_0.2.1
theorem dX9_isIn_2 : decode cX9_isIn 2 = .ok (.invokevirtual 176, 3) := DX9_isIn_0.2.2.1
theorem dX9_isIn_5 : decode cX9_isIn 5 = .ok (.ifCond .eq 22, 3) := DX9_isIn_0.2.2.2.1
theorem dX9_isIn_8 : decode cX9_isIn 8 = .ok (.aload_n 0, 1) := DX9_isIn_0.2.2.2.2.1
theorem dX9_isIn_9 : decode cX9_isIn 9 = .ok (.iload_n 1, 1) := DX9_isIn_0.2.2.2.2.2.1
theorem dX9_isIn_10 : decode cX9_isIn 10 = .ok (.aload_n 0, 1) := DX9_isIn_0.2.2.2.2.2.2.1
theorem dX9_isIn_11 : decode cX9_isIn 11 = .ok (.getfield 43, 3) := DX9_isIn_0.2.2.2.2.2.2.2.1
theorem dX9_isIn_14 : decode cX9_isIn 14 = .ok (.iload_n 2, 1) := DX9_isIn_0.2.2.2.2.2.2.2.2.1
theorem dX9_isIn_15 : decode cX9_isIn 15 = .ok (.iaload, 1) := DX9_isIn_0.2.2.2.2.2.2.2.2.2.1
theorem dX9_isIn_16 : decode cX9_isIn 16 = .ok (.invokevirtual 223, 3) := DX9_isIn_0.2.2.2.2.2.2.2.2.2.2.1
theorem dX9_isIn_19 : decode cX9_isIn 19 = .ok (.iconst (-1), 1) := DX9_isIn_0.2.2.2.2.2.2.2.2.2.2.2.1
theorem dX9_isIn_20 : decode cX9_isIn 20 = .ok (.if_icmp .eq 7, 3) := DX9_isIn_0.2.2.2.2.2.2.2.2.2.2.2.2.1
theorem dX9_isIn_23 : decode cX9_isIn 23 = .ok (.iconst 1, 1) := DX9_isIn_0.2.2.2.2.2.2.2.2.2.2.2.2.2.1
theorem dX9_isIn_24 : decode cX9_isIn 24 = .ok (.goto 4, 3) := DX9_isIn_0.2.2.2.2.2.2.2.2.2.2.2.2.2.2.1
theorem dX9_isIn_27 : decode cX9_isIn 27 = .ok (.iconst 0, 1) := DX9_isIn_0.2.2.2.2.2.2.2.2.2.2.2.2.2.2.2.1
theorem dX9_isIn_28 : decode cX9_isIn 28 = .ok (.ireturn, 1) := by decide +kernel
theorem mX9_isIn : gMv yX9_isIn cX9_isIn 3 (some .boolean) RX9 2 := ⟨q1077, q1424, q10, q1078, rfl, by decide, by decide, by decide +kernel⟩
noncomputable def fX9_isIn (v1 : Int32) (v2 : Int32) (I : gM) : Option (Int32) :=
  (fX9_isUsed v1 I).bind fun r1 =>
  if r1 = 0 then
    some (0 : Int32)
  else
    (rI 4 (I 74) v2).bind fun u2 =>
    (fX9_columnOf v1 u2 I).bind fun r3 =>
    if r3 = (-1) then
      some (0 : Int32)
    else
      some (1 : Int32)
set_option maxRecDepth 100000 in
set_option maxHeartbeats 4000000 in
theorem wX9_isIn (l : Launch) (E : gE) (hE : gDist sh E) (bk : Nat) (v1 : Int32) (v2 : Int32) (I : gM) (J : gN) {r : Int32} (h : fX9_isIn v1 v2 I = some r) : Cu l sh E bk yX9_isIn cX9_isIn 3 (some .boolean) (gR 2) [.ref (E.2.1 62), .int v1, .int v2] I J (fun r1 I1 J1 => r1 = some (.int r) ∧ I1 = I ∧ J1 = J) := by
  refine Cu.of "LeapJoinModel" rfl hE (by decide) (Nat.le_of_ble_eq_true rfl) (fun z F B e hl => ?_)
  subst hl
  unfold fX9_isIn at h
  refine g_aload_n F 0 dX9_isIn_0 rfl rfl ?_
  refine g_iload_n F 1 dX9_isIn_1 rfl rfl ?_
  refine u_callV (k := 62) (As := [.int v1]) (rest := []) (sn := fun r1 => [.int r1]) F B (fun _ => wX9_isUsed (zl z) E hE bk v1 I J) mX9_isUsed q1043 rfl s62 rfl rfl rfl (Nat.le_of_ble_eq_true rfl) dX9_isIn_2 (fun _ => rfl) h (fun r1 h => ?_)
  refine u_if_eq (tgt := 27) F dX9_isIn_5 (by decide) h (fun h => ?_) (fun h => ?_)
  · refine g_iconst (v := 0) F dX9_isIn_27 (by decide) ?_
    obtain rfl := Option.some.inj h
    exact g_zret F rfl e dX9_isIn_28 ⟨rfl, rfl, rfl⟩
  · refine g_aload_n F 0 dX9_isIn_8 rfl rfl ?_
    refine g_iload_n F 1 dX9_isIn_9 rfl rfl ?_
    refine g_aload_n F 0 dX9_isIn_10 rfl rfl ?_
    refine g_getr (j := 18) (nn := 74) F s62 rfl rfl uX9 (by decide) q839 dX9_isIn_11 ?_
    refine g_iload_n F 2 dX9_isIn_14 rfl rfl ?_
    refine u_rI F s74 (by decide) dX9_isIn_15 h (fun u2 h => ?_)
    refine u_callV (k := 62) (As := [.int v1, .int u2]) (rest := []) (sn := fun r3 => [.int r3]) F B (fun _ => wX9_columnOf (zl z) E hE bk v1 u2 I J) mX9_columnOf q1079 rfl s62 rfl rfl rfl (Nat.le_of_ble_eq_true rfl) dX9_isIn_16 (fun _ => rfl) h (fun r3 h => ?_)
    refine g_iconst (v := (-1)) F dX9_isIn_19 (by decide) ?_
    refine u_icmp_eq (tgt := 27) F dX9_isIn_20 (by decide) h (fun h => ?_) (fun h => ?_)
    · refine g_iconst (v := 0) F dX9_isIn_27 (by decide) ?_
      obtain rfl := Option.some.inj h
      exact g_zret F rfl e dX9_isIn_28 ⟨rfl, rfl, rfl⟩
    · refine g_iconst (v := 1) F dX9_isIn_23 (by decide) ?_
      refine g_goto (tgt := 28) F dX9_isIn_24 (by decide) ?_
      obtain rfl := Option.some.inj h
      exact g_zret F rfl e dX9_isIn_28 ⟨rfl, rfl, rfl⟩
theorem DX9_laysKeys_0 : dAre cX9_laysKeys [(0, .iconst 1, 1), (1, .istore_n 2, 1), (2, .iconst 0, 1), (3, .istore_n 3, 1), (4, .iload_n 3, 1), (5, .aload_n 0, 1), (6, .getfield 173, 3), (9, .if_icmp .ge 124, 3), (12, .iconst 4, 1), (13, .iload_n 1, 1), (14, .imul, 1), (15, .iload_n 3, 1), (16, .iadd, 1), (17, .istore 4, 2), (19, .aload_n 0, 1), (20, .getfield 52, 3)] := dAre0 (by decide +kernel)
theorem dX9_laysKeys_0 : decode cX9_laysKeys 0 = .ok (.iconst 1, 1) := DX9_laysKeys_0.1
theorem dX9_laysKeys_1 : decode cX9_laysKeys 1 = .ok (.istore_n 2, 1) := DX9_laysKeys_0.2.1
theorem dX9_laysKeys_2 : decode cX9_laysKeys 2 = .ok (.iconst 0, 1) := DX9_laysKeys_0.2.2.1
theorem dX9_laysKeys_3 : decode cX9_laysKeys 3 = .ok (.istore_n 3, 1) := DX9_laysKeys_0.2.2.2.1
theorem dX9_laysKeys_4 : decode cX9_laysKeys 4 = .ok (.iload_n 3, 1) := DX9_laysKeys_0.2.2.2.2.1
theorem dX9_laysKeys_5 : decode cX9_laysKeys 5 = .ok (.aload_n 0, 1) := DX9_laysKeys_0.2.2.2.2.2.1
theorem dX9_laysKeys_6 : decode cX9_laysKeys 6 = .ok (.getfield 173, 3) := DX9_laysKeys_0.2.2.2.2.2.2.1
theorem dX9_laysKeys_9 : decode cX9_laysKeys 9 = .ok (.if_icmp .ge 124, 3) := DX9_laysKeys_0.2.2.2.2.2.2.2.1
theorem dX9_laysKeys_12 : decode cX9_laysKeys 12 = .ok (.iconst 4, 1) := DX9_laysKeys_0.2.2.2.2.2.2.2.2.1
theorem dX9_laysKeys_13 : decode cX9_laysKeys 13 = .ok (.iload_n 1, 1) := DX9_laysKeys_0.2.2.2.2.2.2.2.2.2.1
theorem dX9_laysKeys_14 : decode cX9_laysKeys 14 = .ok (.imul, 1) := DX9_laysKeys_0.2.2.2.2.2.2.2.2.2.2.1
theorem dX9_laysKeys_15 : decode cX9_laysKeys 15 = .ok (.iload_n 3, 1) := DX9_laysKeys_0.2.2.2.2.2.2.2.2.2.2.2.1
theorem dX9_laysKeys_16 : decode cX9_laysKeys 16 = .ok (.iadd, 1) := DX9_laysKeys_0.2.2.2.2.2.2.2.2.2.2.2.2.1
theorem dX9_laysKeys_17 : decode cX9_laysKeys 17 = .ok (.istore 4, 2) := DX9_laysKeys_0.2.2.2.2.2.2.2.2.2.2.2.2.2.1
theorem dX9_laysKeys_19 : decode cX9_laysKeys 19 = .ok (.aload_n 0, 1) := DX9_laysKeys_0.2.2.2.2.2.2.2.2.2.2.2.2.2.2.1
theorem dX9_laysKeys_20 : decode cX9_laysKeys 20 = .ok (.getfield 52, 3) := DX9_laysKeys_0.2.2.2.2.2.2.2.2.2.2.2.2.2.2.2.1
theorem DX9_laysKeys_23 : dAre cX9_laysKeys [(23, .iload 4, 2), (25, .iconst 0, 1), (26, .iastore, 1), (27, .aload_n 0, 1), (28, .getfield 55, 3), (31, .iload 4, 2), (33, .iconst 0, 1), (34, .iastore, 1), (35, .aload_n 0, 1), (36, .iload_n 3, 1), (37, .iload_n 1, 1), (38, .invokevirtual 226, 3), (41, .ifCond .eq 86, 3), (44, .aload_n 0, 1), (45, .iload_n 3, 1), (46, .aload_n 0, 1)] := dAre0 (by decide +kernel)
theorem dX9_laysKeys_23 : decode cX9_laysKeys 23 = .ok (.iload 4, 2) := DX9_laysKeys_23.1
theorem dX9_laysKeys_25 : decode cX9_laysKeys 25 = .ok (.iconst 0, 1) := DX9_laysKeys_23.2.1
theorem dX9_laysKeys_26 : decode cX9_laysKeys 26 = .ok (.iastore, 1) := DX9_laysKeys_23.2.2.1
theorem dX9_laysKeys_27 : decode cX9_laysKeys 27 = .ok (.aload_n 0, 1) := DX9_laysKeys_23.2.2.2.1
theorem dX9_laysKeys_28 : decode cX9_laysKeys 28 = .ok (.getfield 55, 3) := DX9_laysKeys_23.2.2.2.2.1
theorem dX9_laysKeys_31 : decode cX9_laysKeys 31 = .ok (.iload 4, 2) := DX9_laysKeys_23.2.2.2.2.2.1
theorem dX9_laysKeys_33 : decode cX9_laysKeys 33 = .ok (.iconst 0, 1) := DX9_laysKeys_23.2.2.2.2.2.2.1
theorem dX9_laysKeys_34 : decode cX9_laysKeys 34 = .ok (.iastore, 1) := DX9_laysKeys_23.2.2.2.2.2.2.2.1
theorem dX9_laysKeys_35 : decode cX9_laysKeys 35 = .ok (.aload_n 0, 1) := DX9_laysKeys_23.2.2.2.2.2.2.2.2.1
theorem dX9_laysKeys_36 : decode cX9_laysKeys 36 = .ok (.iload_n 3, 1) := DX9_laysKeys_23.2.2.2.2.2.2.2.2.2.1
theorem dX9_laysKeys_37 : decode cX9_laysKeys 37 = .ok (.iload_n 1, 1) := DX9_laysKeys_23.2.2.2.2.2.2.2.2.2.2.1
theorem dX9_laysKeys_38 : decode cX9_laysKeys 38 = .ok (.invokevirtual 226, 3) := DX9_laysKeys_23.2.2.2.2.2.2.2.2.2.2.2.1
theorem dX9_laysKeys_41 : decode cX9_laysKeys 41 = .ok (.ifCond .eq 86, 3) := DX9_laysKeys_23.2.2.2.2.2.2.2.2.2.2.2.2.1
theorem dX9_laysKeys_44 : decode cX9_laysKeys 44 = .ok (.aload_n 0, 1) := DX9_laysKeys_23.2.2.2.2.2.2.2.2.2.2.2.2.2.1
theorem dX9_laysKeys_45 : decode cX9_laysKeys 45 = .ok (.iload_n 3, 1) := DX9_laysKeys_23.2.2.2.2.2.2.2.2.2.2.2.2.2.2.1
theorem dX9_laysKeys_46 : decode cX9_laysKeys 46 = .ok (.aload_n 0, 1) := DX9_laysKeys_23.2.2.2.2.2.2.2.2.2.2.2.2.2.2.2.1
theorem DX9_laysKeys_47 : dAre cX9_laysKeys [(47, .getfield 43, 3), (50, .iload_n 1, 1), (51, .iaload, 1), (52, .invokevirtual 223, 3), (55, .istore 5, 2), (57, .iconst 0, 1), (58, .istore 6, 2), (60, .iload 6, 2), (62, .aload_n 0, 1), (63, .iload_n 3, 1), (64, .invokevirtual 186, 3), (67, .if_icmp .ge 40, 3), (70, .aload_n 0, 1), (71, .iload_n 3, 1), (72, .iload 6, 2), (74, .iload_n 1, 1)] := dAre0 (by decide +kernel)
theorem dX9_laysKeys_47 : decode cX9_laysKeys 47 = .ok (.getfield 43, 3) := DX9_laysKeys_47.1
theorem dX9_laysKeys_50 : decode cX9_laysKeys 50 = .ok (.iload_n 1, 1) := DX9_laysKeys_47.2.1
theorem dX9_laysKeys_51 : decode cX9_laysKeys 51 = .ok (.iaload, 1) := DX9_laysKeys_47.2.2.1
theorem dX9_laysKeys_52 : decode cX9_laysKeys 52 = .ok (.invokevirtual 223, 3) := DX9_laysKeys_47.2.2.2.1
theorem dX9_laysKeys_55 : decode cX9_laysKeys 55 = .ok (.istore 5, 2) := DX9_laysKeys_47.2.2.2.2.1
theorem dX9_laysKeys_57 : decode cX9_laysKeys 57 = .ok (.iconst 0, 1) := DX9_laysKeys_47.2.2.2.2.2.1
theorem dX9_laysKeys_58 : decode cX9_laysKeys 58 = .ok (.istore 6, 2) := DX9_laysKeys_47.2.2.2.2.2.2.1
theorem dX9_laysKeys_60 : decode cX9_laysKeys 60 = .ok (.iload 6, 2) := DX9_laysKeys_47.2.2.2.2.2.2.2.1
theorem dX9_laysKeys_62 : decode cX9_laysKeys 62 = .ok (.aload_n 0, 1) := DX9_laysKeys_47.2.2.2.2.2.2.2.2.1
theorem dX9_laysKeys_63 : decode cX9_laysKeys 63 = .ok (.iload_n 3, 1) := DX9_laysKeys_47.2.2.2.2.2.2.2.2.2.1
theorem dX9_laysKeys_64 : decode cX9_laysKeys 64 = .ok (.invokevirtual 186, 3) := DX9_laysKeys_47.2.2.2.2.2.2.2.2.2.2.1
theorem dX9_laysKeys_67 : decode cX9_laysKeys 67 = .ok (.if_icmp .ge 40, 3) := DX9_laysKeys_47.2.2.2.2.2.2.2.2.2.2.2.1
theorem dX9_laysKeys_70 : decode cX9_laysKeys 70 = .ok (.aload_n 0, 1) := DX9_laysKeys_47.2.2.2.2.2.2.2.2.2.2.2.2.1
theorem dX9_laysKeys_71 : decode cX9_laysKeys 71 = .ok (.iload_n 3, 1) := DX9_laysKeys_47.2.2.2.2.2.2.2.2.2.2.2.2.2.1
theorem dX9_laysKeys_72 : decode cX9_laysKeys 72 = .ok (.iload 6, 2) := DX9_laysKeys_47.2.2.2.2.2.2.2.2.2.2.2.2.2.2.1
theorem dX9_laysKeys_74 : decode cX9_laysKeys 74 = .ok (.iload_n 1, 1) := DX9_laysKeys_47.2.2.2.2.2.2.2.2.2.2.2.2.2.2.2.1
theorem DX9_laysKeys_75 : dAre cX9_laysKeys [(75, .invokevirtual 229, 3), (78, .ifCond .eq 23, 3), (81, .aload_n 0, 1), (82, .iload 4, 2), (84, .aload_n 0, 1), (85, .getfield 31, 3), (88, .iload_n 3, 1), (89, .iload 6, 2), (91, .invokestatic 182, 3), (94, .iload 5, 2), (96, .iadd, 1), (97, .iaload, 1), (98, .invokevirtual 232, 3), (101, .iinc 6 1, 3), (104, .goto (-44), 3), (107, .iload_n 2, 1)] := dAre0 (by decide +kernel)
theorem dX9_laysKeys_75 : decode cX9_laysKeys 75 = .ok (.invokevirtual 229, 3) := DX9_laysKeys_75.1
theorem dX9_laysKeys_78 : decode cX9_laysKeys 78 = .ok (.ifCond .eq 23, 3) := DX9_laysKeys_75.2.1
theorem dX9_laysKeys_81 : decode cX9_laysKeys 81 = .ok (.aload_n 0, 1) := DX9_laysKeys_75.2.2.1
theorem dX9_laysKeys_82 : decode cX9_laysKeys 82 = .ok (.iload 4, 2) := DX9_laysKeys_75.2.2.2.1
theorem dX9_laysKeys_84 : decode cX9_laysKeys 84 = .ok (.aload_n 0, 1) := DX9_laysKeys_75.2.2.2.2.1
theorem dX9_laysKeys_85 : decode cX9_laysKeys 85 = .ok (.getfield 31, 3) := DX9_laysKeys_75.2.2.2.2.2.1
theorem dX9_laysKeys_88 : decode cX9_laysKeys 88 = .ok (.iload_n 3, 1) := DX9_laysKeys_75.2.2.2.2.2.2.1
theorem dX9_laysKeys_89 : decode cX9_laysKeys 89 = .ok (.iload 6, 2) := DX9_laysKeys_75.2.2.2.2.2.2.2.1
theorem dX9_laysKeys_91 : decode cX9_laysKeys 91 = .ok (.invokestatic 182, 3) := DX9_laysKeys_75.2.2.2.2.2.2.2.2.1
theorem dX9_laysKeys_94 : decode cX9_laysKeys 94 = .ok (.iload 5, 2) := DX9_laysKeys_75.2.2.2.2.2.2.2.2.2.1
theorem dX9_laysKeys_96 : decode cX9_laysKeys 96 = .ok (.iadd, 1) := DX9_laysKeys_75.2.2.2.2.2.2.2.2.2.2.1
theorem dX9_laysKeys_97 : decode cX9_laysKeys 97 = .ok (.iaload, 1) := DX9_laysKeys_75.2.2.2.2.2.2.2.2.2.2.2.1
theorem dX9_laysKeys_98 : decode cX9_laysKeys 98 = .ok (.invokevirtual 232, 3) := DX9_laysKeys_75.2.2.2.2.2.2.2.2.2.2.2.2.1
theorem dX9_laysKeys_101 : decode cX9_laysKeys 101 = .ok (.iinc 6 1, 3) := DX9_laysKeys_75.2.2.2.2.2.2.2.2.2.2.2.2.2.1
theorem dX9_laysKeys_104 : decode cX9_laysKeys 104 = .ok (.goto (-44), 3) := DX9_laysKeys_75.2.2.2.2.2.2.2.2.2.2.2.2.2.2.1
theorem dX9_laysKeys_107 : decode cX9_laysKeys 107 = .ok (.iload_n 2, 1) := DX9_laysKeys_75.2.2.2.2.2.2.2.2.2.2.2.2.2.2.2.1
theorem DX9_laysKeys_108 : dAre cX9_laysKeys [(108, .ifCond .eq 17, 3), (111, .aload_n 0, 1), (112, .getfield 52, 3), (115, .iload 4, 2), (117, .iaload, 1), (118, .ifCond .le 7, 3), (121, .iconst 1, 1), (122, .goto 4, 3), (125, .iconst 0, 1), (126, .istore_n 2, 1), (127, .iinc 3 1, 3), (130, .goto (-126), 3), (133, .iload_n 2, 1), (134, .ireturn, 1)] := dAre0 (by decide +kernel)
theorem dX9_laysKeys_108 : decode cX9_laysKeys 108 = .ok (.ifCond .eq 17, 3) := DX9_laysKeys_108.1
theorem dX9_laysKeys_111 : decode cX9_laysKeys 111 = .ok (.aload_n 0, 1) := DX9_laysKeys_108.2.1
theorem dX9_laysKeys_112 : decode cX9_laysKeys 112 = .ok (.getfield 52, 3) := DX9_laysKeys_108.2.2.1
theorem dX9_laysKeys_115 : decode cX9_laysKeys 115 = .ok (.iload 4, 2) := DX9_laysKeys_108.2.2.2.1
theorem dX9_laysKeys_117 : decode cX9_laysKeys 117 = .ok (.iaload, 1) := DX9_laysKeys_108.2.2.2.2.1
theorem dX9_laysKeys_118 : decode cX9_laysKeys 118 = .ok (.ifCond .le 7, 3) := DX9_laysKeys_108.2.2.2.2.2.1
theorem dX9_laysKeys_121 : decode cX9_laysKeys 121 = .ok (.iconst 1, 1) := DX9_laysKeys_108.2.2.2.2.2.2.1
theorem dX9_laysKeys_122 : decode cX9_laysKeys 122 = .ok (.goto 4, 3) := DX9_laysKeys_108.2.2.2.2.2.2.2.1
theorem dX9_laysKeys_125 : decode cX9_laysKeys 125 = .ok (.iconst 0, 1) := DX9_laysKeys_108.2.2.2.2.2.2.2.2.1
theorem dX9_laysKeys_126 : decode cX9_laysKeys 126 = .ok (.istore_n 2, 1) := DX9_laysKeys_108.2.2.2.2.2.2.2.2.2.1
theorem dX9_laysKeys_127 : decode cX9_laysKeys 127 = .ok (.iinc 3 1, 3) := DX9_laysKeys_108.2.2.2.2.2.2.2.2.2.2.1
theorem dX9_laysKeys_130 : decode cX9_laysKeys 130 = .ok (.goto (-126), 3) := DX9_laysKeys_108.2.2.2.2.2.2.2.2.2.2.2.1
theorem dX9_laysKeys_133 : decode cX9_laysKeys 133 = .ok (.iload_n 2, 1) := DX9_laysKeys_108.2.2.2.2.2.2.2.2.2.2.2.2.1
theorem dX9_laysKeys_134 : decode cX9_laysKeys 134 = .ok (.ireturn, 1) := DX9_laysKeys_108.2.2.2.2.2.2.2.2.2.2.2.2.2.1
theorem mX9_laysKeys : gMv yX9_laysKeys cX9_laysKeys 7 (some .boolean) RX9 1 := ⟨q1074, q1423, q10, q1075, rfl, by decide, by decide, by decide +kernel⟩
noncomputable def bX9_laysKeys_127 (v2 : Int32) (v3 : Int32) (I : gM) : Option ((Int32 × Int32 × gM) ⊕ (Int32 × gM)) :=
  some (.inl (v2, v3 + 1, I))
set_option maxRecDepth 100000 in
set_option maxHeartbeats 4000000 in
theorem wbX9_laysKeys_127 {z : gZ} {E : gE} {bk : Nat} (F : Fx z sh E "LeapJoinModel" cX9_laysKeys (gR 3) 7) (B : bZ z bk) (hE : gDist sh E) (v1 : Int32) (v2 : Int32) (v3 : Int32) (I : gM) (J : gN) {y : (Int32 × Int32 × gM) ⊕ (Int32 × gM)} (h : bX9_laysKeys_127 v2 v3 I = some y) (hl : ∀ s' : Int32 × Int32 × gM, y = .inl s' → G z 4 [(0, .ref (E.2.1 62)), (1, .int v1), (2, .int (s'.1)), (3, .int (s'.2.1))] [] s'.2.2 J) (K4_0 : ∀ x : Int32 × gM, y = .inr x → G z 133 [(2, .int x.1)] [] x.2 J) : G z 127 [(0, .ref (E.2.1 62)), (1, .int v1), (2, .int v2), (3, .int v3)] [] I J := by
  unfold bX9_laysKeys_127 at h
  refine g_iinc (v := v3 + 1) (Ln := [(3, .int (v3 + 1)), (0, .ref (E.2.1 62)), (1, .int v1), (2, .int v2)]) F 3 dX9_laysKeys_127 rfl (add_c (by decide)) (by decide) rfl ?_
  refine g_goto (tgt := 4) F dX9_laysKeys_130 (by decide) ?_
  obtain rfl := Option.some.inj h
  refine g_sub (Ln := [(0, .ref (E.2.1 62)), (1, .int v1), (2, .int v2), (3, .int (v3 + 1))]) [1, 2, 3, 0] rfl ?_
  exact hl (v2, v3 + 1, I) rfl
noncomputable def bX9_laysKeys_101 (v6 : Int32) (I : gM) : Option ((Int32 × gM) ⊕ (gM)) :=
  some (.inl (v6 + 1, I))
set_option maxRecDepth 100000 in
set_option maxHeartbeats 4000000 in
theorem wbX9_laysKeys_101 {z : gZ} {E : gE} {bk : Nat} (F : Fx z sh E "LeapJoinModel" cX9_laysKeys (gR 3) 7) (B : bZ z bk) (hE : gDist sh E) (v1 : Int32) (v2 : Int32) (v3 : Int32) (v4 : Int32) (v5 : Int32) (v6 : Int32) (I : gM) (J : gN) {y : (Int32 × gM) ⊕ (gM)} (h : bX9_laysKeys_101 v6 I = some y) (hl : ∀ s' : Int32 × gM, y = .inl s' → G z 60 [(0, .ref (E.2.1 62)), (1, .int v1), (2, .int v2), (3, .int v3), (4, .int v4), (5, .int v5), (6, .int (s'.1))] [] s'.2 J) (K60_0 : ∀ x : gM, y = .inr x → G z 107 [(0, .ref (E.2.1 62)), (1, .int v1), (2, .int v2), (3, .int v3), (4, .int v4)] [] x J) : G z 101 [(0, .ref (E.2.1 62)), (1, .int v1), (2, .int v2), (3, .int v3), (4, .int v4), (5, .int v5), (6, .int v6)] [] I J := by
  unfold bX9_laysKeys_101 at h
  refine g_iinc (v := v6 + 1) (Ln := [(6, .int (v6 + 1)), (0, .ref (E.2.1 62)), (1, .int v1), (2, .int v2), (3, .int v3), (4, .int v4), (5, .int v5)]) F 6 dX9_laysKeys_101 rfl (add_c (by decide)) (by decide) rfl ?_
  refine g_goto (tgt := 60) F dX9_laysKeys_104 (by decide) ?_
  obtain rfl := Option.some.inj h
  refine g_sub (Ln := [(0, .ref (E.2.1 62)), (1, .int v1), (2, .int v2), (3, .int v3), (4, .int v4), (5, .int v5), (6, .int (v6 + 1))]) [1, 2, 3, 4, 5, 6, 0] rfl ?_
  exact hl (v6 + 1, I) rfl
noncomputable def lX9_laysKeys_60 (v1 : Int32) (v3 : Int32) (v4 : Int32) (v5 : Int32) : (Int32 × gM) → Option (gM) :=
  itO fun s =>
    (fX9_many v3 s.2).bind fun r6 =>
    if r6 ≤ s.1 then
      some (.inr s.2)
    else
      (fX9_fits v3 s.1 v1 s.2).bind fun r7 =>
      if r7 = 0 then
        bX9_laysKeys_101 s.1 s.2
      else
        (fX9_rowAt v3 s.1).bind fun r8 =>
        (rI 331 (s.2 70) (r8 + v5)).bind fun u9 =>
        (fX9_takesKey v4 u9 s.2).bind fun r10 =>
        bX9_laysKeys_101 s.1 r10
set_option maxRecDepth 100000 in
set_option maxHeartbeats 4000000 in
theorem wlX9_laysKeys_60 {z : gZ} {E : gE} {bk : Nat} (F : Fx z sh E "LeapJoinModel" cX9_laysKeys (gR 3) 7) (B : bZ z bk) (hE : gDist sh E) (v1 : Int32) (v2 : Int32) (v3 : Int32) (v4 : Int32) (v5 : Int32) (J : gN) {r : gM} : ∀ s : Int32 × gM, lX9_laysKeys_60 v1 v3 v4 v5 s = some r → (G z 107 [(0, .ref (E.2.1 62)), (1, .int v1), (2, .int v2), (3, .int v3), (4, .int v4)] [] r J) → G z 60 [(0, .ref (E.2.1 62)), (1, .int v1), (2, .int v2), (3, .int v3), (4, .int v4), (5, .int v5), (6, .int s.1)] [] s.2 J := by
  intro s h X0
  unfold lX9_laysKeys_60 at h
  revert s
  refine itO_ind (P := fun s : Int32 × gM => G z 60 [(0, .ref (E.2.1 62)), (1, .int v1), (2, .int v2), (3, .int v3), (4, .int v4), (5, .int v5), (6, .int s.1)] [] s.2 J) (fun s y h hl hr => ?_)
  have K60_0 : ∀ x : gM, y = .inr x → (G z 107 [(0, .ref (E.2.1 62)), (1, .int v1), (2, .int v2), (3, .int v3), (4, .int v4)] [] x J) := fun x q => by have q2 := hr _ q; subst q2; exact X0
  refine g_iload F 6 dX9_laysKeys_60 rfl ?_
  refine g_aload_n F 0 dX9_laysKeys_62 rfl rfl ?_
  refine g_iload_n F 3 dX9_laysKeys_63 rfl rfl ?_
  refine u_callV (k := 62) (As := [.int v3]) (rest := [.int s.1]) (sn := fun r6 => [.int r6, .int s.1]) F B (fun _ => wX9_many (zl z) E hE bk v3 s.2 J) mX9_many q994 rfl s62 rfl rfl rfl (Nat.le_of_ble_eq_true rfl) dX9_laysKeys_64 (fun _ => rfl) h (fun r6 h => ?_)
  refine u_icmp_ge (tgt := 107) F dX9_laysKeys_67 (by decide) h (fun h => ?_) (fun h => ?_)
  · obtain rfl := Option.some.inj h
    refine g_sub (Ln := [(0, .ref (E.2.1 62)), (1, .int v1), (2, .int v2), (3, .int v3), (4, .int v4)]) [0, 1, 2, 3, 4] rfl ?_
    exact K60_0 s.2 rfl
  · refine g_aload_n F 0 dX9_laysKeys_70 rfl rfl ?_
    refine g_iload_n F 3 dX9_laysKeys_71 rfl rfl ?_
    refine g_iload F 6 dX9_laysKeys_72 rfl ?_
    refine g_iload_n F 1 dX9_laysKeys_74 rfl rfl ?_
    refine u_callV (k := 62) (As := [.int v3, .int s.1, .int v1]) (rest := []) (sn := fun r7 => [.int r7]) F B (fun _ => wX9_fits (zl z) E hE bk v3 s.1 v1 s.2 J) mX9_fits q1082 rfl s62 rfl rfl rfl (Nat.le_of_ble_eq_true rfl) dX9_laysKeys_75 (fun _ => rfl) h (fun r7 h => ?_)
    refine u_if_eq (tgt := 101) F dX9_laysKeys_78 (by decide) h (fun h => ?_) (fun h => ?_)
    · refine g_sub (Ln := [(0, .ref (E.2.1 62)), (1, .int v1), (2, .int v2), (3, .int v3), (4, .int v4), (5, .int v5), (6, .int s.1)]) [0, 1, 2, 3, 4, 5, 6] rfl ?_
      exact wbX9_laysKeys_101 F B hE v1 v2 v3 v4 v5 s.1 s.2 J h hl K60_0
    · refine g_aload_n F 0 dX9_laysKeys_81 rfl rfl ?_
      refine g_iload F 4 dX9_laysKeys_82 rfl ?_
      refine g_aload_n F 0 dX9_laysKeys_84 rfl rfl ?_
      refine g_getr (j := 13) (nn := 70) F s62 rfl rfl uX9 (by decide) q834 dX9_laysKeys_85 ?_
      refine g_iload_n F 3 dX9_laysKeys_88 rfl rfl ?_
      refine g_iload F 6 dX9_laysKeys_89 rfl ?_
      refine u_callS (As := [.int v3, .int s.1]) (rest := [.ref (E.2.1 70), .int v4, .ref (E.2.1 62)]) (sn := fun r8 => [.int r8, .ref (E.2.1 70), .int v4, .ref (E.2.1 62)]) F B (fun _ => wX9_rowAt (zl z) E hE bk v3 s.1 s.2 J) mX9_rowAt q1000 rfl rfl rfl (Nat.le_of_ble_eq_true rfl) dX9_laysKeys_91 (fun _ => rfl) h (fun r8 h => ?_)
      refine g_iload F 5 dX9_laysKeys_94 rfl ?_
      refine g_iadd (v := r8 + v5) F dX9_laysKeys_96 rfl ?_
      refine u_rI F s70 (by decide) dX9_laysKeys_97 h (fun u9 h => ?_)
      refine u_callV (k := 62) (As := [.int v4, .int u9]) (rest := []) (sn := fun _ => []) F B (fun _ => wX9_takesKey (zl z) E hE bk v4 u9 s.2 J) mX9_takesKey q1085 rfl s62 rfl rfl rfl (Nat.le_of_ble_eq_true rfl) dX9_laysKeys_98 (fun _ => rfl) h (fun r10 h => ?_)
      refine g_sub (Ln := [(0, .ref (E.2.1 62)), (1, .int v1), (2, .int v2), (3, .int v3), (4, .int v4), (5, .int v5), (6, .int s.1)]) [0, 1, 2, 3, 4, 5, 6] rfl ?_
      exact wbX9_laysKeys_101 F B hE v1 v2 v3 v4 v5 s.1 r10 J h hl K60_0
noncomputable def bX9_laysKeys_126 (v3 : Int32) (t0 : Int32) (I : gM) : Option ((Int32 × Int32 × gM) ⊕ (Int32 × gM)) :=
  bX9_laysKeys_127 t0 v3 I
set_option maxRecDepth 100000 in
set_option maxHeartbeats 4000000 in
theorem wbX9_laysKeys_126 {z : gZ} {E : gE} {bk : Nat} (F : Fx z sh E "LeapJoinModel" cX9_laysKeys (gR 3) 7) (B : bZ z bk) (hE : gDist sh E) (v1 : Int32) (v3 : Int32) (t0 : Int32) (I : gM) (J : gN) {y : (Int32 × Int32 × gM) ⊕ (Int32 × gM)} (h : bX9_laysKeys_126 v3 t0 I = some y) (hl : ∀ s' : Int32 × Int32 × gM, y = .inl s' → G z 4 [(0, .ref (E.2.1 62)), (1, .int v1), (2, .int (s'.1)), (3, .int (s'.2.1))] [] s'.2.2 J) (K4_0 : ∀ x : Int32 × gM, y = .inr x → G z 133 [(2, .int x.1)] [] x.2 J) : G z 126 [(0, .ref (E.2.1 62)), (1, .int v1), (3, .int v3)] [.int t0] I J := by
  unfold bX9_laysKeys_126 at h
  refine g_istore_n (Ln := [(2, .int t0), (0, .ref (E.2.1 62)), (1, .int v1), (3, .int v3)]) F dX9_laysKeys_126 rfl (by decide) rfl ?_
  refine g_sub (Ln := [(0, .ref (E.2.1 62)), (1, .int v1), (2, .int t0), (3, .int v3)]) [1, 2, 0, 3] rfl ?_
  exact wbX9_laysKeys_127 F B hE v1 t0 v3 I J h hl K4_0
noncomputable def bX9_laysKeys_125 (v3 : Int32) (I : gM) : Option ((Int32 × Int32 × gM) ⊕ (Int32 × gM)) :=
  bX9_laysKeys_126 v3 (0 : Int32) I
set_option maxRecDepth 100000 in
set_option maxHeartbeats 4000000 in
theorem wbX9_laysKeys_125 {z : gZ} {E : gE} {bk : Nat} (F : Fx z sh E "LeapJoinModel" cX9_laysKeys (gR 3) 7) (B : bZ z bk) (hE : gDist sh E) (v1 : Int32) (v3 : Int32) (I : gM) (J : gN) {y : (Int32 × Int32 × gM) ⊕ (Int32 × gM)} (h : bX9_laysKeys_125 v3 I = some y) (hl : ∀ s' : Int32 × Int32 × gM, y = .inl s' → G z 4 [(0, .ref (E.2.1 62)), (1, .int v1), (2, .int (s'.1)), (3, .int (s'.2.1))] [] s'.2.2 J) (K4_0 : ∀ x : Int32 × gM, y = .inr x → G z 133 [(2, .int x.1)] [] x.2 J) : G z 125 [(0, .ref (E.2.1 62)), (1, .int v1), (3, .int v3)] [] I J := by
  unfold bX9_laysKeys_125 at h
  refine g_iconst (v := 0) F dX9_laysKeys_125 (by decide) ?_
  refine g_sub (Ln := [(0, .ref (E.2.1 62)), (1, .int v1), (3, .int v3)]) [0, 1, 2] rfl ?_
  exact wbX9_laysKeys_126 F B hE v1 v3 (0 : Int32) I J h hl K4_0
noncomputable def lX9_laysKeys_4 (v1 : Int32) : (Int32 × Int32 × gM) → Option (Int32 × gM) :=
  itO fun s =>
    if (s.2.2 62 17) ≤ s.2.1 then
      some (.inr (s.1, s.2.2))
    else
      (wI s.2.2 77 16 (((4 : Int32) * v1) + s.2.1) 0).bind fun I1 =>
      (wI I1 78 16 (((4 : Int32) * v1) + s.2.1) 0).bind fun I2 =>
      (fX9_isIn s.2.1 v1 I2).bind fun r3 =>
      if r3 = 0 then
        bX9_laysKeys_127 s.1 s.2.1 I2
      else
        (rI 4 (I2 74) v1).bind fun u4 =>
        (fX9_columnOf s.2.1 u4 I2).bind fun r5 =>
        (lX9_laysKeys_60 v1 s.2.1 (((4 : Int32) * v1) + s.2.1) r5 ((0 : Int32), I2)).bind fun w11 =>
        if s.1 = 0 then
          bX9_laysKeys_125 s.2.1 w11
        else
          (rI 16 (w11 77) (((4 : Int32) * v1) + s.2.1)).bind fun u12 =>
          if u12 ≤ 0 then
            bX9_laysKeys_125 s.2.1 w11
          else
            bX9_laysKeys_126 s.2.1 (1 : Int32) w11
set_option maxRecDepth 100000 in
set_option maxHeartbeats 4000000 in
theorem wlX9_laysKeys_4 {z : gZ} {E : gE} {bk : Nat} (F : Fx z sh E "LeapJoinModel" cX9_laysKeys (gR 3) 7) (B : bZ z bk) (hE : gDist sh E) (v1 : Int32) (J : gN) {r : Int32 × gM} : ∀ s : Int32 × Int32 × gM, lX9_laysKeys_4 v1 s = some r → (G z 133 [(2, .int r.1)] [] r.2 J) → G z 4 [(0, .ref (E.2.1 62)), (1, .int v1), (2, .int s.1), (3, .int s.2.1)] [] s.2.2 J := by
  intro s h X0
  unfold lX9_laysKeys_4 at h
  revert s
  refine itO_ind (P := fun s : Int32 × Int32 × gM => G z 4 [(0, .ref (E.2.1 62)), (1, .int v1), (2, .int s.1), (3, .int s.2.1)] [] s.2.2 J) (fun s y h hl hr => ?_)
  have K4_0 : ∀ x : Int32 × gM, y = .inr x → (G z 133 [(2, .int x.1)] [] x.2 J) := fun x q => by have q2 := hr _ q; subst q2; exact X0
  refine g_iload_n F 3 dX9_laysKeys_4 rfl rfl ?_
  refine g_aload_n F 0 dX9_laysKeys_5 rfl rfl ?_
  refine g_geti (j := 17) (v := s.2.2 62 17) F s62 rfl rfl uX9 (by decide) q838 rfl dX9_laysKeys_6 ?_
  refine u_icmp_ge (tgt := 133) F dX9_laysKeys_9 (by decide) h (fun h => ?_) (fun h => ?_)
  · obtain rfl := Option.some.inj h
    refine g_sub (Ln := [(2, .int s.1)]) [2] rfl ?_
    exact K4_0 (s.1, s.2.2) rfl
  · refine g_iconst (v := 4) F dX9_laysKeys_12 (by decide) ?_
    refine g_iload_n F 1 dX9_laysKeys_13 rfl rfl ?_
    refine g_imul (v := (4 : Int32) * v1) F dX9_laysKeys_14 rfl ?_
    refine g_iload_n F 3 dX9_laysKeys_15 rfl rfl ?_
    refine g_iadd (v := ((4 : Int32) * v1) + s.2.1) F dX9_laysKeys_16 rfl ?_
    refine g_istore (Ln := [(4, .int (((4 : Int32) * v1) + s.2.1)), (0, .ref (E.2.1 62)), (1, .int v1), (2, .int s.1), (3, .int s.2.1)]) F dX9_laysKeys_17 (by decide) rfl ?_
    refine g_aload_n F 1 dX9_laysKeys_19 rfl rfl ?_
    refine g_getr (j := 22) (nn := 77) F s62 rfl rfl uX9 (by decide) q843 dX9_laysKeys_20 ?_
    refine g_iload F 0 dX9_laysKeys_23 rfl ?_
    refine g_iconst (v := 0) F dX9_laysKeys_25 (by decide) ?_
    refine u_wI F s77 (by decide) dX9_laysKeys_26 h (fun I1 h => ?_)
    refine g_aload_n F 1 dX9_laysKeys_27 rfl rfl ?_
    refine g_getr (j := 23) (nn := 78) F s62 rfl rfl uX9 (by decide) q844 dX9_laysKeys_28 ?_
    refine g_iload F 0 dX9_laysKeys_31 rfl ?_
    refine g_iconst (v := 0) F dX9_laysKeys_33 (by decide) ?_
    refine u_wI F s78 (by decide) dX9_laysKeys_34 h (fun I2 h => ?_)
    refine g_aload_n F 1 dX9_laysKeys_35 rfl rfl ?_
    refine g_iload_n F 4 dX9_laysKeys_36 rfl rfl ?_
    refine g_iload_n F 2 dX9_laysKeys_37 rfl rfl ?_
    refine u_callV (k := 62) (As := [.int s.2.1, .int v1]) (rest := []) (sn := fun r3 => [.int r3]) F B (fun _ => wX9_isIn (zl z) E hE bk s.2.1 v1 I2 J) mX9_isIn q1076 rfl s62 rfl rfl rfl (Nat.le_of_ble_eq_true rfl) dX9_laysKeys_38 (fun _ => rfl) h (fun r3 h => ?_)
    refine u_if_eq (tgt := 127) F dX9_laysKeys_41 (by decide) h (fun h => ?_) (fun h => ?_)
    · refine g_sub (Ln := [(0, .ref (E.2.1 62)), (1, .int v1), (2, .int s.1), (3, .int s.2.1)]) [1, 2, 3, 4] rfl ?_
      exact wbX9_laysKeys_127 F B hE v1 s.1 s.2.1 I2 J h hl K4_0
    · refine g_aload_n F 1 dX9_laysKeys_44 rfl rfl ?_
      refine g_iload_n F 4 dX9_laysKeys_45 rfl rfl ?_
      refine g_aload_n F 1 dX9_laysKeys_46 rfl rfl ?_
      refine g_getr (j := 18) (nn := 74) F s62 rfl rfl uX9 (by decide) q839 dX9_laysKeys_47 ?_
      refine g_iload_n F 2 dX9_laysKeys_50 rfl rfl ?_
      refine u_rI F s74 (by decide) dX9_laysKeys_51 h (fun u4 h => ?_)
      refine u_callV (k := 62) (As := [.int s.2.1, .int u4]) (rest := []) (sn := fun r5 => [.int r5]) F B (fun _ => wX9_columnOf (zl z) E hE bk s.2.1 u4 I2 J) mX9_columnOf q1079 rfl s62 rfl rfl rfl (Nat.le_of_ble_eq_true rfl) dX9_laysKeys_52 (fun _ => rfl) h (fun r5 h => ?_)
      refine g_istore (Ln := [(5, .int r5), (4, .int (((4 : Int32) * v1) + s.2.1)), (0, .ref (E.2.1 62)), (1, .int v1), (2, .int s.1), (3, .int s.2.1)]) F dX9_laysKeys_55 (by decide) rfl ?_
      refine g_iconst (v := 0) F dX9_laysKeys_57 (by decide) ?_
      refine g_istore (Ln := [(6, .int 0), (5, .int r5), (4, .int (((4 : Int32) * v1) + s.2.1)), (0, .ref (E.2.1 62)), (1, .int v1), (2, .int s.1), (3, .int s.2.1)]) F dX9_laysKeys_58 (by decide) rfl ?_
      obtain ⟨w11, ew11, h⟩ := ob h
      refine g_sub (Ln := [(0, .ref (E.2.1 62)), (1, .int v1), (2, .int s.1), (3, .int s.2.1), (4, .int (((4 : Int32) * v1) + s.2.1)), (5, .int r5), (6, .int 0)]) [3, 4, 5, 6, 2, 1, 0] rfl ?_
      refine wlX9_laysKeys_60 F B hE v1 s.1 s.2.1 (((4 : Int32) * v1) + s.2.1) r5 J _ ew11 ?_
      refine g_iload_n F 2 dX9_laysKeys_107 rfl rfl ?_
      refine u_if_eq (tgt := 125) F dX9_laysKeys_108 (by decide) h (fun h => ?_) (fun h => ?_)
      · refine g_sub (Ln := [(0, .ref (E.2.1 62)), (1, .int v1), (3, .int s.2.1)]) [0, 1, 3] rfl ?_
        exact wbX9_laysKeys_125 F B hE v1 s.2.1 w11 J h hl K4_0
      · refine g_aload_n F 0 dX9_laysKeys_111 rfl rfl ?_
        refine g_getr (j := 22) (nn := 77) F s62 rfl rfl uX9 (by decide) q843 dX9_laysKeys_112 ?_
        refine g_iload F 4 dX9_laysKeys_115 rfl ?_
        refine u_rI F s77 (by decide) dX9_laysKeys_117 h (fun u12 h => ?_)
        refine u_if_le (tgt := 125) F dX9_laysKeys_118 (by decide) h (fun h => ?_) (fun h => ?_)
        · refine g_sub (Ln := [(0, .ref (E.2.1 62)), (1, .int v1), (3, .int s.2.1)]) [0, 1, 3] rfl ?_
          exact wbX9_laysKeys_125 F B hE v1 s.2.1 w11 J h hl K4_0
        · refine g_iconst (v := 1) F dX9_laysKeys_121 (by decide) ?_
          refine g_goto (tgt := 126) F dX9_laysKeys_122 (by decide) ?_
          refine g_sub (Ln := [(0, .ref (E.2.1 62)), (1, .int v1), (3, .int s.2.1)]) [0, 1, 3] rfl ?_
          exact wbX9_laysKeys_126 F B hE v1 s.2.1 (1 : Int32) w11 J h hl K4_0
noncomputable def fX9_laysKeys (v1 : Int32) (I : gM) : Option (Int32 × gM) :=
  (lX9_laysKeys_4 v1 ((1 : Int32), (0 : Int32), I)).bind fun w13 =>
  (bO w13.1).bind fun u14 =>
  some (u14, w13.2)
set_option maxRecDepth 100000 in
set_option maxHeartbeats 4000000 in
theorem wX9_laysKeys (l : Launch) (E : gE) (hE : gDist sh E) (bk : Nat) (v1 : Int32) (I : gM) (J : gN) {r : Int32 × gM} (h : fX9_laysKeys v1 I = some r) : Cu l sh E bk yX9_laysKeys cX9_laysKeys 7 (some .boolean) (gR 3) [.ref (E.2.1 62), .int v1] I J (fun r1 I1 J1 => r1 = some (.int r.1) ∧ I1 = r.2 ∧ J1 = J) := by
  refine Cu.of "LeapJoinModel" rfl hE (by decide) (Nat.le_of_ble_eq_true rfl) (fun z F B e hl => ?_)
  subst hl
  unfold fX9_laysKeys at h
  refine g_iconst (v := 1) F dX9_laysKeys_0 (by decide) ?_
  refine g_istore_n (Ln := [(2, .int 1), (0, .ref (E.2.1 62)), (1, .int v1)]) F dX9_laysKeys_1 rfl (by decide) rfl ?_
  refine g_iconst (v := 0) F dX9_laysKeys_2 (by decide) ?_
  refine g_istore_n (Ln := [(3, .int 0), (2, .int 1), (0, .ref (E.2.1 62)), (1, .int v1)]) F dX9_laysKeys_3 rfl (by decide) rfl ?_
  obtain ⟨w13, ew13, h⟩ := ob h
  refine g_sub (Ln := [(0, .ref (E.2.1 62)), (1, .int v1), (2, .int 1), (3, .int 0)]) [2, 3, 1, 0] rfl ?_
  refine wlX9_laysKeys_4 F B hE v1 J _ ew13 ?_
  refine g_iload_n F 0 dX9_laysKeys_133 rfl rfl ?_
  obtain ⟨u14, eu14, h⟩ := ob h
  obtain ⟨nu14, rfl⟩ := bO_some eu14
  obtain rfl := Option.some.inj h
  exact g_zret F nu14 e dX9_laysKeys_134 ⟨rfl, rfl, rfl⟩
theorem DX9_keyAt_0 : dAre cX9_keyAt [(0, .iconst 4, 1), (1, .iload_n 1, 1), (2, .imul, 1), (3, .iload_n 2, 1), (4, .iadd, 1), (5, .istore_n 3, 1), (6, .aload_n 0, 1), (7, .getfield 49, 3), (10, .bipush 12, 2), (12, .iload_n 3, 1), (13, .imul, 1), (14, .aload_n 0, 1), (15, .getfield 55, 3), (18, .iload_n 3, 1), (19, .iaload, 1), (20, .iadd, 1)] := dAre0 (by decide +kernel)
theorem dX9_keyAt_0 : decode cX9_keyAt 0 = .ok (.iconst 4, 1) := DX9_keyAt_0.1
theorem dX9_keyAt_1 : decode cX9_keyAt 1 = .ok (.iload_n 1, 1) := DX9_keyAt_0.2.1
theorem dX9_keyAt_2 : decode cX9_keyAt 2 = .ok (.imul, 1) := DX9_keyAt_0.2.2.1
theorem dX9_keyAt_3 : decode cX9_keyAt 3 = .ok (.iload_n 2, 1) := DX9_keyAt_0.2.2.2.1
theorem dX9_keyAt_4 : decode cX9_keyAt 4 = .ok (.iadd, 1) := DX9_keyAt_0.2.2.2.2.1
theorem dX9_keyAt_5 : decode cX9_keyAt 5 = .ok (.istore_n 3, 1) := DX9_keyAt_0.2.2.2.2.2.1
theorem dX9_keyAt_6 : decode cX9_keyAt 6 = .ok (.aload_n 0, 1) := DX9_keyAt_0.2.2.2.2.2.2.1
theorem dX9_keyAt_7 : decode cX9_keyAt 7 = .ok (.getfield 49, 3) := DX9_keyAt_0.2.2.2.2.2.2.2.1
theorem dX9_keyAt_10 : decode cX9_keyAt 10 = .ok (.bipush 12, 2) := DX9_keyAt_0.2.2.2.2.2.2.2.2.1
theorem dX9_keyAt_12 : decode cX9_keyAt 12 = .ok (.iload_n 3, 1) := DX9_keyAt_0.2.2.2.2.2.2.2.2.2.1
theorem dX9_keyAt_13 : decode cX9_keyAt 13 = .ok (.imul, 1) := DX9_keyAt_0.2.2.2.2.2.2.2.2.2.2.1
theorem dX9_keyAt_14 : decode cX9_keyAt 14 = .ok (.aload_n 0, 1) := DX9_keyAt_0.2.2.2.2.2.2.2.2.2.2.2.1
theorem dX9_keyAt_15 : decode cX9_keyAt 15 = .ok (.getfield 55, 3) := DX9_keyAt_0.2.2.2.2.2.2.2.2.2.2.2.2.1
theorem dX9_keyAt_18 : decode cX9_keyAt 18 = .ok (.iload_n 3, 1) := DX9_keyAt_0.2.2.2.2.2.2.2.2.2.2.2.2.2.1
theorem dX9_keyAt_19 : decode cX9_keyAt 19 = .ok (.iaload, 1) := DX9_keyAt_0.2.2.2.2.2.2.2.2.2.2.2.2.2.2.1
theorem dX9_keyAt_20 : decode cX9_keyAt 20 = .ok (.iadd, 1) := DX9_keyAt_0.2.2.2.2.2.2.2.2.2.2.2.2.2.2.2.1
theorem dX9_keyAt_21 : decode cX9_keyAt 21 = .ok (.iaload, 1) := by decide +kernel
theorem dX9_keyAt_22 : decode cX9_keyAt 22 = .ok (.ireturn, 1) := by decide +kernel
theorem mX9_keyAt : gMv yX9_keyAt cX9_keyAt 4 (some .int) RX9 2 := ⟨q1092, q1429, q10, q1093, rfl, by decide, by decide, by decide +kernel⟩
noncomputable def fX9_keyAt (v1 : Int32) (v2 : Int32) (I : gM) : Option (Int32) :=
  (rI 16 (I 78) (((4 : Int32) * v1) + v2)).bind fun u1 =>
  (rI 192 (I 76) (((12 : Int32) * (((4 : Int32) * v1) + v2)) + u1)).bind fun u2 =>
  some u2
set_option maxRecDepth 100000 in
set_option maxHeartbeats 4000000 in
theorem wX9_keyAt (l : Launch) (E : gE) (hE : gDist sh E) (bk : Nat) (v1 : Int32) (v2 : Int32) (I : gM) (J : gN) {r : Int32} (h : fX9_keyAt v1 v2 I = some r) : Cu l sh E bk yX9_keyAt cX9_keyAt 4 (some .int) (gR 0) [.ref (E.2.1 62), .int v1, .int v2] I J (fun r1 I1 J1 => r1 = some (.int r) ∧ I1 = I ∧ J1 = J) := by
  refine Cu.of "LeapJoinModel" rfl hE (by decide) (Nat.le_of_ble_eq_true rfl) (fun z F B e hl => ?_)
  subst hl
  unfold fX9_keyAt at h
  refine g_iconst (v := 4) F dX9_keyAt_0 (by decide) ?_
  refine g_iload_n F 1 dX9_keyAt_1 rfl rfl ?_
  refine g_imul (v := (4 : Int32) * v1) F dX9_keyAt_2 rfl ?_
  refine g_iload_n F 2 dX9_keyAt_3 rfl rfl ?_
  refine g_iadd (v := ((4 : Int32) * v1) + v2) F dX9_keyAt_4 rfl ?_
  refine g_istore_n (Ln := [(3, .int (((4 : Int32) * v1) + v2)), (0, .ref (E.2.1 62)), (1, .int v1), (2, .int v2)]) F dX9_keyAt_5 rfl (by decide) rfl ?_
  refine g_aload_n F 1 dX9_keyAt_6 rfl rfl ?_
  refine g_getr (j := 21) (nn := 76) F s62 rfl rfl uX9 (by decide) q842 dX9_keyAt_7 ?_
  refine g_bipush (v := 12) F dX9_keyAt_10 (by decide) ?_
  refine g_iload_n F 0 dX9_keyAt_12 rfl rfl ?_
  refine g_imul (v := (12 : Int32) * (((4 : Int32) * v1) + v2)) F dX9_keyAt_13 rfl ?_
  refine g_aload_n F 1 dX9_keyAt_14 rfl rfl ?_
  refine g_getr (j := 23) (nn := 78) F s62 rfl rfl uX9 (by decide) q844 dX9_keyAt_15 ?_
  refine g_iload_n F 0 dX9_keyAt_18 rfl rfl ?_
  refine u_rI F s78 (by decide) dX9_keyAt_19 h (fun u1 h => ?_)
  refine g_iadd (v := ((12 : Int32) * (((4 : Int32) * v1) + v2)) + u1) F dX9_keyAt_20 rfl ?_
  refine u_rI F s76 (by decide) dX9_keyAt_21 h (fun u2 h => ?_)
  obtain rfl := Option.some.inj h
  exact g_iret F e dX9_keyAt_22 ⟨rfl, rfl, rfl⟩
theorem DX9_greatestKey_0 : dAre cX9_greatestKey [(0, .iconst (-1), 1), (1, .istore_n 2, 1), (2, .iconst 0, 1), (3, .istore_n 3, 1), (4, .iload_n 3, 1), (5, .aload_n 0, 1), (6, .getfield 173, 3), (9, .if_icmp .ge 33, 3), (12, .aload_n 0, 1), (13, .iload_n 3, 1), (14, .iload_n 1, 1), (15, .invokevirtual 226, 3), (18, .ifCond .eq 16, 3), (21, .iload_n 2, 1), (22, .aload_n 0, 1), (23, .iload_n 1, 1)] := dAre0 (by decide +kernel)
theorem dX9_greatestKey_0 : decode cX9_greatestKey 0 = .ok (.iconst (-1), 1) := DX9_greatestKey_0.1
theorem dX9_greatestKey_1 : decode cX9_greatestKey 1 = .ok (.istore_n 2, 1) := DX9_greatestKey_0.2.1
theorem dX9_greatestKey_2 : decode cX9_greatestKey 2 = .ok (.iconst 0, 1) := DX9_greatestKey_0.2.2.1
theorem dX9_greatestKey_3 : decode cX9_greatestKey 3 = .ok (.istore_n 3, 1) := DX9_greatestKey_0.2.2.2.1
theorem dX9_greatestKey_4 : decode cX9_greatestKey 4 = .ok (.iload_n 3, 1) := DX9_greatestKey_0.2.2.2.2.1
theorem dX9_greatestKey_5 : decode cX9_greatestKey 5 = .ok (.aload_n 0, 1) := DX9_greatestKey_0.2.2.2.2.2.1
theorem dX9_greatestKey_6 : decode cX9_greatestKey 6 = .ok (.getfield 173, 3) := DX9_greatestKey_0.2.2.2.2.2.2.1
theorem dX9_greatestKey_9 : decode cX9_greatestKey 9 = .ok (.if_icmp .ge 33, 3) := DX9_greatestKey_0.2.2.2.2.2.2.2.1
theorem dX9_greatestKey_12 : decode cX9_greatestKey 12 = .ok (.aload_n 0, 1) := DX9_greatestKey_0.2.2.2.2.2.2.2.2.1
theorem dX9_greatestKey_13 : decode cX9_greatestKey 13 = .ok (.iload_n 3, 1) := DX9_greatestKey_0.2.2.2.2.2.2.2.2.2.1
theorem dX9_greatestKey_14 : decode cX9_greatestKey 14 = .ok (.iload_n 1, 1) := DX9_greatestKey_0.2.2.2.2.2.2.2.2.2.2.1
theorem dX9_greatestKey_15 : decode cX9_greatestKey 15 = .ok (.invokevirtual 226, 3) := DX9_greatestKey_0.2.2.2.2.2.2.2.2.2.2.2.1
theorem dX9_greatestKey_18 : decode cX9_greatestKey 18 = .ok (.ifCond .eq 16, 3) := DX9_greatestKey_0.2.2.2.2.2.2.2.2.2.2.2.2.1
theorem dX9_greatestKey_21 : decode cX9_greatestKey 21 = .ok (.iload_n 2, 1) := DX9_greatestKey_0.2.2.2.2.2.2.2.2.2.2.2.2.2.1
theorem dX9_greatestKey_22 : decode cX9_greatestKey 22 = .ok (.aload_n 0, 1) := DX9_greatestKey_0.2.2.2.2.2.2.2.2.2.2.2.2.2.2.1
theorem dX9_greatestKey_23 : decode cX9_greatestKey 23 = .ok (.iload_n 1, 1) := DX9_greatestKey_0.2.2.2.2.2.2.2.2.2.2.2.2.2.2.2.1
theorem DX9_greatestKey_24 : dAre cX9_greatestKey [(24, .iload_n 3, 1), (25, .invokevirtual 236, 3), (28, .invokestatic 239, 3), (31, .goto 4, 3), (34, .iload_n 2, 1), (35, .istore_n 2, 1), (36, .iinc 3 1, 3), (39, .goto (-35), 3), (42, .iload_n 2, 1), (43, .ireturn, 1)] := dAre0 (by decide +kernel)
theorem dX9_greatestKey_24 : decode cX9_greatestKey 24 = .ok (.iload_n 3, 1) := DX9_greatestKey_24.1
theorem dX9_greatestKey_25 : decode cX9_greatestKey 25 = .ok (.invokevirtual 236, 3) := DX9_greatestKey_24.2.1
theorem dX9_greatestKey_28 : decode cX9_greatestKey 28 = .ok (.invokestatic 239, 3) := DX9_greatestKey_24.2.2.1
theorem dX9_greatestKey_31 : decode cX9_greatestKey 31 = .ok (.goto 4, 3) := DX9_greatestKey_24.2.2.2.1
theorem dX9_greatestKey_34 : decode cX9_greatestKey 34 = .ok (.iload_n 2, 1) := DX9_greatestKey_24.2.2.2.2.1
theorem dX9_greatestKey_35 : decode cX9_greatestKey 35 = .ok (.istore_n 2, 1) := DX9_greatestKey_24.2.2.2.2.2.1
theorem dX9_greatestKey_36 : decode cX9_greatestKey 36 = .ok (.iinc 3 1, 3) := DX9_greatestKey_24.2.2.2.2.2.2.1
theorem dX9_greatestKey_39 : decode cX9_greatestKey 39 = .ok (.goto (-35), 3) := DX9_greatestKey_24.2.2.2.2.2.2.2.1
theorem dX9_greatestKey_42 : decode cX9_greatestKey 42 = .ok (.iload_n 2, 1) := DX9_greatestKey_24.2.2.2.2.2.2.2.2.1
theorem dX9_greatestKey_43 : decode cX9_greatestKey 43 = .ok (.ireturn, 1) := DX9_greatestKey_24.2.2.2.2.2.2.2.2.2.1
theorem mX9_greatestKey : gMv yX9_greatestKey cX9_greatestKey 4 (some .int) RX9 1 := ⟨q1089, q1428, q10, q1090, rfl, by decide, by decide, by decide +kernel⟩
noncomputable def bX9_greatestKey_35 (v3 : Int32) (t0 : Int32) : Option ((Int32 × Int32) ⊕ (Int32)) :=
  some (.inl (t0, v3 + 1))
set_option maxRecDepth 100000 in
set_option maxHeartbeats 4000000 in
theorem wbX9_greatestKey_35 {z : gZ} {E : gE} {bk : Nat} (F : Fx z sh E "LeapJoinModel" cX9_greatestKey (gR 3) 4) (B : bZ z bk) (hE : gDist sh E) (v1 : Int32) (v3 : Int32) (t0 : Int32) (I : gM) (J : gN) {y : (Int32 × Int32) ⊕ (Int32)} (h : bX9_greatestKey_35 v3 t0 = some y) (hl : ∀ s' : Int32 × Int32, y = .inl s' → G z 4 [(0, .ref (E.2.1 62)), (1, .int v1), (2, .int (s'.1)), (3, .int (s'.2))] [] I J) (K4_0 : ∀ x : Int32, y = .inr x → G z 42 [(2, .int x)] [] I J) : G z 35 [(0, .ref (E.2.1 62)), (1, .int v1), (3, .int v3)] [.int t0] I J := by
  unfold bX9_greatestKey_35 at h
  refine g_istore_n (Ln := [(2, .int t0), (0, .ref (E.2.1 62)), (1, .int v1), (3, .int v3)]) F dX9_greatestKey_35 rfl (by decide) rfl ?_
  refine g_iinc (v := v3 + 1) (Ln := [(3, .int (v3 + 1)), (2, .int t0), (0, .ref (E.2.1 62)), (1, .int v1)]) F 3 dX9_greatestKey_36 rfl (add_c (by decide)) (by decide) rfl ?_
  refine g_goto (tgt := 4) F dX9_greatestKey_39 (by decide) ?_
  obtain rfl := Option.some.inj h
  refine g_sub (Ln := [(0, .ref (E.2.1 62)), (1, .int v1), (2, .int t0), (3, .int (v3 + 1))]) [2, 3, 1, 0] rfl ?_
  exact hl (t0, v3 + 1) rfl
noncomputable def lX9_greatestKey_4 (v1 : Int32) (I : gM) : (Int32 × Int32) → Option (Int32) :=
  itO fun s =>
    if (I 62 17) ≤ s.2 then
      some (.inr s.1)
    else
      (fX9_isIn s.2 v1 I).bind fun r1 =>
      if r1 = 0 then
        bX9_greatestKey_35 s.2 s.1
      else
        (fX9_keyAt v1 s.2 I).bind fun r2 =>
        bX9_greatestKey_35 s.2 (mX s.1 r2)
set_option maxRecDepth 100000 in
set_option maxHeartbeats 4000000 in
theorem wlX9_greatestKey_4 {z : gZ} {E : gE} {bk : Nat} (F : Fx z sh E "LeapJoinModel" cX9_greatestKey (gR 3) 4) (B : bZ z bk) (hE : gDist sh E) (v1 : Int32) (I : gM) (J : gN) {r : Int32} : ∀ s : Int32 × Int32, lX9_greatestKey_4 v1 I s = some r → (G z 42 [(2, .int r)] [] I J) → G z 4 [(0, .ref (E.2.1 62)), (1, .int v1), (2, .int s.1), (3, .int s.2)] [] I J := by
  intro s h X0
  unfold lX9_greatestKey_4 at h
  revert s
  refine itO_ind (P := fun s : Int32 × Int32 => G z 4 [(0, .ref (E.2.1 62)), (1, .int v1), (2, .int s.1), (3, .int s.2)] [] I J) (fun s y h hl hr => ?_)
  have K4_0 : ∀ x : Int32, y = .inr x → (G z 42 [(2, .int x)] [] I J) := fun x q => by have q2 := hr _ q; subst q2; exact X0
  refine g_iload_n F 3 dX9_greatestKey_4 rfl rfl ?_
  refine g_aload_n F 0 dX9_greatestKey_5 rfl rfl ?_
  refine g_geti (j := 17) (v := I 62 17) F s62 rfl rfl uX9 (by decide) q838 rfl dX9_greatestKey_6 ?_
  refine u_icmp_ge (tgt := 42) F dX9_greatestKey_9 (by decide) h (fun h => ?_) (fun h => ?_)
  · obtain rfl := Option.some.inj h
    refine g_sub (Ln := [(2, .int s.1)]) [2] rfl ?_
    exact K4_0 s.1 rfl
  · refine g_aload_n F 0 dX9_greatestKey_12 rfl rfl ?_
    refine g_iload_n F 3 dX9_greatestKey_13 rfl rfl ?_
    refine g_iload_n F 1 dX9_greatestKey_14 rfl rfl ?_
    refine u_callV (k := 62) (As := [.int s.2, .int v1]) (rest := []) (sn := fun r1 => [.int r1]) F B (fun _ => wX9_isIn (zl z) E hE bk s.2 v1 I J) mX9_isIn q1076 rfl s62 rfl rfl rfl (Nat.le_of_ble_eq_true rfl) dX9_greatestKey_15 (fun _ => rfl) h (fun r1 h => ?_)
    refine u_if_eq (tgt := 34) F dX9_greatestKey_18 (by decide) h (fun h => ?_) (fun h => ?_)
    · refine g_iload_n F 2 dX9_greatestKey_34 rfl rfl ?_
      refine g_sub (Ln := [(0, .ref (E.2.1 62)), (1, .int v1), (3, .int s.2)]) [0, 1, 3] rfl ?_
      exact wbX9_greatestKey_35 F B hE v1 s.2 s.1 I J h hl K4_0
    · refine g_iload_n F 2 dX9_greatestKey_21 rfl rfl ?_
      refine g_aload_n F 0 dX9_greatestKey_22 rfl rfl ?_
      refine g_iload_n F 1 dX9_greatestKey_23 rfl rfl ?_
      refine g_iload_n F 3 dX9_greatestKey_24 rfl rfl ?_
      refine u_callV (k := 62) (As := [.int v1, .int s.2]) (rest := [.int s.1]) (sn := fun r2 => [.int r2, .int s.1]) F B (fun _ => wX9_keyAt (zl z) E hE bk v1 s.2 I J) mX9_keyAt q1091 rfl s62 rfl rfl rfl (Nat.le_of_ble_eq_true rfl) dX9_greatestKey_25 (fun _ => rfl) h (fun r2 h => ?_)
      refine g_mmax (v := mX s.1 r2) F q1094 rfl (Nat.le_of_ble_eq_true rfl) (Nat.le_of_ble_eq_true rfl) (Nat.le_of_ble_eq_true rfl) dX9_greatestKey_28 ?_
      refine g_goto (tgt := 35) F dX9_greatestKey_31 (by decide) ?_
      refine g_sub (Ln := [(0, .ref (E.2.1 62)), (1, .int v1), (3, .int s.2)]) [0, 1, 3] rfl ?_
      exact wbX9_greatestKey_35 F B hE v1 s.2 (mX s.1 r2) I J h hl K4_0
noncomputable def fX9_greatestKey (v1 : Int32) (I : gM) : Option (Int32) :=
  (lX9_greatestKey_4 v1 I (((-1) : Int32), (0 : Int32))).bind fun w3 =>
  some w3
set_option maxRecDepth 100000 in
set_option maxHeartbeats 4000000 in
theorem wX9_greatestKey (l : Launch) (E : gE) (hE : gDist sh E) (bk : Nat) (v1 : Int32) (I : gM) (J : gN) {r : Int32} (h : fX9_greatestKey v1 I = some r) : Cu l sh E bk yX9_greatestKey cX9_greatestKey 4 (some .int) (gR 3) [.ref (E.2.1 62), .int v1] I J (fun r1 I1 J1 => r1 = some (.int r) ∧ I1 = I ∧ J1 = J) := by
  refine Cu.of "LeapJoinModel" rfl hE (by decide) (Nat.le_of_ble_eq_true rfl) (fun z F B e hl => ?_)
  subst hl
  unfold fX9_greatestKey at h
  refine g_iconst (v := (-1)) F dX9_greatestKey_0 (by decide) ?_
  refine g_istore_n (Ln := [(2, .int (-1)), (0, .ref (E.2.1 62)), (1, .int v1)]) F dX9_greatestKey_1 rfl (by decide) rfl ?_
  refine g_iconst (v := 0) F dX9_greatestKey_2 (by decide) ?_
  refine g_istore_n (Ln := [(3, .int 0), (2, .int (-1)), (0, .ref (E.2.1 62)), (1, .int v1)]) F dX9_greatestKey_3 rfl (by decide) rfl ?_
  obtain ⟨w3, ew3, h⟩ := ob h
  refine g_sub (Ln := [(0, .ref (E.2.1 62)), (1, .int v1), (2, .int (-1)), (3, .int 0)]) [2, 3, 1, 0] rfl ?_
  refine wlX9_greatestKey_4 F B hE v1 I J _ ew3 ?_
  refine g_iload_n F 0 dX9_greatestKey_42 rfl rfl ?_
  obtain rfl := Option.some.inj h
  exact g_iret F e dX9_greatestKey_43 ⟨rfl, rfl, rfl⟩
