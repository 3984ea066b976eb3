theorem DX9_isDigit_0 : dAre cX9_isDigit [(0, .iload_n 0, 1), (1, .bipush 48, 2), (3, .if_icmp .lt 13, 3), (6, .iload_n 0, 1), (7, .bipush 57, 2), (9, .if_icmp .gt 7, 3), (12, .iconst 1, 1), (13, .goto 4, 3), (16, .iconst 0, 1), (17, .ireturn, 1)] := dAre0 (by decide +kernel)
theorem dX9_isDigit_0 : decode cX9_isDigit 0 = .ok (.iload_n 0, 1) := DX9_isDigit_0.1
theorem dX9_isDigit_1 : decode cX9_isDigit 1 = .ok (.bipush 48, 2) := DX9_isDigit_0.2.1
theorem dX9_isDigit_3 : decode cX9_isDigit 3 = .ok (.if_icmp .lt 13, 3) := DX9_isDigit_0.2.2.1
theorem dX9_isDigit_6 : decode cX9_isDigit 6 = .ok (.iload_n 0, 1) := DX9_isDigit_0.2.2.2.1
theorem dX9_isDigit_7 : decode cX9_isDigit 7 = .ok (.bipush 57, 2) := DX9_isDigit_0.2.2.2.2.1
theorem dX9_isDigit_9 : decode cX9_isDigit 9 = .ok (.if_icmp .gt 7, 3) := DX9_isDigit_0.2.2.2.2.2.1
theorem dX9_isDigit_12 : decode cX9_isDigit 12 = .ok (.iconst 1, 1) := DX9_isDigit_0.2.2.2.2.2.2.1
theorem dX9_isDigit_13 : decode cX9_isDigit 13 = .ok (.goto 4, 3) := DX9_isDigit_0.2.2.2.2.2.2.2.1
theorem dX9_isDigit_16 : decode cX9_isDigit 16 = .ok (.iconst 0, 1) := DX9_isDigit_0.2.2.2.2.2.2.2.2.1
theorem dX9_isDigit_17 : decode cX9_isDigit 17 = .ok (.ireturn, 1) := DX9_isDigit_0.2.2.2.2.2.2.2.2.2.1
theorem mX9_isDigit : gMs yX9_isDigit cX9_isDigit 1 (some .boolean) 1 := ⟨q961, q10, q962, by decide, by decide, by decide +kernel⟩
noncomputable def fX9_isDigit (v0 : Int32) : Option (Int32) :=
  if v0 < 48 then
    some (0 : Int32)
  else
    if (57 : Int32) < v0 then
      some (0 : Int32)
    else
      some (1 : Int32)
set_option maxRecDepth 100000 in
set_option maxHeartbeats 4000000 in
theorem wX9_isDigit (l : Launch) (E : gE) (hE : gDist sh E) (bk : Nat) (v0 : Int32) (I : gM) (J : gN) {r : Int32} (h : fX9_isDigit v0 = some r) : Cu l sh E bk yX9_isDigit cX9_isDigit 1 (some .boolean) (gR 0) [.int v0] I J (fun r1 I1 J1 => r1 = some (.int r) ∧ I1 = I ∧ J1 = J) := by
  refine Cu.of "LeapJoinModel" rfl hE (by decide) (Nat.le_of_ble_eq_true rfl) (fun z F B e hl => ?_)
  subst hl
  unfold fX9_isDigit at h
  refine g_iload_n F 0 dX9_isDigit_0 rfl rfl ?_
  refine g_bipush (v := 48) F dX9_isDigit_1 (by decide) ?_
  refine u_icmp_lt (tgt := 16) F dX9_isDigit_3 (by decide) h (fun h => ?_) (fun h => ?_)
  · refine g_iconst (v := 0) F dX9_isDigit_16 (by decide) ?_
    obtain rfl := Option.some.inj h
    exact g_zret F rfl e dX9_isDigit_17 ⟨rfl, rfl, rfl⟩
  · refine g_iload_n F 0 dX9_isDigit_6 rfl rfl ?_
    refine g_bipush (v := 57) F dX9_isDigit_7 (by decide) ?_
    refine u_icmp_gt (tgt := 16) F dX9_isDigit_9 (by decide) h (fun h => ?_) (fun h => ?_)
    · refine g_iconst (v := 0) F dX9_isDigit_16 (by decide) ?_
      obtain rfl := Option.some.inj h
      exact g_zret F rfl e dX9_isDigit_17 ⟨rfl, rfl, rfl⟩
    · refine g_iconst (v := 1) F dX9_isDigit_12 (by decide) ?_
      refine g_goto (tgt := 17) F dX9_isDigit_13 (by decide) ?_
      obtain rfl := Option.some.inj h
      exact g_zret F rfl e dX9_isDigit_17 ⟨rfl, rfl, rfl⟩
theorem DX9_number_0 : dAre cX9_number [(0, .aload_n 0, 1), (1, .getfield 115, 3), (4, .iconst (-1), 1), (5, .if_icmp .ne 13, 3), (8, .aload_n 0, 1), (9, .invokevirtual 118, 3), (12, .invokestatic 124, 3), (15, .ifCond .ne 9, 3), (18, .aload_n 0, 1), (19, .invokevirtual 121, 3), (22, .iconst 0, 1), (23, .ireturn, 1), (24, .iconst 0, 1), (25, .istore_n 2, 1), (26, .iconst 0, 1), (27, .istore_n 3, 1)] := dAre0 (by decide +kernel)
theorem dX9_number_0 : decode cX9_number 0 = .ok (.aload_n 0, 1) := DX9_number_0.1
theorem dX9_number_1 : decode cX9_number 1 = .ok (.getfield 115, 3) := DX9_number_0.2.1
theorem dX9_number_4 : decode cX9_number 4 = .ok (.iconst (-1), 1) := DX9_number_0.2.2.1
theorem dX9_number_5 : decode cX9_number 5 = .ok (.if_icmp .ne 13, 3) := DX9_number_0.2.2.2.1
theorem dX9_number_8 : decode cX9_number 8 = .ok (.aload_n 0, 1) := DX9_number_0.2.2.2.2.1
theorem dX9_number_9 : decode cX9_number 9 = .ok (.invokevirtual 118, 3) := DX9_number_0.2.2.2.2.2.1
theorem dX9_number_12 : decode cX9_number 12 = .ok (.invokestatic 124, 3) := DX9_number_0.2.2.2.2.2.2.1
theorem dX9_number_15 : decode cX9_number 15 = .ok (.ifCond .ne 9, 3) := DX9_number_0.2.2.2.2.2.2.2.1
theorem dX9_number_18 : decode cX9_number 18 = .ok (.aload_n 0, 1) := DX9_number_0.2.2.2.2.2.2.2.2.1
theorem dX9_number_19 : decode cX9_number 19 = .ok (.invokevirtual 121, 3) := DX9_number_0.2.2.2.2.2.2.2.2.2.1
theorem dX9_number_22 : decode cX9_number 22 = .ok (.iconst 0, 1) := DX9_number_0.2.2.2.2.2.2.2.2.2.2.1
theorem dX9_number_23 : decode cX9_number 23 = .ok (.ireturn, 1) := DX9_number_0.2.2.2.2.2.2.2.2.2.2.2.1
theorem dX9_number_24 : decode cX9_number 24 = .ok (.iconst 0, 1) := DX9_number_0.2.2.2.2.2.2.2.2.2.2.2.2.1
theorem dX9_number_25 : decode cX9_number 25 = .ok (.istore_n 2, 1) := DX9_number_0.2.2.2.2.2.2.2.2.2.2.2.2.2.1
theorem dX9_number_26 : decode cX9_number 26 = .ok (.iconst 0, 1) := DX9_number_0.2.2.2.2.2.2.2.2.2.2.2.2.2.2.1
theorem dX9_number_27 : decode cX9_number 27 = .ok (.istore_n 3, 1) := DX9_number_0.2.2.2.2.2.2.2.2.2.2.2.2.2.2.2.1
theorem DX9_number_28 : dAre cX9_number [(28, .iload_n 3, 1), (29, .iconst 2, 1), (30, .if_icmp .ge 42, 3), (33, .aload_n 0, 1), (34, .invokevirtual 111, 3), (37, .invokestatic 124, 3), (40, .ifCond .eq 32, 3), (43, .bipush 10, 2), (45, .iload_n 2, 1), (46, .imul, 1), (47, .aload_n 0, 1), (48, .invokevirtual 111, 3), (51, .iadd, 1), (52, .bipush 48, 2), (54, .isub, 1), (55, .istore_n 2, 1)] := dAre0 (by decide +kernel)
theorem dX9_number_28 : decode cX9_number 28 = .ok (.iload_n 3, 1) := DX9_number_28.1
theorem dX9_number_29 : decode cX9_number 29 = .ok (.iconst 2, 1) := DX9_number_28.2.1
theorem dX9_number_30 : decode cX9_number 30 = .ok (.if_icmp .ge 42, 3) := DX9_number_28.2.2.1
theorem dX9_number_33 : decode cX9_number 33 = .ok (.aload_n 0, 1) := DX9_number_28.2.2.2.1
theorem dX9_number_34 : decode cX9_number 34 = .ok (.invokevirtual 111, 3) := DX9_number_28.2.2.2.2.1
theorem dX9_number_37 : decode cX9_number 37 = .ok (.invokestatic 124, 3) := DX9_number_28.2.2.2.2.2.1
theorem dX9_number_40 : decode cX9_number 40 = .ok (.ifCond .eq 32, 3) := DX9_number_28.2.2.2.2.2.2.1
theorem dX9_number_43 : decode cX9_number 43 = .ok (.bipush 10, 2) := DX9_number_28.2.2.2.2.2.2.2.1
theorem dX9_number_45 : decode cX9_number 45 = .ok (.iload_n 2, 1) := DX9_number_28.2.2.2.2.2.2.2.2.1
theorem dX9_number_46 : decode cX9_number 46 = .ok (.imul, 1) := DX9_number_28.2.2.2.2.2.2.2.2.2.1
theorem dX9_number_47 : decode cX9_number 47 = .ok (.aload_n 0, 1) := DX9_number_28.2.2.2.2.2.2.2.2.2.2.1
theorem dX9_number_48 : decode cX9_number 48 = .ok (.invokevirtual 111, 3) := DX9_number_28.2.2.2.2.2.2.2.2.2.2.2.1
theorem dX9_number_51 : decode cX9_number 51 = .ok (.iadd, 1) := DX9_number_28.2.2.2.2.2.2.2.2.2.2.2.2.1
theorem dX9_number_52 : decode cX9_number 52 = .ok (.bipush 48, 2) := DX9_number_28.2.2.2.2.2.2.2.2.2.2.2.2.2.1
theorem dX9_number_54 : decode cX9_number 54 = .ok (.isub, 1) := DX9_number_28.2.2.2.2.2.2.2.2.2.2.2.2.2.2.1
theorem dX9_number_55 : decode cX9_number 55 = .ok (.istore_n 2, 1) := DX9_number_28.2.2.2.2.2.2.2.2.2.2.2.2.2.2.2.1
theorem DX9_number_56 : dAre cX9_number [(56, .aload_n 0, 1), (57, .dup, 1), (58, .getfield 108, 3), (61, .iconst 1, 1), (62, .iadd, 1), (63, .putfield 108, 3), (66, .iinc 3 1, 3), (69, .goto (-41), 3), (72, .aload_n 0, 1), (73, .invokevirtual 111, 3), (76, .invokestatic 124, 3), (79, .ifCond .eq 10, 3), (82, .aload_n 0, 1), (83, .invokevirtual 121, 3), (86, .goto 22, 3), (89, .iload_n 2, 1)] := dAre0 (by decide +kernel)
theorem dX9_number_56 : decode cX9_number 56 = .ok (.aload_n 0, 1) := DX9_number_56.1
theorem dX9_number_57 : decode cX9_number 57 = .ok (.dup, 1) := DX9_number_56.2.1
theorem dX9_number_58 : decode cX9_number 58 = .ok (.getfield 108, 3) := DX9_number_56.2.2.1
theorem dX9_number_61 : decode cX9_number 61 = .ok (.iconst 1, 1) := DX9_number_56.2.2.2.1
theorem dX9_number_62 : decode cX9_number 62 = .ok (.iadd, 1) := DX9_number_56.2.2.2.2.1
theorem dX9_number_63 : decode cX9_number 63 = .ok (.putfield 108, 3) := DX9_number_56.2.2.2.2.2.1
theorem dX9_number_66 : decode cX9_number 66 = .ok (.iinc 3 1, 3) := DX9_number_56.2.2.2.2.2.2.1
theorem dX9_number_69 : decode cX9_number 69 = .ok (.goto (-41), 3) := DX9_number_56.2.2.2.2.2.2.2.1
theorem dX9_number_72 : decode cX9_number 72 = .ok (.aload_n 0, 1) := DX9_number_56.2.2.2.2.2.2.2.2.1
theorem dX9_number_73 : decode cX9_number 73 = .ok (.invokevirtual 111, 3) := DX9_number_56.2.2.2.2.2.2.2.2.2.1
theorem dX9_number_76 : decode cX9_number 76 = .ok (.invokestatic 124, 3) := DX9_number_56.2.2.2.2.2.2.2.2.2.2.1
theorem dX9_number_79 : decode cX9_number 79 = .ok (.ifCond .eq 10, 3) := DX9_number_56.2.2.2.2.2.2.2.2.2.2.2.1
theorem dX9_number_82 : decode cX9_number 82 = .ok (.aload_n 0, 1) := DX9_number_56.2.2.2.2.2.2.2.2.2.2.2.2.1
theorem dX9_number_83 : decode cX9_number 83 = .ok (.invokevirtual 121, 3) := DX9_number_56.2.2.2.2.2.2.2.2.2.2.2.2.2.1
theorem dX9_number_86 : decode cX9_number 86 = .ok (.goto 22, 3) := DX9_number_56.2.2.2.2.2.2.2.2.2.2.2.2.2.2.1
theorem dX9_number_89 : decode cX9_number 89 = .ok (.iload_n 2, 1) := DX9_number_56.2.2.2.2.2.2.2.2.2.2.2.2.2.2.2.1
theorem DX9_number_90 : dAre cX9_number [(90, .iload_n 1, 1), (91, .if_icmp .le 17, 3), (94, .aload_n 0, 1), (95, .dup, 1), (96, .getfield 108, 3), (99, .iconst 1, 1), (100, .isub, 1), (101, .putfield 108, 3), (104, .aload_n 0, 1), (105, .invokevirtual 121, 3), (108, .iload_n 2, 1), (109, .ireturn, 1)] := dAre0 (by decide +kernel)
theorem dX9_number_90 : decode cX9_number 90 = .ok (.iload_n 1, 1) := DX9_number_90.1
theorem dX9_number_91 : decode cX9_number 91 = .ok (.if_icmp .le 17, 3) := DX9_number_90.2.1
theorem dX9_number_94 : decode cX9_number 94 = .ok (.aload_n 0, 1) := DX9_number_90.2.2.1
theorem dX9_number_95 : decode cX9_number 95 = .ok (.dup, 1) := DX9_number_90.2.2.2.1
theorem dX9_number_96 : decode cX9_number 96 = .ok (.getfield 108, 3) := DX9_number_90.2.2.2.2.1
theorem dX9_number_99 : decode cX9_number 99 = .ok (.iconst 1, 1) := DX9_number_90.2.2.2.2.2.1
theorem dX9_number_100 : decode cX9_number 100 = .ok (.isub, 1) := DX9_number_90.2.2.2.2.2.2.1
theorem dX9_number_101 : decode cX9_number 101 = .ok (.putfield 108, 3) := DX9_number_90.2.2.2.2.2.2.2.1
theorem dX9_number_104 : decode cX9_number 104 = .ok (.aload_n 0, 1) := DX9_number_90.2.2.2.2.2.2.2.2.1
theorem dX9_number_105 : decode cX9_number 105 = .ok (.invokevirtual 121, 3) := DX9_number_90.2.2.2.2.2.2.2.2.2.1
theorem dX9_number_108 : decode cX9_number 108 = .ok (.iload_n 2, 1) := DX9_number_90.2.2.2.2.2.2.2.2.2.2.1
theorem dX9_number_109 : decode cX9_number 109 = .ok (.ireturn, 1) := DX9_number_90.2.2.2.2.2.2.2.2.2.2.2.1
theorem mX9_number : gMv yX9_number cX9_number 4 (some .int) RX9 1 := ⟨q967, q1391, q10, q968, rfl, by decide, by decide, by decide +kernel⟩
noncomputable def bX9_number_18 (I : gM) : Option (Int32 × gM) :=
  (fX9_bad I).bind fun r3 =>
  some ((0 : Int32), r3)
set_option maxRecDepth 100000 in
set_option maxHeartbeats 4000000 in
theorem wbX9_number_18 {z : gZ} {E : gE} {bk : Nat} (F : Fx z sh E "LeapJoinModel" cX9_number (gR 2) 4) (B : bZ z bk) (hE : gDist sh E) (I : gM) (J : gN) {y : Int32 × gM} (h : bX9_number_18 I = some y) (e : Fe z sh E (some .int) (fun r1 I1 J1 => r1 = some (.int y.1) ∧ I1 = y.2 ∧ J1 = J)) : G z 18 [(0, .ref (E.2.1 62))] [] I J := by
  unfold bX9_number_18 at h
  refine g_aload_n F 0 dX9_number_18 rfl rfl ?_
  refine u_callV (k := 62) (As := []) (rest := []) (sn := fun _ => []) F B (fun _ => wX9_bad (zl z) E hE bk  I J) mX9_bad q951 rfl s62 rfl rfl rfl (Nat.le_of_ble_eq_true rfl) dX9_number_19 (fun _ => rfl) h (fun r3 h => ?_)
  refine g_iconst (v := 0) F dX9_number_22 (by decide) ?_
  obtain rfl := Option.some.inj h
  exact g_iret F e dX9_number_23 ⟨rfl, rfl, rfl⟩
noncomputable def lX9_number_28 : (Int32 × Int32 × gM) → Option (Int32 × gM) :=
  itO fun s =>
    if (2 : Int32) ≤ s.2.1 then
      some (.inr (s.1, s.2.2))
    else
      (fX9_here s.2.2).bind fun r4 =>
      (fX9_isDigit r4).bind fun r5 =>
      if r5 = 0 then
        some (.inr (s.1, s.2.2))
      else
        (fX9_here s.2.2).bind fun r6 =>
        (pU s.2.2 62 3 ((s.2.2 62 3) + 1)).bind fun I7 =>
        some (.inl ((((10 : Int32) * s.1) + r6) - 48, s.2.1 + 1, I7))
set_option maxRecDepth 100000 in
set_option maxHeartbeats 4000000 in
theorem wlX9_number_28 {z : gZ} {E : gE} {bk : Nat} (F : Fx z sh E "LeapJoinModel" cX9_number (gR 2) 4) (B : bZ z bk) (hE : gDist sh E) (v1 : Int32) (J : gN) {r : Int32 × gM} : ∀ s : Int32 × Int32 × gM, lX9_number_28 s = some r → (G z 72 [(0, .ref (E.2.1 62)), (1, .int v1), (2, .int r.1)] [] r.2 J) → G z 28 [(0, .ref (E.2.1 62)), (1, .int v1), (2, .int s.1), (3, .int s.2.1)] [] s.2.2 J := by
  intro s h X0
  unfold lX9_number_28 at h
  revert s
  refine itO_ind (P := fun s : Int32 × Int32 × gM => G z 28 [(0, .ref (E.2.1 62)), (1, .int v1), (2, .int s.1), (3, .int s.2.1)] [] s.2.2 J) (fun s y h hl hr => ?_)
  have K28_0 : ∀ x : Int32 × gM, y = .inr x → (G z 72 [(0, .ref (E.2.1 62)), (1, .int v1), (2, .int x.1)] [] x.2 J) := fun x q => by have q2 := hr _ q; subst q2; exact X0
  refine g_iload_n F 3 dX9_number_28 rfl rfl ?_
  refine g_iconst (v := 2) F dX9_number_29 (by decide) ?_
  refine u_icmp_ge (tgt := 72) F dX9_number_30 (by decide) h (fun h => ?_) (fun h => ?_)
  · obtain rfl := Option.some.inj h
    refine g_sub (Ln := [(0, .ref (E.2.1 62)), (1, .int v1), (2, .int s.1)]) [0, 1, 2] rfl ?_
    exact K28_0 (s.1, s.2.2) rfl
  · refine g_aload_n F 0 dX9_number_33 rfl rfl ?_
    refine u_callV (k := 62) (As := []) (rest := []) (sn := fun r4 => [.int r4]) F B (fun _ => wX9_here (zl z) E hE bk  s.2.2 J) mX9_here q945 rfl s62 rfl rfl rfl (Nat.le_of_ble_eq_true rfl) dX9_number_34 (fun _ => rfl) h (fun r4 h => ?_)
    refine u_callS (As := [.int r4]) (rest := []) (sn := fun r5 => [.int r5]) F B (fun _ => wX9_isDigit (zl z) E hE bk r4 s.2.2 J) mX9_isDigit q960 rfl rfl rfl (Nat.le_of_ble_eq_true rfl) dX9_number_37 (fun _ => rfl) h (fun r5 h => ?_)
    refine u_if_eq (tgt := 72) F dX9_number_40 (by decide) h (fun h => ?_) (fun h => ?_)
    · obtain rfl := Option.some.inj h
      refine g_sub (Ln := [(0, .ref (E.2.1 62)), (1, .int v1), (2, .int s.1)]) [0, 1, 2] rfl ?_
      exact K28_0 (s.1, s.2.2) rfl
    · refine g_bipush (v := 10) F dX9_number_43 (by decide) ?_
      refine g_iload_n F 2 dX9_number_45 rfl rfl ?_
      refine g_imul (v := (10 : Int32) * s.1) F dX9_number_46 rfl ?_
      refine g_aload_n F 0 dX9_number_47 rfl rfl ?_
      refine u_callV (k := 62) (As := []) (rest := [.int ((10 : Int32) * s.1)]) (sn := fun r6 => [.int r6, .int ((10 : Int32) * s.1)]) F B (fun _ => wX9_here (zl z) E hE bk  s.2.2 J) mX9_here q945 rfl s62 rfl rfl rfl (Nat.le_of_ble_eq_true rfl) dX9_number_48 (fun _ => rfl) h (fun r6 h => ?_)
      refine g_iadd (v := ((10 : Int32) * s.1) + r6) F dX9_number_51 rfl ?_
      refine g_bipush (v := 48) F dX9_number_52 (by decide) ?_
      refine g_isub (v := (((10 : Int32) * s.1) + r6) - 48) F dX9_number_54 rfl ?_
      refine g_istore_n (Ln := [(2, .int ((((10 : Int32) * s.1) + r6) - 48)), (0, .ref (E.2.1 62)), (1, .int v1), (3, .int s.2.1)]) F dX9_number_55 rfl (by decide) rfl ?_
      refine g_aload_n F 1 dX9_number_56 rfl rfl ?_
      refine g_dup F dX9_number_57 rfl ?_
      refine g_geti (j := 3) (v := s.2.2 62 3) F s62 rfl rfl uX9 (by decide) q824 rfl dX9_number_58 ?_
      refine g_iconst (v := 1) F dX9_number_61 (by decide) ?_
      refine g_iadd (v := (s.2.2 62 3) + 1) F dX9_number_62 rfl ?_
      refine u_puti (j := 3) F s62 rfl rfl uX9 (by decide) q824 tyX9_ok nmX9 rfl rfl rfl dX9_number_63 h (fun I7 h => ?_)
      refine g_iinc (v := s.2.1 + 1) (Ln := [(3, .int (s.2.1 + 1)), (2, .int ((((10 : Int32) * s.1) + r6) - 48)), (0, .ref (E.2.1 62)), (1, .int v1)]) F 3 dX9_number_66 rfl (add_c (by decide)) (by decide) rfl ?_
      refine g_goto (tgt := 28) F dX9_number_69 (by decide) ?_
      obtain rfl := Option.some.inj h
      refine g_sub (Ln := [(0, .ref (E.2.1 62)), (1, .int v1), (2, .int ((((10 : Int32) * s.1) + r6) - 48)), (3, .int (s.2.1 + 1))]) [2, 3, 1, 0] rfl ?_
      exact hl ((((10 : Int32) * s.1) + r6) - 48, s.2.1 + 1, I7) rfl
noncomputable def bX9_number_72 (v1 : Int32) (v2 : Int32) (I : gM) : Option (Int32 × gM) :=
  (fX9_here I).bind fun r9 =>
  (fX9_isDigit r9).bind fun r10 =>
  if r10 = 0 then
    if v2 ≤ v1 then
      some (v2, I)
    else
      (pU I 62 3 ((I 62 3) - 1)).bind fun I11 =>
      (fX9_bad I11).bind fun r12 =>
      some (v2, r12)
  else
    (fX9_bad I).bind fun r13 =>
    some (v2, r13)
set_option maxRecDepth 100000 in
set_option maxHeartbeats 4000000 in
theorem wbX9_number_72 {z : gZ} {E : gE} {bk : Nat} (F : Fx z sh E "LeapJoinModel" cX9_number (gR 2) 4) (B : bZ z bk) (hE : gDist sh E) (v1 : Int32) (v2 : Int32) (I : gM) (J : gN) {y : Int32 × gM} (h : bX9_number_72 v1 v2 I = some y) (e : Fe z sh E (some .int) (fun r1 I1 J1 => r1 = some (.int y.1) ∧ I1 = y.2 ∧ J1 = J)) : G z 72 [(0, .ref (E.2.1 62)), (1, .int v1), (2, .int v2)] [] I J := by
  unfold bX9_number_72 at h
  refine g_aload_n F 0 dX9_number_72 rfl rfl ?_
  refine u_callV (k := 62) (As := []) (rest := []) (sn := fun r9 => [.int r9]) F B (fun _ => wX9_here (zl z) E hE bk  I J) mX9_here q945 rfl s62 rfl rfl rfl (Nat.le_of_ble_eq_true rfl) dX9_number_73 (fun _ => rfl) h (fun r9 h => ?_)
  refine u_callS (As := [.int r9]) (rest := []) (sn := fun r10 => [.int r10]) F B (fun _ => wX9_isDigit (zl z) E hE bk r9 I J) mX9_isDigit q960 rfl rfl rfl (Nat.le_of_ble_eq_true rfl) dX9_number_76 (fun _ => rfl) h (fun r10 h => ?_)
  refine u_if_eq (tgt := 89) F dX9_number_79 (by decide) h (fun h => ?_) (fun h => ?_)
  · refine g_iload_n F 2 dX9_number_89 rfl rfl ?_
    refine g_iload_n F 1 dX9_number_90 rfl rfl ?_
    refine u_icmp_le (tgt := 108) F dX9_number_91 (by decide) h (fun h => ?_) (fun h => ?_)
    · refine g_iload_n F 2 dX9_number_108 rfl rfl ?_
      obtain rfl := Option.some.inj h
      exact g_iret F e dX9_number_109 ⟨rfl, rfl, rfl⟩
    · refine g_aload_n F 0 dX9_number_94 rfl rfl ?_
      refine g_dup F dX9_number_95 rfl ?_
      refine g_geti (j := 3) (v := I 62 3) F s62 rfl rfl uX9 (by decide) q824 rfl dX9_number_96 ?_
      refine g_iconst (v := 1) F dX9_number_99 (by decide) ?_
      refine g_isub (v := (I 62 3) - 1) F dX9_number_100 rfl ?_
      refine u_puti (j := 3) F s62 rfl rfl uX9 (by decide) q824 tyX9_ok nmX9 rfl rfl rfl dX9_number_101 h (fun I11 h => ?_)
      refine g_aload_n F 0 dX9_number_104 rfl rfl ?_
      refine u_callV (k := 62) (As := []) (rest := []) (sn := fun _ => []) F B (fun _ => wX9_bad (zl z) E hE bk  I11 J) mX9_bad q951 rfl s62 rfl rfl rfl (Nat.le_of_ble_eq_true rfl) dX9_number_105 (fun _ => rfl) h (fun r12 h => ?_)
      refine g_iload_n F 2 dX9_number_108 rfl rfl ?_
      obtain rfl := Option.some.inj h
      exact g_iret F e dX9_number_109 ⟨rfl, rfl, rfl⟩
  · refine g_aload_n F 0 dX9_number_82 rfl rfl ?_
    refine u_callV (k := 62) (As := []) (rest := []) (sn := fun _ => []) F B (fun _ => wX9_bad (zl z) E hE bk  I J) mX9_bad q951 rfl s62 rfl rfl rfl (Nat.le_of_ble_eq_true rfl) dX9_number_83 (fun _ => rfl) h (fun r13 h => ?_)
    refine g_goto (tgt := 108) F dX9_number_86 (by decide) ?_
    refine g_iload_n F 2 dX9_number_108 rfl rfl ?_
    obtain rfl := Option.some.inj h
    exact g_iret F e dX9_number_109 ⟨rfl, rfl, rfl⟩
noncomputable def fX9_number (v1 : Int32) (I : gM) : Option (Int32 × gM) :=
  if (I 62 4) = (-1) then
    (fX9_ahead I).bind fun r1 =>
    (fX9_isDigit r1.1).bind fun r2 =>
    if r2 = 0 then
      bX9_number_18 r1.2
    else
      (lX9_number_28 ((0 : Int32), (0 : Int32), r1.2)).bind fun w8 =>
      bX9_number_72 v1 w8.1 w8.2
  else
    bX9_number_18 I
set_option maxRecDepth 100000 in
set_option maxHeartbeats 4000000 in
theorem wX9_number (l : Launch) (E : gE) (hE : gDist sh E) (bk : Nat) (v1 : Int32) (I : gM) (J : gN) {r : Int32 × gM} (h : fX9_number v1 I = some r) : Cu l sh E bk yX9_number cX9_number 4 (some .int) (gR 2) [.ref (E.2.1 62), .int v1] I J (fun r1 I1 J1 => r1 = some (.int r.1) ∧ I1 = r.2 ∧ J1 = J) := by
  refine Cu.of "LeapJoinModel" rfl hE (by decide) (Nat.le_of_ble_eq_true rfl) (fun z F B e hl => ?_)
  subst hl
  unfold fX9_number at h
  refine g_aload_n F 0 dX9_number_0 rfl rfl ?_
  refine g_geti (j := 4) (v := I 62 4) F s62 rfl rfl uX9 (by decide) q825 rfl dX9_number_1 ?_
  refine g_iconst (v := (-1)) F dX9_number_4 (by decide) ?_
  refine u_icmp_ne (tgt := 18) F dX9_number_5 (by decide) h (fun h => ?_) (fun h => ?_)
  · refine g_aload_n F 0 dX9_number_8 rfl rfl ?_
    refine u_callV (k := 62) (As := []) (rest := []) (sn := fun r1 => [.int r1.1]) F B (fun _ => wX9_ahead (zl z) E hE bk  I J) mX9_ahead q942 rfl s62 rfl rfl rfl (Nat.le_of_ble_eq_true rfl) dX9_number_9 (fun _ => rfl) h (fun r1 h => ?_)
    refine u_callS (As := [.int r1.1]) (rest := []) (sn := fun r2 => [.int r2]) F B (fun _ => wX9_isDigit (zl z) E hE bk r1.1 r1.2 J) mX9_isDigit q960 rfl rfl rfl (Nat.le_of_ble_eq_true rfl) dX9_number_12 (fun _ => rfl) h (fun r2 h => ?_)
    refine u_if_ne (tgt := 24) F dX9_number_15 (by decide) h (fun h => ?_) (fun h => ?_)
    · refine g_sub (Ln := [(0, .ref (E.2.1 62))]) [0] rfl ?_
      exact wbX9_number_18 F B hE r1.2 J h e
    · refine g_iconst (v := 0) F dX9_number_24 (by decide) ?_
      refine g_istore_n (Ln := [(2, .int 0), (0, .ref (E.2.1 62)), (1, .int v1)]) F dX9_number_25 rfl (by decide) rfl ?_
      refine g_iconst (v := 0) F dX9_number_26 (by decide) ?_
      refine g_istore_n (Ln := [(3, .int 0), (2, .int 0), (0, .ref (E.2.1 62)), (1, .int v1)]) F dX9_number_27 rfl (by decide) rfl ?_
      obtain ⟨w8, ew8, h⟩ := ob h
      refine g_sub (Ln := [(0, .ref (E.2.1 62)), (1, .int v1), (2, .int 0), (3, .int 0)]) [2, 3, 1, 0] rfl ?_
      refine wlX9_number_28 F B hE v1 J _ ew8 ?_
      refine g_sub (Ln := [(0, .ref (E.2.1 62)), (1, .int v1), (2, .int w8.1)]) [0, 1, 2] rfl ?_
      exact wbX9_number_72 F B hE v1 w8.1 w8.2 J h e
  · refine g_sub (Ln := [(0, .ref (E.2.1 62))]) [0] rfl ?_
    exact wbX9_number_18 F B hE I J h e
theorem DX9_digit_0 : dAre cX9_digit [(0, .aload_n 0, 1), (1, .getfield 115, 3), (4, .iconst (-1), 1), (5, .if_icmp .ne 13, 3), (8, .aload_n 0, 1), (9, .invokevirtual 118, 3), (12, .invokestatic 124, 3), (15, .ifCond .ne 9, 3), (18, .aload_n 0, 1), (19, .invokevirtual 121, 3), (22, .iconst 0, 1), (23, .ireturn, 1), (24, .aload_n 0, 1), (25, .dup, 1), (26, .getfield 108, 3), (29, .iconst 1, 1)] := dAre0 (by decide +kernel)
theorem dX9_digit_0 : decode cX9_digit 0 = .ok (.aload_n 0, 1) := DX9_digit_0.1
theorem dX9_digit_1 : decode cX9_digit 1 = .ok (.getfield 115, 3) := DX9_digit_0.2.1
theorem dX9_digit_4 : decode cX9_digit 4 = .ok (.iconst (-1), 1) := DX9_digit_0.2.2.1
theorem dX9_digit_5 : decode cX9_digit 5 = .ok (.if_icmp .ne 13, 3) := DX9_digit_0.2.2.2.1
theorem dX9_digit_8 : decode cX9_digit 8 = .ok (.aload_n 0, 1) := DX9_digit_0.2.2.2.2.1
theorem dX9_digit_9 : decode cX9_digit 9 = .ok (.invokevirtual 118, 3) := DX9_digit_0.2.2.2.2.2.1
theorem dX9_digit_12 : decode cX9_digit 12 = .ok (.invokestatic 124, 3) := DX9_digit_0.2.2.2.2.2.2.1
theorem dX9_digit_15 : decode cX9_digit 15 = .ok (.ifCond .ne 9, 3) := DX9_digit_0.2.2.2.2.2.2.2.1
theorem dX9_digit_18 : decode cX9_digit 18 = .ok (.aload_n 0, 1) := DX9_digit_0.2.2.2.2.2.2.2.2.1
theorem dX9_digit_19 : decode cX9_digit 19 = .ok (.invokevirtual 121, 3) := DX9_digit_0.2.2.2.2.2.2.2.2.2.1
theorem dX9_digit_22 : decode cX9_digit 22 = .ok (.iconst 0, 1) := DX9_digit_0.2.2.2.2.2.2.2.2.2.2.1
theorem dX9_digit_23 : decode cX9_digit 23 = .ok (.ireturn, 1) := DX9_digit_0.2.2.2.2.2.2.2.2.2.2.2.1
theorem dX9_digit_24 : decode cX9_digit 24 = .ok (.aload_n 0, 1) := DX9_digit_0.2.2.2.2.2.2.2.2.2.2.2.2.1
theorem dX9_digit_25 : decode cX9_digit 25 = .ok (.dup, 1) := DX9_digit_0.2.2.2.2.2.2.2.2.2.2.2.2.2.1
theorem dX9_digit_26 : decode cX9_digit 26 = .ok (.getfield 108, 3) := DX9_digit_0.2.2.2.2.2.2.2.2.2.2.2.2.2.2.1
theorem dX9_digit_29 : decode cX9_digit 29 = .ok (.iconst 1, 1) := DX9_digit_0.2.2.2.2.2.2.2.2.2.2.2.2.2.2.2.1
theorem DX9_digit_30 : dAre cX9_digit [(30, .iadd, 1), (31, .putfield 108, 3), (34, .aload_n 0, 1), (35, .getfield 9, 3), (38, .aload_n 0, 1), (39, .getfield 108, 3), (42, .iconst 1, 1), (43, .isub, 1), (44, .iaload, 1), (45, .bipush 48, 2), (47, .isub, 1), (48, .ireturn, 1)] := dAre0 (by decide +kernel)
theorem dX9_digit_30 : decode cX9_digit 30 = .ok (.iadd, 1) := DX9_digit_30.1
theorem dX9_digit_31 : decode cX9_digit 31 = .ok (.putfield 108, 3) := DX9_digit_30.2.1
theorem dX9_digit_34 : decode cX9_digit 34 = .ok (.aload_n 0, 1) := DX9_digit_30.2.2.1
theorem dX9_digit_35 : decode cX9_digit 35 = .ok (.getfield 9, 3) := DX9_digit_30.2.2.2.1
theorem dX9_digit_38 : decode cX9_digit 38 = .ok (.aload_n 0, 1) := DX9_digit_30.2.2.2.2.1
theorem dX9_digit_39 : decode cX9_digit 39 = .ok (.getfield 108, 3) := DX9_digit_30.2.2.2.2.2.1
theorem dX9_digit_42 : decode cX9_digit 42 = .ok (.iconst 1, 1) := DX9_digit_30.2.2.2.2.2.2.1
theorem dX9_digit_43 : decode cX9_digit 43 = .ok (.isub, 1) := DX9_digit_30.2.2.2.2.2.2.2.1
theorem dX9_digit_44 : decode cX9_digit 44 = .ok (.iaload, 1) := DX9_digit_30.2.2.2.2.2.2.2.2.1
theorem dX9_digit_45 : decode cX9_digit 45 = .ok (.bipush 48, 2) := DX9_digit_30.2.2.2.2.2.2.2.2.2.1
theorem dX9_digit_47 : decode cX9_digit 47 = .ok (.isub, 1) := DX9_digit_30.2.2.2.2.2.2.2.2.2.2.1
theorem dX9_digit_48 : decode cX9_digit 48 = .ok (.ireturn, 1) := DX9_digit_30.2.2.2.2.2.2.2.2.2.2.2.1
theorem mX9_digit : gMv yX9_digit cX9_digit 1 (some .int) RX9 0 := ⟨q979, q1395, q10, q980, rfl, by decide, by decide, by decide +kernel⟩
noncomputable def bX9_digit_18 (I : gM) : Option (Int32 × gM) :=
  (fX9_bad I).bind fun r3 =>
  some ((0 : Int32), r3)
set_option maxRecDepth 100000 in
set_option maxHeartbeats 4000000 in
theorem wbX9_digit_18 {z : gZ} {E : gE} {bk : Nat} (F : Fx z sh E "LeapJoinModel" cX9_digit (gR 2) 1) (B : bZ z bk) (hE : gDist sh E) (I : gM) (J : gN) {y : Int32 × gM} (h : bX9_digit_18 I = some y) (e : Fe z sh E (some .int) (fun r1 I1 J1 => r1 = some (.int y.1) ∧ I1 = y.2 ∧ J1 = J)) : G z 18 [(0, .ref (E.2.1 62))] [] I J := by
  unfold bX9_digit_18 at h
  refine g_aload_n F 0 dX9_digit_18 rfl rfl ?_
  refine u_callV (k := 62) (As := []) (rest := []) (sn := fun _ => []) F B (fun _ => wX9_bad (zl z) E hE bk  I J) mX9_bad q951 rfl s62 rfl rfl rfl (Nat.le_of_ble_eq_true rfl) dX9_digit_19 (fun _ => rfl) h (fun r3 h => ?_)
  refine g_iconst (v := 0) F dX9_digit_22 (by decide) ?_
  obtain rfl := Option.some.inj h
  exact g_iret F e dX9_digit_23 ⟨rfl, rfl, rfl⟩
noncomputable def fX9_digit (I : gM) : Option (Int32 × gM) :=
  if (I 62 4) = (-1) then
    (fX9_ahead I).bind fun r1 =>
    (fX9_isDigit r1.1).bind fun r2 =>
    if r2 = 0 then
      bX9_digit_18 r1.2
    else
      (pU r1.2 62 3 ((r1.2 62 3) + 1)).bind fun I4 =>
      (rI 400 (I4 63) ((I4 62 3) - 1)).bind fun u5 =>
      some (u5 - 48, I4)
  else
    bX9_digit_18 I
set_option maxRecDepth 100000 in
set_option maxHeartbeats 4000000 in
theorem wX9_digit (l : Launch) (E : gE) (hE : gDist sh E) (bk : Nat) (I : gM) (J : gN) {r : Int32 × gM} (h : fX9_digit I = some r) : Cu l sh E bk yX9_digit cX9_digit 1 (some .int) (gR 2) [.ref (E.2.1 62)] I J (fun r1 I1 J1 => r1 = some (.int r.1) ∧ I1 = r.2 ∧ J1 = J) := by
  refine Cu.of "LeapJoinModel" rfl hE (by decide) (Nat.le_of_ble_eq_true rfl) (fun z F B e hl => ?_)
  subst hl
  unfold fX9_digit at h
  refine g_aload_n F 0 dX9_digit_0 rfl rfl ?_
  refine g_geti (j := 4) (v := I 62 4) F s62 rfl rfl uX9 (by decide) q825 rfl dX9_digit_1 ?_
  refine g_iconst (v := (-1)) F dX9_digit_4 (by decide) ?_
  refine u_icmp_ne (tgt := 18) F dX9_digit_5 (by decide) h (fun h => ?_) (fun h => ?_)
  · refine g_aload_n F 0 dX9_digit_8 rfl rfl ?_
    refine u_callV (k := 62) (As := []) (rest := []) (sn := fun r1 => [.int r1.1]) F B (fun _ => wX9_ahead (zl z) E hE bk  I J) mX9_ahead q942 rfl s62 rfl rfl rfl (Nat.le_of_ble_eq_true rfl) dX9_digit_9 (fun _ => rfl) h (fun r1 h => ?_)
    refine u_callS (As := [.int r1.1]) (rest := []) (sn := fun r2 => [.int r2]) F B (fun _ => wX9_isDigit (zl z) E hE bk r1.1 r1.2 J) mX9_isDigit q960 rfl rfl rfl (Nat.le_of_ble_eq_true rfl) dX9_digit_12 (fun _ => rfl) h (fun r2 h => ?_)
    refine u_if_ne (tgt := 24) F dX9_digit_15 (by decide) h (fun h => ?_) (fun h => ?_)
    · refine g_sub (Ln := [(0, .ref (E.2.1 62))]) [0] rfl ?_
      exact wbX9_digit_18 F B hE r1.2 J h e
    · refine g_aload_n F 0 dX9_digit_24 rfl rfl ?_
      refine g_dup F dX9_digit_25 rfl ?_
      refine g_geti (j := 3) (v := r1.2 62 3) F s62 rfl rfl uX9 (by decide) q824 rfl dX9_digit_26 ?_
      refine g_iconst (v := 1) F dX9_digit_29 (by decide) ?_
      refine g_iadd (v := (r1.2 62 3) + 1) F dX9_digit_30 rfl ?_
      refine u_puti (j := 3) F s62 rfl rfl uX9 (by decide) q824 tyX9_ok nmX9 rfl rfl rfl dX9_digit_31 h (fun I4 h => ?_)
      refine g_aload_n F 0 dX9_digit_34 rfl rfl ?_
      refine g_getr (j := 1) (nn := 63) F s62 rfl rfl uX9 (by decide) q822 dX9_digit_35 ?_
      refine g_aload_n F 0 dX9_digit_38 rfl rfl ?_
      refine g_geti (j := 3) (v := I4 62 3) F s62 rfl rfl uX9 (by decide) q824 rfl dX9_digit_39 ?_
      refine g_iconst (v := 1) F dX9_digit_42 (by decide) ?_
      refine g_isub (v := (I4 62 3) - 1) F dX9_digit_43 rfl ?_
      refine u_rI F s63 (by decide) dX9_digit_44 h (fun u5 h => ?_)
      refine g_bipush (v := 48) F dX9_digit_45 (by decide) ?_
      refine g_isub (v := u5 - 48) F dX9_digit_47 rfl ?_
      obtain rfl := Option.some.inj h
      exact g_iret F e dX9_digit_48 ⟨rfl, rfl, rfl⟩
  · refine g_sub (Ln := [(0, .ref (E.2.1 62))]) [0] rfl ?_
    exact wbX9_digit_18 F B hE I J h e
theorem DX9_isLetter_0 : dAre cX9_isLetter [(0, .iload_n 1, 1), (1, .bipush 97, 2), (3, .if_icmp .lt 13, 3), (6, .iload_n 1, 1), (7, .bipush 100, 2), (9, .if_icmp .gt 7, 3), (12, .iconst 1, 1), (13, .goto 4, 3), (16, .iconst 0, 1), (17, .ireturn, 1)] := dAre0 (by decide +kernel)
theorem dX9_isLetter_0 : decode cX9_isLetter 0 = .ok (.iload_n 1, 1) := DX9_isLetter_0.1
theorem dX9_isLetter_1 : decode cX9_isLetter 1 = .ok (.bipush 97, 2) := DX9_isLetter_0.2.1
theorem dX9_isLetter_3 : decode cX9_isLetter 3 = .ok (.if_icmp .lt 13, 3) := DX9_isLetter_0.2.2.1
theorem dX9_isLetter_6 : decode cX9_isLetter 6 = .ok (.iload_n 1, 1) := DX9_isLetter_0.2.2.2.1
theorem dX9_isLetter_7 : decode cX9_isLetter 7 = .ok (.bipush 100, 2) := DX9_isLetter_0.2.2.2.2.1
theorem dX9_isLetter_9 : decode cX9_isLetter 9 = .ok (.if_icmp .gt 7, 3) := DX9_isLetter_0.2.2.2.2.2.1
theorem dX9_isLetter_12 : decode cX9_isLetter 12 = .ok (.iconst 1, 1) := DX9_isLetter_0.2.2.2.2.2.2.1
theorem dX9_isLetter_13 : decode cX9_isLetter 13 = .ok (.goto 4, 3) := DX9_isLetter_0.2.2.2.2.2.2.2.1
theorem dX9_isLetter_16 : decode cX9_isLetter 16 = .ok (.iconst 0, 1) := DX9_isLetter_0.2.2.2.2.2.2.2.2.1
theorem dX9_isLetter_17 : decode cX9_isLetter 17 = .ok (.ireturn, 1) := DX9_isLetter_0.2.2.2.2.2.2.2.2.2.1
theorem mX9_isLetter : gMv yX9_isLetter cX9_isLetter 2 (some .boolean) RX9 1 := ⟨q949, q1387, q10, q950, rfl, by decide, by decide, by decide +kernel⟩
noncomputable def fX9_isLetter (v1 : Int32) : Option (Int32) :=
  if v1 < 97 then
    some (0 : Int32)
  else
    if (100 : Int32) < v1 then
      some (0 : Int32)
    else
      some (1 : Int32)
set_option maxRecDepth 100000 in
set_option maxHeartbeats 4000000 in
theorem wX9_isLetter (l : Launch) (E : gE) (hE : gDist sh E) (bk : Nat) (v1 : Int32) (I : gM) (J : gN) {r : Int32} (h : fX9_isLetter v1 = some r) : Cu l sh E bk yX9_isLetter cX9_isLetter 2 (some .boolean) (gR 0) [.ref (E.2.1 62), .int v1] I J (fun r1 I1 J1 => r1 = some (.int r) ∧ I1 = I ∧ J1 = J) := by
  refine Cu.of "LeapJoinModel" rfl hE (by decide) (Nat.le_of_ble_eq_true rfl) (fun z F B e hl => ?_)
  subst hl
  unfold fX9_isLetter at h
  refine g_iload_n F 1 dX9_isLetter_0 rfl rfl ?_
  refine g_bipush (v := 97) F dX9_isLetter_1 (by decide) ?_
  refine u_icmp_lt (tgt := 16) F dX9_isLetter_3 (by decide) h (fun h => ?_) (fun h => ?_)
  · refine g_iconst (v := 0) F dX9_isLetter_16 (by decide) ?_
    obtain rfl := Option.some.inj h
    exact g_zret F rfl e dX9_isLetter_17 ⟨rfl, rfl, rfl⟩
  · refine g_iload_n F 1 dX9_isLetter_6 rfl rfl ?_
    refine g_bipush (v := 100) F dX9_isLetter_7 (by decide) ?_
    refine u_icmp_gt (tgt := 16) F dX9_isLetter_9 (by decide) h (fun h => ?_) (fun h => ?_)
    · refine g_iconst (v := 0) F dX9_isLetter_16 (by decide) ?_
      obtain rfl := Option.some.inj h
      exact g_zret F rfl e dX9_isLetter_17 ⟨rfl, rfl, rfl⟩
    · refine g_iconst (v := 1) F dX9_isLetter_12 (by decide) ?_
      refine g_goto (tgt := 17) F dX9_isLetter_13 (by decide) ?_
      obtain rfl := Option.some.inj h
      exact g_zret F rfl e dX9_isLetter_17 ⟨rfl, rfl, rfl⟩
theorem DX9_readHead_0 : dAre cX9_readHead [(0, .aload_n 0, 1), (1, .getfield 13, 3), (4, .iload_n 1, 1), (5, .iconst 0, 1), (6, .iastore, 1), (7, .iconst 0, 1), (8, .istore_n 2, 1), (9, .aload_n 0, 1), (10, .aload_n 0, 1), (11, .invokevirtual 118, 3), (14, .invokevirtual 128, 3), (17, .ifCond .ne 7, 3), (20, .aload_n 0, 1), (21, .invokevirtual 121, 3), (24, .aload_n 0, 1), (25, .getfield 115, 3)] := dAre0 (by decide +kernel)
theorem dX9_readHead_0 : decode cX9_readHead 0 = .ok (.aload_n 0, 1) := DX9_readHead_0.1
theorem dX9_readHead_1 : decode cX9_readHead 1 = .ok (.getfield 13, 3) := DX9_readHead_0.2.1
theorem dX9_readHead_4 : decode cX9_readHead 4 = .ok (.iload_n 1, 1) := DX9_readHead_0.2.2.1
theorem dX9_readHead_5 : decode cX9_readHead 5 = .ok (.iconst 0, 1) := DX9_readHead_0.2.2.2.1
theorem dX9_readHead_6 : decode cX9_readHead 6 = .ok (.iastore, 1) := DX9_readHead_0.2.2.2.2.1
theorem dX9_readHead_7 : decode cX9_readHead 7 = .ok (.iconst 0, 1) := DX9_readHead_0.2.2.2.2.2.1
theorem dX9_readHead_8 : decode cX9_readHead 8 = .ok (.istore_n 2, 1) := DX9_readHead_0.2.2.2.2.2.2.1
theorem dX9_readHead_9 : decode cX9_readHead 9 = .ok (.aload_n 0, 1) := DX9_readHead_0.2.2.2.2.2.2.2.1
theorem dX9_readHead_10 : decode cX9_readHead 10 = .ok (.aload_n 0, 1) := DX9_readHead_0.2.2.2.2.2.2.2.2.1
theorem dX9_readHead_11 : decode cX9_readHead 11 = .ok (.invokevirtual 118, 3) := DX9_readHead_0.2.2.2.2.2.2.2.2.2.1
theorem dX9_readHead_14 : decode cX9_readHead 14 = .ok (.invokevirtual 128, 3) := DX9_readHead_0.2.2.2.2.2.2.2.2.2.2.1
theorem dX9_readHead_17 : decode cX9_readHead 17 = .ok (.ifCond .ne 7, 3) := DX9_readHead_0.2.2.2.2.2.2.2.2.2.2.2.1
theorem dX9_readHead_20 : decode cX9_readHead 20 = .ok (.aload_n 0, 1) := DX9_readHead_0.2.2.2.2.2.2.2.2.2.2.2.2.1
theorem dX9_readHead_21 : decode cX9_readHead 21 = .ok (.invokevirtual 121, 3) := DX9_readHead_0.2.2.2.2.2.2.2.2.2.2.2.2.2.1
theorem dX9_readHead_24 : decode cX9_readHead 24 = .ok (.aload_n 0, 1) := DX9_readHead_0.2.2.2.2.2.2.2.2.2.2.2.2.2.2.1
theorem dX9_readHead_25 : decode cX9_readHead 25 = .ok (.getfield 115, 3) := DX9_readHead_0.2.2.2.2.2.2.2.2.2.2.2.2.2.2.2.1
theorem DX9_readHead_28 : dAre cX9_readHead [(28, .iconst (-1), 1), (29, .if_icmp .ne 92, 3), (32, .aload_n 0, 1), (33, .aload_n 0, 1), (34, .invokevirtual 118, 3), (37, .invokevirtual 128, 3), (40, .ifCond .eq 81, 3), (43, .aload_n 0, 1), (44, .invokevirtual 111, 3), (47, .bipush 97, 2), (49, .isub, 1), (50, .istore_n 3, 1), (51, .aload_n 0, 1), (52, .getfield 13, 3), (55, .iload_n 1, 1), (56, .iaload, 1)] := dAre0 (by decide +kernel)
theorem dX9_readHead_28 : decode cX9_readHead 28 = .ok (.iconst (-1), 1) := DX9_readHead_28.1
theorem dX9_readHead_29 : decode cX9_readHead 29 = .ok (.if_icmp .ne 92, 3) := DX9_readHead_28.2.1
theorem dX9_readHead_32 : decode cX9_readHead 32 = .ok (.aload_n 0, 1) := DX9_readHead_28.2.2.1
theorem dX9_readHead_33 : decode cX9_readHead 33 = .ok (.aload_n 0, 1) := DX9_readHead_28.2.2.2.1
theorem dX9_readHead_34 : decode cX9_readHead 34 = .ok (.invokevirtual 118, 3) := DX9_readHead_28.2.2.2.2.1
theorem dX9_readHead_37 : decode cX9_readHead 37 = .ok (.invokevirtual 128, 3) := DX9_readHead_28.2.2.2.2.2.1
theorem dX9_readHead_40 : decode cX9_readHead 40 = .ok (.ifCond .eq 81, 3) := DX9_readHead_28.2.2.2.2.2.2.1
theorem dX9_readHead_43 : decode cX9_readHead 43 = .ok (.aload_n 0, 1) := DX9_readHead_28.2.2.2.2.2.2.2.1
theorem dX9_readHead_44 : decode cX9_readHead 44 = .ok (.invokevirtual 111, 3) := DX9_readHead_28.2.2.2.2.2.2.2.2.1
theorem dX9_readHead_47 : decode cX9_readHead 47 = .ok (.bipush 97, 2) := DX9_readHead_28.2.2.2.2.2.2.2.2.2.1
theorem dX9_readHead_49 : decode cX9_readHead 49 = .ok (.isub, 1) := DX9_readHead_28.2.2.2.2.2.2.2.2.2.2.1
theorem dX9_readHead_50 : decode cX9_readHead 50 = .ok (.istore_n 3, 1) := DX9_readHead_28.2.2.2.2.2.2.2.2.2.2.2.1
theorem dX9_readHead_51 : decode cX9_readHead 51 = .ok (.aload_n 0, 1) := DX9_readHead_28.2.2.2.2.2.2.2.2.2.2.2.2.1
theorem dX9_readHead_52 : decode cX9_readHead 52 = .ok (.getfield 13, 3) := DX9_readHead_28.2.2.2.2.2.2.2.2.2.2.2.2.2.1
theorem dX9_readHead_55 : decode cX9_readHead 55 = .ok (.iload_n 1, 1) := DX9_readHead_28.2.2.2.2.2.2.2.2.2.2.2.2.2.2.1
theorem dX9_readHead_56 : decode cX9_readHead 56 = .ok (.iaload, 1) := DX9_readHead_28.2.2.2.2.2.2.2.2.2.2.2.2.2.2.2.1
theorem DX9_readHead_57 : dAre cX9_readHead [(57, .iconst 3, 1), (58, .if_icmp .eq 11, 3), (61, .iload_n 2, 1), (62, .iload_n 3, 1), (63, .invokestatic 131, 3), (66, .ifCond .eq 10, 3), (69, .aload_n 0, 1), (70, .invokevirtual 121, 3), (73, .goto 45, 3), (76, .iload_n 2, 1), (77, .iconst 1, 1), (78, .iload_n 3, 1), (79, .ishl, 1), (80, .ior, 1), (81, .istore_n 2, 1), (82, .aload_n 0, 1)] := dAre0 (by decide +kernel)
theorem dX9_readHead_57 : decode cX9_readHead 57 = .ok (.iconst 3, 1) := DX9_readHead_57.1
theorem dX9_readHead_58 : decode cX9_readHead 58 = .ok (.if_icmp .eq 11, 3) := DX9_readHead_57.2.1
theorem dX9_readHead_61 : decode cX9_readHead 61 = .ok (.iload_n 2, 1) := DX9_readHead_57.2.2.1
theorem dX9_readHead_62 : decode cX9_readHead 62 = .ok (.iload_n 3, 1) := DX9_readHead_57.2.2.2.1
theorem dX9_readHead_63 : decode cX9_readHead 63 = .ok (.invokestatic 131, 3) := DX9_readHead_57.2.2.2.2.1
theorem dX9_readHead_66 : decode cX9_readHead 66 = .ok (.ifCond .eq 10, 3) := DX9_readHead_57.2.2.2.2.2.1
theorem dX9_readHead_69 : decode cX9_readHead 69 = .ok (.aload_n 0, 1) := DX9_readHead_57.2.2.2.2.2.2.1
theorem dX9_readHead_70 : decode cX9_readHead 70 = .ok (.invokevirtual 121, 3) := DX9_readHead_57.2.2.2.2.2.2.2.1
theorem dX9_readHead_73 : decode cX9_readHead 73 = .ok (.goto 45, 3) := DX9_readHead_57.2.2.2.2.2.2.2.2.1
theorem dX9_readHead_76 : decode cX9_readHead 76 = .ok (.iload_n 2, 1) := DX9_readHead_57.2.2.2.2.2.2.2.2.2.1
theorem dX9_readHead_77 : decode cX9_readHead 77 = .ok (.iconst 1, 1) := DX9_readHead_57.2.2.2.2.2.2.2.2.2.2.1
theorem dX9_readHead_78 : decode cX9_readHead 78 = .ok (.iload_n 3, 1) := DX9_readHead_57.2.2.2.2.2.2.2.2.2.2.2.1
theorem dX9_readHead_79 : decode cX9_readHead 79 = .ok (.ishl, 1) := DX9_readHead_57.2.2.2.2.2.2.2.2.2.2.2.2.1
theorem dX9_readHead_80 : decode cX9_readHead 80 = .ok (.ior, 1) := DX9_readHead_57.2.2.2.2.2.2.2.2.2.2.2.2.2.1
theorem dX9_readHead_81 : decode cX9_readHead 81 = .ok (.istore_n 2, 1) := DX9_readHead_57.2.2.2.2.2.2.2.2.2.2.2.2.2.2.1
theorem dX9_readHead_82 : decode cX9_readHead 82 = .ok (.aload_n 0, 1) := DX9_readHead_57.2.2.2.2.2.2.2.2.2.2.2.2.2.2.2.1
theorem DX9_readHead_83 : dAre cX9_readHead [(83, .getfield 16, 3), (86, .iconst 3, 1), (87, .iload_n 1, 1), (88, .imul, 1), (89, .aload_n 0, 1), (90, .getfield 13, 3), (93, .iload_n 1, 1), (94, .iaload, 1), (95, .iadd, 1), (96, .iload_n 3, 1), (97, .iastore, 1), (98, .aload_n 0, 1), (99, .getfield 13, 3), (102, .iload_n 1, 1), (103, .dup2, 1), (104, .iaload, 1)] := dAre0 (by decide +kernel)
theorem dX9_readHead_83 : decode cX9_readHead 83 = .ok (.getfield 16, 3) := DX9_readHead_83.1
theorem dX9_readHead_86 : decode cX9_readHead 86 = .ok (.iconst 3, 1) := DX9_readHead_83.2.1
theorem dX9_readHead_87 : decode cX9_readHead 87 = .ok (.iload_n 1, 1) := DX9_readHead_83.2.2.1
theorem dX9_readHead_88 : decode cX9_readHead 88 = .ok (.imul, 1) := DX9_readHead_83.2.2.2.1
theorem dX9_readHead_89 : decode cX9_readHead 89 = .ok (.aload_n 0, 1) := DX9_readHead_83.2.2.2.2.1
theorem dX9_readHead_90 : decode cX9_readHead 90 = .ok (.getfield 13, 3) := DX9_readHead_83.2.2.2.2.2.1
theorem dX9_readHead_93 : decode cX9_readHead 93 = .ok (.iload_n 1, 1) := DX9_readHead_83.2.2.2.2.2.2.1
theorem dX9_readHead_94 : decode cX9_readHead 94 = .ok (.iaload, 1) := DX9_readHead_83.2.2.2.2.2.2.2.1
theorem dX9_readHead_95 : decode cX9_readHead 95 = .ok (.iadd, 1) := DX9_readHead_83.2.2.2.2.2.2.2.2.1
theorem dX9_readHead_96 : decode cX9_readHead 96 = .ok (.iload_n 3, 1) := DX9_readHead_83.2.2.2.2.2.2.2.2.2.1
theorem dX9_readHead_97 : decode cX9_readHead 97 = .ok (.iastore, 1) := DX9_readHead_83.2.2.2.2.2.2.2.2.2.2.1
theorem dX9_readHead_98 : decode cX9_readHead 98 = .ok (.aload_n 0, 1) := DX9_readHead_83.2.2.2.2.2.2.2.2.2.2.2.1
theorem dX9_readHead_99 : decode cX9_readHead 99 = .ok (.getfield 13, 3) := DX9_readHead_83.2.2.2.2.2.2.2.2.2.2.2.2.1
theorem dX9_readHead_102 : decode cX9_readHead 102 = .ok (.iload_n 1, 1) := DX9_readHead_83.2.2.2.2.2.2.2.2.2.2.2.2.2.1
theorem dX9_readHead_103 : decode cX9_readHead 103 = .ok (.dup2, 1) := DX9_readHead_83.2.2.2.2.2.2.2.2.2.2.2.2.2.2.1
theorem dX9_readHead_104 : decode cX9_readHead 104 = .ok (.iaload, 1) := DX9_readHead_83.2.2.2.2.2.2.2.2.2.2.2.2.2.2.2.1
theorem DX9_readHead_105 : dAre cX9_readHead [(105, .iconst 1, 1), (106, .iadd, 1), (107, .iastore, 1), (108, .aload_n 0, 1), (109, .dup, 1), (110, .getfield 108, 3), (113, .iconst 1, 1), (114, .iadd, 1), (115, .putfield 108, 3), (118, .goto (-94), 3), (121, .aload_n 0, 1), (122, .bipush 58, 2), (124, .invokevirtual 135, 3), (127, .return_, 1)] := dAre0 (by decide +kernel)
theorem dX9_readHead_105 : decode cX9_readHead 105 = .ok (.iconst 1, 1) := DX9_readHead_105.1
theorem dX9_readHead_106 : decode cX9_readHead 106 = .ok (.iadd, 1) := DX9_readHead_105.2.1
theorem dX9_readHead_107 : decode cX9_readHead 107 = .ok (.iastore, 1) := DX9_readHead_105.2.2.1
theorem dX9_readHead_108 : decode cX9_readHead 108 = .ok (.aload_n 0, 1) := DX9_readHead_105.2.2.2.1
theorem dX9_readHead_109 : decode cX9_readHead 109 = .ok (.dup, 1) := DX9_readHead_105.2.2.2.2.1
theorem dX9_readHead_110 : decode cX9_readHead 110 = .ok (.getfield 108, 3) := DX9_readHead_105.2.2.2.2.2.1
theorem dX9_readHead_113 : decode cX9_readHead 113 = .ok (.iconst 1, 1) := DX9_readHead_105.2.2.2.2.2.2.1
theorem dX9_readHead_114 : decode cX9_readHead 114 = .ok (.iadd, 1) := DX9_readHead_105.2.2.2.2.2.2.2.1
theorem dX9_readHead_115 : decode cX9_readHead 115 = .ok (.putfield 108, 3) := DX9_readHead_105.2.2.2.2.2.2.2.2.1
theorem dX9_readHead_118 : decode cX9_readHead 118 = .ok (.goto (-94), 3) := DX9_readHead_105.2.2.2.2.2.2.2.2.2.1
theorem dX9_readHead_121 : decode cX9_readHead 121 = .ok (.aload_n 0, 1) := DX9_readHead_105.2.2.2.2.2.2.2.2.2.2.1
theorem dX9_readHead_122 : decode cX9_readHead 122 = .ok (.bipush 58, 2) := DX9_readHead_105.2.2.2.2.2.2.2.2.2.2.2.1
theorem dX9_readHead_124 : decode cX9_readHead 124 = .ok (.invokevirtual 135, 3) := DX9_readHead_105.2.2.2.2.2.2.2.2.2.2.2.2.1
theorem dX9_readHead_127 : decode cX9_readHead 127 = .ok (.return_, 1) := DX9_readHead_105.2.2.2.2.2.2.2.2.2.2.2.2.2.1
theorem mX9_readHead : gMv yX9_readHead cX9_readHead 4 none RX9 1 := ⟨q940, q1384, q10, q941, rfl, by decide, by decide, by decide +kernel⟩
noncomputable def bX9_readHead_118 (v2 : Int32) (I : gM) : Option ((Int32 × gM) ⊕ (gM)) :=
  some (.inl (v2, I))
set_option maxRecDepth 100000 in
set_option maxHeartbeats 4000000 in
theorem wbX9_readHead_118 {z : gZ} {E : gE} {bk : Nat} (F : Fx z sh E "LeapJoinModel" cX9_readHead (gR 3) 4) (B : bZ z bk) (hE : gDist sh E) (v1 : Int32) (v2 : Int32) (I : gM) (J : gN) {y : (Int32 × gM) ⊕ (gM)} (h : bX9_readHead_118 v2 I = some y) (hl : ∀ s' : Int32 × gM, y = .inl s' → G z 24 [(0, .ref (E.2.1 62)), (1, .int v1), (2, .int (s'.1))] [] s'.2 J) (K24_0 : ∀ x : gM, y = .inr x → G z 121 [(0, .ref (E.2.1 62))] [] x J) : G z 118 [(0, .ref (E.2.1 62)), (1, .int v1), (2, .int v2)] [] I J := by
  unfold bX9_readHead_118 at h
  refine g_goto (tgt := 24) F dX9_readHead_118 (by decide) ?_
  obtain rfl := Option.some.inj h
  refine g_sub (Ln := [(0, .ref (E.2.1 62)), (1, .int v1), (2, .int v2)]) [0, 1, 2] rfl ?_
  exact hl (v2, I) rfl
noncomputable def bX9_readHead_69 (v2 : Int32) (I : gM) : Option ((Int32 × gM) ⊕ (gM)) :=
  (fX9_bad I).bind fun r9 =>
  bX9_readHead_118 v2 r9
set_option maxRecDepth 100000 in
set_option maxHeartbeats 4000000 in
theorem wbX9_readHead_69 {z : gZ} {E : gE} {bk : Nat} (F : Fx z sh E "LeapJoinModel" cX9_readHead (gR 3) 4) (B : bZ z bk) (hE : gDist sh E) (v1 : Int32) (v2 : Int32) (I : gM) (J : gN) {y : (Int32 × gM) ⊕ (gM)} (h : bX9_readHead_69 v2 I = some y) (hl : ∀ s' : Int32 × gM, y = .inl s' → G z 24 [(0, .ref (E.2.1 62)), (1, .int v1), (2, .int (s'.1))] [] s'.2 J) (K24_0 : ∀ x : gM, y = .inr x → G z 121 [(0, .ref (E.2.1 62))] [] x J) : G z 69 [(0, .ref (E.2.1 62)), (1, .int v1), (2, .int v2)] [] I J := by
  unfold bX9_readHead_69 at h
  refine g_aload_n F 0 dX9_readHead_69 rfl rfl ?_
  refine u_callV (k := 62) (As := []) (rest := []) (sn := fun _ => []) F B (fun _ => wX9_bad (zl z) E hE bk  I J) mX9_bad q951 rfl s62 rfl rfl rfl (Nat.le_of_ble_eq_true rfl) dX9_readHead_70 (fun _ => rfl) h (fun r9 h => ?_)
  refine g_goto (tgt := 118) F dX9_readHead_73 (by decide) ?_
  refine g_sub (Ln := [(0, .ref (E.2.1 62)), (1, .int v1), (2, .int v2)]) [0, 1, 2] rfl ?_
  exact wbX9_readHead_118 F B hE v1 v2 r9 J h hl K24_0
noncomputable def lX9_readHead_24 (v1 : Int32) : (Int32 × gM) → Option (gM) :=
  itO fun s =>
    if (s.2 62 4) = (-1) then
      (fX9_ahead s.2).bind fun r5 =>
      (fX9_isLetter r5.1).bind fun r6 =>
      if r6 = 0 then
        some (.inr r5.2)
      else
        (fX9_here r5.2).bind fun r7 =>
        (rI 4 (r5.2 64) v1).bind fun u8 =>
        if u8 = 3 then
          bX9_readHead_69 s.1 r5.2
        else
          (fX9_has s.1 (r7 - 97)).bind fun r10 =>
          if r10 = 0 then
            (rI 4 (r5.2 64) v1).bind fun u11 =>
            (wI r5.2 65 12 (((3 : Int32) * v1) + u11) (r7 - 97)).bind fun I12 =>
            (rI 4 (I12 64) v1).bind fun u13 =>
            (wI I12 64 4 v1 (u13 + 1)).bind fun I14 =>
            (pU I14 62 3 ((I14 62 3) + 1)).bind fun I15 =>
            bX9_readHead_118 (s.1 ||| ((1 : Int32) <<< ((r7 - 97) &&& 31))) I15
          else
            bX9_readHead_69 s.1 r5.2
    else
      some (.inr s.2)
set_option maxRecDepth 100000 in
set_option maxHeartbeats 4000000 in
theorem wlX9_readHead_24 {z : gZ} {E : gE} {bk : Nat} (F : Fx z sh E "LeapJoinModel" cX9_readHead (gR 3) 4) (B : bZ z bk) (hE : gDist sh E) (v1 : Int32) (J : gN) {r : gM} : ∀ s : Int32 × gM, lX9_readHead_24 v1 s = some r → (G z 121 [(0, .ref (E.2.1 62))] [] r J) → G z 24 [(0, .ref (E.2.1 62)), (1, .int v1), (2, .int s.1)] [] s.2 J := by
  intro s h X0
  unfold lX9_readHead_24 at h
  revert s
  refine itO_ind (P := fun s : Int32 × gM => G z 24 [(0, .ref (E.2.1 62)), (1, .int v1), (2, .int s.1)] [] s.2 J) (fun s y h hl hr => ?_)
  have K24_0 : ∀ x : gM, y = .inr x → (G z 121 [(0, .ref (E.2.1 62))] [] x J) := fun x q => by have q2 := hr _ q; subst q2; exact X0
  refine g_aload_n F 0 dX9_readHead_24 rfl rfl ?_
  refine g_geti (j := 4) (v := s.2 62 4) F s62 rfl rfl uX9 (by decide) q825 rfl dX9_readHead_25 ?_
  refine g_iconst (v := (-1)) F dX9_readHead_28 (by decide) ?_
  refine u_icmp_ne (tgt := 121) F dX9_readHead_29 (by decide) h (fun h => ?_) (fun h => ?_)
  · refine g_aload_n F 0 dX9_readHead_32 rfl rfl ?_
    refine g_aload_n F 0 dX9_readHead_33 rfl rfl ?_
    refine u_callV (k := 62) (As := []) (rest := [.ref (E.2.1 62)]) (sn := fun r5 => [.int r5.1, .ref (E.2.1 62)]) F B (fun _ => wX9_ahead (zl z) E hE bk  s.2 J) mX9_ahead q942 rfl s62 rfl rfl rfl (Nat.le_of_ble_eq_true rfl) dX9_readHead_34 (fun _ => rfl) h (fun r5 h => ?_)
    refine u_callV (k := 62) (As := [.int r5.1]) (rest := []) (sn := fun r6 => [.int r6]) F B (fun _ => wX9_isLetter (zl z) E hE bk r5.1 r5.2 J) mX9_isLetter q948 rfl s62 rfl rfl rfl (Nat.le_of_ble_eq_true rfl) dX9_readHead_37 (fun _ => rfl) h (fun r6 h => ?_)
    refine u_if_eq (tgt := 121) F dX9_readHead_40 (by decide) h (fun h => ?_) (fun h => ?_)
    · obtain rfl := Option.some.inj h
      refine g_sub (Ln := [(0, .ref (E.2.1 62))]) [0] rfl ?_
      exact K24_0 r5.2 rfl
    · refine g_aload_n F 0 dX9_readHead_43 rfl rfl ?_
      refine u_callV (k := 62) (As := []) (rest := []) (sn := fun r7 => [.int r7]) F B (fun _ => wX9_here (zl z) E hE bk  r5.2 J) mX9_here q945 rfl s62 rfl rfl rfl (Nat.le_of_ble_eq_true rfl) dX9_readHead_44 (fun _ => rfl) h (fun r7 h => ?_)
      refine g_bipush (v := 97) F dX9_readHead_47 (by decide) ?_
      refine g_isub (v := r7 - 97) F dX9_readHead_49 rfl ?_
      refine g_istore_n (Ln := [(3, .int (r7 - 97)), (0, .ref (E.2.1 62)), (1, .int v1), (2, .int s.1)]) F dX9_readHead_50 rfl (by decide) rfl ?_
      refine g_aload_n F 1 dX9_readHead_51 rfl rfl ?_
      refine g_getr (j := 5) (nn := 64) F s62 rfl rfl uX9 (by decide) q826 dX9_readHead_52 ?_
      refine g_iload_n F 2 dX9_readHead_55 rfl rfl ?_
      refine u_rI F s64 (by decide) dX9_readHead_56 h (fun u8 h => ?_)
      refine g_iconst (v := 3) F dX9_readHead_57 (by decide) ?_
      refine u_icmp_eq (tgt := 69) F dX9_readHead_58 (by decide) h (fun h => ?_) (fun h => ?_)
      · refine g_sub (Ln := [(0, .ref (E.2.1 62)), (1, .int v1), (2, .int s.1)]) [1, 2, 3] rfl ?_
        exact wbX9_readHead_69 F B hE v1 s.1 r5.2 J h hl K24_0
      · refine g_iload_n F 3 dX9_readHead_61 rfl rfl ?_
        refine g_iload_n F 0 dX9_readHead_62 rfl rfl ?_
        refine u_callS (As := [.int s.1, .int (r7 - 97)]) (rest := []) (sn := fun r10 => [.int r10]) F B (fun _ => wX9_has (zl z) E hE bk s.1 (r7 - 97) r5.2 J) mX9_has q954 rfl rfl rfl (Nat.le_of_ble_eq_true rfl) dX9_readHead_63 (fun _ => rfl) h (fun r10 h => ?_)
        refine u_if_eq (tgt := 76) F dX9_readHead_66 (by decide) h (fun h => ?_) (fun h => ?_)
        · refine g_iload_n F 3 dX9_readHead_76 rfl rfl ?_
          refine g_iconst (v := 1) F dX9_readHead_77 (by decide) ?_
          refine g_iload_n F 0 dX9_readHead_78 rfl rfl ?_
          refine g_ishl (v := (1 : Int32) <<< ((r7 - 97) &&& 31)) F dX9_readHead_79 rfl ?_
          refine g_ior (v := s.1 ||| ((1 : Int32) <<< ((r7 - 97) &&& 31))) F dX9_readHead_80 rfl ?_
          refine g_istore_n (Ln := [(2, .int (s.1 ||| ((1 : Int32) <<< ((r7 - 97) &&& 31)))), (3, .int (r7 - 97)), (0, .ref (E.2.1 62)), (1, .int v1)]) F dX9_readHead_81 rfl (by decide) rfl ?_
          refine g_aload_n F 2 dX9_readHead_82 rfl rfl ?_
          refine g_getr (j := 6) (nn := 65) F s62 rfl rfl uX9 (by decide) q827 dX9_readHead_83 ?_
          refine g_iconst (v := 3) F dX9_readHead_86 (by decide) ?_
          refine g_iload_n F 3 dX9_readHead_87 rfl rfl ?_
          refine g_imul (v := (3 : Int32) * v1) F dX9_readHead_88 rfl ?_
          refine g_aload_n F 2 dX9_readHead_89 rfl rfl ?_
          refine g_getr (j := 5) (nn := 64) F s62 rfl rfl uX9 (by decide) q826 dX9_readHead_90 ?_
          refine g_iload_n F 3 dX9_readHead_93 rfl rfl ?_
          refine u_rI F s64 (by decide) dX9_readHead_94 h (fun u11 h => ?_)
          refine g_iadd (v := ((3 : Int32) * v1) + u11) F dX9_readHead_95 rfl ?_
          refine g_iload_n F 1 dX9_readHead_96 rfl rfl ?_
          refine u_wI F s65 (by decide) dX9_readHead_97 h (fun I12 h => ?_)
          refine g_aload_n F 2 dX9_readHead_98 rfl rfl ?_
          refine g_getr (j := 5) (nn := 64) F s62 rfl rfl uX9 (by decide) q826 dX9_readHead_99 ?_
          refine g_iload_n F 3 dX9_readHead_102 rfl rfl ?_
          refine g_dup2 F dX9_readHead_103 rfl rfl ?_
          refine u_rI F s64 (by decide) dX9_readHead_104 h (fun u13 h => ?_)
          refine g_iconst (v := 1) F dX9_readHead_105 (by decide) ?_
          refine g_iadd (v := u13 + 1) F dX9_readHead_106 rfl ?_
          refine u_wI F s64 (by decide) dX9_readHead_107 h (fun I14 h => ?_)
          refine g_aload_n F 2 dX9_readHead_108 rfl rfl ?_
          refine g_dup F dX9_readHead_109 rfl ?_
          refine g_geti (j := 3) (v := I14 62 3) F s62 rfl rfl uX9 (by decide) q824 rfl dX9_readHead_110 ?_
          refine g_iconst (v := 1) F dX9_readHead_113 (by decide) ?_
          refine g_iadd (v := (I14 62 3) + 1) F dX9_readHead_114 rfl ?_
          refine u_puti (j := 3) F s62 rfl rfl uX9 (by decide) q824 tyX9_ok nmX9 rfl rfl rfl dX9_readHead_115 h (fun I15 h => ?_)
          refine g_sub (Ln := [(0, .ref (E.2.1 62)), (1, .int v1), (2, .int (s.1 ||| ((1 : Int32) <<< ((r7 - 97) &&& 31))))]) [2, 3, 0] rfl ?_
          exact wbX9_readHead_118 F B hE v1 (s.1 ||| ((1 : Int32) <<< ((r7 - 97) &&& 31))) I15 J h hl K24_0
        · refine g_sub (Ln := [(0, .ref (E.2.1 62)), (1, .int v1), (2, .int s.1)]) [1, 2, 3] rfl ?_
          exact wbX9_readHead_69 F B hE v1 s.1 r5.2 J h hl K24_0
  · obtain rfl := Option.some.inj h
    refine g_sub (Ln := [(0, .ref (E.2.1 62))]) [0] rfl ?_
    exact K24_0 s.2 rfl
noncomputable def bX9_readHead_121 (I : gM) : Option (gM) :=
  (fX9_must (58 : Int32) I).bind fun r17 =>
  some r17
set_option maxRecDepth 100000 in
set_option maxHeartbeats 4000000 in
theorem wbX9_readHead_121 {z : gZ} {E : gE} {bk : Nat} (F : Fx z sh E "LeapJoinModel" cX9_readHead (gR 3) 4) (B : bZ z bk) (hE : gDist sh E) (I : gM) (J : gN) {y : gM} (h : bX9_readHead_121 I = some y) (e : Fe z sh E none (fun r1 I1 J1 => r1 = none ∧ I1 = y ∧ J1 = J)) : G z 121 [(0, .ref (E.2.1 62))] [] I J := by
  unfold bX9_readHead_121 at h
  refine g_aload_n F 0 dX9_readHead_121 rfl rfl ?_
  refine g_bipush (v := 58) F dX9_readHead_122 (by decide) ?_
  refine u_callV (k := 62) (As := [.int 58]) (rest := []) (sn := fun _ => []) F B (fun _ => wX9_must (zl z) E hE bk (58 : Int32) I J) mX9_must q957 rfl s62 rfl rfl rfl (Nat.le_of_ble_eq_true rfl) dX9_readHead_124 (fun _ => rfl) h (fun r17 h => ?_)
  obtain rfl := Option.some.inj h
  exact g_vret F e dX9_readHead_127 ⟨rfl, rfl, rfl⟩
noncomputable def fX9_readHead (v1 : Int32) (I : gM) : Option (gM) :=
  (wI I 64 4 v1 0).bind fun I1 =>
  (fX9_ahead I1).bind fun r2 =>
  (fX9_isLetter r2.1).bind fun r3 =>
  if r3 = 0 then
    (fX9_bad r2.2).bind fun r4 =>
    (lX9_readHead_24 v1 ((0 : Int32), r4)).bind fun w16 =>
    bX9_readHead_121 w16
  else
    (lX9_readHead_24 v1 ((0 : Int32), r2.2)).bind fun w18 =>
    bX9_readHead_121 w18
set_option maxRecDepth 100000 in
set_option maxHeartbeats 4000000 in
theorem wX9_readHead (l : Launch) (E : gE) (hE : gDist sh E) (bk : Nat) (v1 : Int32) (I : gM) (J : gN) {r : gM} (h : fX9_readHead v1 I = some r) : Cu l sh E bk yX9_readHead cX9_readHead 4 none (gR 3) [.ref (E.2.1 62), .int v1] I J (fun r1 I1 J1 => r1 = none ∧ I1 = r ∧ J1 = J) := by
  refine Cu.of "LeapJoinModel" rfl hE (by decide) (Nat.le_of_ble_eq_true rfl) (fun z F B e hl => ?_)
  subst hl
  unfold fX9_readHead at h
  refine g_aload_n F 0 dX9_readHead_0 rfl rfl ?_
  refine g_getr (j := 5) (nn := 64) F s62 rfl rfl uX9 (by decide) q826 dX9_readHead_1 ?_
  refine g_iload_n F 1 dX9_readHead_4 rfl rfl ?_
  refine g_iconst (v := 0) F dX9_readHead_5 (by decide) ?_
  refine u_wI F s64 (by decide) dX9_readHead_6 h (fun I1 h => ?_)
  refine g_iconst (v := 0) F dX9_readHead_7 (by decide) ?_
  refine g_istore_n (Ln := [(2, .int 0), (0, .ref (E.2.1 62)), (1, .int v1)]) F dX9_readHead_8 rfl (by decide) rfl ?_
  refine g_aload_n F 1 dX9_readHead_9 rfl rfl ?_
  refine g_aload_n F 1 dX9_readHead_10 rfl rfl ?_
  refine u_callV (k := 62) (As := []) (rest := [.ref (E.2.1 62)]) (sn := fun r2 => [.int r2.1, .ref (E.2.1 62)]) F B (fun _ => wX9_ahead (zl z) E hE bk  I1 J) mX9_ahead q942 rfl s62 rfl rfl rfl (Nat.le_of_ble_eq_true rfl) dX9_readHead_11 (fun _ => rfl) h (fun r2 h => ?_)
  refine u_callV (k := 62) (As := [.int r2.1]) (rest := []) (sn := fun r3 => [.int r3]) F B (fun _ => wX9_isLetter (zl z) E hE bk r2.1 r2.2 J) mX9_isLetter q948 rfl s62 rfl rfl rfl (Nat.le_of_ble_eq_true rfl) dX9_readHead_14 (fun _ => rfl) h (fun r3 h => ?_)
  refine u_if_ne (tgt := 24) F dX9_readHead_17 (by decide) h (fun h => ?_) (fun h => ?_)
  · refine g_aload_n F 1 dX9_readHead_20 rfl rfl ?_
    refine u_callV (k := 62) (As := []) (rest := []) (sn := fun _ => []) F B (fun _ => wX9_bad (zl z) E hE bk  r2.2 J) mX9_bad q951 rfl s62 rfl rfl rfl (Nat.le_of_ble_eq_true rfl) dX9_readHead_21 (fun _ => rfl) h (fun r4 h => ?_)
    obtain ⟨w16, ew16, h⟩ := ob h
    refine g_sub (Ln := [(0, .ref (E.2.1 62)), (1, .int v1), (2, .int 0)]) [1, 2, 0] rfl ?_
    refine wlX9_readHead_24 F B hE v1 J _ ew16 ?_
    refine g_sub (Ln := [(0, .ref (E.2.1 62))]) [0] rfl ?_
    exact wbX9_readHead_121 F B hE w16 J h e
  · obtain ⟨w18, ew18, h⟩ := ob h
    refine g_sub (Ln := [(0, .ref (E.2.1 62)), (1, .int v1), (2, .int 0)]) [1, 2, 0] rfl ?_
    refine wlX9_readHead_24 F B hE v1 J _ ew18 ?_
    refine g_sub (Ln := [(0, .ref (E.2.1 62))]) [0] rfl ?_
    exact wbX9_readHead_121 F B hE w18 J h e
theorem DX9_readRow_0 : dAre cX9_readRow [(0, .iconst 3, 1), (1, .bipush 12, 2), (3, .iload_n 1, 1), (4, .imul, 1), (5, .aload_n 0, 1), (6, .getfield 19, 3), (9, .iload_n 1, 1), (10, .iaload, 1), (11, .iadd, 1), (12, .imul, 1), (13, .istore_n 2, 1), (14, .iconst 0, 1), (15, .istore_n 3, 1), (16, .iload_n 3, 1), (17, .iconst 3, 1), (18, .if_icmp .ge 57, 3)] := dAre0 (by decide +kernel)
theorem dX9_readRow_0 : decode cX9_readRow 0 = .ok (.iconst 3, 1) := DX9_readRow_0.1
theorem dX9_readRow_1 : decode cX9_readRow 1 = .ok (.bipush 12, 2) := DX9_readRow_0.2.1
theorem dX9_readRow_3 : decode cX9_readRow 3 = .ok (.iload_n 1, 1) := DX9_readRow_0.2.2.1
theorem dX9_readRow_4 : decode cX9_readRow 4 = .ok (.imul, 1) := DX9_readRow_0.2.2.2.1
theorem dX9_readRow_5 : decode cX9_readRow 5 = .ok (.aload_n 0, 1) := DX9_readRow_0.2.2.2.2.1
theorem dX9_readRow_6 : decode cX9_readRow 6 = .ok (.getfield 19, 3) := DX9_readRow_0.2.2.2.2.2.1
theorem dX9_readRow_9 : decode cX9_readRow 9 = .ok (.iload_n 1, 1) := DX9_readRow_0.2.2.2.2.2.2.1
theorem dX9_readRow_10 : decode cX9_readRow 10 = .ok (.iaload, 1) := DX9_readRow_0.2.2.2.2.2.2.2.1
theorem dX9_readRow_11 : decode cX9_readRow 11 = .ok (.iadd, 1) := DX9_readRow_0.2.2.2.2.2.2.2.2.1
theorem dX9_readRow_12 : decode cX9_readRow 12 = .ok (.imul, 1) := DX9_readRow_0.2.2.2.2.2.2.2.2.2.1
theorem dX9_readRow_13 : decode cX9_readRow 13 = .ok (.istore_n 2, 1) := DX9_readRow_0.2.2.2.2.2.2.2.2.2.2.1
theorem dX9_readRow_14 : decode cX9_readRow 14 = .ok (.iconst 0, 1) := DX9_readRow_0.2.2.2.2.2.2.2.2.2.2.2.1
theorem dX9_readRow_15 : decode cX9_readRow 15 = .ok (.istore_n 3, 1) := DX9_readRow_0.2.2.2.2.2.2.2.2.2.2.2.2.1
theorem dX9_readRow_16 : decode cX9_readRow 16 = .ok (.iload_n 3, 1) := DX9_readRow_0.2.2.2.2.2.2.2.2.2.2.2.2.2.1
theorem dX9_readRow_17 : decode cX9_readRow 17 = .ok (.iconst 3, 1) := DX9_readRow_0.2.2.2.2.2.2.2.2.2.2.2.2.2.2.1
theorem dX9_readRow_18 : decode cX9_readRow 18 = .ok (.if_icmp .ge 57, 3) := DX9_readRow_0.2.2.2.2.2.2.2.2.2.2.2.2.2.2.2.1
theorem DX9_readRow_21 : dAre cX9_readRow [(21, .iload_n 3, 1), (22, .ifCond .le 19, 3), (25, .iload_n 3, 1), (26, .aload_n 0, 1), (27, .getfield 13, 3), (30, .iload_n 1, 1), (31, .iaload, 1), (32, .if_icmp .ge 9, 3), (35, .aload_n 0, 1), (36, .bipush 44, 2), (38, .invokevirtual 135, 3), (41, .aload_n 0, 1), (42, .getfield 22, 3), (45, .iload_n 2, 1), (46, .iload_n 3, 1), (47, .iadd, 1)] := dAre0 (by decide +kernel)
theorem dX9_readRow_21 : decode cX9_readRow 21 = .ok (.iload_n 3, 1) := DX9_readRow_21.1
theorem dX9_readRow_22 : decode cX9_readRow 22 = .ok (.ifCond .le 19, 3) := DX9_readRow_21.2.1
theorem dX9_readRow_25 : decode cX9_readRow 25 = .ok (.iload_n 3, 1) := DX9_readRow_21.2.2.1
theorem dX9_readRow_26 : decode cX9_readRow 26 = .ok (.aload_n 0, 1) := DX9_readRow_21.2.2.2.1
theorem dX9_readRow_27 : decode cX9_readRow 27 = .ok (.getfield 13, 3) := DX9_readRow_21.2.2.2.2.1
theorem dX9_readRow_30 : decode cX9_readRow 30 = .ok (.iload_n 1, 1) := DX9_readRow_21.2.2.2.2.2.1
theorem dX9_readRow_31 : decode cX9_readRow 31 = .ok (.iaload, 1) := DX9_readRow_21.2.2.2.2.2.2.1
theorem dX9_readRow_32 : decode cX9_readRow 32 = .ok (.if_icmp .ge 9, 3) := DX9_readRow_21.2.2.2.2.2.2.2.1
theorem dX9_readRow_35 : decode cX9_readRow 35 = .ok (.aload_n 0, 1) := DX9_readRow_21.2.2.2.2.2.2.2.2.1
theorem dX9_readRow_36 : decode cX9_readRow 36 = .ok (.bipush 44, 2) := DX9_readRow_21.2.2.2.2.2.2.2.2.2.1
theorem dX9_readRow_38 : decode cX9_readRow 38 = .ok (.invokevirtual 135, 3) := DX9_readRow_21.2.2.2.2.2.2.2.2.2.2.1
theorem dX9_readRow_41 : decode cX9_readRow 41 = .ok (.aload_n 0, 1) := DX9_readRow_21.2.2.2.2.2.2.2.2.2.2.2.1
theorem dX9_readRow_42 : decode cX9_readRow 42 = .ok (.getfield 22, 3) := DX9_readRow_21.2.2.2.2.2.2.2.2.2.2.2.2.1
theorem dX9_readRow_45 : decode cX9_readRow 45 = .ok (.iload_n 2, 1) := DX9_readRow_21.2.2.2.2.2.2.2.2.2.2.2.2.2.1
theorem dX9_readRow_46 : decode cX9_readRow 46 = .ok (.iload_n 3, 1) := DX9_readRow_21.2.2.2.2.2.2.2.2.2.2.2.2.2.2.1
theorem dX9_readRow_47 : decode cX9_readRow 47 = .ok (.iadd, 1) := DX9_readRow_21.2.2.2.2.2.2.2.2.2.2.2.2.2.2.2.1
theorem DX9_readRow_48 : dAre cX9_readRow [(48, .iload_n 3, 1), (49, .aload_n 0, 1), (50, .getfield 13, 3), (53, .iload_n 1, 1), (54, .iaload, 1), (55, .if_icmp .ge 12, 3), (58, .aload_n 0, 1), (59, .bipush 99, 2), (61, .invokevirtual 139, 3), (64, .goto 4, 3), (67, .iconst (-1), 1), (68, .iastore, 1), (69, .iinc 3 1, 3), (72, .goto (-56), 3), (75, .aload_n 0, 1), (76, .getfield 19, 3)] := dAre0 (by decide +kernel)
theorem dX9_readRow_48 : decode cX9_readRow 48 = .ok (.iload_n 3, 1) := DX9_readRow_48.1
theorem dX9_readRow_49 : decode cX9_readRow 49 = .ok (.aload_n 0, 1) := DX9_readRow_48.2.1
theorem dX9_readRow_50 : decode cX9_readRow 50 = .ok (.getfield 13, 3) := DX9_readRow_48.2.2.1
theorem dX9_readRow_53 : decode cX9_readRow 53 = .ok (.iload_n 1, 1) := DX9_readRow_48.2.2.2.1
theorem dX9_readRow_54 : decode cX9_readRow 54 = .ok (.iaload, 1) := DX9_readRow_48.2.2.2.2.1
theorem dX9_readRow_55 : decode cX9_readRow 55 = .ok (.if_icmp .ge 12, 3) := DX9_readRow_48.2.2.2.2.2.1
theorem dX9_readRow_58 : decode cX9_readRow 58 = .ok (.aload_n 0, 1) := DX9_readRow_48.2.2.2.2.2.2.1
theorem dX9_readRow_59 : decode cX9_readRow 59 = .ok (.bipush 99, 2) := DX9_readRow_48.2.2.2.2.2.2.2.1
theorem dX9_readRow_61 : decode cX9_readRow 61 = .ok (.invokevirtual 139, 3) := DX9_readRow_48.2.2.2.2.2.2.2.2.1
theorem dX9_readRow_64 : decode cX9_readRow 64 = .ok (.goto 4, 3) := DX9_readRow_48.2.2.2.2.2.2.2.2.2.1
theorem dX9_readRow_67 : decode cX9_readRow 67 = .ok (.iconst (-1), 1) := DX9_readRow_48.2.2.2.2.2.2.2.2.2.2.1
theorem dX9_readRow_68 : decode cX9_readRow 68 = .ok (.iastore, 1) := DX9_readRow_48.2.2.2.2.2.2.2.2.2.2.2.1
theorem dX9_readRow_69 : decode cX9_readRow 69 = .ok (.iinc 3 1, 3) := DX9_readRow_48.2.2.2.2.2.2.2.2.2.2.2.2.1
theorem dX9_readRow_72 : decode cX9_readRow 72 = .ok (.goto (-56), 3) := DX9_readRow_48.2.2.2.2.2.2.2.2.2.2.2.2.2.1
theorem dX9_readRow_75 : decode cX9_readRow 75 = .ok (.aload_n 0, 1) := DX9_readRow_48.2.2.2.2.2.2.2.2.2.2.2.2.2.2.1
theorem dX9_readRow_76 : decode cX9_readRow 76 = .ok (.getfield 19, 3) := DX9_readRow_48.2.2.2.2.2.2.2.2.2.2.2.2.2.2.2.1
theorem DX9_readRow_79 : dAre cX9_readRow [(79, .iload_n 1, 1), (80, .dup2, 1), (81, .iaload, 1), (82, .iconst 1, 1), (83, .iadd, 1), (84, .iastore, 1), (85, .return_, 1)] := dAre0 (by decide +kernel)
theorem dX9_readRow_79 : decode cX9_readRow 79 = .ok (.iload_n 1, 1) := DX9_readRow_79.1
theorem dX9_readRow_80 : decode cX9_readRow 80 = .ok (.dup2, 1) := DX9_readRow_79.2.1
theorem dX9_readRow_81 : decode cX9_readRow 81 = .ok (.iaload, 1) := DX9_readRow_79.2.2.1
theorem dX9_readRow_82 : decode cX9_readRow 82 = .ok (.iconst 1, 1) := DX9_readRow_79.2.2.2.1
theorem dX9_readRow_83 : decode cX9_readRow 83 = .ok (.iadd, 1) := DX9_readRow_79.2.2.2.2.1
theorem dX9_readRow_84 : decode cX9_readRow 84 = .ok (.iastore, 1) := DX9_readRow_79.2.2.2.2.2.1
theorem dX9_readRow_85 : decode cX9_readRow 85 = .ok (.return_, 1) := DX9_readRow_79.2.2.2.2.2.2.1
theorem mX9_readRow : gMv yX9_readRow cX9_readRow 4 none RX9 1 := ⟨q964, q1390, q10, q965, rfl, by decide, by decide, by decide +kernel⟩
noncomputable def bX9_readRow_68 (v3 : Int32) (t0 : Int32) (t1 : Int32) (I : gM) : Option ((Int32 × gM) ⊕ (gM)) :=
  (wI I 67 144 t1 t0).bind fun I3 =>
  some (.inl (v3 + 1, I3))
set_option maxRecDepth 100000 in
set_option maxHeartbeats 4000000 in
theorem wbX9_readRow_68 {z : gZ} {E : gE} {bk : Nat} (F : Fx z sh E "LeapJoinModel" cX9_readRow (gR 3) 4) (B : bZ z bk) (hE : gDist sh E) (v1 : Int32) (v2 : Int32) (v3 : Int32) (t0 : Int32) (t1 : Int32) (I : gM) (J : gN) {y : (Int32 × gM) ⊕ (gM)} (h : bX9_readRow_68 v3 t0 t1 I = some y) (hl : ∀ s' : Int32 × gM, y = .inl s' → G z 16 [(0, .ref (E.2.1 62)), (1, .int v1), (2, .int v2), (3, .int (s'.1))] [] s'.2 J) (K16_0 : ∀ x : gM, y = .inr x → G z 75 [(0, .ref (E.2.1 62)), (1, .int v1)] [] x J) : G z 68 [(0, .ref (E.2.1 62)), (1, .int v1), (2, .int v2), (3, .int v3)] [.int t0, .int t1, .ref (E.2.1 67)] I J := by
  unfold bX9_readRow_68 at h
  refine u_wI F s67 (by decide) dX9_readRow_68 h (fun I3 h => ?_)
  refine g_iinc (v := v3 + 1) (Ln := [(3, .int (v3 + 1)), (0, .ref (E.2.1 62)), (1, .int v1), (2, .int v2)]) F 3 dX9_readRow_69 rfl (add_c (by decide)) (by decide) rfl ?_
  refine g_goto (tgt := 16) F dX9_readRow_72 (by decide) ?_
  obtain rfl := Option.some.inj h
  refine g_sub (Ln := [(0, .ref (E.2.1 62)), (1, .int v1), (2, .int v2), (3, .int (v3 + 1))]) [1, 2, 3, 0] rfl ?_
  exact hl (v3 + 1, I3) rfl
noncomputable def bX9_readRow_41 (v1 : Int32) (v2 : Int32) (v3 : Int32) (I : gM) : Option ((Int32 × gM) ⊕ (gM)) :=
  (rI 4 (I 64) v1).bind fun u2 =>
  if u2 ≤ v3 then
    bX9_readRow_68 v3 ((-1) : Int32) (v2 + v3) I
  else
    (fX9_number (99 : Int32) I).bind fun r4 =>
    bX9_readRow_68 v3 r4.1 (v2 + v3) r4.2
set_option maxRecDepth 100000 in
set_option maxHeartbeats 4000000 in
theorem wbX9_readRow_41 {z : gZ} {E : gE} {bk : Nat} (F : Fx z sh E "LeapJoinModel" cX9_readRow (gR 3) 4) (B : bZ z bk) (hE : gDist sh E) (v1 : Int32) (v2 : Int32) (v3 : Int32) (I : gM) (J : gN) {y : (Int32 × gM) ⊕ (gM)} (h : bX9_readRow_41 v1 v2 v3 I = some y) (hl : ∀ s' : Int32 × gM, y = .inl s' → G z 16 [(0, .ref (E.2.1 62)), (1, .int v1), (2, .int v2), (3, .int (s'.1))] [] s'.2 J) (K16_0 : ∀ x : gM, y = .inr x → G z 75 [(0, .ref (E.2.1 62)), (1, .int v1)] [] x J) : G z 41 [(0, .ref (E.2.1 62)), (1, .int v1), (2, .int v2), (3, .int v3)] [] I J := by
  unfold bX9_readRow_41 at h
  refine g_aload_n F 0 dX9_readRow_41 rfl rfl ?_
  refine g_getr (j := 8) (nn := 67) F s62 rfl rfl uX9 (by decide) q829 dX9_readRow_42 ?_
  refine g_iload_n F 2 dX9_readRow_45 rfl rfl ?_
  refine g_iload_n F 3 dX9_readRow_46 rfl rfl ?_
  refine g_iadd (v := v2 + v3) F dX9_readRow_47 rfl ?_
  refine g_iload_n F 3 dX9_readRow_48 rfl rfl ?_
  refine g_aload_n F 0 dX9_readRow_49 rfl rfl ?_
  refine g_getr (j := 5) (nn := 64) F s62 rfl rfl uX9 (by decide) q826 dX9_readRow_50 ?_
  refine g_iload_n F 1 dX9_readRow_53 rfl rfl ?_
  refine u_rI F s64 (by decide) dX9_readRow_54 h (fun u2 h => ?_)
  refine u_icmp_ge (tgt := 67) F dX9_readRow_55 (by decide) h (fun h => ?_) (fun h => ?_)
  · refine g_iconst (v := (-1)) F dX9_readRow_67 (by decide) ?_
    refine g_sub (Ln := [(0, .ref (E.2.1 62)), (1, .int v1), (2, .int v2), (3, .int v3)]) [0, 1, 2, 3] rfl ?_
    exact wbX9_readRow_68 F B hE v1 v2 v3 ((-1) : Int32) (v2 + v3) I J h hl K16_0
  · refine g_aload_n F 0 dX9_readRow_58 rfl rfl ?_
    refine g_bipush (v := 99) F dX9_readRow_59 (by decide) ?_
    refine u_callV (k := 62) (As := [.int 99]) (rest := [.int (v2 + v3), .ref (E.2.1 67)]) (sn := fun r4 => [.int r4.1, .int (v2 + v3), .ref (E.2.1 67)]) F B (fun _ => wX9_number (zl z) E hE bk (99 : Int32) I J) mX9_number q966 rfl s62 rfl rfl rfl (Nat.le_of_ble_eq_true rfl) dX9_readRow_61 (fun _ => rfl) h (fun r4 h => ?_)
    refine g_goto (tgt := 68) F dX9_readRow_64 (by decide) ?_
    refine g_sub (Ln := [(0, .ref (E.2.1 62)), (1, .int v1), (2, .int v2), (3, .int v3)]) [0, 1, 2, 3] rfl ?_
    exact wbX9_readRow_68 F B hE v1 v2 v3 r4.1 (v2 + v3) r4.2 J h hl K16_0
noncomputable def lX9_readRow_16 (v1 : Int32) (v2 : Int32) : (Int32 × gM) → Option (gM) :=
  itO fun s =>
    if (3 : Int32) ≤ s.1 then
      some (.inr s.2)
    else
      if s.1 ≤ 0 then
        bX9_readRow_41 v1 v2 s.1 s.2
      else
        (rI 4 (s.2 64) v1).bind fun u5 =>
        if u5 ≤ s.1 then
          bX9_readRow_41 v1 v2 s.1 s.2
        else
          (fX9_must (44 : Int32) s.2).bind fun r6 =>
          bX9_readRow_41 v1 v2 s.1 r6
set_option maxRecDepth 100000 in
set_option maxHeartbeats 4000000 in
theorem wlX9_readRow_16 {z : gZ} {E : gE} {bk : Nat} (F : Fx z sh E "LeapJoinModel" cX9_readRow (gR 3) 4) (B : bZ z bk) (hE : gDist sh E) (v1 : Int32) (v2 : Int32) (J : gN) {r : gM} : ∀ s : Int32 × gM, lX9_readRow_16 v1 v2 s = some r → (G z 75 [(0, .ref (E.2.1 62)), (1, .int v1)] [] r J) → G z 16 [(0, .ref (E.2.1 62)), (1, .int v1), (2, .int v2), (3, .int s.1)] [] s.2 J := by
  intro s h X0
  unfold lX9_readRow_16 at h
  revert s
  refine itO_ind (P := fun s : Int32 × gM => G z 16 [(0, .ref (E.2.1 62)), (1, .int v1), (2, .int v2), (3, .int s.1)] [] s.2 J) (fun s y h hl hr => ?_)
  have K16_0 : ∀ x : gM, y = .inr x → (G z 75 [(0, .ref (E.2.1 62)), (1, .int v1)] [] x J) := fun x q => by have q2 := hr _ q; subst q2; exact X0
  refine g_iload_n F 3 dX9_readRow_16 rfl rfl ?_
  refine g_iconst (v := 3) F dX9_readRow_17 (by decide) ?_
  refine u_icmp_ge (tgt := 75) F dX9_readRow_18 (by decide) h (fun h => ?_) (fun h => ?_)
  · obtain rfl := Option.some.inj h
    refine g_sub (Ln := [(0, .ref (E.2.1 62)), (1, .int v1)]) [0, 1] rfl ?_
    exact K16_0 s.2 rfl
  · refine g_iload_n F 3 dX9_readRow_21 rfl rfl ?_
    refine u_if_le (tgt := 41) F dX9_readRow_22 (by decide) h (fun h => ?_) (fun h => ?_)
    · refine g_sub (Ln := [(0, .ref (E.2.1 62)), (1, .int v1), (2, .int v2), (3, .int s.1)]) [0, 1, 2, 3] rfl ?_
      exact wbX9_readRow_41 F B hE v1 v2 s.1 s.2 J h hl K16_0
    · refine g_iload_n F 3 dX9_readRow_25 rfl rfl ?_
      refine g_aload_n F 0 dX9_readRow_26 rfl rfl ?_
      refine g_getr (j := 5) (nn := 64) F s62 rfl rfl uX9 (by decide) q826 dX9_readRow_27 ?_
      refine g_iload_n F 1 dX9_readRow_30 rfl rfl ?_
      refine u_rI F s64 (by decide) dX9_readRow_31 h (fun u5 h => ?_)
      refine u_icmp_ge (tgt := 41) F dX9_readRow_32 (by decide) h (fun h => ?_) (fun h => ?_)
      · refine g_sub (Ln := [(0, .ref (E.2.1 62)), (1, .int v1), (2, .int v2), (3, .int s.1)]) [0, 1, 2, 3] rfl ?_
        exact wbX9_readRow_41 F B hE v1 v2 s.1 s.2 J h hl K16_0
      · refine g_aload_n F 0 dX9_readRow_35 rfl rfl ?_
        refine g_bipush (v := 44) F dX9_readRow_36 (by decide) ?_
        refine u_callV (k := 62) (As := [.int 44]) (rest := []) (sn := fun _ => []) F B (fun _ => wX9_must (zl z) E hE bk (44 : Int32) s.2 J) mX9_must q957 rfl s62 rfl rfl rfl (Nat.le_of_ble_eq_true rfl) dX9_readRow_38 (fun _ => rfl) h (fun r6 h => ?_)
        refine g_sub (Ln := [(0, .ref (E.2.1 62)), (1, .int v1), (2, .int v2), (3, .int s.1)]) [0, 1, 2, 3] rfl ?_
        exact wbX9_readRow_41 F B hE v1 v2 s.1 r6 J h hl K16_0
noncomputable def fX9_readRow (v1 : Int32) (I : gM) : Option (gM) :=
  (rI 4 (I 66) v1).bind fun u1 =>
  (lX9_readRow_16 v1 ((3 : Int32) * (((12 : Int32) * v1) + u1)) ((0 : Int32), I)).bind fun w7 =>
  (rI 4 (w7 66) v1).bind fun u8 =>
  (wI w7 66 4 v1 (u8 + 1)).bind fun I9 =>
  some I9
set_option maxRecDepth 100000 in
set_option maxHeartbeats 4000000 in
theorem wX9_readRow (l : Launch) (E : gE) (hE : gDist sh E) (bk : Nat) (v1 : Int32) (I : gM) (J : gN) {r : gM} (h : fX9_readRow v1 I = some r) : Cu l sh E bk yX9_readRow cX9_readRow 4 none (gR 3) [.ref (E.2.1 62), .int v1] I J (fun r1 I1 J1 => r1 = none ∧ I1 = r ∧ J1 = J) := by
  refine Cu.of "LeapJoinModel" rfl hE (by decide) (Nat.le_of_ble_eq_true rfl) (fun z F B e hl => ?_)
  subst hl
  unfold fX9_readRow at h
  refine g_iconst (v := 3) F dX9_readRow_0 (by decide) ?_
  refine g_bipush (v := 12) F dX9_readRow_1 (by decide) ?_
  refine g_iload_n F 1 dX9_readRow_3 rfl rfl ?_
  refine g_imul (v := (12 : Int32) * v1) F dX9_readRow_4 rfl ?_
  refine g_aload_n F 0 dX9_readRow_5 rfl rfl ?_
  refine g_getr (j := 7) (nn := 66) F s62 rfl rfl uX9 (by decide) q828 dX9_readRow_6 ?_
  refine g_iload_n F 1 dX9_readRow_9 rfl rfl ?_
  refine u_rI F s66 (by decide) dX9_readRow_10 h (fun u1 h => ?_)
  refine g_iadd (v := ((12 : Int32) * v1) + u1) F dX9_readRow_11 rfl ?_
  refine g_imul (v := (3 : Int32) * (((12 : Int32) * v1) + u1)) F dX9_readRow_12 rfl ?_
  refine g_istore_n (Ln := [(2, .int ((3 : Int32) * (((12 : Int32) * v1) + u1))), (0, .ref (E.2.1 62)), (1, .int v1)]) F dX9_readRow_13 rfl (by decide) rfl ?_
  refine g_iconst (v := 0) F dX9_readRow_14 (by decide) ?_
  refine g_istore_n (Ln := [(3, .int 0), (2, .int ((3 : Int32) * (((12 : Int32) * v1) + u1))), (0, .ref (E.2.1 62)), (1, .int v1)]) F dX9_readRow_15 rfl (by decide) rfl ?_
  obtain ⟨w7, ew7, h⟩ := ob h
  refine g_sub (Ln := [(0, .ref (E.2.1 62)), (1, .int v1), (2, .int ((3 : Int32) * (((12 : Int32) * v1) + u1))), (3, .int 0)]) [2, 3, 1, 0] rfl ?_
  refine wlX9_readRow_16 F B hE v1 ((3 : Int32) * (((12 : Int32) * v1) + u1)) J _ ew7 ?_
  refine g_aload_n F 0 dX9_readRow_75 rfl rfl ?_
  refine g_getr (j := 7) (nn := 66) F s62 rfl rfl uX9 (by decide) q828 dX9_readRow_76 ?_
  refine g_iload_n F 1 dX9_readRow_79 rfl rfl ?_
  refine g_dup2 F dX9_readRow_80 rfl rfl ?_
  refine u_rI F s66 (by decide) dX9_readRow_81 h (fun u8 h => ?_)
  refine g_iconst (v := 1) F dX9_readRow_82 (by decide) ?_
  refine g_iadd (v := u8 + 1) F dX9_readRow_83 rfl ?_
  refine u_wI F s66 (by decide) dX9_readRow_84 h (fun I9 h => ?_)
  obtain rfl := Option.some.inj h
  exact g_vret F e dX9_readRow_85 ⟨rfl, rfl, rfl⟩
theorem DX9_readTable_0 : dAre cX9_readTable [(0, .aload_n 0, 1), (1, .iload_n 1, 1), (2, .invokevirtual 143, 3), (5, .aload_n 0, 1), (6, .getfield 19, 3), (9, .iload_n 1, 1), (10, .iconst 0, 1), (11, .iastore, 1), (12, .aload_n 0, 1), (13, .getfield 115, 3), (16, .iconst (-1), 1), (17, .if_icmp .ne 17, 3), (20, .aload_n 0, 1), (21, .invokevirtual 118, 3), (24, .invokestatic 124, 3), (27, .ifCond .eq 7, 3)] := dAre0 (by decide +kernel)
theorem dX9_readTable_0 : decode cX9_readTable 0 = .ok (.aload_n 0, 1) := DX9_readTable_0.1
theorem dX9_readTable_1 : decode cX9_readTable 1 = .ok (.iload_n 1, 1) := DX9_readTable_0.2.1
theorem dX9_readTable_2 : decode cX9_readTable 2 = .ok (.invokevirtual 143, 3) := DX9_readTable_0.2.2.1
theorem dX9_readTable_5 : decode cX9_readTable 5 = .ok (.aload_n 0, 1) := DX9_readTable_0.2.2.2.1
theorem dX9_readTable_6 : decode cX9_readTable 6 = .ok (.getfield 19, 3) := DX9_readTable_0.2.2.2.2.1
theorem dX9_readTable_9 : decode cX9_readTable 9 = .ok (.iload_n 1, 1) := DX9_readTable_0.2.2.2.2.2.1
theorem dX9_readTable_10 : decode cX9_readTable 10 = .ok (.iconst 0, 1) := DX9_readTable_0.2.2.2.2.2.2.1
theorem dX9_readTable_11 : decode cX9_readTable 11 = .ok (.iastore, 1) := DX9_readTable_0.2.2.2.2.2.2.2.1
theorem dX9_readTable_12 : decode cX9_readTable 12 = .ok (.aload_n 0, 1) := DX9_readTable_0.2.2.2.2.2.2.2.2.1
theorem dX9_readTable_13 : decode cX9_readTable 13 = .ok (.getfield 115, 3) := DX9_readTable_0.2.2.2.2.2.2.2.2.2.1
theorem dX9_readTable_16 : decode cX9_readTable 16 = .ok (.iconst (-1), 1) := DX9_readTable_0.2.2.2.2.2.2.2.2.2.2.1
theorem dX9_readTable_17 : decode cX9_readTable 17 = .ok (.if_icmp .ne 17, 3) := DX9_readTable_0.2.2.2.2.2.2.2.2.2.2.2.1
theorem dX9_readTable_20 : decode cX9_readTable 20 = .ok (.aload_n 0, 1) := DX9_readTable_0.2.2.2.2.2.2.2.2.2.2.2.2.1
theorem dX9_readTable_21 : decode cX9_readTable 21 = .ok (.invokevirtual 118, 3) := DX9_readTable_0.2.2.2.2.2.2.2.2.2.2.2.2.2.1
theorem dX9_readTable_24 : decode cX9_readTable 24 = .ok (.invokestatic 124, 3) := DX9_readTable_0.2.2.2.2.2.2.2.2.2.2.2.2.2.2.1
theorem dX9_readTable_27 : decode cX9_readTable 27 = .ok (.ifCond .eq 7, 3) := DX9_readTable_0.2.2.2.2.2.2.2.2.2.2.2.2.2.2.2.1
theorem DX9_readTable_30 : dAre cX9_readTable [(30, .iconst 1, 1), (31, .goto 4, 3), (34, .iconst 0, 1), (35, .istore_n 2, 1), (36, .iload_n 2, 1), (37, .ifCond .eq 63, 3), (40, .aload_n 0, 1), (41, .iload_n 1, 1), (42, .invokevirtual 146, 3), (45, .aload_n 0, 1), (46, .getfield 115, 3), (49, .iconst (-1), 1), (50, .if_icmp .ne 27, 3), (53, .aload_n 0, 1), (54, .invokevirtual 118, 3), (57, .bipush 47, 2)] := dAre0 (by decide +kernel)
theorem dX9_readTable_30 : decode cX9_readTable 30 = .ok (.iconst 1, 1) := DX9_readTable_30.1
theorem dX9_readTable_31 : decode cX9_readTable 31 = .ok (.goto 4, 3) := DX9_readTable_30.2.1
theorem dX9_readTable_34 : decode cX9_readTable 34 = .ok (.iconst 0, 1) := DX9_readTable_30.2.2.1
theorem dX9_readTable_35 : decode cX9_readTable 35 = .ok (.istore_n 2, 1) := DX9_readTable_30.2.2.2.1
theorem dX9_readTable_36 : decode cX9_readTable 36 = .ok (.iload_n 2, 1) := DX9_readTable_30.2.2.2.2.1
theorem dX9_readTable_37 : decode cX9_readTable 37 = .ok (.ifCond .eq 63, 3) := DX9_readTable_30.2.2.2.2.2.1
theorem dX9_readTable_40 : decode cX9_readTable 40 = .ok (.aload_n 0, 1) := DX9_readTable_30.2.2.2.2.2.2.1
theorem dX9_readTable_41 : decode cX9_readTable 41 = .ok (.iload_n 1, 1) := DX9_readTable_30.2.2.2.2.2.2.2.1
theorem dX9_readTable_42 : decode cX9_readTable 42 = .ok (.invokevirtual 146, 3) := DX9_readTable_30.2.2.2.2.2.2.2.2.1
theorem dX9_readTable_45 : decode cX9_readTable 45 = .ok (.aload_n 0, 1) := DX9_readTable_30.2.2.2.2.2.2.2.2.2.1
theorem dX9_readTable_46 : decode cX9_readTable 46 = .ok (.getfield 115, 3) := DX9_readTable_30.2.2.2.2.2.2.2.2.2.2.1
theorem dX9_readTable_49 : decode cX9_readTable 49 = .ok (.iconst (-1), 1) := DX9_readTable_30.2.2.2.2.2.2.2.2.2.2.2.1
theorem dX9_readTable_50 : decode cX9_readTable 50 = .ok (.if_icmp .ne 27, 3) := DX9_readTable_30.2.2.2.2.2.2.2.2.2.2.2.2.1
theorem dX9_readTable_53 : decode cX9_readTable 53 = .ok (.aload_n 0, 1) := DX9_readTable_30.2.2.2.2.2.2.2.2.2.2.2.2.2.1
theorem dX9_readTable_54 : decode cX9_readTable 54 = .ok (.invokevirtual 118, 3) := DX9_readTable_30.2.2.2.2.2.2.2.2.2.2.2.2.2.2.1
theorem dX9_readTable_57 : decode cX9_readTable 57 = .ok (.bipush 47, 2) := DX9_readTable_30.2.2.2.2.2.2.2.2.2.2.2.2.2.2.2.1
theorem DX9_readTable_59 : dAre cX9_readTable [(59, .if_icmp .ne 18, 3), (62, .aload_n 0, 1), (63, .getfield 19, 3), (66, .iload_n 1, 1), (67, .iaload, 1), (68, .bipush 12, 2), (70, .if_icmp .ge 7, 3), (73, .iconst 1, 1), (74, .goto 4, 3), (77, .iconst 0, 1), (78, .istore_n 2, 1), (79, .aload_n 0, 1), (80, .dup, 1), (81, .getfield 108, 3), (84, .iload_n 2, 1), (85, .ifCond .eq 7, 3)] := dAre0 (by decide +kernel)
theorem dX9_readTable_59 : decode cX9_readTable 59 = .ok (.if_icmp .ne 18, 3) := DX9_readTable_59.1
theorem dX9_readTable_62 : decode cX9_readTable 62 = .ok (.aload_n 0, 1) := DX9_readTable_59.2.1
theorem dX9_readTable_63 : decode cX9_readTable 63 = .ok (.getfield 19, 3) := DX9_readTable_59.2.2.1
theorem dX9_readTable_66 : decode cX9_readTable 66 = .ok (.iload_n 1, 1) := DX9_readTable_59.2.2.2.1
theorem dX9_readTable_67 : decode cX9_readTable 67 = .ok (.iaload, 1) := DX9_readTable_59.2.2.2.2.1
theorem dX9_readTable_68 : decode cX9_readTable 68 = .ok (.bipush 12, 2) := DX9_readTable_59.2.2.2.2.2.1
theorem dX9_readTable_70 : decode cX9_readTable 70 = .ok (.if_icmp .ge 7, 3) := DX9_readTable_59.2.2.2.2.2.2.1
theorem dX9_readTable_73 : decode cX9_readTable 73 = .ok (.iconst 1, 1) := DX9_readTable_59.2.2.2.2.2.2.2.1
theorem dX9_readTable_74 : decode cX9_readTable 74 = .ok (.goto 4, 3) := DX9_readTable_59.2.2.2.2.2.2.2.2.1
theorem dX9_readTable_77 : decode cX9_readTable 77 = .ok (.iconst 0, 1) := DX9_readTable_59.2.2.2.2.2.2.2.2.2.1
theorem dX9_readTable_78 : decode cX9_readTable 78 = .ok (.istore_n 2, 1) := DX9_readTable_59.2.2.2.2.2.2.2.2.2.2.1
theorem dX9_readTable_79 : decode cX9_readTable 79 = .ok (.aload_n 0, 1) := DX9_readTable_59.2.2.2.2.2.2.2.2.2.2.2.1
theorem dX9_readTable_80 : decode cX9_readTable 80 = .ok (.dup, 1) := DX9_readTable_59.2.2.2.2.2.2.2.2.2.2.2.2.1
theorem dX9_readTable_81 : decode cX9_readTable 81 = .ok (.getfield 108, 3) := DX9_readTable_59.2.2.2.2.2.2.2.2.2.2.2.2.2.1
theorem dX9_readTable_84 : decode cX9_readTable 84 = .ok (.iload_n 2, 1) := DX9_readTable_59.2.2.2.2.2.2.2.2.2.2.2.2.2.2.1
theorem dX9_readTable_85 : decode cX9_readTable 85 = .ok (.ifCond .eq 7, 3) := DX9_readTable_59.2.2.2.2.2.2.2.2.2.2.2.2.2.2.2.1
theorem DX9_readTable_88 : dAre cX9_readTable [(88, .iconst 1, 1), (89, .goto 4, 3), (92, .iconst 0, 1), (93, .iadd, 1), (94, .putfield 108, 3), (97, .goto (-61), 3), (100, .return_, 1)] := dAre0 (by decide +kernel)
theorem dX9_readTable_88 : decode cX9_readTable 88 = .ok (.iconst 1, 1) := DX9_readTable_88.1
theorem dX9_readTable_89 : decode cX9_readTable 89 = .ok (.goto 4, 3) := DX9_readTable_88.2.1
theorem dX9_readTable_92 : decode cX9_readTable 92 = .ok (.iconst 0, 1) := DX9_readTable_88.2.2.1
theorem dX9_readTable_93 : decode cX9_readTable 93 = .ok (.iadd, 1) := DX9_readTable_88.2.2.2.1
theorem dX9_readTable_94 : decode cX9_readTable 94 = .ok (.putfield 108, 3) := DX9_readTable_88.2.2.2.2.1
theorem dX9_readTable_97 : decode cX9_readTable 97 = .ok (.goto (-61), 3) := DX9_readTable_88.2.2.2.2.2.1
theorem dX9_readTable_100 : decode cX9_readTable 100 = .ok (.return_, 1) := DX9_readTable_88.2.2.2.2.2.2.1
theorem mX9_readTable : gMv yX9_readTable cX9_readTable 3 none RX9 1 := ⟨q937, q1383, q10, q938, rfl, by decide, by decide, by decide +kernel⟩
noncomputable def bX9_readTable_93 (v2 : Int32) (t0 : Int32) (t1 : Int32) (I : gM) : Option ((Int32 × gM) ⊕ (gM)) :=
  (pU I 62 3 (t1 + t0)).bind fun I8 =>
  some (.inl (v2, I8))
set_option maxRecDepth 100000 in
set_option maxHeartbeats 4000000 in
theorem wbX9_readTable_93 {z : gZ} {E : gE} {bk : Nat} (F : Fx z sh E "LeapJoinModel" cX9_readTable (gR 4) 3) (B : bZ z bk) (hE : gDist sh E) (v1 : Int32) (v2 : Int32) (t0 : Int32) (t1 : Int32) (I : gM) (J : gN) {y : (Int32 × gM) ⊕ (gM)} (h : bX9_readTable_93 v2 t0 t1 I = some y) (hl : ∀ s' : Int32 × gM, y = .inl s' → G z 36 [(0, .ref (E.2.1 62)), (1, .int v1), (2, .int (s'.1))] [] s'.2 J) (K36_0 : ∀ x : gM, y = .inr x → G z 100 [] [] x J) : G z 93 [(0, .ref (E.2.1 62)), (1, .int v1), (2, .int v2)] [.int t0, .int t1, .ref (E.2.1 62)] I J := by
  unfold bX9_readTable_93 at h
  refine g_iadd (v := t1 + t0) F dX9_readTable_93 rfl ?_
  refine u_puti (j := 3) F s62 rfl rfl uX9 (by decide) q824 tyX9_ok nmX9 rfl rfl rfl dX9_readTable_94 h (fun I8 h => ?_)
  refine g_goto (tgt := 36) F dX9_readTable_97 (by decide) ?_
  obtain rfl := Option.some.inj h
  refine g_sub (Ln := [(0, .ref (E.2.1 62)), (1, .int v1), (2, .int v2)]) [0, 1, 2] rfl ?_
  exact hl (v2, I8) rfl
noncomputable def bX9_readTable_78 (t0 : Int32) (I : gM) : Option ((Int32 × gM) ⊕ (gM)) :=
  if t0 = 0 then
    bX9_readTable_93 t0 (0 : Int32) (I 62 3) I
  else
    bX9_readTable_93 t0 (1 : Int32) (I 62 3) I
set_option maxRecDepth 100000 in
set_option maxHeartbeats 4000000 in
theorem wbX9_readTable_78 {z : gZ} {E : gE} {bk : Nat} (F : Fx z sh E "LeapJoinModel" cX9_readTable (gR 4) 3) (B : bZ z bk) (hE : gDist sh E) (v1 : Int32) (t0 : Int32) (I : gM) (J : gN) {y : (Int32 × gM) ⊕ (gM)} (h : bX9_readTable_78 t0 I = some y) (hl : ∀ s' : Int32 × gM, y = .inl s' → G z 36 [(0, .ref (E.2.1 62)), (1, .int v1), (2, .int (s'.1))] [] s'.2 J) (K36_0 : ∀ x : gM, y = .inr x → G z 100 [] [] x J) : G z 78 [(0, .ref (E.2.1 62)), (1, .int v1)] [.int t0] I J := by
  unfold bX9_readTable_78 at h
  refine g_istore_n (Ln := [(2, .int t0), (0, .ref (E.2.1 62)), (1, .int v1)]) F dX9_readTable_78 rfl (by decide) rfl ?_
  refine g_aload_n F 1 dX9_readTable_79 rfl rfl ?_
  refine g_dup F dX9_readTable_80 rfl ?_
  refine g_geti (j := 3) (v := I 62 3) F s62 rfl rfl uX9 (by decide) q824 rfl dX9_readTable_81 ?_
  refine g_iload_n F 0 dX9_readTable_84 rfl rfl ?_
  refine u_if_eq (tgt := 92) F dX9_readTable_85 (by decide) h (fun h => ?_) (fun h => ?_)
  · refine g_iconst (v := 0) F dX9_readTable_92 (by decide) ?_
    refine g_sub (Ln := [(0, .ref (E.2.1 62)), (1, .int v1), (2, .int t0)]) [1, 2, 0] rfl ?_
    exact wbX9_readTable_93 F B hE v1 t0 (0 : Int32) (I 62 3) I J h hl K36_0
  · refine g_iconst (v := 1) F dX9_readTable_88 (by decide) ?_
    refine g_goto (tgt := 93) F dX9_readTable_89 (by decide) ?_
    refine g_sub (Ln := [(0, .ref (E.2.1 62)), (1, .int v1), (2, .int t0)]) [1, 2, 0] rfl ?_
    exact wbX9_readTable_93 F B hE v1 t0 (1 : Int32) (I 62 3) I J h hl K36_0
noncomputable def bX9_readTable_77 (I : gM) : Option ((Int32 × gM) ⊕ (gM)) :=
  bX9_readTable_78 (0 : Int32) I
set_option maxRecDepth 100000 in
set_option maxHeartbeats 4000000 in
theorem wbX9_readTable_77 {z : gZ} {E : gE} {bk : Nat} (F : Fx z sh E "LeapJoinModel" cX9_readTable (gR 4) 3) (B : bZ z bk) (hE : gDist sh E) (v1 : Int32) (I : gM) (J : gN) {y : (Int32 × gM) ⊕ (gM)} (h : bX9_readTable_77 I = some y) (hl : ∀ s' : Int32 × gM, y = .inl s' → G z 36 [(0, .ref (E.2.1 62)), (1, .int v1), (2, .int (s'.1))] [] s'.2 J) (K36_0 : ∀ x : gM, y = .inr x → G z 100 [] [] x J) : G z 77 [(0, .ref (E.2.1 62)), (1, .int v1)] [] I J := by
  unfold bX9_readTable_77 at h
  refine g_iconst (v := 0) F dX9_readTable_77 (by decide) ?_
  refine g_sub (Ln := [(0, .ref (E.2.1 62)), (1, .int v1)]) [0, 1] rfl ?_
  exact wbX9_readTable_78 F B hE v1 (0 : Int32) I J h hl K36_0
noncomputable def lX9_readTable_36 (v1 : Int32) : (Int32 × gM) → Option (gM) :=
  itO fun s =>
    if s.1 = 0 then
      some (.inr s.2)
    else
      (fX9_readRow v1 s.2).bind fun r5 =>
      if (r5 62 4) = (-1) then
        (fX9_ahead r5).bind fun r6 =>
        if r6.1 = 47 then
          (rI 4 (r6.2 66) v1).bind fun u7 =>
          if (12 : Int32) ≤ u7 then
            bX9_readTable_77 r6.2
          else
            bX9_readTable_78 (1 : Int32) r6.2
        else
          bX9_readTable_77 r6.2
      else
        bX9_readTable_77 r5
set_option maxRecDepth 100000 in
set_option maxHeartbeats 4000000 in
theorem wlX9_readTable_36 {z : gZ} {E : gE} {bk : Nat} (F : Fx z sh E "LeapJoinModel" cX9_readTable (gR 4) 3) (B : bZ z bk) (hE : gDist sh E) (v1 : Int32) (J : gN) {r : gM} : ∀ s : Int32 × gM, lX9_readTable_36 v1 s = some r → (G z 100 [] [] r J) → G z 36 [(0, .ref (E.2.1 62)), (1, .int v1), (2, .int s.1)] [] s.2 J := by
  intro s h X0
  unfold lX9_readTable_36 at h
  revert s
  refine itO_ind (P := fun s : Int32 × gM => G z 36 [(0, .ref (E.2.1 62)), (1, .int v1), (2, .int s.1)] [] s.2 J) (fun s y h hl hr => ?_)
  have K36_0 : ∀ x : gM, y = .inr x → (G z 100 [] [] x J) := fun x q => by have q2 := hr _ q; subst q2; exact X0
  refine g_iload_n F 2 dX9_readTable_36 rfl rfl ?_
  refine u_if_eq (tgt := 100) F dX9_readTable_37 (by decide) h (fun h => ?_) (fun h => ?_)
  · obtain rfl := Option.some.inj h
    refine g_sub (Ln := []) [] rfl ?_
    exact K36_0 s.2 rfl
  · refine g_aload_n F 0 dX9_readTable_40 rfl rfl ?_
    refine g_iload_n F 1 dX9_readTable_41 rfl rfl ?_
    refine u_callV (k := 62) (As := [.int v1]) (rest := []) (sn := fun _ => []) F B (fun _ => wX9_readRow (zl z) E hE bk v1 s.2 J) mX9_readRow q963 rfl s62 rfl rfl rfl (Nat.le_of_ble_eq_true rfl) dX9_readTable_42 (fun _ => rfl) h (fun r5 h => ?_)
    refine g_aload_n F 0 dX9_readTable_45 rfl rfl ?_
    refine g_geti (j := 4) (v := r5 62 4) F s62 rfl rfl uX9 (by decide) q825 rfl dX9_readTable_46 ?_
    refine g_iconst (v := (-1)) F dX9_readTable_49 (by decide) ?_
    refine u_icmp_ne (tgt := 77) F dX9_readTable_50 (by decide) h (fun h => ?_) (fun h => ?_)
    · refine g_aload_n F 0 dX9_readTable_53 rfl rfl ?_
      refine u_callV (k := 62) (As := []) (rest := []) (sn := fun r6 => [.int r6.1]) F B (fun _ => wX9_ahead (zl z) E hE bk  r5 J) mX9_ahead q942 rfl s62 rfl rfl rfl (Nat.le_of_ble_eq_true rfl) dX9_readTable_54 (fun _ => rfl) h (fun r6 h => ?_)
      refine g_bipush (v := 47) F dX9_readTable_57 (by decide) ?_
      refine u_icmp_ne (tgt := 77) F dX9_readTable_59 (by decide) h (fun h => ?_) (fun h => ?_)
      · refine g_aload_n F 0 dX9_readTable_62 rfl rfl ?_
        refine g_getr (j := 7) (nn := 66) F s62 rfl rfl uX9 (by decide) q828 dX9_readTable_63 ?_
        refine g_iload_n F 1 dX9_readTable_66 rfl rfl ?_
        refine u_rI F s66 (by decide) dX9_readTable_67 h (fun u7 h => ?_)
        refine g_bipush (v := 12) F dX9_readTable_68 (by decide) ?_
        refine u_icmp_ge (tgt := 77) F dX9_readTable_70 (by decide) h (fun h => ?_) (fun h => ?_)
        · refine g_sub (Ln := [(0, .ref (E.2.1 62)), (1, .int v1)]) [0, 1] rfl ?_
          exact wbX9_readTable_77 F B hE v1 r6.2 J h hl K36_0
        · refine g_iconst (v := 1) F dX9_readTable_73 (by decide) ?_
          refine g_goto (tgt := 78) F dX9_readTable_74 (by decide) ?_
          refine g_sub (Ln := [(0, .ref (E.2.1 62)), (1, .int v1)]) [0, 1] rfl ?_
          exact wbX9_readTable_78 F B hE v1 (1 : Int32) r6.2 J h hl K36_0
      · refine g_sub (Ln := [(0, .ref (E.2.1 62)), (1, .int v1)]) [0, 1] rfl ?_
        exact wbX9_readTable_77 F B hE v1 r6.2 J h hl K36_0
    · refine g_sub (Ln := [(0, .ref (E.2.1 62)), (1, .int v1)]) [0, 1] rfl ?_
      exact wbX9_readTable_77 F B hE v1 r5 J h hl K36_0
noncomputable def bX9_readTable_35 (v1 : Int32) (t0 : Int32) (I : gM) : Option (gM) :=
  (lX9_readTable_36 v1 (t0, I)).bind fun w9 =>
  some w9
set_option maxRecDepth 100000 in
set_option maxHeartbeats 4000000 in
theorem wbX9_readTable_35 {z : gZ} {E : gE} {bk : Nat} (F : Fx z sh E "LeapJoinModel" cX9_readTable (gR 4) 3) (B : bZ z bk) (hE : gDist sh E) (v1 : Int32) (t0 : Int32) (I : gM) (J : gN) {y : gM} (h : bX9_readTable_35 v1 t0 I = some y) (e : Fe z sh E none (fun r1 I1 J1 => r1 = none ∧ I1 = y ∧ J1 = J)) : G z 35 [(0, .ref (E.2.1 62)), (1, .int v1)] [.int t0] I J := by
  unfold bX9_readTable_35 at h
  refine g_istore_n (Ln := [(2, .int t0), (0, .ref (E.2.1 62)), (1, .int v1)]) F dX9_readTable_35 rfl (by decide) rfl ?_
  obtain ⟨w9, ew9, h⟩ := ob h
  refine g_sub (Ln := [(0, .ref (E.2.1 62)), (1, .int v1), (2, .int t0)]) [1, 2, 0] rfl ?_
  refine wlX9_readTable_36 F B hE v1 J _ ew9 ?_
  obtain rfl := Option.some.inj h
  exact g_vret F e dX9_readTable_100 ⟨rfl, rfl, rfl⟩
noncomputable def bX9_readTable_34 (v1 : Int32) (I : gM) : Option (gM) :=
  bX9_readTable_35 v1 (0 : Int32) I
set_option maxRecDepth 100000 in
set_option maxHeartbeats 4000000 in
theorem wbX9_readTable_34 {z : gZ} {E : gE} {bk : Nat} (F : Fx z sh E "LeapJoinModel" cX9_readTable (gR 4) 3) (B : bZ z bk) (hE : gDist sh E) (v1 : Int32) (I : gM) (J : gN) {y : gM} (h : bX9_readTable_34 v1 I = some y) (e : Fe z sh E none (fun r1 I1 J1 => r1 = none ∧ I1 = y ∧ J1 = J)) : G z 34 [(0, .ref (E.2.1 62)), (1, .int v1)] [] I J := by
  unfold bX9_readTable_34 at h
  refine g_iconst (v := 0) F dX9_readTable_34 (by decide) ?_
  refine g_sub (Ln := [(0, .ref (E.2.1 62)), (1, .int v1)]) [0, 1] rfl ?_
  exact wbX9_readTable_35 F B hE v1 (0 : Int32) I J h e
noncomputable def fX9_readTable (v1 : Int32) (I : gM) : Option (gM) :=
  (fX9_readHead v1 I).bind fun r1 =>
  (wI r1 66 4 v1 0).bind fun I2 =>
  if (I2 62 4) = (-1) then
    (fX9_ahead I2).bind fun r3 =>
    (fX9_isDigit r3.1).bind fun r4 =>
    if r4 = 0 then
      bX9_readTable_34 v1 r3.2
    else
      bX9_readTable_35 v1 (1 : Int32) r3.2
  else
    bX9_readTable_34 v1 I2
set_option maxRecDepth 100000 in
set_option maxHeartbeats 4000000 in
theorem wX9_readTable (l : Launch) (E : gE) (hE : gDist sh E) (bk : Nat) (v1 : Int32) (I : gM) (J : gN) {r : gM} (h : fX9_readTable v1 I = some r) : Cu l sh E bk yX9_readTable cX9_readTable 3 none (gR 4) [.ref (E.2.1 62), .int v1] I J (fun r1 I1 J1 => r1 = none ∧ I1 = r ∧ J1 = J) := by
  refine Cu.of "LeapJoinModel" rfl hE (by decide) (Nat.le_of_ble_eq_true rfl) (fun z F B e hl => ?_)
  subst hl
  unfold fX9_readTable at h
  refine g_aload_n F 0 dX9_readTable_0 rfl rfl ?_
  refine g_iload_n F 1 dX9_readTable_1 rfl rfl ?_
  refine u_callV (k := 62) (As := [.int v1]) (rest := []) (sn := fun _ => []) F B (fun _ => wX9_readHead (zl z) E hE bk v1 I J) mX9_readHead q939 rfl s62 rfl rfl rfl (Nat.le_of_ble_eq_true rfl) dX9_readTable_2 (fun _ => rfl) h (fun r1 h => ?_)
  refine g_aload_n F 0 dX9_readTable_5 rfl rfl ?_
  refine g_getr (j := 7) (nn := 66) F s62 rfl rfl uX9 (by decide) q828 dX9_readTable_6 ?_
  refine g_iload_n F 1 dX9_readTable_9 rfl rfl ?_
  refine g_iconst (v := 0) F dX9_readTable_10 (by decide) ?_
  refine u_wI F s66 (by decide) dX9_readTable_11 h (fun I2 h => ?_)
  refine g_aload_n F 0 dX9_readTable_12 rfl rfl ?_
  refine g_geti (j := 4) (v := I2 62 4) F s62 rfl rfl uX9 (by decide) q825 rfl dX9_readTable_13 ?_
  refine g_iconst (v := (-1)) F dX9_readTable_16 (by decide) ?_
  refine u_icmp_ne (tgt := 34) F dX9_readTable_17 (by decide) h (fun h => ?_) (fun h => ?_)
  · refine g_aload_n F 0 dX9_readTable_20 rfl rfl ?_
    refine u_callV (k := 62) (As := []) (rest := []) (sn := fun r3 => [.int r3.1]) F B (fun _ => wX9_ahead (zl z) E hE bk  I2 J) mX9_ahead q942 rfl s62 rfl rfl rfl (Nat.le_of_ble_eq_true rfl) dX9_readTable_21 (fun _ => rfl) h (fun r3 h => ?_)
    refine u_callS (As := [.int r3.1]) (rest := []) (sn := fun r4 => [.int r4]) F B (fun _ => wX9_isDigit (zl z) E hE bk r3.1 r3.2 J) mX9_isDigit q960 rfl rfl rfl (Nat.le_of_ble_eq_true rfl) dX9_readTable_24 (fun _ => rfl) h (fun r4 h => ?_)
    refine u_if_eq (tgt := 34) F dX9_readTable_27 (by decide) h (fun h => ?_) (fun h => ?_)
    · refine g_sub (Ln := [(0, .ref (E.2.1 62)), (1, .int v1)]) [0, 1] rfl ?_
      exact wbX9_readTable_34 F B hE v1 r3.2 J h e
    · refine g_iconst (v := 1) F dX9_readTable_30 (by decide) ?_
      refine g_goto (tgt := 35) F dX9_readTable_31 (by decide) ?_
      refine g_sub (Ln := [(0, .ref (E.2.1 62)), (1, .int v1)]) [0, 1] rfl ?_
      exact wbX9_readTable_35 F B hE v1 (1 : Int32) r3.2 J h e
  · refine g_sub (Ln := [(0, .ref (E.2.1 62)), (1, .int v1)]) [0, 1] rfl ?_
    exact wbX9_readTable_34 F B hE v1 I2 J h e
theorem DX9_ends_0 : dAre cX9_ends [(0, .aload_n 0, 1), (1, .getfield 115, 3), (4, .iconst (-1), 1), (5, .if_icmp .ne 15, 3), (8, .aload_n 0, 1), (9, .invokevirtual 118, 3), (12, .iconst (-1), 1), (13, .if_icmp .eq 7, 3), (16, .aload_n 0, 1), (17, .invokevirtual 121, 3), (20, .aload_n 0, 1), (21, .getfield 115, 3), (24, .ireturn, 1)] := dAre0 (by decide +kernel)
theorem dX9_ends_0 : decode cX9_ends 0 = .ok (.aload_n 0, 1) := DX9_ends_0.1
theorem dX9_ends_1 : decode cX9_ends 1 = .ok (.getfield 115, 3) := DX9_ends_0.2.1
theorem dX9_ends_4 : decode cX9_ends 4 = .ok (.iconst (-1), 1) := DX9_ends_0.2.2.1
theorem dX9_ends_5 : decode cX9_ends 5 = .ok (.if_icmp .ne 15, 3) := DX9_ends_0.2.2.2.1
theorem dX9_ends_8 : decode cX9_ends 8 = .ok (.aload_n 0, 1) := DX9_ends_0.2.2.2.2.1
theorem dX9_ends_9 : decode cX9_ends 9 = .ok (.invokevirtual 118, 3) := DX9_ends_0.2.2.2.2.2.1
theorem dX9_ends_12 : decode cX9_ends 12 = .ok (.iconst (-1), 1) := DX9_ends_0.2.2.2.2.2.2.1
theorem dX9_ends_13 : decode cX9_ends 13 = .ok (.if_icmp .eq 7, 3) := DX9_ends_0.2.2.2.2.2.2.2.1
theorem dX9_ends_16 : decode cX9_ends 16 = .ok (.aload_n 0, 1) := DX9_ends_0.2.2.2.2.2.2.2.2.1
theorem dX9_ends_17 : decode cX9_ends 17 = .ok (.invokevirtual 121, 3) := DX9_ends_0.2.2.2.2.2.2.2.2.2.1
theorem dX9_ends_20 : decode cX9_ends 20 = .ok (.aload_n 0, 1) := DX9_ends_0.2.2.2.2.2.2.2.2.2.2.1
theorem dX9_ends_21 : decode cX9_ends 21 = .ok (.getfield 115, 3) := DX9_ends_0.2.2.2.2.2.2.2.2.2.2.2.1
theorem dX9_ends_24 : decode cX9_ends 24 = .ok (.ireturn, 1) := DX9_ends_0.2.2.2.2.2.2.2.2.2.2.2.2.1
theorem mX9_ends : gMv yX9_ends cX9_ends 1 (some .int) RX9 0 := ⟨q970, q1392, q10, q971, rfl, by decide, by decide, by decide +kernel⟩
noncomputable def fX9_ends (I : gM) : Option (Int32 × gM) :=
  if (I 62 4) = (-1) then
    (fX9_ahead I).bind fun r1 =>
    if r1.1 = (-1) then
      some (r1.2 62 4, r1.2)
    else
      (fX9_bad r1.2).bind fun r2 =>
      some (r2 62 4, r2)
  else
    some (I 62 4, I)
set_option maxRecDepth 100000 in
set_option maxHeartbeats 4000000 in
theorem wX9_ends (l : Launch) (E : gE) (hE : gDist sh E) (bk : Nat) (I : gM) (J : gN) {r : Int32 × gM} (h : fX9_ends I = some r) : Cu l sh E bk yX9_ends cX9_ends 1 (some .int) (gR 2) [.ref (E.2.1 62)] I J (fun r1 I1 J1 => r1 = some (.int r.1) ∧ I1 = r.2 ∧ J1 = J) := by
  refine Cu.of "LeapJoinModel" rfl hE (by decide) (Nat.le_of_ble_eq_true rfl) (fun z F B e hl => ?_)
  subst hl
  unfold fX9_ends at h
  refine g_aload_n F 0 dX9_ends_0 rfl rfl ?_
  refine g_geti (j := 4) (v := I 62 4) F s62 rfl rfl uX9 (by decide) q825 rfl dX9_ends_1 ?_
  refine g_iconst (v := (-1)) F dX9_ends_4 (by decide) ?_
  refine u_icmp_ne (tgt := 20) F dX9_ends_5 (by decide) h (fun h => ?_) (fun h => ?_)
  · refine g_aload_n F 0 dX9_ends_8 rfl rfl ?_
    refine u_callV (k := 62) (As := []) (rest := []) (sn := fun r1 => [.int r1.1]) F B (fun _ => wX9_ahead (zl z) E hE bk  I J) mX9_ahead q942 rfl s62 rfl rfl rfl (Nat.le_of_ble_eq_true rfl) dX9_ends_9 (fun _ => rfl) h (fun r1 h => ?_)
    refine g_iconst (v := (-1)) F dX9_ends_12 (by decide) ?_
    refine u_icmp_eq (tgt := 20) F dX9_ends_13 (by decide) h (fun h => ?_) (fun h => ?_)
    · refine g_aload_n F 0 dX9_ends_20 rfl rfl ?_
      refine g_geti (j := 4) (v := r1.2 62 4) F s62 rfl rfl uX9 (by decide) q825 rfl dX9_ends_21 ?_
      obtain rfl := Option.some.inj h
      exact g_iret F e dX9_ends_24 ⟨rfl, rfl, rfl⟩
    · refine g_aload_n F 0 dX9_ends_16 rfl rfl ?_
      refine u_callV (k := 62) (As := []) (rest := []) (sn := fun _ => []) F B (fun _ => wX9_bad (zl z) E hE bk  r1.2 J) mX9_bad q951 rfl s62 rfl rfl rfl (Nat.le_of_ble_eq_true rfl) dX9_ends_17 (fun _ => rfl) h (fun r2 h => ?_)
      refine g_aload_n F 0 dX9_ends_20 rfl rfl ?_
      refine g_geti (j := 4) (v := r2 62 4) F s62 rfl rfl uX9 (by decide) q825 rfl dX9_ends_21 ?_
      obtain rfl := Option.some.inj h
      exact g_iret F e dX9_ends_24 ⟨rfl, rfl, rfl⟩
  · refine g_aload_n F 0 dX9_ends_20 rfl rfl ?_
    refine g_geti (j := 4) (v := I 62 4) F s62 rfl rfl uX9 (by decide) q825 rfl dX9_ends_21 ?_
    obtain rfl := Option.some.inj h
    exact g_iret F e dX9_ends_24 ⟨rfl, rfl, rfl⟩
theorem DX9_begins_0 : dAre cX9_begins [(0, .aload_n 0, 1), (1, .iconst 0, 1), (2, .putfield 108, 3), (5, .aload_n 0, 1), (6, .iconst (-1), 1), (7, .putfield 115, 3), (10, .return_, 1)] := dAre0 (by decide +kernel)
theorem dX9_begins_0 : decode cX9_begins 0 = .ok (.aload_n 0, 1) := DX9_begins_0.1
theorem dX9_begins_1 : decode cX9_begins 1 = .ok (.iconst 0, 1) := DX9_begins_0.2.1
theorem dX9_begins_2 : decode cX9_begins 2 = .ok (.putfield 108, 3) := DX9_begins_0.2.2.1
theorem dX9_begins_5 : decode cX9_begins 5 = .ok (.aload_n 0, 1) := DX9_begins_0.2.2.2.1
theorem dX9_begins_6 : decode cX9_begins 6 = .ok (.iconst (-1), 1) := DX9_begins_0.2.2.2.2.1
theorem dX9_begins_7 : decode cX9_begins 7 = .ok (.putfield 115, 3) := DX9_begins_0.2.2.2.2.2.1
theorem dX9_begins_10 : decode cX9_begins 10 = .ok (.return_, 1) := DX9_begins_0.2.2.2.2.2.2.1
theorem mX9_begins : gMv yX9_begins cX9_begins 1 none RX9 0 := ⟨q934, q1382, q10, q935, rfl, by decide, by decide, by decide +kernel⟩
noncomputable def fX9_begins (I : gM) : Option (gM) :=
  (pU I 62 3 (0 : Int32)).bind fun I1 =>
  (pU I1 62 4 ((-1) : Int32)).bind fun I2 =>
  some I2
set_option maxRecDepth 100000 in
set_option maxHeartbeats 4000000 in
theorem wX9_begins (l : Launch) (E : gE) (hE : gDist sh E) (bk : Nat) (I : gM) (J : gN) {r : gM} (h : fX9_begins I = some r) : Cu l sh E bk yX9_begins cX9_begins 1 none (gR 0) [.ref (E.2.1 62)] I J (fun r1 I1 J1 => r1 = none ∧ I1 = r ∧ J1 = J) := by
  refine Cu.of "LeapJoinModel" rfl hE (by decide) (Nat.le_of_ble_eq_true rfl) (fun z F B e hl => ?_)
  subst hl
  unfold fX9_begins at h
  refine g_aload_n F 0 dX9_begins_0 rfl rfl ?_
  refine g_iconst (v := 0) F dX9_begins_1 (by decide) ?_
  refine u_puti (j := 3) F s62 rfl rfl uX9 (by decide) q824 tyX9_ok nmX9 rfl rfl rfl dX9_begins_2 h (fun I1 h => ?_)
  refine g_aload_n F 0 dX9_begins_5 rfl rfl ?_
  refine g_iconst (v := (-1)) F dX9_begins_6 (by decide) ?_
  refine u_puti (j := 4) F s62 rfl rfl uX9 (by decide) q825 tyX9_ok nmX9 rfl rfl rfl dX9_begins_7 h (fun I2 h => ?_)
  obtain rfl := Option.some.inj h
  exact g_vret F e dX9_begins_10 ⟨rfl, rfl, rfl⟩
theorem DX9_readAll_0 : dAre cX9_readAll [(0, .aload_n 0, 1), (1, .invokevirtual 149, 3), (4, .aload_n 0, 1), (5, .iconst 0, 1), (6, .putfield 152, 3), (9, .iconst 1, 1), (10, .istore_n 1, 1), (11, .iload_n 1, 1), (12, .ifCond .eq 73, 3), (15, .aload_n 0, 1), (16, .aload_n 0, 1), (17, .getfield 152, 3), (20, .invokevirtual 155, 3), (23, .aload_n 0, 1), (24, .dup, 1), (25, .getfield 152, 3)] := dAre0 (by decide +kernel)
theorem dX9_readAll_0 : decode cX9_readAll 0 = .ok (.aload_n 0, 1) := DX9_readAll_0.1
theorem dX9_readAll_1 : decode cX9_readAll 1 = .ok (.invokevirtual 149, 3) := DX9_readAll_0.2.1
theorem dX9_readAll_4 : decode cX9_readAll 4 = .ok (.aload_n 0, 1) := DX9_readAll_0.2.2.1
theorem dX9_readAll_5 : decode cX9_readAll 5 = .ok (.iconst 0, 1) := DX9_readAll_0.2.2.2.1
theorem dX9_readAll_6 : decode cX9_readAll 6 = .ok (.putfield 152, 3) := DX9_readAll_0.2.2.2.2.1
theorem dX9_readAll_9 : decode cX9_readAll 9 = .ok (.iconst 1, 1) := DX9_readAll_0.2.2.2.2.2.1
theorem dX9_readAll_10 : decode cX9_readAll 10 = .ok (.istore_n 1, 1) := DX9_readAll_0.2.2.2.2.2.2.1
theorem dX9_readAll_11 : decode cX9_readAll 11 = .ok (.iload_n 1, 1) := DX9_readAll_0.2.2.2.2.2.2.2.1
theorem dX9_readAll_12 : decode cX9_readAll 12 = .ok (.ifCond .eq 73, 3) := DX9_readAll_0.2.2.2.2.2.2.2.2.1
theorem dX9_readAll_15 : decode cX9_readAll 15 = .ok (.aload_n 0, 1) := DX9_readAll_0.2.2.2.2.2.2.2.2.2.1
theorem dX9_readAll_16 : decode cX9_readAll 16 = .ok (.aload_n 0, 1) := DX9_readAll_0.2.2.2.2.2.2.2.2.2.2.1
theorem dX9_readAll_17 : decode cX9_readAll 17 = .ok (.getfield 152, 3) := DX9_readAll_0.2.2.2.2.2.2.2.2.2.2.2.1
theorem dX9_readAll_20 : decode cX9_readAll 20 = .ok (.invokevirtual 155, 3) := DX9_readAll_0.2.2.2.2.2.2.2.2.2.2.2.2.1
theorem dX9_readAll_23 : decode cX9_readAll 23 = .ok (.aload_n 0, 1) := DX9_readAll_0.2.2.2.2.2.2.2.2.2.2.2.2.2.1
theorem dX9_readAll_24 : decode cX9_readAll 24 = .ok (.dup, 1) := DX9_readAll_0.2.2.2.2.2.2.2.2.2.2.2.2.2.2.1
theorem dX9_readAll_25 : decode cX9_readAll 25 = .ok (.getfield 152, 3) := DX9_readAll_0.2.2.2.2.2.2.2.2.2.2.2.2.2.2.2.1
theorem DX9_readAll_28 : dAre cX9_readAll [(28, .iconst 1, 1), (29, .iadd, 1), (30, .putfield 152, 3), (33, .aload_n 0, 1), (34, .getfield 115, 3), (37, .iconst (-1), 1), (38, .if_icmp .ne 24, 3), (41, .aload_n 0, 1), (42, .invokevirtual 118, 3), (45, .bipush 59, 2), (47, .if_icmp .ne 15, 3), (50, .aload_n 0, 1), (51, .getfield 152, 3), (54, .iconst 4, 1), (55, .if_icmp .ge 7, 3), (58, .iconst 1, 1)] := dAre0 (by decide +kernel)
theorem dX9_readAll_28 : decode cX9_readAll 28 = .ok (.iconst 1, 1) := DX9_readAll_28.1
theorem dX9_readAll_29 : decode cX9_readAll 29 = .ok (.iadd, 1) := DX9_readAll_28.2.1
theorem dX9_readAll_30 : decode cX9_readAll 30 = .ok (.putfield 152, 3) := DX9_readAll_28.2.2.1
theorem dX9_readAll_33 : decode cX9_readAll 33 = .ok (.aload_n 0, 1) := DX9_readAll_28.2.2.2.1
theorem dX9_readAll_34 : decode cX9_readAll 34 = .ok (.getfield 115, 3) := DX9_readAll_28.2.2.2.2.1
theorem dX9_readAll_37 : decode cX9_readAll 37 = .ok (.iconst (-1), 1) := DX9_readAll_28.2.2.2.2.2.1
theorem dX9_readAll_38 : decode cX9_readAll 38 = .ok (.if_icmp .ne 24, 3) := DX9_readAll_28.2.2.2.2.2.2.1
theorem dX9_readAll_41 : decode cX9_readAll 41 = .ok (.aload_n 0, 1) := DX9_readAll_28.2.2.2.2.2.2.2.1
theorem dX9_readAll_42 : decode cX9_readAll 42 = .ok (.invokevirtual 118, 3) := DX9_readAll_28.2.2.2.2.2.2.2.2.1
theorem dX9_readAll_45 : decode cX9_readAll 45 = .ok (.bipush 59, 2) := DX9_readAll_28.2.2.2.2.2.2.2.2.2.1
theorem dX9_readAll_47 : decode cX9_readAll 47 = .ok (.if_icmp .ne 15, 3) := DX9_readAll_28.2.2.2.2.2.2.2.2.2.2.1
theorem dX9_readAll_50 : decode cX9_readAll 50 = .ok (.aload_n 0, 1) := DX9_readAll_28.2.2.2.2.2.2.2.2.2.2.2.1
theorem dX9_readAll_51 : decode cX9_readAll 51 = .ok (.getfield 152, 3) := DX9_readAll_28.2.2.2.2.2.2.2.2.2.2.2.2.1
theorem dX9_readAll_54 : decode cX9_readAll 54 = .ok (.iconst 4, 1) := DX9_readAll_28.2.2.2.2.2.2.2.2.2.2.2.2.2.1
theorem dX9_readAll_55 : decode cX9_readAll 55 = .ok (.if_icmp .ge 7, 3) := DX9_readAll_28.2.2.2.2.2.2.2.2.2.2.2.2.2.2.1
theorem dX9_readAll_58 : decode cX9_readAll 58 = .ok (.iconst 1, 1) := DX9_readAll_28.2.2.2.2.2.2.2.2.2.2.2.2.2.2.2.1
theorem DX9_readAll_59 : dAre cX9_readAll [(59, .goto 4, 3), (62, .iconst 0, 1), (63, .istore_n 1, 1), (64, .aload_n 0, 1), (65, .dup, 1), (66, .getfield 108, 3), (69, .iload_n 1, 1), (70, .ifCond .eq 7, 3), (73, .iconst 1, 1), (74, .goto 4, 3), (77, .iconst 0, 1), (78, .iadd, 1), (79, .putfield 108, 3), (82, .goto (-71), 3), (85, .aload_n 0, 1), (86, .invokevirtual 158, 3)] := dAre0 (by decide +kernel)
theorem dX9_readAll_59 : decode cX9_readAll 59 = .ok (.goto 4, 3) := DX9_readAll_59.1
theorem dX9_readAll_62 : decode cX9_readAll 62 = .ok (.iconst 0, 1) := DX9_readAll_59.2.1
theorem dX9_readAll_63 : decode cX9_readAll 63 = .ok (.istore_n 1, 1) := DX9_readAll_59.2.2.1
theorem dX9_readAll_64 : decode cX9_readAll 64 = .ok (.aload_n 0, 1) := DX9_readAll_59.2.2.2.1
theorem dX9_readAll_65 : decode cX9_readAll 65 = .ok (.dup, 1) := DX9_readAll_59.2.2.2.2.1
theorem dX9_readAll_66 : decode cX9_readAll 66 = .ok (.getfield 108, 3) := DX9_readAll_59.2.2.2.2.2.1
theorem dX9_readAll_69 : decode cX9_readAll 69 = .ok (.iload_n 1, 1) := DX9_readAll_59.2.2.2.2.2.2.1
theorem dX9_readAll_70 : decode cX9_readAll 70 = .ok (.ifCond .eq 7, 3) := DX9_readAll_59.2.2.2.2.2.2.2.1
theorem dX9_readAll_73 : decode cX9_readAll 73 = .ok (.iconst 1, 1) := DX9_readAll_59.2.2.2.2.2.2.2.2.1
theorem dX9_readAll_74 : decode cX9_readAll 74 = .ok (.goto 4, 3) := DX9_readAll_59.2.2.2.2.2.2.2.2.2.1
theorem dX9_readAll_77 : decode cX9_readAll 77 = .ok (.iconst 0, 1) := DX9_readAll_59.2.2.2.2.2.2.2.2.2.2.1
theorem dX9_readAll_78 : decode cX9_readAll 78 = .ok (.iadd, 1) := DX9_readAll_59.2.2.2.2.2.2.2.2.2.2.2.1
theorem dX9_readAll_79 : decode cX9_readAll 79 = .ok (.putfield 108, 3) := DX9_readAll_59.2.2.2.2.2.2.2.2.2.2.2.2.1
theorem dX9_readAll_82 : decode cX9_readAll 82 = .ok (.goto (-71), 3) := DX9_readAll_59.2.2.2.2.2.2.2.2.2.2.2.2.2.1
theorem dX9_readAll_85 : decode cX9_readAll 85 = .ok (.aload_n 0, 1) := DX9_readAll_59.2.2.2.2.2.2.2.2.2.2.2.2.2.2.1
theorem dX9_readAll_86 : decode cX9_readAll 86 = .ok (.invokevirtual 158, 3) := DX9_readAll_59.2.2.2.2.2.2.2.2.2.2.2.2.2.2.2.1
theorem dX9_readAll_89 : decode cX9_readAll 89 = .ok (.ireturn, 1) := by decide +kernel
theorem mX9_readAll : gMv yX9_readAll cX9_readAll 2 (some .int) RX9 0 := ⟨q931, q1381, q10, q932, rfl, by decide, by decide, by decide +kernel⟩
noncomputable def bX9_readAll_78 (v1 : Int32) (t0 : Int32) (t1 : Int32) (I : gM) : Option ((Int32 × gM) ⊕ (gM)) :=
  (pU I 62 3 (t1 + t0)).bind fun I6 =>
  some (.inl (v1, I6))
set_option maxRecDepth 100000 in
set_option maxHeartbeats 4000000 in
theorem wbX9_readAll_78 {z : gZ} {E : gE} {bk : Nat} (F : Fx z sh E "LeapJoinModel" cX9_readAll (gR 5) 2) (B : bZ z bk) (hE : gDist sh E) (v1 : Int32) (t0 : Int32) (t1 : Int32) (I : gM) (J : gN) {y : (Int32 × gM) ⊕ (gM)} (h : bX9_readAll_78 v1 t0 t1 I = some y) (hl : ∀ s' : Int32 × gM, y = .inl s' → G z 11 [(0, .ref (E.2.1 62)), (1, .int (s'.1))] [] s'.2 J) (K11_0 : ∀ x : gM, y = .inr x → G z 85 [(0, .ref (E.2.1 62))] [] x J) : G z 78 [(0, .ref (E.2.1 62)), (1, .int v1)] [.int t0, .int t1, .ref (E.2.1 62)] I J := by
  unfold bX9_readAll_78 at h
  refine g_iadd (v := t1 + t0) F dX9_readAll_78 rfl ?_
  refine u_puti (j := 3) F s62 rfl rfl uX9 (by decide) q824 tyX9_ok nmX9 rfl rfl rfl dX9_readAll_79 h (fun I6 h => ?_)
  refine g_goto (tgt := 11) F dX9_readAll_82 (by decide) ?_
  obtain rfl := Option.some.inj h
  refine g_sub (Ln := [(0, .ref (E.2.1 62)), (1, .int v1)]) [0, 1] rfl ?_
  exact hl (v1, I6) rfl
noncomputable def bX9_readAll_63 (t0 : Int32) (I : gM) : Option ((Int32 × gM) ⊕ (gM)) :=
  if t0 = 0 then
    bX9_readAll_78 t0 (0 : Int32) (I 62 3) I
  else
    bX9_readAll_78 t0 (1 : Int32) (I 62 3) I
set_option maxRecDepth 100000 in
set_option maxHeartbeats 4000000 in
theorem wbX9_readAll_63 {z : gZ} {E : gE} {bk : Nat} (F : Fx z sh E "LeapJoinModel" cX9_readAll (gR 5) 2) (B : bZ z bk) (hE : gDist sh E) (t0 : Int32) (I : gM) (J : gN) {y : (Int32 × gM) ⊕ (gM)} (h : bX9_readAll_63 t0 I = some y) (hl : ∀ s' : Int32 × gM, y = .inl s' → G z 11 [(0, .ref (E.2.1 62)), (1, .int (s'.1))] [] s'.2 J) (K11_0 : ∀ x : gM, y = .inr x → G z 85 [(0, .ref (E.2.1 62))] [] x J) : G z 63 [(0, .ref (E.2.1 62))] [.int t0] I J := by
  unfold bX9_readAll_63 at h
  refine g_istore_n (Ln := [(1, .int t0), (0, .ref (E.2.1 62))]) F dX9_readAll_63 rfl (by decide) rfl ?_
  refine g_aload_n F 1 dX9_readAll_64 rfl rfl ?_
  refine g_dup F dX9_readAll_65 rfl ?_
  refine g_geti (j := 3) (v := I 62 3) F s62 rfl rfl uX9 (by decide) q824 rfl dX9_readAll_66 ?_
  refine g_iload_n F 0 dX9_readAll_69 rfl rfl ?_
  refine u_if_eq (tgt := 77) F dX9_readAll_70 (by decide) h (fun h => ?_) (fun h => ?_)
  · refine g_iconst (v := 0) F dX9_readAll_77 (by decide) ?_
    refine g_sub (Ln := [(0, .ref (E.2.1 62)), (1, .int t0)]) [1, 0] rfl ?_
    exact wbX9_readAll_78 F B hE t0 (0 : Int32) (I 62 3) I J h hl K11_0
  · refine g_iconst (v := 1) F dX9_readAll_73 (by decide) ?_
    refine g_goto (tgt := 78) F dX9_readAll_74 (by decide) ?_
    refine g_sub (Ln := [(0, .ref (E.2.1 62)), (1, .int t0)]) [1, 0] rfl ?_
    exact wbX9_readAll_78 F B hE t0 (1 : Int32) (I 62 3) I J h hl K11_0
noncomputable def bX9_readAll_62 (I : gM) : Option ((Int32 × gM) ⊕ (gM)) :=
  bX9_readAll_63 (0 : Int32) I
set_option maxRecDepth 100000 in
set_option maxHeartbeats 4000000 in
theorem wbX9_readAll_62 {z : gZ} {E : gE} {bk : Nat} (F : Fx z sh E "LeapJoinModel" cX9_readAll (gR 5) 2) (B : bZ z bk) (hE : gDist sh E) (I : gM) (J : gN) {y : (Int32 × gM) ⊕ (gM)} (h : bX9_readAll_62 I = some y) (hl : ∀ s' : Int32 × gM, y = .inl s' → G z 11 [(0, .ref (E.2.1 62)), (1, .int (s'.1))] [] s'.2 J) (K11_0 : ∀ x : gM, y = .inr x → G z 85 [(0, .ref (E.2.1 62))] [] x J) : G z 62 [(0, .ref (E.2.1 62))] [] I J := by
  unfold bX9_readAll_62 at h
  refine g_iconst (v := 0) F dX9_readAll_62 (by decide) ?_
  refine g_sub (Ln := [(0, .ref (E.2.1 62))]) [0] rfl ?_
  exact wbX9_readAll_63 F B hE (0 : Int32) I J h hl K11_0
noncomputable def lX9_readAll_11 : (Int32 × gM) → Option (gM) :=
  itO fun s =>
    if s.1 = 0 then
      some (.inr s.2)
    else
      (fX9_readTable (s.2 62 9) s.2).bind fun r3 =>
      (pU r3 62 9 ((r3 62 9) + 1)).bind fun I4 =>
      if (I4 62 4) = (-1) then
        (fX9_ahead I4).bind fun r5 =>
        if r5.1 = 59 then
          if (4 : Int32) ≤ (r5.2 62 9) then
            bX9_readAll_62 r5.2
          else
            bX9_readAll_63 (1 : Int32) r5.2
        else
          bX9_readAll_62 r5.2
      else
        bX9_readAll_62 I4
set_option maxRecDepth 100000 in
set_option maxHeartbeats 4000000 in
theorem wlX9_readAll_11 {z : gZ} {E : gE} {bk : Nat} (F : Fx z sh E "LeapJoinModel" cX9_readAll (gR 5) 2) (B : bZ z bk) (hE : gDist sh E) (J : gN) {r : gM} : ∀ s : Int32 × gM, lX9_readAll_11 s = some r → (G z 85 [(0, .ref (E.2.1 62))] [] r J) → G z 11 [(0, .ref (E.2.1 62)), (1, .int s.1)] [] s.2 J := by
  intro s h X0
  unfold lX9_readAll_11 at h
  revert s
  refine itO_ind (P := fun s : Int32 × gM => G z 11 [(0, .ref (E.2.1 62)), (1, .int s.1)] [] s.2 J) (fun s y h hl hr => ?_)
  have K11_0 : ∀ x : gM, y = .inr x → (G z 85 [(0, .ref (E.2.1 62))] [] x J) := fun x q => by have q2 := hr _ q; subst q2; exact X0
  refine g_iload_n F 1 dX9_readAll_11 rfl rfl ?_
  refine u_if_eq (tgt := 85) F dX9_readAll_12 (by decide) h (fun h => ?_) (fun h => ?_)
  · obtain rfl := Option.some.inj h
    refine g_sub (Ln := [(0, .ref (E.2.1 62))]) [0] rfl ?_
    exact K11_0 s.2 rfl
  · refine g_aload_n F 0 dX9_readAll_15 rfl rfl ?_
    refine g_aload_n F 0 dX9_readAll_16 rfl rfl ?_
    refine g_geti (j := 9) (v := s.2 62 9) F s62 rfl rfl uX9 (by decide) q830 rfl dX9_readAll_17 ?_
    refine u_callV (k := 62) (As := [.int (s.2 62 9)]) (rest := []) (sn := fun _ => []) F B (fun _ => wX9_readTable (zl z) E hE bk (s.2 62 9) s.2 J) mX9_readTable q936 rfl s62 rfl rfl rfl (Nat.le_of_ble_eq_true rfl) dX9_readAll_20 (fun _ => rfl) h (fun r3 h => ?_)
    refine g_aload_n F 0 dX9_readAll_23 rfl rfl ?_
    refine g_dup F dX9_readAll_24 rfl ?_
    refine g_geti (j := 9) (v := r3 62 9) F s62 rfl rfl uX9 (by decide) q830 rfl dX9_readAll_25 ?_
    refine g_iconst (v := 1) F dX9_readAll_28 (by decide) ?_
    refine g_iadd (v := (r3 62 9) + 1) F dX9_readAll_29 rfl ?_
    refine u_puti (j := 9) F s62 rfl rfl uX9 (by decide) q830 tyX9_ok nmX9 rfl rfl rfl dX9_readAll_30 h (fun I4 h => ?_)
    refine g_aload_n F 0 dX9_readAll_33 rfl rfl ?_
    refine g_geti (j := 4) (v := I4 62 4) F s62 rfl rfl uX9 (by decide) q825 rfl dX9_readAll_34 ?_
    refine g_iconst (v := (-1)) F dX9_readAll_37 (by decide) ?_
    refine u_icmp_ne (tgt := 62) F dX9_readAll_38 (by decide) h (fun h => ?_) (fun h => ?_)
    · refine g_aload_n F 0 dX9_readAll_41 rfl rfl ?_
      refine u_callV (k := 62) (As := []) (rest := []) (sn := fun r5 => [.int r5.1]) F B (fun _ => wX9_ahead (zl z) E hE bk  I4 J) mX9_ahead q942 rfl s62 rfl rfl rfl (Nat.le_of_ble_eq_true rfl) dX9_readAll_42 (fun _ => rfl) h (fun r5 h => ?_)
      refine g_bipush (v := 59) F dX9_readAll_45 (by decide) ?_
      refine u_icmp_ne (tgt := 62) F dX9_readAll_47 (by decide) h (fun h => ?_) (fun h => ?_)
      · refine g_aload_n F 0 dX9_readAll_50 rfl rfl ?_
        refine g_geti (j := 9) (v := r5.2 62 9) F s62 rfl rfl uX9 (by decide) q830 rfl dX9_readAll_51 ?_
        refine g_iconst (v := 4) F dX9_readAll_54 (by decide) ?_
        refine u_icmp_ge (tgt := 62) F dX9_readAll_55 (by decide) h (fun h => ?_) (fun h => ?_)
        · refine g_sub (Ln := [(0, .ref (E.2.1 62))]) [0] rfl ?_
          exact wbX9_readAll_62 F B hE r5.2 J h hl K11_0
        · refine g_iconst (v := 1) F dX9_readAll_58 (by decide) ?_
          refine g_goto (tgt := 63) F dX9_readAll_59 (by decide) ?_
          refine g_sub (Ln := [(0, .ref (E.2.1 62))]) [0] rfl ?_
          exact wbX9_readAll_63 F B hE (1 : Int32) r5.2 J h hl K11_0
      · refine g_sub (Ln := [(0, .ref (E.2.1 62))]) [0] rfl ?_
        exact wbX9_readAll_62 F B hE r5.2 J h hl K11_0
    · refine g_sub (Ln := [(0, .ref (E.2.1 62))]) [0] rfl ?_
      exact wbX9_readAll_62 F B hE I4 J h hl K11_0
noncomputable def fX9_readAll (I : gM) : Option (Int32 × gM) :=
  (fX9_begins I).bind fun r1 =>
  (pU r1 62 9 (0 : Int32)).bind fun I2 =>
  (lX9_readAll_11 ((1 : Int32), I2)).bind fun w7 =>
  (fX9_ends w7).bind fun r8 =>
  some (r8.1, r8.2)
set_option maxRecDepth 100000 in
set_option maxHeartbeats 4000000 in
theorem wX9_readAll (l : Launch) (E : gE) (hE : gDist sh E) (bk : Nat) (I : gM) (J : gN) {r : Int32 × gM} (h : fX9_readAll I = some r) : Cu l sh E bk yX9_readAll cX9_readAll 2 (some .int) (gR 5) [.ref (E.2.1 62)] I J (fun r1 I1 J1 => r1 = some (.int r.1) ∧ I1 = r.2 ∧ J1 = J) := by
  refine Cu.of "LeapJoinModel" rfl hE (by decide) (Nat.le_of_ble_eq_true rfl) (fun z F B e hl => ?_)
  subst hl
  unfold fX9_readAll at h
  refine g_aload_n F 0 dX9_readAll_0 rfl rfl ?_
  refine u_callV (k := 62) (As := []) (rest := []) (sn := fun _ => []) F B (fun _ => wX9_begins (zl z) E hE bk  I J) mX9_begins q933 rfl s62 rfl rfl rfl (Nat.le_of_ble_eq_true rfl) dX9_readAll_1 (fun _ => rfl) h (fun r1 h => ?_)
  refine g_aload_n F 0 dX9_readAll_4 rfl rfl ?_
  refine g_iconst (v := 0) F dX9_readAll_5 (by decide) ?_
  refine u_puti (j := 9) F s62 rfl rfl uX9 (by decide) q830 tyX9_ok nmX9 rfl rfl rfl dX9_readAll_6 h (fun I2 h => ?_)
  refine g_iconst (v := 1) F dX9_readAll_9 (by decide) ?_
  refine g_istore_n (Ln := [(1, .int 1), (0, .ref (E.2.1 62))]) F dX9_readAll_10 rfl (by decide) rfl ?_
  obtain ⟨w7, ew7, h⟩ := ob h
  refine g_sub (Ln := [(0, .ref (E.2.1 62)), (1, .int 1)]) [1, 0] rfl ?_
  refine wlX9_readAll_11 F B hE J _ ew7 ?_
  refine g_aload_n F 0 dX9_readAll_85 rfl rfl ?_
  refine u_callV (k := 62) (As := []) (rest := []) (sn := fun r8 => [.int r8.1]) F B (fun _ => wX9_ends (zl z) E hE bk  w7 J) mX9_ends q969 rfl s62 rfl rfl rfl (Nat.le_of_ble_eq_true rfl) dX9_readAll_86 (fun _ => rfl) h (fun r8 h => ?_)
  obtain rfl := Option.some.inj h
  exact g_iret F e dX9_readAll_89 ⟨rfl, rfl, rfl⟩
theorem DX9_readStep_0 : dAre cX9_readStep [(0, .aload_n 0, 1), (1, .invokevirtual 118, 3), (4, .istore_n 2, 1), (5, .iload_n 2, 1), (6, .bipush 112, 2), (8, .if_icmp .ne 7, 3), (11, .iconst 0, 1), (12, .goto 34, 3), (15, .iload_n 2, 1), (16, .bipush 116, 2), (18, .if_icmp .ne 7, 3), (21, .iconst 1, 1), (22, .goto 24, 3), (25, .iload_n 2, 1), (26, .bipush 117, 2), (28, .if_icmp .ne 7, 3)] := dAre0 (by decide +kernel)
theorem dX9_readStep_0 : decode cX9_readStep 0 = .ok (.aload_n 0, 1) := DX9_readStep_0.1
theorem dX9_readStep_1 : decode cX9_readStep 1 = .ok (.invokevirtual 118, 3) := DX9_readStep_0.2.1
theorem dX9_readStep_4 : decode cX9_readStep 4 = .ok (.istore_n 2, 1) := DX9_readStep_0.2.2.1
theorem dX9_readStep_5 : decode cX9_readStep 5 = .ok (.iload_n 2, 1) := DX9_readStep_0.2.2.2.1
theorem dX9_readStep_6 : decode cX9_readStep 6 = .ok (.bipush 112, 2) := DX9_readStep_0.2.2.2.2.1
theorem dX9_readStep_8 : decode cX9_readStep 8 = .ok (.if_icmp .ne 7, 3) := DX9_readStep_0.2.2.2.2.2.1
theorem dX9_readStep_11 : decode cX9_readStep 11 = .ok (.iconst 0, 1) := DX9_readStep_0.2.2.2.2.2.2.1
theorem dX9_readStep_12 : decode cX9_readStep 12 = .ok (.goto 34, 3) := DX9_readStep_0.2.2.2.2.2.2.2.1
theorem dX9_readStep_15 : decode cX9_readStep 15 = .ok (.iload_n 2, 1) := DX9_readStep_0.2.2.2.2.2.2.2.2.1
theorem dX9_readStep_16 : decode cX9_readStep 16 = .ok (.bipush 116, 2) := DX9_readStep_0.2.2.2.2.2.2.2.2.2.1
theorem dX9_readStep_18 : decode cX9_readStep 18 = .ok (.if_icmp .ne 7, 3) := DX9_readStep_0.2.2.2.2.2.2.2.2.2.2.1
theorem dX9_readStep_21 : decode cX9_readStep 21 = .ok (.iconst 1, 1) := DX9_readStep_0.2.2.2.2.2.2.2.2.2.2.2.1
theorem dX9_readStep_22 : decode cX9_readStep 22 = .ok (.goto 24, 3) := DX9_readStep_0.2.2.2.2.2.2.2.2.2.2.2.2.1
theorem dX9_readStep_25 : decode cX9_readStep 25 = .ok (.iload_n 2, 1) := DX9_readStep_0.2.2.2.2.2.2.2.2.2.2.2.2.2.1
theorem dX9_readStep_26 : decode cX9_readStep 26 = .ok (.bipush 117, 2) := DX9_readStep_0.2.2.2.2.2.2.2.2.2.2.2.2.2.2.1
theorem dX9_readStep_28 : decode cX9_readStep 28 = .ok (.if_icmp .ne 7, 3) := DX9_readStep_0.2.2.2.2.2.2.2.2.2.2.2.2.2.2.2.1
theorem DX9_readStep_31 : dAre cX9_readStep [(31, .iconst 2, 1), (32, .goto 14, 3), (35, .iload_n 2, 1), (36, .bipush 111, 2), (38, .if_icmp .ne 7, 3), (41, .iconst 3, 1), (42, .goto 4, 3), (45, .iconst (-1), 1), (46, .istore_n 3, 1), (47, .iload_n 3, 1), (48, .iconst (-1), 1), (49, .if_icmp .ne 8, 3), (52, .aload_n 0, 1), (53, .invokevirtual 121, 3), (56, .return_, 1), (57, .aload_n 0, 1)] := dAre0 (by decide +kernel)
theorem dX9_readStep_31 : decode cX9_readStep 31 = .ok (.iconst 2, 1) := DX9_readStep_31.1
theorem dX9_readStep_32 : decode cX9_readStep 32 = .ok (.goto 14, 3) := DX9_readStep_31.2.1
theorem dX9_readStep_35 : decode cX9_readStep 35 = .ok (.iload_n 2, 1) := DX9_readStep_31.2.2.1
theorem dX9_readStep_36 : decode cX9_readStep 36 = .ok (.bipush 111, 2) := DX9_readStep_31.2.2.2.1
theorem dX9_readStep_38 : decode cX9_readStep 38 = .ok (.if_icmp .ne 7, 3) := DX9_readStep_31.2.2.2.2.1
theorem dX9_readStep_41 : decode cX9_readStep 41 = .ok (.iconst 3, 1) := DX9_readStep_31.2.2.2.2.2.1
theorem dX9_readStep_42 : decode cX9_readStep 42 = .ok (.goto 4, 3) := DX9_readStep_31.2.2.2.2.2.2.1
theorem dX9_readStep_45 : decode cX9_readStep 45 = .ok (.iconst (-1), 1) := DX9_readStep_31.2.2.2.2.2.2.2.1
theorem dX9_readStep_46 : decode cX9_readStep 46 = .ok (.istore_n 3, 1) := DX9_readStep_31.2.2.2.2.2.2.2.2.1
theorem dX9_readStep_47 : decode cX9_readStep 47 = .ok (.iload_n 3, 1) := DX9_readStep_31.2.2.2.2.2.2.2.2.2.1
theorem dX9_readStep_48 : decode cX9_readStep 48 = .ok (.iconst (-1), 1) := DX9_readStep_31.2.2.2.2.2.2.2.2.2.2.1
theorem dX9_readStep_49 : decode cX9_readStep 49 = .ok (.if_icmp .ne 8, 3) := DX9_readStep_31.2.2.2.2.2.2.2.2.2.2.2.1
theorem dX9_readStep_52 : decode cX9_readStep 52 = .ok (.aload_n 0, 1) := DX9_readStep_31.2.2.2.2.2.2.2.2.2.2.2.2.1
theorem dX9_readStep_53 : decode cX9_readStep 53 = .ok (.invokevirtual 121, 3) := DX9_readStep_31.2.2.2.2.2.2.2.2.2.2.2.2.2.1
theorem dX9_readStep_56 : decode cX9_readStep 56 = .ok (.return_, 1) := DX9_readStep_31.2.2.2.2.2.2.2.2.2.2.2.2.2.2.1
theorem dX9_readStep_57 : decode cX9_readStep 57 = .ok (.aload_n 0, 1) := DX9_readStep_31.2.2.2.2.2.2.2.2.2.2.2.2.2.2.2.1
theorem DX9_readStep_58 : dAre cX9_readStep [(58, .dup, 1), (59, .getfield 108, 3), (62, .iconst 1, 1), (63, .iadd, 1), (64, .putfield 108, 3), (67, .aload_n 0, 1), (68, .getfield 25, 3), (71, .iload_n 1, 1), (72, .iload_n 3, 1), (73, .iastore, 1), (74, .aload_n 0, 1), (75, .getfield 25, 3), (78, .iload_n 1, 1), (79, .iconst 1, 1), (80, .iadd, 1), (81, .iload_n 3, 1)] := dAre0 (by decide +kernel)
theorem dX9_readStep_58 : decode cX9_readStep 58 = .ok (.dup, 1) := DX9_readStep_58.1
theorem dX9_readStep_59 : decode cX9_readStep 59 = .ok (.getfield 108, 3) := DX9_readStep_58.2.1
theorem dX9_readStep_62 : decode cX9_readStep 62 = .ok (.iconst 1, 1) := DX9_readStep_58.2.2.1
theorem dX9_readStep_63 : decode cX9_readStep 63 = .ok (.iadd, 1) := DX9_readStep_58.2.2.2.1
theorem dX9_readStep_64 : decode cX9_readStep 64 = .ok (.putfield 108, 3) := DX9_readStep_58.2.2.2.2.1
theorem dX9_readStep_67 : decode cX9_readStep 67 = .ok (.aload_n 0, 1) := DX9_readStep_58.2.2.2.2.2.1
theorem dX9_readStep_68 : decode cX9_readStep 68 = .ok (.getfield 25, 3) := DX9_readStep_58.2.2.2.2.2.2.1
theorem dX9_readStep_71 : decode cX9_readStep 71 = .ok (.iload_n 1, 1) := DX9_readStep_58.2.2.2.2.2.2.2.1
theorem dX9_readStep_72 : decode cX9_readStep 72 = .ok (.iload_n 3, 1) := DX9_readStep_58.2.2.2.2.2.2.2.2.1
theorem dX9_readStep_73 : decode cX9_readStep 73 = .ok (.iastore, 1) := DX9_readStep_58.2.2.2.2.2.2.2.2.2.1
theorem dX9_readStep_74 : decode cX9_readStep 74 = .ok (.aload_n 0, 1) := DX9_readStep_58.2.2.2.2.2.2.2.2.2.2.1
theorem dX9_readStep_75 : decode cX9_readStep 75 = .ok (.getfield 25, 3) := DX9_readStep_58.2.2.2.2.2.2.2.2.2.2.2.1
theorem dX9_readStep_78 : decode cX9_readStep 78 = .ok (.iload_n 1, 1) := DX9_readStep_58.2.2.2.2.2.2.2.2.2.2.2.2.1
theorem dX9_readStep_79 : decode cX9_readStep 79 = .ok (.iconst 1, 1) := DX9_readStep_58.2.2.2.2.2.2.2.2.2.2.2.2.2.1
theorem dX9_readStep_80 : decode cX9_readStep 80 = .ok (.iadd, 1) := DX9_readStep_58.2.2.2.2.2.2.2.2.2.2.2.2.2.2.1
theorem dX9_readStep_81 : decode cX9_readStep 81 = .ok (.iload_n 3, 1) := DX9_readStep_58.2.2.2.2.2.2.2.2.2.2.2.2.2.2.2.1
theorem DX9_readStep_82 : dAre cX9_readStep [(82, .iconst 3, 1), (83, .if_icmp .ne 12, 3), (86, .aload_n 0, 1), (87, .bipush 23, 2), (89, .invokevirtual 139, 3), (92, .goto 7, 3), (95, .aload_n 0, 1), (96, .invokevirtual 161, 3), (99, .iastore, 1), (100, .iconst 0, 1), (101, .istore 4, 2), (103, .iload 4, 2), (105, .iconst 3, 1), (106, .if_icmp .ge 21, 3), (109, .aload_n 0, 1), (110, .getfield 25, 3)] := dAre0 (by decide +kernel)
theorem dX9_readStep_82 : decode cX9_readStep 82 = .ok (.iconst 3, 1) := DX9_readStep_82.1
theorem dX9_readStep_83 : decode cX9_readStep 83 = .ok (.if_icmp .ne 12, 3) := DX9_readStep_82.2.1
theorem dX9_readStep_86 : decode cX9_readStep 86 = .ok (.aload_n 0, 1) := DX9_readStep_82.2.2.1
theorem dX9_readStep_87 : decode cX9_readStep 87 = .ok (.bipush 23, 2) := DX9_readStep_82.2.2.2.1
theorem dX9_readStep_89 : decode cX9_readStep 89 = .ok (.invokevirtual 139, 3) := DX9_readStep_82.2.2.2.2.1
theorem dX9_readStep_92 : decode cX9_readStep 92 = .ok (.goto 7, 3) := DX9_readStep_82.2.2.2.2.2.1
theorem dX9_readStep_95 : decode cX9_readStep 95 = .ok (.aload_n 0, 1) := DX9_readStep_82.2.2.2.2.2.2.1
theorem dX9_readStep_96 : decode cX9_readStep 96 = .ok (.invokevirtual 161, 3) := DX9_readStep_82.2.2.2.2.2.2.2.1
theorem dX9_readStep_99 : decode cX9_readStep 99 = .ok (.iastore, 1) := DX9_readStep_82.2.2.2.2.2.2.2.2.1
theorem dX9_readStep_100 : decode cX9_readStep 100 = .ok (.iconst 0, 1) := DX9_readStep_82.2.2.2.2.2.2.2.2.2.1
theorem dX9_readStep_101 : decode cX9_readStep 101 = .ok (.istore 4, 2) := DX9_readStep_82.2.2.2.2.2.2.2.2.2.2.1
theorem dX9_readStep_103 : decode cX9_readStep 103 = .ok (.iload 4, 2) := DX9_readStep_82.2.2.2.2.2.2.2.2.2.2.2.1
theorem dX9_readStep_105 : decode cX9_readStep 105 = .ok (.iconst 3, 1) := DX9_readStep_82.2.2.2.2.2.2.2.2.2.2.2.2.1
theorem dX9_readStep_106 : decode cX9_readStep 106 = .ok (.if_icmp .ge 21, 3) := DX9_readStep_82.2.2.2.2.2.2.2.2.2.2.2.2.2.1
theorem dX9_readStep_109 : decode cX9_readStep 109 = .ok (.aload_n 0, 1) := DX9_readStep_82.2.2.2.2.2.2.2.2.2.2.2.2.2.2.1
theorem dX9_readStep_110 : decode cX9_readStep 110 = .ok (.getfield 25, 3) := DX9_readStep_82.2.2.2.2.2.2.2.2.2.2.2.2.2.2.2.1
theorem DX9_readStep_113 : dAre cX9_readStep [(113, .iload_n 1, 1), (114, .iconst 2, 1), (115, .iadd, 1), (116, .iload 4, 2), (118, .iadd, 1), (119, .iconst (-1), 1), (120, .iastore, 1), (121, .iinc 4 1, 3), (124, .goto (-21), 3), (127, .iload_n 3, 1), (128, .iconst 1, 1), (129, .if_icmp .le 4, 3), (132, .return_, 1), (133, .aload_n 0, 1), (134, .bipush 58, 2), (136, .invokevirtual 135, 3)] := dAre0 (by decide +kernel)
theorem dX9_readStep_113 : decode cX9_readStep 113 = .ok (.iload_n 1, 1) := DX9_readStep_113.1
theorem dX9_readStep_114 : decode cX9_readStep 114 = .ok (.iconst 2, 1) := DX9_readStep_113.2.1
theorem dX9_readStep_115 : decode cX9_readStep 115 = .ok (.iadd, 1) := DX9_readStep_113.2.2.1
theorem dX9_readStep_116 : decode cX9_readStep 116 = .ok (.iload 4, 2) := DX9_readStep_113.2.2.2.1
theorem dX9_readStep_118 : decode cX9_readStep 118 = .ok (.iadd, 1) := DX9_readStep_113.2.2.2.2.1
theorem dX9_readStep_119 : decode cX9_readStep 119 = .ok (.iconst (-1), 1) := DX9_readStep_113.2.2.2.2.2.1
theorem dX9_readStep_120 : decode cX9_readStep 120 = .ok (.iastore, 1) := DX9_readStep_113.2.2.2.2.2.2.1
theorem dX9_readStep_121 : decode cX9_readStep 121 = .ok (.iinc 4 1, 3) := DX9_readStep_113.2.2.2.2.2.2.2.1
theorem dX9_readStep_124 : decode cX9_readStep 124 = .ok (.goto (-21), 3) := DX9_readStep_113.2.2.2.2.2.2.2.2.1
theorem dX9_readStep_127 : decode cX9_readStep 127 = .ok (.iload_n 3, 1) := DX9_readStep_113.2.2.2.2.2.2.2.2.2.1
theorem dX9_readStep_128 : decode cX9_readStep 128 = .ok (.iconst 1, 1) := DX9_readStep_113.2.2.2.2.2.2.2.2.2.2.1
theorem dX9_readStep_129 : decode cX9_readStep 129 = .ok (.if_icmp .le 4, 3) := DX9_readStep_113.2.2.2.2.2.2.2.2.2.2.2.1
theorem dX9_readStep_132 : decode cX9_readStep 132 = .ok (.return_, 1) := DX9_readStep_113.2.2.2.2.2.2.2.2.2.2.2.2.1
theorem dX9_readStep_133 : decode cX9_readStep 133 = .ok (.aload_n 0, 1) := DX9_readStep_113.2.2.2.2.2.2.2.2.2.2.2.2.2.1
theorem dX9_readStep_134 : decode cX9_readStep 134 = .ok (.bipush 58, 2) := DX9_readStep_113.2.2.2.2.2.2.2.2.2.2.2.2.2.2.1
theorem dX9_readStep_136 : decode cX9_readStep 136 = .ok (.invokevirtual 135, 3) := DX9_readStep_113.2.2.2.2.2.2.2.2.2.2.2.2.2.2.2.1
theorem DX9_readStep_139 : dAre cX9_readStep [(139, .aload_n 0, 1), (140, .getfield 115, 3), (143, .iconst (-1), 1), (144, .if_icmp .ne 7, 3), (147, .iconst 1, 1), (148, .goto 4, 3), (151, .iconst 0, 1), (152, .istore 4, 2), (154, .iconst 0, 1), (155, .istore 5, 2), (157, .iload 5, 2), (159, .iconst 3, 1), (160, .if_icmp .ge 80, 3), (163, .iload 4, 2), (165, .ifCond .eq 75, 3), (168, .aload_n 0, 1)] := dAre0 (by decide +kernel)
theorem dX9_readStep_139 : decode cX9_readStep 139 = .ok (.aload_n 0, 1) := DX9_readStep_139.1
theorem dX9_readStep_140 : decode cX9_readStep 140 = .ok (.getfield 115, 3) := DX9_readStep_139.2.1
theorem dX9_readStep_143 : decode cX9_readStep 143 = .ok (.iconst (-1), 1) := DX9_readStep_139.2.2.1
theorem dX9_readStep_144 : decode cX9_readStep 144 = .ok (.if_icmp .ne 7, 3) := DX9_readStep_139.2.2.2.1
theorem dX9_readStep_147 : decode cX9_readStep 147 = .ok (.iconst 1, 1) := DX9_readStep_139.2.2.2.2.1
theorem dX9_readStep_148 : decode cX9_readStep 148 = .ok (.goto 4, 3) := DX9_readStep_139.2.2.2.2.2.1
theorem dX9_readStep_151 : decode cX9_readStep 151 = .ok (.iconst 0, 1) := DX9_readStep_139.2.2.2.2.2.2.1
theorem dX9_readStep_152 : decode cX9_readStep 152 = .ok (.istore 4, 2) := DX9_readStep_139.2.2.2.2.2.2.2.1
theorem dX9_readStep_154 : decode cX9_readStep 154 = .ok (.iconst 0, 1) := DX9_readStep_139.2.2.2.2.2.2.2.2.1
theorem dX9_readStep_155 : decode cX9_readStep 155 = .ok (.istore 5, 2) := DX9_readStep_139.2.2.2.2.2.2.2.2.2.1
theorem dX9_readStep_157 : decode cX9_readStep 157 = .ok (.iload 5, 2) := DX9_readStep_139.2.2.2.2.2.2.2.2.2.2.1
theorem dX9_readStep_159 : decode cX9_readStep 159 = .ok (.iconst 3, 1) := DX9_readStep_139.2.2.2.2.2.2.2.2.2.2.2.1
theorem dX9_readStep_160 : decode cX9_readStep 160 = .ok (.if_icmp .ge 80, 3) := DX9_readStep_139.2.2.2.2.2.2.2.2.2.2.2.2.1
theorem dX9_readStep_163 : decode cX9_readStep 163 = .ok (.iload 4, 2) := DX9_readStep_139.2.2.2.2.2.2.2.2.2.2.2.2.2.1
theorem dX9_readStep_165 : decode cX9_readStep 165 = .ok (.ifCond .eq 75, 3) := DX9_readStep_139.2.2.2.2.2.2.2.2.2.2.2.2.2.2.1
theorem dX9_readStep_168 : decode cX9_readStep 168 = .ok (.aload_n 0, 1) := DX9_readStep_139.2.2.2.2.2.2.2.2.2.2.2.2.2.2.2.1
theorem DX9_readStep_169 : dAre cX9_readStep [(169, .getfield 25, 3), (172, .iload_n 1, 1), (173, .iconst 2, 1), (174, .iadd, 1), (175, .iload 5, 2), (177, .iadd, 1), (178, .aload_n 0, 1), (179, .bipush 99, 2), (181, .invokevirtual 139, 3), (184, .iastore, 1), (185, .aload_n 0, 1), (186, .getfield 115, 3), (189, .iconst (-1), 1), (190, .if_icmp .ne 22, 3), (193, .iload 5, 2), (195, .iconst 2, 1)] := dAre0 (by decide +kernel)
theorem dX9_readStep_169 : decode cX9_readStep 169 = .ok (.getfield 25, 3) := DX9_readStep_169.1
theorem dX9_readStep_172 : decode cX9_readStep 172 = .ok (.iload_n 1, 1) := DX9_readStep_169.2.1
theorem dX9_readStep_173 : decode cX9_readStep 173 = .ok (.iconst 2, 1) := DX9_readStep_169.2.2.1
theorem dX9_readStep_174 : decode cX9_readStep 174 = .ok (.iadd, 1) := DX9_readStep_169.2.2.2.1
theorem dX9_readStep_175 : decode cX9_readStep 175 = .ok (.iload 5, 2) := DX9_readStep_169.2.2.2.2.1
theorem dX9_readStep_177 : decode cX9_readStep 177 = .ok (.iadd, 1) := DX9_readStep_169.2.2.2.2.2.1
theorem dX9_readStep_178 : decode cX9_readStep 178 = .ok (.aload_n 0, 1) := DX9_readStep_169.2.2.2.2.2.2.1
theorem dX9_readStep_179 : decode cX9_readStep 179 = .ok (.bipush 99, 2) := DX9_readStep_169.2.2.2.2.2.2.2.1
theorem dX9_readStep_181 : decode cX9_readStep 181 = .ok (.invokevirtual 139, 3) := DX9_readStep_169.2.2.2.2.2.2.2.2.1
theorem dX9_readStep_184 : decode cX9_readStep 184 = .ok (.iastore, 1) := DX9_readStep_169.2.2.2.2.2.2.2.2.2.1
theorem dX9_readStep_185 : decode cX9_readStep 185 = .ok (.aload_n 0, 1) := DX9_readStep_169.2.2.2.2.2.2.2.2.2.2.1
theorem dX9_readStep_186 : decode cX9_readStep 186 = .ok (.getfield 115, 3) := DX9_readStep_169.2.2.2.2.2.2.2.2.2.2.2.1
theorem dX9_readStep_189 : decode cX9_readStep 189 = .ok (.iconst (-1), 1) := DX9_readStep_169.2.2.2.2.2.2.2.2.2.2.2.2.1
theorem dX9_readStep_190 : decode cX9_readStep 190 = .ok (.if_icmp .ne 22, 3) := DX9_readStep_169.2.2.2.2.2.2.2.2.2.2.2.2.2.1
theorem dX9_readStep_193 : decode cX9_readStep 193 = .ok (.iload 5, 2) := DX9_readStep_169.2.2.2.2.2.2.2.2.2.2.2.2.2.2.1
theorem dX9_readStep_195 : decode cX9_readStep 195 = .ok (.iconst 2, 1) := DX9_readStep_169.2.2.2.2.2.2.2.2.2.2.2.2.2.2.2.1
theorem DX9_readStep_196 : dAre cX9_readStep [(196, .if_icmp .ge 16, 3), (199, .aload_n 0, 1), (200, .invokevirtual 118, 3), (203, .bipush 44, 2), (205, .if_icmp .ne 7, 3), (208, .iconst 1, 1), (209, .goto 4, 3), (212, .iconst 0, 1), (213, .istore 4, 2), (215, .aload_n 0, 1), (216, .dup, 1), (217, .getfield 108, 3), (220, .iload 4, 2), (222, .ifCond .eq 7, 3), (225, .iconst 1, 1), (226, .goto 4, 3)] := dAre0 (by decide +kernel)
theorem dX9_readStep_196 : decode cX9_readStep 196 = .ok (.if_icmp .ge 16, 3) := DX9_readStep_196.1
theorem dX9_readStep_199 : decode cX9_readStep 199 = .ok (.aload_n 0, 1) := DX9_readStep_196.2.1
theorem dX9_readStep_200 : decode cX9_readStep 200 = .ok (.invokevirtual 118, 3) := DX9_readStep_196.2.2.1
theorem dX9_readStep_203 : decode cX9_readStep 203 = .ok (.bipush 44, 2) := DX9_readStep_196.2.2.2.1
theorem dX9_readStep_205 : decode cX9_readStep 205 = .ok (.if_icmp .ne 7, 3) := DX9_readStep_196.2.2.2.2.1
theorem dX9_readStep_208 : decode cX9_readStep 208 = .ok (.iconst 1, 1) := DX9_readStep_196.2.2.2.2.2.1
theorem dX9_readStep_209 : decode cX9_readStep 209 = .ok (.goto 4, 3) := DX9_readStep_196.2.2.2.2.2.2.1
theorem dX9_readStep_212 : decode cX9_readStep 212 = .ok (.iconst 0, 1) := DX9_readStep_196.2.2.2.2.2.2.2.1
theorem dX9_readStep_213 : decode cX9_readStep 213 = .ok (.istore 4, 2) := DX9_readStep_196.2.2.2.2.2.2.2.2.1
theorem dX9_readStep_215 : decode cX9_readStep 215 = .ok (.aload_n 0, 1) := DX9_readStep_196.2.2.2.2.2.2.2.2.2.1
theorem dX9_readStep_216 : decode cX9_readStep 216 = .ok (.dup, 1) := DX9_readStep_196.2.2.2.2.2.2.2.2.2.2.1
theorem dX9_readStep_217 : decode cX9_readStep 217 = .ok (.getfield 108, 3) := DX9_readStep_196.2.2.2.2.2.2.2.2.2.2.2.1
theorem dX9_readStep_220 : decode cX9_readStep 220 = .ok (.iload 4, 2) := DX9_readStep_196.2.2.2.2.2.2.2.2.2.2.2.2.1
theorem dX9_readStep_222 : decode cX9_readStep 222 = .ok (.ifCond .eq 7, 3) := DX9_readStep_196.2.2.2.2.2.2.2.2.2.2.2.2.2.1
theorem dX9_readStep_225 : decode cX9_readStep 225 = .ok (.iconst 1, 1) := DX9_readStep_196.2.2.2.2.2.2.2.2.2.2.2.2.2.2.1
theorem dX9_readStep_226 : decode cX9_readStep 226 = .ok (.goto 4, 3) := DX9_readStep_196.2.2.2.2.2.2.2.2.2.2.2.2.2.2.2.1
theorem DX9_readStep_229 : dAre cX9_readStep [(229, .iconst 0, 1), (230, .iadd, 1), (231, .putfield 108, 3), (234, .iinc 5 1, 3), (237, .goto (-80), 3), (240, .return_, 1)] := dAre0 (by decide +kernel)
theorem dX9_readStep_229 : decode cX9_readStep 229 = .ok (.iconst 0, 1) := DX9_readStep_229.1
theorem dX9_readStep_230 : decode cX9_readStep 230 = .ok (.iadd, 1) := DX9_readStep_229.2.1
theorem dX9_readStep_231 : decode cX9_readStep 231 = .ok (.putfield 108, 3) := DX9_readStep_229.2.2.1
theorem dX9_readStep_234 : decode cX9_readStep 234 = .ok (.iinc 5 1, 3) := DX9_readStep_229.2.2.2.1
theorem dX9_readStep_237 : decode cX9_readStep 237 = .ok (.goto (-80), 3) := DX9_readStep_229.2.2.2.2.1
theorem dX9_readStep_240 : decode cX9_readStep 240 = .ok (.return_, 1) := DX9_readStep_229.2.2.2.2.2.1
theorem mX9_readStep : gMv yX9_readStep cX9_readStep 6 none RX9 1 := ⟨q976, q1394, q10, q977, rfl, by decide, by decide, by decide +kernel⟩
noncomputable def lX9_readStep_103 (v1 : Int32) : (Int32 × gM) → Option (gM) :=
  itO fun s =>
    if (3 : Int32) ≤ s.1 then
      some (.inr s.2)
    else
      (wI s.2 68 300 ((v1 + 2) + s.1) (-1)).bind fun I7 =>
      some (.inl (s.1 + 1, I7))
set_option maxRecDepth 100000 in
set_option maxHeartbeats 4000000 in
theorem wlX9_readStep_103 {z : gZ} {E : gE} {bk : Nat} (F : Fx z sh E "LeapJoinModel" cX9_readStep (gR 3) 6) (B : bZ z bk) (hE : gDist sh E) (v1 : Int32) (v3 : Int32) (J : gN) {r : gM} : ∀ s : Int32 × gM, lX9_readStep_103 v1 s = some r → (G z 127 [(0, .ref (E.2.1 62)), (1, .int v1), (3, .int v3)] [] r J) → G z 103 [(0, .ref (E.2.1 62)), (1, .int v1), (3, .int v3), (4, .int s.1)] [] s.2 J := by
  intro s h X0
  unfold lX9_readStep_103 at h
  revert s
  refine itO_ind (P := fun s : Int32 × gM => G z 103 [(0, .ref (E.2.1 62)), (1, .int v1), (3, .int v3), (4, .int s.1)] [] s.2 J) (fun s y h hl hr => ?_)
  have K103_0 : ∀ x : gM, y = .inr x → (G z 127 [(0, .ref (E.2.1 62)), (1, .int v1), (3, .int v3)] [] x J) := fun x q => by have q2 := hr _ q; subst q2; exact X0
  refine g_iload F 3 dX9_readStep_103 rfl ?_
  refine g_iconst (v := 3) F dX9_readStep_105 (by decide) ?_
  refine u_icmp_ge (tgt := 127) F dX9_readStep_106 (by decide) h (fun h => ?_) (fun h => ?_)
  · obtain rfl := Option.some.inj h
    refine g_sub (Ln := [(0, .ref (E.2.1 62)), (1, .int v1), (3, .int v3)]) [0, 1, 2] rfl ?_
    exact K103_0 s.2 rfl
  · refine g_aload_n F 0 dX9_readStep_109 rfl rfl ?_
    refine g_getr (j := 10) (nn := 68) F s62 rfl rfl uX9 (by decide) q831 dX9_readStep_110 ?_
    refine g_iload_n F 1 dX9_readStep_113 rfl rfl ?_
    refine g_iconst (v := 2) F dX9_readStep_114 (by decide) ?_
    refine g_iadd (v := v1 + 2) F dX9_readStep_115 rfl ?_
    refine g_iload F 3 dX9_readStep_116 rfl ?_
    refine g_iadd (v := (v1 + 2) + s.1) F dX9_readStep_118 rfl ?_
    refine g_iconst (v := (-1)) F dX9_readStep_119 (by decide) ?_
    refine u_wI F s68 (by decide) dX9_readStep_120 h (fun I7 h => ?_)
    refine g_iinc (v := s.1 + 1) (Ln := [(4, .int (s.1 + 1)), (0, .ref (E.2.1 62)), (1, .int v1), (3, .int v3)]) F 3 dX9_readStep_121 rfl (add_c (by decide)) (by decide) rfl ?_
    refine g_goto (tgt := 103) F dX9_readStep_124 (by decide) ?_
    obtain rfl := Option.some.inj h
    refine g_sub (Ln := [(0, .ref (E.2.1 62)), (1, .int v1), (3, .int v3), (4, .int (s.1 + 1))]) [1, 2, 3, 0] rfl ?_
    exact hl (s.1 + 1, I7) rfl
noncomputable def bX9_readStep_230 (v4 : Int32) (v5 : Int32) (t0 : Int32) (t1 : Int32) (I : gM) : Option ((Int32 × Int32 × gM) ⊕ (gM)) :=
  (pU I 62 3 (t1 + t0)).bind fun I12 =>
  some (.inl (v4, v5 + 1, I12))
set_option maxRecDepth 100000 in
set_option maxHeartbeats 4000000 in
theorem wbX9_readStep_230 {z : gZ} {E : gE} {bk : Nat} (F : Fx z sh E "LeapJoinModel" cX9_readStep (gR 3) 6) (B : bZ z bk) (hE : gDist sh E) (v1 : Int32) (v4 : Int32) (v5 : Int32) (t0 : Int32) (t1 : Int32) (I : gM) (J : gN) {y : (Int32 × Int32 × gM) ⊕ (gM)} (h : bX9_readStep_230 v4 v5 t0 t1 I = some y) (hl : ∀ s' : Int32 × Int32 × gM, y = .inl s' → G z 157 [(0, .ref (E.2.1 62)), (1, .int v1), (4, .int (s'.1)), (5, .int (s'.2.1))] [] s'.2.2 J) (K157_0 : ∀ x : gM, y = .inr x → G z 240 [] [] x J) : G z 230 [(0, .ref (E.2.1 62)), (1, .int v1), (4, .int v4), (5, .int v5)] [.int t0, .int t1, .ref (E.2.1 62)] I J := by
  unfold bX9_readStep_230 at h
  refine g_iadd (v := t1 + t0) F dX9_readStep_230 rfl ?_
  refine u_puti (j := 3) F s62 rfl rfl uX9 (by decide) q824 tyX9_ok nmX9 rfl rfl rfl dX9_readStep_231 h (fun I12 h => ?_)
  refine g_iinc (v := v5 + 1) (Ln := [(5, .int (v5 + 1)), (0, .ref (E.2.1 62)), (1, .int v1), (4, .int v4)]) F 3 dX9_readStep_234 rfl (add_c (by decide)) (by decide) rfl ?_
  refine g_goto (tgt := 157) F dX9_readStep_237 (by decide) ?_
  obtain rfl := Option.some.inj h
  refine g_sub (Ln := [(0, .ref (E.2.1 62)), (1, .int v1), (4, .int v4), (5, .int (v5 + 1))]) [1, 2, 3, 0] rfl ?_
  exact hl (v4, v5 + 1, I12) rfl
noncomputable def bX9_readStep_213 (v5 : Int32) (t0 : Int32) (I : gM) : Option ((Int32 × Int32 × gM) ⊕ (gM)) :=
  if t0 = 0 then
    bX9_readStep_230 t0 v5 (0 : Int32) (I 62 3) I
  else
    bX9_readStep_230 t0 v5 (1 : Int32) (I 62 3) I
set_option maxRecDepth 100000 in
set_option maxHeartbeats 4000000 in
theorem wbX9_readStep_213 {z : gZ} {E : gE} {bk : Nat} (F : Fx z sh E "LeapJoinModel" cX9_readStep (gR 3) 6) (B : bZ z bk) (hE : gDist sh E) (v1 : Int32) (v5 : Int32) (t0 : Int32) (I : gM) (J : gN) {y : (Int32 × Int32 × gM) ⊕ (gM)} (h : bX9_readStep_213 v5 t0 I = some y) (hl : ∀ s' : Int32 × Int32 × gM, y = .inl s' → G z 157 [(0, .ref (E.2.1 62)), (1, .int v1), (4, .int (s'.1)), (5, .int (s'.2.1))] [] s'.2.2 J) (K157_0 : ∀ x : gM, y = .inr x → G z 240 [] [] x J) : G z 213 [(0, .ref (E.2.1 62)), (1, .int v1), (5, .int v5)] [.int t0] I J := by
  unfold bX9_readStep_213 at h
  refine g_istore (Ln := [(4, .int t0), (0, .ref (E.2.1 62)), (1, .int v1), (5, .int v5)]) F dX9_readStep_213 (by decide) rfl ?_
  refine g_aload_n F 1 dX9_readStep_215 rfl rfl ?_
  refine g_dup F dX9_readStep_216 rfl ?_
  refine g_geti (j := 3) (v := I 62 3) F s62 rfl rfl uX9 (by decide) q824 rfl dX9_readStep_217 ?_
  refine g_iload F 0 dX9_readStep_220 rfl ?_
  refine u_if_eq (tgt := 229) F dX9_readStep_222 (by decide) h (fun h => ?_) (fun h => ?_)
  · refine g_iconst (v := 0) F dX9_readStep_229 (by decide) ?_
    refine g_sub (Ln := [(0, .ref (E.2.1 62)), (1, .int v1), (4, .int t0), (5, .int v5)]) [1, 2, 0, 3] rfl ?_
    exact wbX9_readStep_230 F B hE v1 t0 v5 (0 : Int32) (I 62 3) I J h hl K157_0
  · refine g_iconst (v := 1) F dX9_readStep_225 (by decide) ?_
    refine g_goto (tgt := 230) F dX9_readStep_226 (by decide) ?_
    refine g_sub (Ln := [(0, .ref (E.2.1 62)), (1, .int v1), (4, .int t0), (5, .int v5)]) [1, 2, 0, 3] rfl ?_
    exact wbX9_readStep_230 F B hE v1 t0 v5 (1 : Int32) (I 62 3) I J h hl K157_0
noncomputable def bX9_readStep_212 (v5 : Int32) (I : gM) : Option ((Int32 × Int32 × gM) ⊕ (gM)) :=
  bX9_readStep_213 v5 (0 : Int32) I
set_option maxRecDepth 100000 in
set_option maxHeartbeats 4000000 in
theorem wbX9_readStep_212 {z : gZ} {E : gE} {bk : Nat} (F : Fx z sh E "LeapJoinModel" cX9_readStep (gR 3) 6) (B : bZ z bk) (hE : gDist sh E) (v1 : Int32) (v5 : Int32) (I : gM) (J : gN) {y : (Int32 × Int32 × gM) ⊕ (gM)} (h : bX9_readStep_212 v5 I = some y) (hl : ∀ s' : Int32 × Int32 × gM, y = .inl s' → G z 157 [(0, .ref (E.2.1 62)), (1, .int v1), (4, .int (s'.1)), (5, .int (s'.2.1))] [] s'.2.2 J) (K157_0 : ∀ x : gM, y = .inr x → G z 240 [] [] x J) : G z 212 [(0, .ref (E.2.1 62)), (1, .int v1), (5, .int v5)] [] I J := by
  unfold bX9_readStep_212 at h
  refine g_iconst (v := 0) F dX9_readStep_212 (by decide) ?_
  refine g_sub (Ln := [(0, .ref (E.2.1 62)), (1, .int v1), (5, .int v5)]) [0, 1, 2] rfl ?_
  exact wbX9_readStep_213 F B hE v1 v5 (0 : Int32) I J h hl K157_0
noncomputable def lX9_readStep_157 (v1 : Int32) : (Int32 × Int32 × gM) → Option (gM) :=
  itO fun s =>
    if (3 : Int32) ≤ s.2.1 then
      some (.inr s.2.2)
    else
      if s.1 = 0 then
        some (.inr s.2.2)
      else
        (fX9_number (99 : Int32) s.2.2).bind fun r10 =>
        (wI r10.2 68 300 ((v1 + 2) + s.2.1) r10.1).bind fun I11 =>
        if (I11 62 4) = (-1) then
          if (2 : Int32) ≤ s.2.1 then
            bX9_readStep_212 s.2.1 I11
          else
            (fX9_ahead I11).bind fun r13 =>
            if r13.1 = 44 then
              bX9_readStep_213 s.2.1 (1 : Int32) r13.2
            else
              bX9_readStep_212 s.2.1 r13.2
        else
          bX9_readStep_212 s.2.1 I11
set_option maxRecDepth 100000 in
set_option maxHeartbeats 4000000 in
theorem wlX9_readStep_157 {z : gZ} {E : gE} {bk : Nat} (F : Fx z sh E "LeapJoinModel" cX9_readStep (gR 3) 6) (B : bZ z bk) (hE : gDist sh E) (v1 : Int32) (J : gN) {r : gM} : ∀ s : Int32 × Int32 × gM, lX9_readStep_157 v1 s = some r → (G z 240 [] [] r J) → G z 157 [(0, .ref (E.2.1 62)), (1, .int v1), (4, .int s.1), (5, .int s.2.1)] [] s.2.2 J := by
  intro s h X0
  unfold lX9_readStep_157 at h
  revert s
  refine itO_ind (P := fun s : Int32 × Int32 × gM => G z 157 [(0, .ref (E.2.1 62)), (1, .int v1), (4, .int s.1), (5, .int s.2.1)] [] s.2.2 J) (fun s y h hl hr => ?_)
  have K157_0 : ∀ x : gM, y = .inr x → (G z 240 [] [] x J) := fun x q => by have q2 := hr _ q; subst q2; exact X0
  refine g_iload F 3 dX9_readStep_157 rfl ?_
  refine g_iconst (v := 3) F dX9_readStep_159 (by decide) ?_
  refine u_icmp_ge (tgt := 240) F dX9_readStep_160 (by decide) h (fun h => ?_) (fun h => ?_)
  · obtain rfl := Option.some.inj h
    refine g_sub (Ln := []) [] rfl ?_
    exact K157_0 s.2.2 rfl
  · refine g_iload F 2 dX9_readStep_163 rfl ?_
    refine u_if_eq (tgt := 240) F dX9_readStep_165 (by decide) h (fun h => ?_) (fun h => ?_)
    · obtain rfl := Option.some.inj h
      refine g_sub (Ln := []) [] rfl ?_
      exact K157_0 s.2.2 rfl
    · refine g_aload_n F 0 dX9_readStep_168 rfl rfl ?_
      refine g_getr (j := 10) (nn := 68) F s62 rfl rfl uX9 (by decide) q831 dX9_readStep_169 ?_
      refine g_iload_n F 1 dX9_readStep_172 rfl rfl ?_
      refine g_iconst (v := 2) F dX9_readStep_173 (by decide) ?_
      refine g_iadd (v := v1 + 2) F dX9_readStep_174 rfl ?_
      refine g_iload F 3 dX9_readStep_175 rfl ?_
      refine g_iadd (v := (v1 + 2) + s.2.1) F dX9_readStep_177 rfl ?_
      refine g_aload_n F 0 dX9_readStep_178 rfl rfl ?_
      refine g_bipush (v := 99) F dX9_readStep_179 (by decide) ?_
      refine u_callV (k := 62) (As := [.int 99]) (rest := [.int ((v1 + 2) + s.2.1), .ref (E.2.1 68)]) (sn := fun r10 => [.int r10.1, .int ((v1 + 2) + s.2.1), .ref (E.2.1 68)]) F B (fun _ => wX9_number (zl z) E hE bk (99 : Int32) s.2.2 J) mX9_number q966 rfl s62 rfl rfl rfl (Nat.le_of_ble_eq_true rfl) dX9_readStep_181 (fun _ => rfl) h (fun r10 h => ?_)
      refine u_wI F s68 (by decide) dX9_readStep_184 h (fun I11 h => ?_)
      refine g_aload_n F 0 dX9_readStep_185 rfl rfl ?_
      refine g_geti (j := 4) (v := I11 62 4) F s62 rfl rfl uX9 (by decide) q825 rfl dX9_readStep_186 ?_
      refine g_iconst (v := (-1)) F dX9_readStep_189 (by decide) ?_
      refine u_icmp_ne (tgt := 212) F dX9_readStep_190 (by decide) h (fun h => ?_) (fun h => ?_)
      · refine g_iload F 3 dX9_readStep_193 rfl ?_
        refine g_iconst (v := 2) F dX9_readStep_195 (by decide) ?_
        refine u_icmp_ge (tgt := 212) F dX9_readStep_196 (by decide) h (fun h => ?_) (fun h => ?_)
        · refine g_sub (Ln := [(0, .ref (E.2.1 62)), (1, .int v1), (5, .int s.2.1)]) [0, 1, 3] rfl ?_
          exact wbX9_readStep_212 F B hE v1 s.2.1 I11 J h hl K157_0
        · refine g_aload_n F 0 dX9_readStep_199 rfl rfl ?_
          refine u_callV (k := 62) (As := []) (rest := []) (sn := fun r13 => [.int r13.1]) F B (fun _ => wX9_ahead (zl z) E hE bk  I11 J) mX9_ahead q942 rfl s62 rfl rfl rfl (Nat.le_of_ble_eq_true rfl) dX9_readStep_200 (fun _ => rfl) h (fun r13 h => ?_)
          refine g_bipush (v := 44) F dX9_readStep_203 (by decide) ?_
          refine u_icmp_ne (tgt := 212) F dX9_readStep_205 (by decide) h (fun h => ?_) (fun h => ?_)
          · refine g_iconst (v := 1) F dX9_readStep_208 (by decide) ?_
            refine g_goto (tgt := 213) F dX9_readStep_209 (by decide) ?_
            refine g_sub (Ln := [(0, .ref (E.2.1 62)), (1, .int v1), (5, .int s.2.1)]) [0, 1, 3] rfl ?_
            exact wbX9_readStep_213 F B hE v1 s.2.1 (1 : Int32) r13.2 J h hl K157_0
          · refine g_sub (Ln := [(0, .ref (E.2.1 62)), (1, .int v1), (5, .int s.2.1)]) [0, 1, 3] rfl ?_
            exact wbX9_readStep_212 F B hE v1 s.2.1 r13.2 J h hl K157_0
      · refine g_sub (Ln := [(0, .ref (E.2.1 62)), (1, .int v1), (5, .int s.2.1)]) [0, 1, 3] rfl ?_
        exact wbX9_readStep_212 F B hE v1 s.2.1 I11 J h hl K157_0
noncomputable def bX9_readStep_152 (v1 : Int32) (t0 : Int32) (I : gM) : Option (gM) :=
  (lX9_readStep_157 v1 (t0, (0 : Int32), I)).bind fun w14 =>
  some w14
set_option maxRecDepth 100000 in
set_option maxHeartbeats 4000000 in
theorem wbX9_readStep_152 {z : gZ} {E : gE} {bk : Nat} (F : Fx z sh E "LeapJoinModel" cX9_readStep (gR 3) 6) (B : bZ z bk) (hE : gDist sh E) (v1 : Int32) (t0 : Int32) (I : gM) (J : gN) {y : gM} (h : bX9_readStep_152 v1 t0 I = some y) (e : Fe z sh E none (fun r1 I1 J1 => r1 = none ∧ I1 = y ∧ J1 = J)) : G z 152 [(0, .ref (E.2.1 62)), (1, .int v1)] [.int t0] I J := by
  unfold bX9_readStep_152 at h
  refine g_istore (Ln := [(4, .int t0), (0, .ref (E.2.1 62)), (1, .int v1)]) F dX9_readStep_152 (by decide) rfl ?_
  refine g_iconst (v := 0) F dX9_readStep_154 (by decide) ?_
  refine g_istore (Ln := [(5, .int 0), (4, .int t0), (0, .ref (E.2.1 62)), (1, .int v1)]) F dX9_readStep_155 (by decide) rfl ?_
  obtain ⟨w14, ew14, h⟩ := ob h
  refine g_sub (Ln := [(0, .ref (E.2.1 62)), (1, .int v1), (4, .int t0), (5, .int 0)]) [2, 3, 1, 0] rfl ?_
  refine wlX9_readStep_157 F B hE v1 J _ ew14 ?_
  obtain rfl := Option.some.inj h
  exact g_vret F e dX9_readStep_240 ⟨rfl, rfl, rfl⟩
noncomputable def bX9_readStep_99 (v1 : Int32) (v3 : Int32) (t0 : Int32) (t1 : Int32) (I : gM) : Option (gM) :=
  (wI I 68 300 t1 t0).bind fun I6 =>
  (lX9_readStep_103 v1 ((0 : Int32), I6)).bind fun w8 =>
  if v3 ≤ 1 then
    (fX9_must (58 : Int32) w8).bind fun r9 =>
    if (r9 62 4) = (-1) then
      bX9_readStep_152 v1 (1 : Int32) r9
    else
      bX9_readStep_152 v1 (0 : Int32) r9
  else
    some w8
set_option maxRecDepth 100000 in
set_option maxHeartbeats 4000000 in
theorem wbX9_readStep_99 {z : gZ} {E : gE} {bk : Nat} (F : Fx z sh E "LeapJoinModel" cX9_readStep (gR 3) 6) (B : bZ z bk) (hE : gDist sh E) (v1 : Int32) (v3 : Int32) (t0 : Int32) (t1 : Int32) (I : gM) (J : gN) {y : gM} (h : bX9_readStep_99 v1 v3 t0 t1 I = some y) (e : Fe z sh E none (fun r1 I1 J1 => r1 = none ∧ I1 = y ∧ J1 = J)) : G z 99 [(0, .ref (E.2.1 62)), (1, .int v1), (3, .int v3)] [.int t0, .int t1, .ref (E.2.1 68)] I J := by
  unfold bX9_readStep_99 at h
  refine u_wI F s68 (by decide) dX9_readStep_99 h (fun I6 h => ?_)
  refine g_iconst (v := 0) F dX9_readStep_100 (by decide) ?_
  refine g_istore (Ln := [(4, .int 0), (0, .ref (E.2.1 62)), (1, .int v1), (3, .int v3)]) F dX9_readStep_101 (by decide) rfl ?_
  obtain ⟨w8, ew8, h⟩ := ob h
  refine g_sub (Ln := [(0, .ref (E.2.1 62)), (1, .int v1), (3, .int v3), (4, .int 0)]) [1, 2, 3, 0] rfl ?_
  refine wlX9_readStep_103 F B hE v1 v3 J _ ew8 ?_
  refine g_iload_n F 2 dX9_readStep_127 rfl rfl ?_
  refine g_iconst (v := 1) F dX9_readStep_128 (by decide) ?_
  refine u_icmp_le (tgt := 133) F dX9_readStep_129 (by decide) h (fun h => ?_) (fun h => ?_)
  · refine g_aload_n F 0 dX9_readStep_133 rfl rfl ?_
    refine g_bipush (v := 58) F dX9_readStep_134 (by decide) ?_
    refine u_callV (k := 62) (As := [.int 58]) (rest := []) (sn := fun _ => []) F B (fun _ => wX9_must (zl z) E hE bk (58 : Int32) w8 J) mX9_must q957 rfl s62 rfl rfl rfl (Nat.le_of_ble_eq_true rfl) dX9_readStep_136 (fun _ => rfl) h (fun r9 h => ?_)
    refine g_aload_n F 0 dX9_readStep_139 rfl rfl ?_
    refine g_geti (j := 4) (v := r9 62 4) F s62 rfl rfl uX9 (by decide) q825 rfl dX9_readStep_140 ?_
    refine g_iconst (v := (-1)) F dX9_readStep_143 (by decide) ?_
    refine u_icmp_ne (tgt := 151) F dX9_readStep_144 (by decide) h (fun h => ?_) (fun h => ?_)
    · refine g_iconst (v := 1) F dX9_readStep_147 (by decide) ?_
      refine g_goto (tgt := 152) F dX9_readStep_148 (by decide) ?_
      refine g_sub (Ln := [(0, .ref (E.2.1 62)), (1, .int v1)]) [0, 1] rfl ?_
      exact wbX9_readStep_152 F B hE v1 (1 : Int32) r9 J h e
    · refine g_iconst (v := 0) F dX9_readStep_151 (by decide) ?_
      refine g_sub (Ln := [(0, .ref (E.2.1 62)), (1, .int v1)]) [0, 1] rfl ?_
      exact wbX9_readStep_152 F B hE v1 (0 : Int32) r9 J h e
  · obtain rfl := Option.some.inj h
    exact g_vret F e dX9_readStep_132 ⟨rfl, rfl, rfl⟩
noncomputable def bX9_readStep_46 (v1 : Int32) (t0 : Int32) (I : gM) : Option (gM) :=
  if t0 = (-1) then
    (fX9_bad I).bind fun r2 =>
    some r2
  else
    (pU I 62 3 ((I 62 3) + 1)).bind fun I3 =>
    (wI I3 68 300 v1 t0).bind fun I4 =>
    if t0 = 3 then
      (fX9_number (23 : Int32) I4).bind fun r5 =>
      bX9_readStep_99 v1 t0 r5.1 (v1 + 1) r5.2
    else
      (fX9_digit I4).bind fun r15 =>
      bX9_readStep_99 v1 t0 r15.1 (v1 + 1) r15.2
set_option maxRecDepth 100000 in
set_option maxHeartbeats 4000000 in
theorem wbX9_readStep_46 {z : gZ} {E : gE} {bk : Nat} (F : Fx z sh E "LeapJoinModel" cX9_readStep (gR 3) 6) (B : bZ z bk) (hE : gDist sh E) (v1 : Int32) (t0 : Int32) (I : gM) (J : gN) {y : gM} (h : bX9_readStep_46 v1 t0 I = some y) (e : Fe z sh E none (fun r1 I1 J1 => r1 = none ∧ I1 = y ∧ J1 = J)) : G z 46 [(0, .ref (E.2.1 62)), (1, .int v1)] [.int t0] I J := by
  unfold bX9_readStep_46 at h
  refine g_istore_n (Ln := [(3, .int t0), (0, .ref (E.2.1 62)), (1, .int v1)]) F dX9_readStep_46 rfl (by decide) rfl ?_
  refine g_iload_n F 0 dX9_readStep_47 rfl rfl ?_
  refine g_iconst (v := (-1)) F dX9_readStep_48 (by decide) ?_
  refine u_icmp_ne (tgt := 57) F dX9_readStep_49 (by decide) h (fun h => ?_) (fun h => ?_)
  · refine g_aload_n F 1 dX9_readStep_52 rfl rfl ?_
    refine u_callV (k := 62) (As := []) (rest := []) (sn := fun _ => []) F B (fun _ => wX9_bad (zl z) E hE bk  I J) mX9_bad q951 rfl s62 rfl rfl rfl (Nat.le_of_ble_eq_true rfl) dX9_readStep_53 (fun _ => rfl) h (fun r2 h => ?_)
    obtain rfl := Option.some.inj h
    exact g_vret F e dX9_readStep_56 ⟨rfl, rfl, rfl⟩
  · refine g_aload_n F 1 dX9_readStep_57 rfl rfl ?_
    refine g_dup F dX9_readStep_58 rfl ?_
    refine g_geti (j := 3) (v := I 62 3) F s62 rfl rfl uX9 (by decide) q824 rfl dX9_readStep_59 ?_
    refine g_iconst (v := 1) F dX9_readStep_62 (by decide) ?_
    refine g_iadd (v := (I 62 3) + 1) F dX9_readStep_63 rfl ?_
    refine u_puti (j := 3) F s62 rfl rfl uX9 (by decide) q824 tyX9_ok nmX9 rfl rfl rfl dX9_readStep_64 h (fun I3 h => ?_)
    refine g_aload_n F 1 dX9_readStep_67 rfl rfl ?_
    refine g_getr (j := 10) (nn := 68) F s62 rfl rfl uX9 (by decide) q831 dX9_readStep_68 ?_
    refine g_iload_n F 2 dX9_readStep_71 rfl rfl ?_
    refine g_iload_n F 0 dX9_readStep_72 rfl rfl ?_
    refine u_wI F s68 (by decide) dX9_readStep_73 h (fun I4 h => ?_)
    refine g_aload_n F 1 dX9_readStep_74 rfl rfl ?_
    refine g_getr (j := 10) (nn := 68) F s62 rfl rfl uX9 (by decide) q831 dX9_readStep_75 ?_
    refine g_iload_n F 2 dX9_readStep_78 rfl rfl ?_
    refine g_iconst (v := 1) F dX9_readStep_79 (by decide) ?_
    refine g_iadd (v := v1 + 1) F dX9_readStep_80 rfl ?_
    refine g_iload_n F 0 dX9_readStep_81 rfl rfl ?_
    refine g_iconst (v := 3) F dX9_readStep_82 (by decide) ?_
    refine u_icmp_ne (tgt := 95) F dX9_readStep_83 (by decide) h (fun h => ?_) (fun h => ?_)
    · refine g_aload_n F 1 dX9_readStep_86 rfl rfl ?_
      refine g_bipush (v := 23) F dX9_readStep_87 (by decide) ?_
      refine u_callV (k := 62) (As := [.int 23]) (rest := [.int (v1 + 1), .ref (E.2.1 68)]) (sn := fun r5 => [.int r5.1, .int (v1 + 1), .ref (E.2.1 68)]) F B (fun _ => wX9_number (zl z) E hE bk (23 : Int32) I4 J) mX9_number q966 rfl s62 rfl rfl rfl (Nat.le_of_ble_eq_true rfl) dX9_readStep_89 (fun _ => rfl) h (fun r5 h => ?_)
      refine g_goto (tgt := 99) F dX9_readStep_92 (by decide) ?_
      refine g_sub (Ln := [(0, .ref (E.2.1 62)), (1, .int v1), (3, .int t0)]) [1, 2, 0] rfl ?_
      exact wbX9_readStep_99 F B hE v1 t0 r5.1 (v1 + 1) r5.2 J h e
    · refine g_aload_n F 1 dX9_readStep_95 rfl rfl ?_
      refine u_callV (k := 62) (As := []) (rest := [.int (v1 + 1), .ref (E.2.1 68)]) (sn := fun r15 => [.int r15.1, .int (v1 + 1), .ref (E.2.1 68)]) F B (fun _ => wX9_digit (zl z) E hE bk  I4 J) mX9_digit q978 rfl s62 rfl rfl rfl (Nat.le_of_ble_eq_true rfl) dX9_readStep_96 (fun _ => rfl) h (fun r15 h => ?_)
      refine g_sub (Ln := [(0, .ref (E.2.1 62)), (1, .int v1), (3, .int t0)]) [1, 2, 0] rfl ?_
      exact wbX9_readStep_99 F B hE v1 t0 r15.1 (v1 + 1) r15.2 J h e
noncomputable def fX9_readStep (v1 : Int32) (I : gM) : Option (gM) :=
  (fX9_ahead I).bind fun r1 =>
  if r1.1 = 112 then
    bX9_readStep_46 v1 (0 : Int32) r1.2
  else
    if r1.1 = 116 then
      bX9_readStep_46 v1 (1 : Int32) r1.2
    else
      if r1.1 = 117 then
        bX9_readStep_46 v1 (2 : Int32) r1.2
      else
        if r1.1 = 111 then
          bX9_readStep_46 v1 (3 : Int32) r1.2
        else
          bX9_readStep_46 v1 ((-1) : Int32) r1.2
set_option maxRecDepth 100000 in
set_option maxHeartbeats 4000000 in
theorem wX9_readStep (l : Launch) (E : gE) (hE : gDist sh E) (bk : Nat) (v1 : Int32) (I : gM) (J : gN) {r : gM} (h : fX9_readStep v1 I = some r) : Cu l sh E bk yX9_readStep cX9_readStep 6 none (gR 3) [.ref (E.2.1 62), .int v1] I J (fun r1 I1 J1 => r1 = none ∧ I1 = r ∧ J1 = J) := by
  refine Cu.of "LeapJoinModel" rfl hE (by decide) (Nat.le_of_ble_eq_true rfl) (fun z F B e hl => ?_)
  subst hl
  unfold fX9_readStep at h
  refine g_aload_n F 0 dX9_readStep_0 rfl rfl ?_
  refine u_callV (k := 62) (As := []) (rest := []) (sn := fun r1 => [.int r1.1]) F B (fun _ => wX9_ahead (zl z) E hE bk  I J) mX9_ahead q942 rfl s62 rfl rfl rfl (Nat.le_of_ble_eq_true rfl) dX9_readStep_1 (fun _ => rfl) h (fun r1 h => ?_)
  refine g_istore_n (Ln := [(2, .int r1.1), (0, .ref (E.2.1 62)), (1, .int v1)]) F dX9_readStep_4 rfl (by decide) rfl ?_
  refine g_iload_n F 0 dX9_readStep_5 rfl rfl ?_
  refine g_bipush (v := 112) F dX9_readStep_6 (by decide) ?_
  refine u_icmp_ne (tgt := 15) F dX9_readStep_8 (by decide) h (fun h => ?_) (fun h => ?_)
  · refine g_iconst (v := 0) F dX9_readStep_11 (by decide) ?_
    refine g_goto (tgt := 46) F dX9_readStep_12 (by decide) ?_
    refine g_sub (Ln := [(0, .ref (E.2.1 62)), (1, .int v1)]) [1, 2] rfl ?_
    exact wbX9_readStep_46 F B hE v1 (0 : Int32) r1.2 J h e
  · refine g_iload_n F 0 dX9_readStep_15 rfl rfl ?_
    refine g_bipush (v := 116) F dX9_readStep_16 (by decide) ?_
    refine u_icmp_ne (tgt := 25) F dX9_readStep_18 (by decide) h (fun h => ?_) (fun h => ?_)
    · refine g_iconst (v := 1) F dX9_readStep_21 (by decide) ?_
      refine g_goto (tgt := 46) F dX9_readStep_22 (by decide) ?_
      refine g_sub (Ln := [(0, .ref (E.2.1 62)), (1, .int v1)]) [1, 2] rfl ?_
      exact wbX9_readStep_46 F B hE v1 (1 : Int32) r1.2 J h e
    · refine g_iload_n F 0 dX9_readStep_25 rfl rfl ?_
      refine g_bipush (v := 117) F dX9_readStep_26 (by decide) ?_
      refine u_icmp_ne (tgt := 35) F dX9_readStep_28 (by decide) h (fun h => ?_) (fun h => ?_)
      · refine g_iconst (v := 2) F dX9_readStep_31 (by decide) ?_
        refine g_goto (tgt := 46) F dX9_readStep_32 (by decide) ?_
        refine g_sub (Ln := [(0, .ref (E.2.1 62)), (1, .int v1)]) [1, 2] rfl ?_
        exact wbX9_readStep_46 F B hE v1 (2 : Int32) r1.2 J h e
      · refine g_iload_n F 0 dX9_readStep_35 rfl rfl ?_
        refine g_bipush (v := 111) F dX9_readStep_36 (by decide) ?_
        refine u_icmp_ne (tgt := 45) F dX9_readStep_38 (by decide) h (fun h => ?_) (fun h => ?_)
        · refine g_iconst (v := 3) F dX9_readStep_41 (by decide) ?_
          refine g_goto (tgt := 46) F dX9_readStep_42 (by decide) ?_
          refine g_sub (Ln := [(0, .ref (E.2.1 62)), (1, .int v1)]) [1, 2] rfl ?_
          exact wbX9_readStep_46 F B hE v1 (3 : Int32) r1.2 J h e
        · refine g_iconst (v := (-1)) F dX9_readStep_45 (by decide) ?_
          refine g_sub (Ln := [(0, .ref (E.2.1 62)), (1, .int v1)]) [1, 2] rfl ?_
          exact wbX9_readStep_46 F B hE v1 ((-1) : Int32) r1.2 J h e
theorem DX9_readScript_0 : dAre cX9_readScript [(0, .aload_n 0, 1), (1, .invokevirtual 149, 3), (4, .aload_n 0, 1), (5, .getfield 28, 3), (8, .iload_n 1, 1), (9, .iconst 0, 1), (10, .iastore, 1), (11, .iconst 1, 1), (12, .istore_n 2, 1), (13, .iload_n 2, 1), (14, .ifCond .eq 85, 3), (17, .aload_n 0, 1), (18, .iconst 5, 1), (19, .bipush 12, 2), (21, .iload_n 1, 1), (22, .imul, 1)] := dAre0 (by decide +kernel)
theorem dX9_readScript_0 : decode cX9_readScript 0 = .ok (.aload_n 0, 1) := DX9_readScript_0.1
theorem dX9_readScript_1 : decode cX9_readScript 1 = .ok (.invokevirtual 149, 3) := DX9_readScript_0.2.1
theorem dX9_readScript_4 : decode cX9_readScript 4 = .ok (.aload_n 0, 1) := DX9_readScript_0.2.2.1
theorem dX9_readScript_5 : decode cX9_readScript 5 = .ok (.getfield 28, 3) := DX9_readScript_0.2.2.2.1
theorem dX9_readScript_8 : decode cX9_readScript 8 = .ok (.iload_n 1, 1) := DX9_readScript_0.2.2.2.2.1
theorem dX9_readScript_9 : decode cX9_readScript 9 = .ok (.iconst 0, 1) := DX9_readScript_0.2.2.2.2.2.1
theorem dX9_readScript_10 : decode cX9_readScript 10 = .ok (.iastore, 1) := DX9_readScript_0.2.2.2.2.2.2.1
theorem dX9_readScript_11 : decode cX9_readScript 11 = .ok (.iconst 1, 1) := DX9_readScript_0.2.2.2.2.2.2.2.1
theorem dX9_readScript_12 : decode cX9_readScript 12 = .ok (.istore_n 2, 1) := DX9_readScript_0.2.2.2.2.2.2.2.2.1
theorem dX9_readScript_13 : decode cX9_readScript 13 = .ok (.iload_n 2, 1) := DX9_readScript_0.2.2.2.2.2.2.2.2.2.1
theorem dX9_readScript_14 : decode cX9_readScript 14 = .ok (.ifCond .eq 85, 3) := DX9_readScript_0.2.2.2.2.2.2.2.2.2.2.1
theorem dX9_readScript_17 : decode cX9_readScript 17 = .ok (.aload_n 0, 1) := DX9_readScript_0.2.2.2.2.2.2.2.2.2.2.2.1
theorem dX9_readScript_18 : decode cX9_readScript 18 = .ok (.iconst 5, 1) := DX9_readScript_0.2.2.2.2.2.2.2.2.2.2.2.2.1
theorem dX9_readScript_19 : decode cX9_readScript 19 = .ok (.bipush 12, 2) := DX9_readScript_0.2.2.2.2.2.2.2.2.2.2.2.2.2.1
theorem dX9_readScript_21 : decode cX9_readScript 21 = .ok (.iload_n 1, 1) := DX9_readScript_0.2.2.2.2.2.2.2.2.2.2.2.2.2.2.1
theorem dX9_readScript_22 : decode cX9_readScript 22 = .ok (.imul, 1) := DX9_readScript_0.2.2.2.2.2.2.2.2.2.2.2.2.2.2.2.1
theorem DX9_readScript_23 : dAre cX9_readScript [(23, .aload_n 0, 1), (24, .getfield 28, 3), (27, .iload_n 1, 1), (28, .iaload, 1), (29, .iadd, 1), (30, .imul, 1), (31, .invokevirtual 164, 3), (34, .aload_n 0, 1), (35, .getfield 28, 3), (38, .iload_n 1, 1), (39, .dup2, 1), (40, .iaload, 1), (41, .iconst 1, 1), (42, .iadd, 1), (43, .iastore, 1), (44, .aload_n 0, 1)] := dAre0 (by decide +kernel)
theorem dX9_readScript_23 : decode cX9_readScript 23 = .ok (.aload_n 0, 1) := DX9_readScript_23.1
theorem dX9_readScript_24 : decode cX9_readScript 24 = .ok (.getfield 28, 3) := DX9_readScript_23.2.1
theorem dX9_readScript_27 : decode cX9_readScript 27 = .ok (.iload_n 1, 1) := DX9_readScript_23.2.2.1
theorem dX9_readScript_28 : decode cX9_readScript 28 = .ok (.iaload, 1) := DX9_readScript_23.2.2.2.1
theorem dX9_readScript_29 : decode cX9_readScript 29 = .ok (.iadd, 1) := DX9_readScript_23.2.2.2.2.1
theorem dX9_readScript_30 : decode cX9_readScript 30 = .ok (.imul, 1) := DX9_readScript_23.2.2.2.2.2.1
theorem dX9_readScript_31 : decode cX9_readScript 31 = .ok (.invokevirtual 164, 3) := DX9_readScript_23.2.2.2.2.2.2.1
theorem dX9_readScript_34 : decode cX9_readScript 34 = .ok (.aload_n 0, 1) := DX9_readScript_23.2.2.2.2.2.2.2.1
theorem dX9_readScript_35 : decode cX9_readScript 35 = .ok (.getfield 28, 3) := DX9_readScript_23.2.2.2.2.2.2.2.2.1
theorem dX9_readScript_38 : decode cX9_readScript 38 = .ok (.iload_n 1, 1) := DX9_readScript_23.2.2.2.2.2.2.2.2.2.1
theorem dX9_readScript_39 : decode cX9_readScript 39 = .ok (.dup2, 1) := DX9_readScript_23.2.2.2.2.2.2.2.2.2.2.1
theorem dX9_readScript_40 : decode cX9_readScript 40 = .ok (.iaload, 1) := DX9_readScript_23.2.2.2.2.2.2.2.2.2.2.2.1
theorem dX9_readScript_41 : decode cX9_readScript 41 = .ok (.iconst 1, 1) := DX9_readScript_23.2.2.2.2.2.2.2.2.2.2.2.2.1
theorem dX9_readScript_42 : decode cX9_readScript 42 = .ok (.iadd, 1) := DX9_readScript_23.2.2.2.2.2.2.2.2.2.2.2.2.2.1
theorem dX9_readScript_43 : decode cX9_readScript 43 = .ok (.iastore, 1) := DX9_readScript_23.2.2.2.2.2.2.2.2.2.2.2.2.2.2.1
theorem dX9_readScript_44 : decode cX9_readScript 44 = .ok (.aload_n 0, 1) := DX9_readScript_23.2.2.2.2.2.2.2.2.2.2.2.2.2.2.2.1
theorem DX9_readScript_45 : dAre cX9_readScript [(45, .getfield 115, 3), (48, .iconst (-1), 1), (49, .if_icmp .ne 27, 3), (52, .aload_n 0, 1), (53, .invokevirtual 118, 3), (56, .bipush 59, 2), (58, .if_icmp .ne 18, 3), (61, .aload_n 0, 1), (62, .getfield 28, 3), (65, .iload_n 1, 1), (66, .iaload, 1), (67, .bipush 12, 2), (69, .if_icmp .ge 7, 3), (72, .iconst 1, 1), (73, .goto 4, 3), (76, .iconst 0, 1)] := dAre0 (by decide +kernel)
theorem dX9_readScript_45 : decode cX9_readScript 45 = .ok (.getfield 115, 3) := DX9_readScript_45.1
theorem dX9_readScript_48 : decode cX9_readScript 48 = .ok (.iconst (-1), 1) := DX9_readScript_45.2.1
theorem dX9_readScript_49 : decode cX9_readScript 49 = .ok (.if_icmp .ne 27, 3) := DX9_readScript_45.2.2.1
theorem dX9_readScript_52 : decode cX9_readScript 52 = .ok (.aload_n 0, 1) := DX9_readScript_45.2.2.2.1
theorem dX9_readScript_53 : decode cX9_readScript 53 = .ok (.invokevirtual 118, 3) := DX9_readScript_45.2.2.2.2.1
theorem dX9_readScript_56 : decode cX9_readScript 56 = .ok (.bipush 59, 2) := DX9_readScript_45.2.2.2.2.2.1
theorem dX9_readScript_58 : decode cX9_readScript 58 = .ok (.if_icmp .ne 18, 3) := DX9_readScript_45.2.2.2.2.2.2.1
theorem dX9_readScript_61 : decode cX9_readScript 61 = .ok (.aload_n 0, 1) := DX9_readScript_45.2.2.2.2.2.2.2.1
theorem dX9_readScript_62 : decode cX9_readScript 62 = .ok (.getfield 28, 3) := DX9_readScript_45.2.2.2.2.2.2.2.2.1
theorem dX9_readScript_65 : decode cX9_readScript 65 = .ok (.iload_n 1, 1) := DX9_readScript_45.2.2.2.2.2.2.2.2.2.1
theorem dX9_readScript_66 : decode cX9_readScript 66 = .ok (.iaload, 1) := DX9_readScript_45.2.2.2.2.2.2.2.2.2.2.1
theorem dX9_readScript_67 : decode cX9_readScript 67 = .ok (.bipush 12, 2) := DX9_readScript_45.2.2.2.2.2.2.2.2.2.2.2.1
theorem dX9_readScript_69 : decode cX9_readScript 69 = .ok (.if_icmp .ge 7, 3) := DX9_readScript_45.2.2.2.2.2.2.2.2.2.2.2.2.1
theorem dX9_readScript_72 : decode cX9_readScript 72 = .ok (.iconst 1, 1) := DX9_readScript_45.2.2.2.2.2.2.2.2.2.2.2.2.2.1
theorem dX9_readScript_73 : decode cX9_readScript 73 = .ok (.goto 4, 3) := DX9_readScript_45.2.2.2.2.2.2.2.2.2.2.2.2.2.2.1
theorem dX9_readScript_76 : decode cX9_readScript 76 = .ok (.iconst 0, 1) := DX9_readScript_45.2.2.2.2.2.2.2.2.2.2.2.2.2.2.2.1
theorem DX9_readScript_77 : dAre cX9_readScript [(77, .istore_n 2, 1), (78, .aload_n 0, 1), (79, .dup, 1), (80, .getfield 108, 3), (83, .iload_n 2, 1), (84, .ifCond .eq 7, 3), (87, .iconst 1, 1), (88, .goto 4, 3), (91, .iconst 0, 1), (92, .iadd, 1), (93, .putfield 108, 3), (96, .goto (-83), 3), (99, .aload_n 0, 1), (100, .invokevirtual 158, 3), (103, .ireturn, 1)] := dAre0 (by decide +kernel)
theorem dX9_readScript_77 : decode cX9_readScript 77 = .ok (.istore_n 2, 1) := DX9_readScript_77.1
theorem dX9_readScript_78 : decode cX9_readScript 78 = .ok (.aload_n 0, 1) := DX9_readScript_77.2.1
theorem dX9_readScript_79 : decode cX9_readScript 79 = .ok (.dup, 1) := DX9_readScript_77.2.2.1
theorem dX9_readScript_80 : decode cX9_readScript 80 = .ok (.getfield 108, 3) := DX9_readScript_77.2.2.2.1
theorem dX9_readScript_83 : decode cX9_readScript 83 = .ok (.iload_n 2, 1) := DX9_readScript_77.2.2.2.2.1
theorem dX9_readScript_84 : decode cX9_readScript 84 = .ok (.ifCond .eq 7, 3) := DX9_readScript_77.2.2.2.2.2.1
theorem dX9_readScript_87 : decode cX9_readScript 87 = .ok (.iconst 1, 1) := DX9_readScript_77.2.2.2.2.2.2.1
theorem dX9_readScript_88 : decode cX9_readScript 88 = .ok (.goto 4, 3) := DX9_readScript_77.2.2.2.2.2.2.2.1
theorem dX9_readScript_91 : decode cX9_readScript 91 = .ok (.iconst 0, 1) := DX9_readScript_77.2.2.2.2.2.2.2.2.1
theorem dX9_readScript_92 : decode cX9_readScript 92 = .ok (.iadd, 1) := DX9_readScript_77.2.2.2.2.2.2.2.2.2.1
theorem dX9_readScript_93 : decode cX9_readScript 93 = .ok (.putfield 108, 3) := DX9_readScript_77.2.2.2.2.2.2.2.2.2.2.1
theorem dX9_readScript_96 : decode cX9_readScript 96 = .ok (.goto (-83), 3) := DX9_readScript_77.2.2.2.2.2.2.2.2.2.2.2.1
theorem dX9_readScript_99 : decode cX9_readScript 99 = .ok (.aload_n 0, 1) := DX9_readScript_77.2.2.2.2.2.2.2.2.2.2.2.2.1
theorem dX9_readScript_100 : decode cX9_readScript 100 = .ok (.invokevirtual 158, 3) := DX9_readScript_77.2.2.2.2.2.2.2.2.2.2.2.2.2.1
theorem dX9_readScript_103 : decode cX9_readScript 103 = .ok (.ireturn, 1) := DX9_readScript_77.2.2.2.2.2.2.2.2.2.2.2.2.2.2.1
theorem mX9_readScript : gMv yX9_readScript cX9_readScript 3 (some .int) RX9 1 := ⟨q973, q1393, q10, q974, rfl, by decide, by decide, by decide +kernel⟩
noncomputable def bX9_readScript_92 (v2 : Int32) (t0 : Int32) (t1 : Int32) (I : gM) : Option ((Int32 × gM) ⊕ (gM)) :=
  (pU I 62 3 (t1 + t0)).bind fun I9 =>
  some (.inl (v2, I9))
set_option maxRecDepth 100000 in
set_option maxHeartbeats 4000000 in
theorem wbX9_readScript_92 {z : gZ} {E : gE} {bk : Nat} (F : Fx z sh E "LeapJoinModel" cX9_readScript (gR 4) 3) (B : bZ z bk) (hE : gDist sh E) (v1 : Int32) (v2 : Int32) (t0 : Int32) (t1 : Int32) (I : gM) (J : gN) {y : (Int32 × gM) ⊕ (gM)} (h : bX9_readScript_92 v2 t0 t1 I = some y) (hl : ∀ s' : Int32 × gM, y = .inl s' → G z 13 [(0, .ref (E.2.1 62)), (1, .int v1), (2, .int (s'.1))] [] s'.2 J) (K13_0 : ∀ x : gM, y = .inr x → G z 99 [(0, .ref (E.2.1 62))] [] x J) : G z 92 [(0, .ref (E.2.1 62)), (1, .int v1), (2, .int v2)] [.int t0, .int t1, .ref (E.2.1 62)] I J := by
  unfold bX9_readScript_92 at h
  refine g_iadd (v := t1 + t0) F dX9_readScript_92 rfl ?_
  refine u_puti (j := 3) F s62 rfl rfl uX9 (by decide) q824 tyX9_ok nmX9 rfl rfl rfl dX9_readScript_93 h (fun I9 h => ?_)
  refine g_goto (tgt := 13) F dX9_readScript_96 (by decide) ?_
  obtain rfl := Option.some.inj h
  refine g_sub (Ln := [(0, .ref (E.2.1 62)), (1, .int v1), (2, .int v2)]) [0, 1, 2] rfl ?_
  exact hl (v2, I9) rfl
noncomputable def bX9_readScript_77 (t0 : Int32) (I : gM) : Option ((Int32 × gM) ⊕ (gM)) :=
  if t0 = 0 then
    bX9_readScript_92 t0 (0 : Int32) (I 62 3) I
  else
    bX9_readScript_92 t0 (1 : Int32) (I 62 3) I
set_option maxRecDepth 100000 in
set_option maxHeartbeats 4000000 in
theorem wbX9_readScript_77 {z : gZ} {E : gE} {bk : Nat} (F : Fx z sh E "LeapJoinModel" cX9_readScript (gR 4) 3) (B : bZ z bk) (hE : gDist sh E) (v1 : Int32) (t0 : Int32) (I : gM) (J : gN) {y : (Int32 × gM) ⊕ (gM)} (h : bX9_readScript_77 t0 I = some y) (hl : ∀ s' : Int32 × gM, y = .inl s' → G z 13 [(0, .ref (E.2.1 62)), (1, .int v1), (2, .int (s'.1))] [] s'.2 J) (K13_0 : ∀ x : gM, y = .inr x → G z 99 [(0, .ref (E.2.1 62))] [] x J) : G z 77 [(0, .ref (E.2.1 62)), (1, .int v1)] [.int t0] I J := by
  unfold bX9_readScript_77 at h
  refine g_istore_n (Ln := [(2, .int t0), (0, .ref (E.2.1 62)), (1, .int v1)]) F dX9_readScript_77 rfl (by decide) rfl ?_
  refine g_aload_n F 1 dX9_readScript_78 rfl rfl ?_
  refine g_dup F dX9_readScript_79 rfl ?_
  refine g_geti (j := 3) (v := I 62 3) F s62 rfl rfl uX9 (by decide) q824 rfl dX9_readScript_80 ?_
  refine g_iload_n F 0 dX9_readScript_83 rfl rfl ?_
  refine u_if_eq (tgt := 91) F dX9_readScript_84 (by decide) h (fun h => ?_) (fun h => ?_)
  · refine g_iconst (v := 0) F dX9_readScript_91 (by decide) ?_
    refine g_sub (Ln := [(0, .ref (E.2.1 62)), (1, .int v1), (2, .int t0)]) [1, 2, 0] rfl ?_
    exact wbX9_readScript_92 F B hE v1 t0 (0 : Int32) (I 62 3) I J h hl K13_0
  · refine g_iconst (v := 1) F dX9_readScript_87 (by decide) ?_
    refine g_goto (tgt := 92) F dX9_readScript_88 (by decide) ?_
    refine g_sub (Ln := [(0, .ref (E.2.1 62)), (1, .int v1), (2, .int t0)]) [1, 2, 0] rfl ?_
    exact wbX9_readScript_92 F B hE v1 t0 (1 : Int32) (I 62 3) I J h hl K13_0
noncomputable def bX9_readScript_76 (I : gM) : Option ((Int32 × gM) ⊕ (gM)) :=
  bX9_readScript_77 (0 : Int32) I
set_option maxRecDepth 100000 in
set_option maxHeartbeats 4000000 in
theorem wbX9_readScript_76 {z : gZ} {E : gE} {bk : Nat} (F : Fx z sh E "LeapJoinModel" cX9_readScript (gR 4) 3) (B : bZ z bk) (hE : gDist sh E) (v1 : Int32) (I : gM) (J : gN) {y : (Int32 × gM) ⊕ (gM)} (h : bX9_readScript_76 I = some y) (hl : ∀ s' : Int32 × gM, y = .inl s' → G z 13 [(0, .ref (E.2.1 62)), (1, .int v1), (2, .int (s'.1))] [] s'.2 J) (K13_0 : ∀ x : gM, y = .inr x → G z 99 [(0, .ref (E.2.1 62))] [] x J) : G z 76 [(0, .ref (E.2.1 62)), (1, .int v1)] [] I J := by
  unfold bX9_readScript_76 at h
  refine g_iconst (v := 0) F dX9_readScript_76 (by decide) ?_
  refine g_sub (Ln := [(0, .ref (E.2.1 62)), (1, .int v1)]) [0, 1] rfl ?_
  exact wbX9_readScript_77 F B hE v1 (0 : Int32) I J h hl K13_0
noncomputable def lX9_readScript_13 (v1 : Int32) : (Int32 × gM) → Option (gM) :=
  itO fun s =>
    if s.1 = 0 then
      some (.inr s.2)
    else
      (rI 5 (s.2 69) v1).bind fun u3 =>
      (fX9_readStep ((5 : Int32) * (((12 : Int32) * v1) + u3)) s.2).bind fun r4 =>
      (rI 5 (r4 69) v1).bind fun u5 =>
      (wI r4 69 5 v1 (u5 + 1)).bind fun I6 =>
      if (I6 62 4) = (-1) then
        (fX9_ahead I6).bind fun r7 =>
        if r7.1 = 59 then
          (rI 5 (r7.2 69) v1).bind fun u8 =>
          if (12 : Int32) ≤ u8 then
            bX9_readScript_76 r7.2
          else
            bX9_readScript_77 (1 : Int32) r7.2
        else
          bX9_readScript_76 r7.2
      else
        bX9_readScript_76 I6
set_option maxRecDepth 100000 in
set_option maxHeartbeats 4000000 in
theorem wlX9_readScript_13 {z : gZ} {E : gE} {bk : Nat} (F : Fx z sh E "LeapJoinModel" cX9_readScript (gR 4) 3) (B : bZ z bk) (hE : gDist sh E) (v1 : Int32) (J : gN) {r : gM} : ∀ s : Int32 × gM, lX9_readScript_13 v1 s = some r → (G z 99 [(0, .ref (E.2.1 62))] [] r J) → G z 13 [(0, .ref (E.2.1 62)), (1, .int v1), (2, .int s.1)] [] s.2 J := by
  intro s h X0
  unfold lX9_readScript_13 at h
  revert s
  refine itO_ind (P := fun s : Int32 × gM => G z 13 [(0, .ref (E.2.1 62)), (1, .int v1), (2, .int s.1)] [] s.2 J) (fun s y h hl hr => ?_)
  have K13_0 : ∀ x : gM, y = .inr x → (G z 99 [(0, .ref (E.2.1 62))] [] x J) := fun x q => by have q2 := hr _ q; subst q2; exact X0
  refine g_iload_n F 2 dX9_readScript_13 rfl rfl ?_
  refine u_if_eq (tgt := 99) F dX9_readScript_14 (by decide) h (fun h => ?_) (fun h => ?_)
  · obtain rfl := Option.some.inj h
    refine g_sub (Ln := [(0, .ref (E.2.1 62))]) [0] rfl ?_
    exact K13_0 s.2 rfl
  · refine g_aload_n F 0 dX9_readScript_17 rfl rfl ?_
    refine g_iconst (v := 5) F dX9_readScript_18 (by decide) ?_
    refine g_bipush (v := 12) F dX9_readScript_19 (by decide) ?_
    refine g_iload_n F 1 dX9_readScript_21 rfl rfl ?_
    refine g_imul (v := (12 : Int32) * v1) F dX9_readScript_22 rfl ?_
    refine g_aload_n F 0 dX9_readScript_23 rfl rfl ?_
    refine g_getr (j := 11) (nn := 69) F s62 rfl rfl uX9 (by decide) q832 dX9_readScript_24 ?_
    refine g_iload_n F 1 dX9_readScript_27 rfl rfl ?_
    refine u_rI F s69 (by decide) dX9_readScript_28 h (fun u3 h => ?_)
    refine g_iadd (v := ((12 : Int32) * v1) + u3) F dX9_readScript_29 rfl ?_
    refine g_imul (v := (5 : Int32) * (((12 : Int32) * v1) + u3)) F dX9_readScript_30 rfl ?_
    refine u_callV (k := 62) (As := [.int ((5 : Int32) * (((12 : Int32) * v1) + u3))]) (rest := []) (sn := fun _ => []) F B (fun _ => wX9_readStep (zl z) E hE bk ((5 : Int32) * (((12 : Int32) * v1) + u3)) s.2 J) mX9_readStep q975 rfl s62 rfl rfl rfl (Nat.le_of_ble_eq_true rfl) dX9_readScript_31 (fun _ => rfl) h (fun r4 h => ?_)
    refine g_aload_n F 0 dX9_readScript_34 rfl rfl ?_
    refine g_getr (j := 11) (nn := 69) F s62 rfl rfl uX9 (by decide) q832 dX9_readScript_35 ?_
    refine g_iload_n F 1 dX9_readScript_38 rfl rfl ?_
    refine g_dup2 F dX9_readScript_39 rfl rfl ?_
    refine u_rI F s69 (by decide) dX9_readScript_40 h (fun u5 h => ?_)
    refine g_iconst (v := 1) F dX9_readScript_41 (by decide) ?_
    refine g_iadd (v := u5 + 1) F dX9_readScript_42 rfl ?_
    refine u_wI F s69 (by decide) dX9_readScript_43 h (fun I6 h => ?_)
    refine g_aload_n F 0 dX9_readScript_44 rfl rfl ?_
    refine g_geti (j := 4) (v := I6 62 4) F s62 rfl rfl uX9 (by decide) q825 rfl dX9_readScript_45 ?_
    refine g_iconst (v := (-1)) F dX9_readScript_48 (by decide) ?_
    refine u_icmp_ne (tgt := 76) F dX9_readScript_49 (by decide) h (fun h => ?_) (fun h => ?_)
    · refine g_aload_n F 0 dX9_readScript_52 rfl rfl ?_
      refine u_callV (k := 62) (As := []) (rest := []) (sn := fun r7 => [.int r7.1]) F B (fun _ => wX9_ahead (zl z) E hE bk  I6 J) mX9_ahead q942 rfl s62 rfl rfl rfl (Nat.le_of_ble_eq_true rfl) dX9_readScript_53 (fun _ => rfl) h (fun r7 h => ?_)
      refine g_bipush (v := 59) F dX9_readScript_56 (by decide) ?_
      refine u_icmp_ne (tgt := 76) F dX9_readScript_58 (by decide) h (fun h => ?_) (fun h => ?_)
      · refine g_aload_n F 0 dX9_readScript_61 rfl rfl ?_
        refine g_getr (j := 11) (nn := 69) F s62 rfl rfl uX9 (by decide) q832 dX9_readScript_62 ?_
        refine g_iload_n F 1 dX9_readScript_65 rfl rfl ?_
        refine u_rI F s69 (by decide) dX9_readScript_66 h (fun u8 h => ?_)
        refine g_bipush (v := 12) F dX9_readScript_67 (by decide) ?_
        refine u_icmp_ge (tgt := 76) F dX9_readScript_69 (by decide) h (fun h => ?_) (fun h => ?_)
        · refine g_sub (Ln := [(0, .ref (E.2.1 62)), (1, .int v1)]) [0, 1] rfl ?_
          exact wbX9_readScript_76 F B hE v1 r7.2 J h hl K13_0
        · refine g_iconst (v := 1) F dX9_readScript_72 (by decide) ?_
          refine g_goto (tgt := 77) F dX9_readScript_73 (by decide) ?_
          refine g_sub (Ln := [(0, .ref (E.2.1 62)), (1, .int v1)]) [0, 1] rfl ?_
          exact wbX9_readScript_77 F B hE v1 (1 : Int32) r7.2 J h hl K13_0
      · refine g_sub (Ln := [(0, .ref (E.2.1 62)), (1, .int v1)]) [0, 1] rfl ?_
        exact wbX9_readScript_76 F B hE v1 r7.2 J h hl K13_0
    · refine g_sub (Ln := [(0, .ref (E.2.1 62)), (1, .int v1)]) [0, 1] rfl ?_
      exact wbX9_readScript_76 F B hE v1 I6 J h hl K13_0
noncomputable def fX9_readScript (v1 : Int32) (I : gM) : Option (Int32 × gM) :=
  (fX9_begins I).bind fun r1 =>
  (wI r1 69 5 v1 0).bind fun I2 =>
  (lX9_readScript_13 v1 ((1 : Int32), I2)).bind fun w10 =>
  (fX9_ends w10).bind fun r11 =>
  some (r11.1, r11.2)
set_option maxRecDepth 100000 in
set_option maxHeartbeats 4000000 in
theorem wX9_readScript (l : Launch) (E : gE) (hE : gDist sh E) (bk : Nat) (v1 : Int32) (I : gM) (J : gN) {r : Int32 × gM} (h : fX9_readScript v1 I = some r) : Cu l sh E bk yX9_readScript cX9_readScript 3 (some .int) (gR 4) [.ref (E.2.1 62), .int v1] I J (fun r1 I1 J1 => r1 = some (.int r.1) ∧ I1 = r.2 ∧ J1 = J) := by
  refine Cu.of "LeapJoinModel" rfl hE (by decide) (Nat.le_of_ble_eq_true rfl) (fun z F B e hl => ?_)
  subst hl
  unfold fX9_readScript at h
  refine g_aload_n F 0 dX9_readScript_0 rfl rfl ?_
  refine u_callV (k := 62) (As := []) (rest := []) (sn := fun _ => []) F B (fun _ => wX9_begins (zl z) E hE bk  I J) mX9_begins q933 rfl s62 rfl rfl rfl (Nat.le_of_ble_eq_true rfl) dX9_readScript_1 (fun _ => rfl) h (fun r1 h => ?_)
  refine g_aload_n F 0 dX9_readScript_4 rfl rfl ?_
  refine g_getr (j := 11) (nn := 69) F s62 rfl rfl uX9 (by decide) q832 dX9_readScript_5 ?_
  refine g_iload_n F 1 dX9_readScript_8 rfl rfl ?_
  refine g_iconst (v := 0) F dX9_readScript_9 (by decide) ?_
  refine u_wI F s69 (by decide) dX9_readScript_10 h (fun I2 h => ?_)
  refine g_iconst (v := 1) F dX9_readScript_11 (by decide) ?_
  refine g_istore_n (Ln := [(2, .int 1), (0, .ref (E.2.1 62)), (1, .int v1)]) F dX9_readScript_12 rfl (by decide) rfl ?_
  obtain ⟨w10, ew10, h⟩ := ob h
  refine g_sub (Ln := [(0, .ref (E.2.1 62)), (1, .int v1), (2, .int 1)]) [1, 2, 0] rfl ?_
  refine wlX9_readScript_13 F B hE v1 J _ ew10 ?_
  refine g_aload_n F 0 dX9_readScript_99 rfl rfl ?_
  refine u_callV (k := 62) (As := []) (rest := []) (sn := fun r11 => [.int r11.1]) F B (fun _ => wX9_ends (zl z) E hE bk  w10 J) mX9_ends q969 rfl s62 rfl rfl rfl (Nat.le_of_ble_eq_true rfl) dX9_readScript_100 (fun _ => rfl) h (fun r11 h => ?_)
  obtain rfl := Option.some.inj h
  exact g_iret F e dX9_readScript_103 ⟨rfl, rfl, rfl⟩
theorem DX9_fault_0 : dAre cX9_fault [(0, .iload_n 1, 1), (1, .ifCond .ne 10, 3), (4, .aload_n 0, 1), (5, .invokevirtual 167, 3), (8, .goto 18, 3), (11, .iload_n 1, 1), (12, .iconst 1, 1), (13, .if_icmp .ne 11, 3), (16, .aload_n 0, 1), (17, .iconst 4, 1), (18, .invokevirtual 170, 3), (21, .goto 5, 3), (24, .bipush (-2), 2), (26, .ireturn, 1)] := dAre0 (by decide +kernel)
theorem dX9_fault_0 : decode cX9_fault 0 = .ok (.iload_n 1, 1) := DX9_fault_0.1
theorem dX9_fault_1 : decode cX9_fault 1 = .ok (.ifCond .ne 10, 3) := DX9_fault_0.2.1
theorem dX9_fault_4 : decode cX9_fault 4 = .ok (.aload_n 0, 1) := DX9_fault_0.2.2.1
theorem dX9_fault_5 : decode cX9_fault 5 = .ok (.invokevirtual 167, 3) := DX9_fault_0.2.2.2.1
theorem dX9_fault_8 : decode cX9_fault 8 = .ok (.goto 18, 3) := DX9_fault_0.2.2.2.2.1
theorem dX9_fault_11 : decode cX9_fault 11 = .ok (.iload_n 1, 1) := DX9_fault_0.2.2.2.2.2.1
theorem dX9_fault_12 : decode cX9_fault 12 = .ok (.iconst 1, 1) := DX9_fault_0.2.2.2.2.2.2.1
theorem dX9_fault_13 : decode cX9_fault 13 = .ok (.if_icmp .ne 11, 3) := DX9_fault_0.2.2.2.2.2.2.2.1
theorem dX9_fault_16 : decode cX9_fault 16 = .ok (.aload_n 0, 1) := DX9_fault_0.2.2.2.2.2.2.2.2.1
theorem dX9_fault_17 : decode cX9_fault 17 = .ok (.iconst 4, 1) := DX9_fault_0.2.2.2.2.2.2.2.2.2.1
theorem dX9_fault_18 : decode cX9_fault 18 = .ok (.invokevirtual 170, 3) := DX9_fault_0.2.2.2.2.2.2.2.2.2.2.1
theorem dX9_fault_21 : decode cX9_fault 21 = .ok (.goto 5, 3) := DX9_fault_0.2.2.2.2.2.2.2.2.2.2.2.1
theorem dX9_fault_24 : decode cX9_fault 24 = .ok (.bipush (-2), 2) := DX9_fault_0.2.2.2.2.2.2.2.2.2.2.2.2.1
theorem dX9_fault_26 : decode cX9_fault 26 = .ok (.ireturn, 1) := DX9_fault_0.2.2.2.2.2.2.2.2.2.2.2.2.2.1
theorem mX9_fault : gMv yX9_fault cX9_fault 2 (some .int) RX9 1 := ⟨q927, q928, q10, q929, rfl, by decide, by decide, by decide +kernel⟩
noncomputable def fX9_fault (v1 : Int32) (I : gM) : Option (Int32 × gM) :=
  if v1 = 0 then
    (fX9_readAll I).bind fun r1 =>
    some (r1.1, r1.2)
  else
    if v1 = 1 then
      (fX9_readScript (4 : Int32) I).bind fun r2 =>
      some (r2.1, r2.2)
    else
      some (((-2) : Int32), I)
set_option maxRecDepth 100000 in
set_option maxHeartbeats 4000000 in
theorem wX9_fault (l : Launch) (E : gE) (hE : gDist sh E) (bk : Nat) (v1 : Int32) (I : gM) (J : gN) {r : Int32 × gM} (h : fX9_fault v1 I = some r) : Cu l sh E bk yX9_fault cX9_fault 2 (some .int) (gR 6) [.ref (E.2.1 62), .int v1] I J (fun r1 I1 J1 => r1 = some (.int r.1) ∧ I1 = r.2 ∧ J1 = J) := by
  refine Cu.of "LeapJoinModel" rfl hE (by decide) (Nat.le_of_ble_eq_true rfl) (fun z F B e hl => ?_)
  subst hl
  unfold fX9_fault at h
  refine g_iload_n F 1 dX9_fault_0 rfl rfl ?_
  refine u_if_ne (tgt := 11) F dX9_fault_1 (by decide) h (fun h => ?_) (fun h => ?_)
  · refine g_aload_n F 0 dX9_fault_4 rfl rfl ?_
    refine u_callV (k := 62) (As := []) (rest := []) (sn := fun r1 => [.int r1.1]) F B (fun _ => wX9_readAll (zl z) E hE bk  I J) mX9_readAll q930 rfl s62 rfl rfl rfl (Nat.le_of_ble_eq_true rfl) dX9_fault_5 (fun _ => rfl) h (fun r1 h => ?_)
    refine g_goto (tgt := 26) F dX9_fault_8 (by decide) ?_
    obtain rfl := Option.some.inj h
    exact g_iret F e dX9_fault_26 ⟨rfl, rfl, rfl⟩
  · refine g_iload_n F 1 dX9_fault_11 rfl rfl ?_
    refine g_iconst (v := 1) F dX9_fault_12 (by decide) ?_
    refine u_icmp_ne (tgt := 24) F dX9_fault_13 (by decide) h (fun h => ?_) (fun h => ?_)
    · refine g_aload_n F 0 dX9_fault_16 rfl rfl ?_
      refine g_iconst (v := 4) F dX9_fault_17 (by decide) ?_
      refine u_callV (k := 62) (As := [.int 4]) (rest := []) (sn := fun r2 => [.int r2.1]) F B (fun _ => wX9_readScript (zl z) E hE bk (4 : Int32) I J) mX9_readScript q972 rfl s62 rfl rfl rfl (Nat.le_of_ble_eq_true rfl) dX9_fault_18 (fun _ => rfl) h (fun r2 h => ?_)
      refine g_goto (tgt := 26) F dX9_fault_21 (by decide) ?_
      obtain rfl := Option.some.inj h
      exact g_iret F e dX9_fault_26 ⟨rfl, rfl, rfl⟩
    · refine g_bipush (v := (-2)) F dX9_fault_24 (by decide) ?_
      obtain rfl := Option.some.inj h
      exact g_iret F e dX9_fault_26 ⟨rfl, rfl, rfl⟩
theorem DX9_areTables_0 : dAre cX9_areTables [(0, .aload_n 0, 1), (1, .getfield 173, 3), (4, .ifCond .le 7, 3), (7, .iconst 1, 1), (8, .goto 4, 3), (11, .iconst 0, 1), (12, .ireturn, 1)] := dAre0 (by decide +kernel)
theorem dX9_areTables_0 : decode cX9_areTables 0 = .ok (.aload_n 0, 1) := DX9_areTables_0.1
theorem dX9_areTables_1 : decode cX9_areTables 1 = .ok (.getfield 173, 3) := DX9_areTables_0.2.1
theorem dX9_areTables_4 : decode cX9_areTables 4 = .ok (.ifCond .le 7, 3) := DX9_areTables_0.2.2.1
theorem dX9_areTables_7 : decode cX9_areTables 7 = .ok (.iconst 1, 1) := DX9_areTables_0.2.2.2.1
theorem dX9_areTables_8 : decode cX9_areTables 8 = .ok (.goto 4, 3) := DX9_areTables_0.2.2.2.2.1
theorem dX9_areTables_11 : decode cX9_areTables 11 = .ok (.iconst 0, 1) := DX9_areTables_0.2.2.2.2.2.1
theorem dX9_areTables_12 : decode cX9_areTables 12 = .ok (.ireturn, 1) := DX9_areTables_0.2.2.2.2.2.2.1
theorem mX9_areTables : gMv yX9_areTables cX9_areTables 1 (some .boolean) RX9 0 := ⟨q1029, q1408, q10, q1030, rfl, by decide, by decide, by decide +kernel⟩
noncomputable def fX9_areTables (I : gM) : Option (Int32) :=
  if (I 62 17) ≤ 0 then
    some (0 : Int32)
  else
    some (1 : Int32)
set_option maxRecDepth 100000 in
set_option maxHeartbeats 4000000 in
theorem wX9_areTables (l : Launch) (E : gE) (hE : gDist sh E) (bk : Nat) (I : gM) (J : gN) {r : Int32} (h : fX9_areTables I = some r) : Cu l sh E bk yX9_areTables cX9_areTables 1 (some .boolean) (gR 0) [.ref (E.2.1 62)] I J (fun r1 I1 J1 => r1 = some (.int r) ∧ I1 = I ∧ J1 = J) := by
  refine Cu.of "LeapJoinModel" rfl hE (by decide) (Nat.le_of_ble_eq_true rfl) (fun z F B e hl => ?_)
  subst hl
  unfold fX9_areTables at h
  refine g_aload_n F 0 dX9_areTables_0 rfl rfl ?_
  refine g_geti (j := 17) (v := I 62 17) F s62 rfl rfl uX9 (by decide) q838 rfl dX9_areTables_1 ?_
  refine u_if_le (tgt := 11) F dX9_areTables_4 (by decide) h (fun h => ?_) (fun h => ?_)
  · refine g_iconst (v := 0) F dX9_areTables_11 (by decide) ?_
    obtain rfl := Option.some.inj h
    exact g_zret F rfl e dX9_areTables_12 ⟨rfl, rfl, rfl⟩
  · refine g_iconst (v := 1) F dX9_areTables_7 (by decide) ?_
    refine g_goto (tgt := 12) F dX9_areTables_8 (by decide) ?_
    obtain rfl := Option.some.inj h
    exact g_zret F rfl e dX9_areTables_12 ⟨rfl, rfl, rfl⟩
theorem DX9_isTable_0 : dAre cX9_isTable [(0, .iload_n 1, 1), (1, .iconst 0, 1), (2, .aload_n 0, 1), (3, .getfield 173, 3), (6, .iconst 1, 1), (7, .isub, 1), (8, .invokestatic 104, 3), (11, .ireturn, 1)] := dAre0 (by decide +kernel)
theorem dX9_isTable_0 : decode cX9_isTable 0 = .ok (.iload_n 1, 1) := DX9_isTable_0.1
theorem dX9_isTable_1 : decode cX9_isTable 1 = .ok (.iconst 0, 1) := DX9_isTable_0.2.1
theorem dX9_isTable_2 : decode cX9_isTable 2 = .ok (.aload_n 0, 1) := DX9_isTable_0.2.2.1
theorem dX9_isTable_3 : decode cX9_isTable 3 = .ok (.getfield 173, 3) := DX9_isTable_0.2.2.2.1
theorem dX9_isTable_6 : decode cX9_isTable 6 = .ok (.iconst 1, 1) := DX9_isTable_0.2.2.2.2.1
theorem dX9_isTable_7 : decode cX9_isTable 7 = .ok (.isub, 1) := DX9_isTable_0.2.2.2.2.2.1
theorem dX9_isTable_8 : decode cX9_isTable 8 = .ok (.invokestatic 104, 3) := DX9_isTable_0.2.2.2.2.2.2.1
theorem dX9_isTable_11 : decode cX9_isTable 11 = .ok (.ireturn, 1) := DX9_isTable_0.2.2.2.2.2.2.2.1
theorem mX9_isTable : gMv yX9_isTable cX9_isTable 2 (some .boolean) RX9 1 := ⟨q1020, q1405, q10, q1021, rfl, by decide, by decide, by decide +kernel⟩
noncomputable def fX9_isTable (v1 : Int32) (I : gM) : Option (Int32) :=
  (fX9_in v1 (0 : Int32) ((I 62 17) - 1)).bind fun r1 =>
  (bO r1).bind fun u2 =>
  some u2
set_option maxRecDepth 100000 in
set_option maxHeartbeats 4000000 in
theorem wX9_isTable (l : Launch) (E : gE) (hE : gDist sh E) (bk : Nat) (v1 : Int32) (I : gM) (J : gN) {r : Int32} (h : fX9_isTable v1 I = some r) : Cu l sh E bk yX9_isTable cX9_isTable 2 (some .boolean) (gR 1) [.ref (E.2.1 62), .int v1] I J (fun r1 I1 J1 => r1 = some (.int r) ∧ I1 = I ∧ J1 = J) := by
  refine Cu.of "LeapJoinModel" rfl hE (by decide) (Nat.le_of_ble_eq_true rfl) (fun z F B e hl => ?_)
  subst hl
  unfold fX9_isTable at h
  refine g_iload_n F 1 dX9_isTable_0 rfl rfl ?_
  refine g_iconst (v := 0) F dX9_isTable_1 (by decide) ?_
  refine g_aload_n F 0 dX9_isTable_2 rfl rfl ?_
  refine g_geti (j := 17) (v := I 62 17) F s62 rfl rfl uX9 (by decide) q838 rfl dX9_isTable_3 ?_
  refine g_iconst (v := 1) F dX9_isTable_6 (by decide) ?_
  refine g_isub (v := (I 62 17) - 1) F dX9_isTable_7 rfl ?_
  refine u_callS (As := [.int v1, .int 0, .int ((I 62 17) - 1)]) (rest := []) (sn := fun r1 => [.int r1]) F B (fun _ => wX9_in (zl z) E hE bk v1 (0 : Int32) ((I 62 17) - 1) I J) mX9_in q923 rfl rfl rfl (Nat.le_of_ble_eq_true rfl) dX9_isTable_8 (fun _ => rfl) h (fun r1 h => ?_)
  obtain ⟨u2, eu2, h⟩ := ob h
  obtain ⟨nu2, rfl⟩ := bO_some eu2
  obtain rfl := Option.some.inj h
  exact g_zret F nu2 e dX9_isTable_11 ⟨rfl, rfl, rfl⟩
theorem DX9_isUsed_0 : dAre cX9_isUsed [(0, .aload_n 0, 1), (1, .getfield 31, 3), (4, .iconst 0, 1), (5, .iaload, 1), (6, .iload_n 1, 1), (7, .invokestatic 131, 3), (10, .ireturn, 1)] := dAre0 (by decide +kernel)
theorem dX9_isUsed_0 : decode cX9_isUsed 0 = .ok (.aload_n 0, 1) := DX9_isUsed_0.1
theorem dX9_isUsed_1 : decode cX9_isUsed 1 = .ok (.getfield 31, 3) := DX9_isUsed_0.2.1
theorem dX9_isUsed_4 : decode cX9_isUsed 4 = .ok (.iconst 0, 1) := DX9_isUsed_0.2.2.1
theorem dX9_isUsed_5 : decode cX9_isUsed 5 = .ok (.iaload, 1) := DX9_isUsed_0.2.2.2.1
theorem dX9_isUsed_6 : decode cX9_isUsed 6 = .ok (.iload_n 1, 1) := DX9_isUsed_0.2.2.2.2.1
theorem dX9_isUsed_7 : decode cX9_isUsed 7 = .ok (.invokestatic 131, 3) := DX9_isUsed_0.2.2.2.2.2.1
theorem dX9_isUsed_10 : decode cX9_isUsed 10 = .ok (.ireturn, 1) := DX9_isUsed_0.2.2.2.2.2.2.1
theorem mX9_isUsed : gMv yX9_isUsed cX9_isUsed 2 (some .boolean) RX9 1 := ⟨q1044, q1413, q10, q1045, rfl, by decide, by decide, by decide +kernel⟩
noncomputable def fX9_isUsed (v1 : Int32) (I : gM) : Option (Int32) :=
  (rI 331 (I 70) (0 : Int32)).bind fun u1 =>
  (fX9_has u1 v1).bind fun r2 =>
  (bO r2).bind fun u3 =>
  some u3
set_option maxRecDepth 100000 in
set_option maxHeartbeats 4000000 in
theorem wX9_isUsed (l : Launch) (E : gE) (hE : gDist sh E) (bk : Nat) (v1 : Int32) (I : gM) (J : gN) {r : Int32} (h : fX9_isUsed v1 I = some r) : Cu l sh E bk yX9_isUsed cX9_isUsed 2 (some .boolean) (gR 1) [.ref (E.2.1 62), .int v1] I J (fun r1 I1 J1 => r1 = some (.int r) ∧ I1 = I ∧ J1 = J) := by
  refine Cu.of "LeapJoinModel" rfl hE (by decide) (Nat.le_of_ble_eq_true rfl) (fun z F B e hl => ?_)
  subst hl
  unfold fX9_isUsed at h
  refine g_aload_n F 0 dX9_isUsed_0 rfl rfl ?_
  refine g_getr (j := 13) (nn := 70) F s62 rfl rfl uX9 (by decide) q834 dX9_isUsed_1 ?_
  refine g_iconst (v := 0) F dX9_isUsed_4 (by decide) ?_
  refine u_rI F s70 (by decide) dX9_isUsed_5 h (fun u1 h => ?_)
  refine g_iload_n F 1 dX9_isUsed_6 rfl rfl ?_
  refine u_callS (As := [.int u1, .int v1]) (rest := []) (sn := fun r2 => [.int r2]) F B (fun _ => wX9_has (zl z) E hE bk u1 v1 I J) mX9_has q954 rfl rfl rfl (Nat.le_of_ble_eq_true rfl) dX9_isUsed_7 (fun _ => rfl) h (fun r2 h => ?_)
  obtain ⟨u3, eu3, h⟩ := ob h
  obtain ⟨nu3, rfl⟩ := bO_some eu3
  obtain rfl := Option.some.inj h
  exact g_zret F nu3 e dX9_isUsed_10 ⟨rfl, rfl, rfl⟩
theorem DX9_rowAt_0 : dAre cX9_rowAt [(0, .bipush 6, 2), (2, .iconst 3, 1), (3, .bipush 12, 2), (5, .iload_n 0, 1), (6, .imul, 1), (7, .iload_n 1, 1), (8, .iadd, 1), (9, .imul, 1), (10, .iadd, 1), (11, .ireturn, 1)] := dAre0 (by decide +kernel)
theorem dX9_rowAt_0 : decode cX9_rowAt 0 = .ok (.bipush 6, 2) := DX9_rowAt_0.1
theorem dX9_rowAt_2 : decode cX9_rowAt 2 = .ok (.iconst 3, 1) := DX9_rowAt_0.2.1
theorem dX9_rowAt_3 : decode cX9_rowAt 3 = .ok (.bipush 12, 2) := DX9_rowAt_0.2.2.1
theorem dX9_rowAt_5 : decode cX9_rowAt 5 = .ok (.iload_n 0, 1) := DX9_rowAt_0.2.2.2.1
theorem dX9_rowAt_6 : decode cX9_rowAt 6 = .ok (.imul, 1) := DX9_rowAt_0.2.2.2.2.1
theorem dX9_rowAt_7 : decode cX9_rowAt 7 = .ok (.iload_n 1, 1) := DX9_rowAt_0.2.2.2.2.2.1
theorem dX9_rowAt_8 : decode cX9_rowAt 8 = .ok (.iadd, 1) := DX9_rowAt_0.2.2.2.2.2.2.1
theorem dX9_rowAt_9 : decode cX9_rowAt 9 = .ok (.imul, 1) := DX9_rowAt_0.2.2.2.2.2.2.2.1
theorem dX9_rowAt_10 : decode cX9_rowAt 10 = .ok (.iadd, 1) := DX9_rowAt_0.2.2.2.2.2.2.2.2.1
theorem dX9_rowAt_11 : decode cX9_rowAt 11 = .ok (.ireturn, 1) := DX9_rowAt_0.2.2.2.2.2.2.2.2.2.1
theorem mX9_rowAt : gMs yX9_rowAt cX9_rowAt 2 (some .int) 2 := ⟨q1001, q10, q1002, by decide, by decide, by decide +kernel⟩
noncomputable def fX9_rowAt (v0 : Int32) (v1 : Int32) : Option (Int32) :=
  some ((6 : Int32) + ((3 : Int32) * (((12 : Int32) * v0) + v1)))
set_option maxRecDepth 100000 in
set_option maxHeartbeats 4000000 in
theorem wX9_rowAt (l : Launch) (E : gE) (hE : gDist sh E) (bk : Nat) (v0 : Int32) (v1 : Int32) (I : gM) (J : gN) {r : Int32} (h : fX9_rowAt v0 v1 = some r) : Cu l sh E bk yX9_rowAt cX9_rowAt 2 (some .int) (gR 0) [.int v0, .int v1] I J (fun r1 I1 J1 => r1 = some (.int r) ∧ I1 = I ∧ J1 = J) := by
  refine Cu.of "LeapJoinModel" rfl hE (by decide) (Nat.le_of_ble_eq_true rfl) (fun z F B e hl => ?_)
  subst hl
  unfold fX9_rowAt at h
  refine g_bipush (v := 6) F dX9_rowAt_0 (by decide) ?_
  refine g_iconst (v := 3) F dX9_rowAt_2 (by decide) ?_
  refine g_bipush (v := 12) F dX9_rowAt_3 (by decide) ?_
  refine g_iload_n F 0 dX9_rowAt_5 rfl rfl ?_
  refine g_imul (v := (12 : Int32) * v0) F dX9_rowAt_6 rfl ?_
  refine g_iload_n F 1 dX9_rowAt_7 rfl rfl ?_
  refine g_iadd (v := ((12 : Int32) * v0) + v1) F dX9_rowAt_8 rfl ?_
  refine g_imul (v := (3 : Int32) * (((12 : Int32) * v0) + v1)) F dX9_rowAt_9 rfl ?_
  refine g_iadd (v := (6 : Int32) + ((3 : Int32) * (((12 : Int32) * v0) + v1))) F dX9_rowAt_10 rfl ?_
  obtain rfl := Option.some.inj h
  exact g_iret F e dX9_rowAt_11 ⟨rfl, rfl, rfl⟩
theorem DX9_many_0 : dAre cX9_many [(0, .aload_n 0, 1), (1, .getfield 31, 3), (4, .iconst 2, 1), (5, .iload_n 1, 1), (6, .iadd, 1), (7, .iaload, 1), (8, .ireturn, 1)] := dAre0 (by decide +kernel)
theorem dX9_many_0 : decode cX9_many 0 = .ok (.aload_n 0, 1) := DX9_many_0.1
theorem dX9_many_1 : decode cX9_many 1 = .ok (.getfield 31, 3) := DX9_many_0.2.1
theorem dX9_many_4 : decode cX9_many 4 = .ok (.iconst 2, 1) := DX9_many_0.2.2.1
theorem dX9_many_5 : decode cX9_many 5 = .ok (.iload_n 1, 1) := DX9_many_0.2.2.2.1
theorem dX9_many_6 : decode cX9_many 6 = .ok (.iadd, 1) := DX9_many_0.2.2.2.2.1
theorem dX9_many_7 : decode cX9_many 7 = .ok (.iaload, 1) := DX9_many_0.2.2.2.2.2.1
theorem dX9_many_8 : decode cX9_many 8 = .ok (.ireturn, 1) := DX9_many_0.2.2.2.2.2.2.1
theorem mX9_many : gMv yX9_many cX9_many 2 (some .int) RX9 1 := ⟨q995, q1399, q10, q996, rfl, by decide, by decide, by decide +kernel⟩
noncomputable def fX9_many (v1 : Int32) (I : gM) : Option (Int32) :=
  (rI 331 (I 70) ((2 : Int32) + v1)).bind fun u1 =>
  some u1
set_option maxRecDepth 100000 in
set_option maxHeartbeats 4000000 in
theorem wX9_many (l : Launch) (E : gE) (hE : gDist sh E) (bk : Nat) (v1 : Int32) (I : gM) (J : gN) {r : Int32} (h : fX9_many v1 I = some r) : Cu l sh E bk yX9_many cX9_many 2 (some .int) (gR 0) [.ref (E.2.1 62), .int v1] I J (fun r1 I1 J1 => r1 = some (.int r) ∧ I1 = I ∧ J1 = J) := by
  refine Cu.of "LeapJoinModel" rfl hE (by decide) (Nat.le_of_ble_eq_true rfl) (fun z F B e hl => ?_)
  subst hl
  unfold fX9_many at h
  refine g_aload_n F 0 dX9_many_0 rfl rfl ?_
  refine g_getr (j := 13) (nn := 70) F s62 rfl rfl uX9 (by decide) q834 dX9_many_1 ?_
  refine g_iconst (v := 2) F dX9_many_4 (by decide) ?_
  refine g_iload_n F 1 dX9_many_5 rfl rfl ?_
  refine g_iadd (v := (2 : Int32) + v1) F dX9_many_6 rfl ?_
  refine u_rI F s70 (by decide) dX9_many_7 h (fun u1 h => ?_)
  obtain rfl := Option.some.inj h
  exact g_iret F e dX9_many_8 ⟨rfl, rfl, rfl⟩
theorem DX9_lettersOf_0 : dAre cX9_lettersOf [(0, .iconst 0, 1), (1, .istore_n 2, 1), (2, .iconst 0, 1), (3, .istore_n 3, 1), (4, .iload_n 3, 1), (5, .aload_n 0, 1), (6, .getfield 37, 3), (9, .iload_n 1, 1), (10, .iaload, 1), (11, .if_icmp .ge 24, 3), (14, .iload_n 2, 1), (15, .iconst 1, 1), (16, .aload_n 0, 1), (17, .getfield 40, 3), (20, .iconst 3, 1), (21, .iload_n 1, 1)] := dAre0 (by decide +kernel)
theorem dX9_lettersOf_0 : decode cX9_lettersOf 0 = .ok (.iconst 0, 1) := DX9_lettersOf_0.1
theorem dX9_lettersOf_1 : decode cX9_lettersOf 1 = .ok (.istore_n 2, 1) := DX9_lettersOf_0.2.1
theorem dX9_lettersOf_2 : decode cX9_lettersOf 2 = .ok (.iconst 0, 1) := DX9_lettersOf_0.2.2.1
theorem dX9_lettersOf_3 : decode cX9_lettersOf 3 = .ok (.istore_n 3, 1) := DX9_lettersOf_0.2.2.2.1
theorem dX9_lettersOf_4 : decode cX9_lettersOf 4 = .ok (.iload_n 3, 1) := DX9_lettersOf_0.2.2.2.2.1
theorem dX9_lettersOf_5 : decode cX9_lettersOf 5 = .ok (.aload_n 0, 1) := DX9_lettersOf_0.2.2.2.2.2.1
theorem dX9_lettersOf_6 : decode cX9_lettersOf 6 = .ok (.getfield 37, 3) := DX9_lettersOf_0.2.2.2.2.2.2.1
theorem dX9_lettersOf_9 : decode cX9_lettersOf 9 = .ok (.iload_n 1, 1) := DX9_lettersOf_0.2.2.2.2.2.2.2.1
theorem dX9_lettersOf_10 : decode cX9_lettersOf 10 = .ok (.iaload, 1) := DX9_lettersOf_0.2.2.2.2.2.2.2.2.1
theorem dX9_lettersOf_11 : decode cX9_lettersOf 11 = .ok (.if_icmp .ge 24, 3) := DX9_lettersOf_0.2.2.2.2.2.2.2.2.2.1
theorem dX9_lettersOf_14 : decode cX9_lettersOf 14 = .ok (.iload_n 2, 1) := DX9_lettersOf_0.2.2.2.2.2.2.2.2.2.2.1
theorem dX9_lettersOf_15 : decode cX9_lettersOf 15 = .ok (.iconst 1, 1) := DX9_lettersOf_0.2.2.2.2.2.2.2.2.2.2.2.1
theorem dX9_lettersOf_16 : decode cX9_lettersOf 16 = .ok (.aload_n 0, 1) := DX9_lettersOf_0.2.2.2.2.2.2.2.2.2.2.2.2.1
theorem dX9_lettersOf_17 : decode cX9_lettersOf 17 = .ok (.getfield 40, 3) := DX9_lettersOf_0.2.2.2.2.2.2.2.2.2.2.2.2.2.1
theorem dX9_lettersOf_20 : decode cX9_lettersOf 20 = .ok (.iconst 3, 1) := DX9_lettersOf_0.2.2.2.2.2.2.2.2.2.2.2.2.2.2.1
theorem dX9_lettersOf_21 : decode cX9_lettersOf 21 = .ok (.iload_n 1, 1) := DX9_lettersOf_0.2.2.2.2.2.2.2.2.2.2.2.2.2.2.2.1
theorem DX9_lettersOf_22 : dAre cX9_lettersOf [(22, .imul, 1), (23, .iload_n 3, 1), (24, .iadd, 1), (25, .iaload, 1), (26, .ishl, 1), (27, .ior, 1), (28, .istore_n 2, 1), (29, .iinc 3 1, 3), (32, .goto (-28), 3), (35, .iload_n 2, 1), (36, .ireturn, 1)] := dAre0 (by decide +kernel)
theorem dX9_lettersOf_22 : decode cX9_lettersOf 22 = .ok (.imul, 1) := DX9_lettersOf_22.1
theorem dX9_lettersOf_23 : decode cX9_lettersOf 23 = .ok (.iload_n 3, 1) := DX9_lettersOf_22.2.1
theorem dX9_lettersOf_24 : decode cX9_lettersOf 24 = .ok (.iadd, 1) := DX9_lettersOf_22.2.2.1
theorem dX9_lettersOf_25 : decode cX9_lettersOf 25 = .ok (.iaload, 1) := DX9_lettersOf_22.2.2.2.1
theorem dX9_lettersOf_26 : decode cX9_lettersOf 26 = .ok (.ishl, 1) := DX9_lettersOf_22.2.2.2.2.1
theorem dX9_lettersOf_27 : decode cX9_lettersOf 27 = .ok (.ior, 1) := DX9_lettersOf_22.2.2.2.2.2.1
theorem dX9_lettersOf_28 : decode cX9_lettersOf 28 = .ok (.istore_n 2, 1) := DX9_lettersOf_22.2.2.2.2.2.2.1
theorem dX9_lettersOf_29 : decode cX9_lettersOf 29 = .ok (.iinc 3 1, 3) := DX9_lettersOf_22.2.2.2.2.2.2.2.1
theorem dX9_lettersOf_32 : decode cX9_lettersOf 32 = .ok (.goto (-28), 3) := DX9_lettersOf_22.2.2.2.2.2.2.2.2.1
theorem dX9_lettersOf_35 : decode cX9_lettersOf 35 = .ok (.iload_n 2, 1) := DX9_lettersOf_22.2.2.2.2.2.2.2.2.2.1
theorem dX9_lettersOf_36 : decode cX9_lettersOf 36 = .ok (.ireturn, 1) := DX9_lettersOf_22.2.2.2.2.2.2.2.2.2.2.1
theorem mX9_lettersOf : gMv yX9_lettersOf cX9_lettersOf 4 (some .int) RX9 1 := ⟨q1065, q1420, q10, q1066, rfl, by decide, by decide, by decide +kernel⟩
noncomputable def lX9_lettersOf_4 (v1 : Int32) (I : gM) : (Int32 × Int32) → Option (Int32) :=
  itO fun s =>
    (rI 4 (I 72) v1).bind fun u1 =>
    if u1 ≤ s.2 then
      some (.inr s.1)
    else
      (rI 12 (I 73) (((3 : Int32) * v1) + s.2)).bind fun u2 =>
      some (.inl (s.1 ||| ((1 : Int32) <<< (u2 &&& 31)), s.2 + 1))
set_option maxRecDepth 100000 in
set_option maxHeartbeats 4000000 in
theorem wlX9_lettersOf_4 {z : gZ} {E : gE} {bk : Nat} (F : Fx z sh E "LeapJoinModel" cX9_lettersOf (gR 0) 4) (B : bZ z bk) (hE : gDist sh E) (v1 : Int32) (I : gM) (J : gN) {r : Int32} : ∀ s : Int32 × Int32, lX9_lettersOf_4 v1 I s = some r → (G z 35 [(2, .int r)] [] I J) → G z 4 [(0, .ref (E.2.1 62)), (1, .int v1), (2, .int s.1), (3, .int s.2)] [] I J := by
  intro s h X0
  unfold lX9_lettersOf_4 at h
  revert s
  refine itO_ind (P := fun s : Int32 × Int32 => G z 4 [(0, .ref (E.2.1 62)), (1, .int v1), (2, .int s.1), (3, .int s.2)] [] I J) (fun s y h hl hr => ?_)
  have K4_0 : ∀ x : Int32, y = .inr x → (G z 35 [(2, .int x)] [] I J) := fun x q => by have q2 := hr _ q; subst q2; exact X0
  refine g_iload_n F 3 dX9_lettersOf_4 rfl rfl ?_
  refine g_aload_n F 0 dX9_lettersOf_5 rfl rfl ?_
  refine g_getr (j := 15) (nn := 72) F s62 rfl rfl uX9 (by decide) q836 dX9_lettersOf_6 ?_
  refine g_iload_n F 1 dX9_lettersOf_9 rfl rfl ?_
  refine u_rI F s72 (by decide) dX9_lettersOf_10 h (fun u1 h => ?_)
  refine u_icmp_ge (tgt := 35) F dX9_lettersOf_11 (by decide) h (fun h => ?_) (fun h => ?_)
  · obtain rfl := Option.some.inj h
    refine g_sub (Ln := [(2, .int s.1)]) [2] rfl ?_
    exact K4_0 s.1 rfl
  · refine g_iload_n F 2 dX9_lettersOf_14 rfl rfl ?_
    refine g_iconst (v := 1) F dX9_lettersOf_15 (by decide) ?_
    refine g_aload_n F 0 dX9_lettersOf_16 rfl rfl ?_
    refine g_getr (j := 16) (nn := 73) F s62 rfl rfl uX9 (by decide) q837 dX9_lettersOf_17 ?_
    refine g_iconst (v := 3) F dX9_lettersOf_20 (by decide) ?_
    refine g_iload_n F 1 dX9_lettersOf_21 rfl rfl ?_
    refine g_imul (v := (3 : Int32) * v1) F dX9_lettersOf_22 rfl ?_
    refine g_iload_n F 3 dX9_lettersOf_23 rfl rfl ?_
    refine g_iadd (v := ((3 : Int32) * v1) + s.2) F dX9_lettersOf_24 rfl ?_
    refine u_rI F s73 (by decide) dX9_lettersOf_25 h (fun u2 h => ?_)
    refine g_ishl (v := (1 : Int32) <<< (u2 &&& 31)) F dX9_lettersOf_26 rfl ?_
    refine g_ior (v := s.1 ||| ((1 : Int32) <<< (u2 &&& 31))) F dX9_lettersOf_27 rfl ?_
    refine g_istore_n (Ln := [(2, .int (s.1 ||| ((1 : Int32) <<< (u2 &&& 31)))), (0, .ref (E.2.1 62)), (1, .int v1), (3, .int s.2)]) F dX9_lettersOf_28 rfl (by decide) rfl ?_
    refine g_iinc (v := s.2 + 1) (Ln := [(3, .int (s.2 + 1)), (2, .int (s.1 ||| ((1 : Int32) <<< (u2 &&& 31)))), (0, .ref (E.2.1 62)), (1, .int v1)]) F 3 dX9_lettersOf_29 rfl (add_c (by decide)) (by decide) rfl ?_
    refine g_goto (tgt := 4) F dX9_lettersOf_32 (by decide) ?_
    obtain rfl := Option.some.inj h
    refine g_sub (Ln := [(0, .ref (E.2.1 62)), (1, .int v1), (2, .int (s.1 ||| ((1 : Int32) <<< (u2 &&& 31)))), (3, .int (s.2 + 1))]) [2, 3, 1, 0] rfl ?_
    exact hl (s.1 ||| ((1 : Int32) <<< (u2 &&& 31)), s.2 + 1) rfl
noncomputable def fX9_lettersOf (v1 : Int32) (I : gM) : Option (Int32) :=
  (lX9_lettersOf_4 v1 I ((0 : Int32), (0 : Int32))).bind fun w3 =>
  some w3
set_option maxRecDepth 100000 in
set_option maxHeartbeats 4000000 in
theorem wX9_lettersOf (l : Launch) (E : gE) (hE : gDist sh E) (bk : Nat) (v1 : Int32) (I : gM) (J : gN) {r : Int32} (h : fX9_lettersOf v1 I = some r) : Cu l sh E bk yX9_lettersOf cX9_lettersOf 4 (some .int) (gR 0) [.ref (E.2.1 62), .int v1] I J (fun r1 I1 J1 => r1 = some (.int r) ∧ I1 = I ∧ J1 = J) := by
  refine Cu.of "LeapJoinModel" rfl hE (by decide) (Nat.le_of_ble_eq_true rfl) (fun z F B e hl => ?_)
  subst hl
  unfold fX9_lettersOf at h
  refine g_iconst (v := 0) F dX9_lettersOf_0 (by decide) ?_
  refine g_istore_n (Ln := [(2, .int 0), (0, .ref (E.2.1 62)), (1, .int v1)]) F dX9_lettersOf_1 rfl (by decide) rfl ?_
  refine g_iconst (v := 0) F dX9_lettersOf_2 (by decide) ?_
  refine g_istore_n (Ln := [(3, .int 0), (2, .int 0), (0, .ref (E.2.1 62)), (1, .int v1)]) F dX9_lettersOf_3 rfl (by decide) rfl ?_
  obtain ⟨w3, ew3, h⟩ := ob h
  refine g_sub (Ln := [(0, .ref (E.2.1 62)), (1, .int v1), (2, .int 0), (3, .int 0)]) [2, 3, 1, 0] rfl ?_
  refine wlX9_lettersOf_4 F B hE v1 I J _ ew3 ?_
  refine g_iload_n F 0 dX9_lettersOf_35 rfl rfl ?_
  obtain rfl := Option.some.inj h
  exact g_iret F e dX9_lettersOf_36 ⟨rfl, rfl, rfl⟩
theorem DX9_asked_0 : dAre cX9_asked [(0, .iconst 0, 1), (1, .istore_n 1, 1), (2, .iconst 0, 1), (3, .istore_n 2, 1), (4, .iload_n 2, 1), (5, .aload_n 0, 1), (6, .getfield 173, 3), (9, .if_icmp .ge 29, 3), (12, .iload_n 1, 1), (13, .aload_n 0, 1), (14, .iload_n 2, 1), (15, .invokevirtual 176, 3), (18, .ifCond .eq 11, 3), (21, .aload_n 0, 1), (22, .iload_n 2, 1), (23, .invokevirtual 179, 3)] := dAre0 (by decide +kernel)
theorem dX9_asked_0 : decode cX9_asked 0 = .ok (.iconst 0, 1) := DX9_asked_0.1
theorem dX9_asked_1 : decode cX9_asked 1 = .ok (.istore_n 1, 1) := DX9_asked_0.2.1
theorem dX9_asked_2 : decode cX9_asked 2 = .ok (.iconst 0, 1) := DX9_asked_0.2.2.1
theorem dX9_asked_3 : decode cX9_asked 3 = .ok (.istore_n 2, 1) := DX9_asked_0.2.2.2.1
theorem dX9_asked_4 : decode cX9_asked 4 = .ok (.iload_n 2, 1) := DX9_asked_0.2.2.2.2.1
theorem dX9_asked_5 : decode cX9_asked 5 = .ok (.aload_n 0, 1) := DX9_asked_0.2.2.2.2.2.1
theorem dX9_asked_6 : decode cX9_asked 6 = .ok (.getfield 173, 3) := DX9_asked_0.2.2.2.2.2.2.1
theorem dX9_asked_9 : decode cX9_asked 9 = .ok (.if_icmp .ge 29, 3) := DX9_asked_0.2.2.2.2.2.2.2.1
theorem dX9_asked_12 : decode cX9_asked 12 = .ok (.iload_n 1, 1) := DX9_asked_0.2.2.2.2.2.2.2.2.1
theorem dX9_asked_13 : decode cX9_asked 13 = .ok (.aload_n 0, 1) := DX9_asked_0.2.2.2.2.2.2.2.2.2.1
theorem dX9_asked_14 : decode cX9_asked 14 = .ok (.iload_n 2, 1) := DX9_asked_0.2.2.2.2.2.2.2.2.2.2.1
theorem dX9_asked_15 : decode cX9_asked 15 = .ok (.invokevirtual 176, 3) := DX9_asked_0.2.2.2.2.2.2.2.2.2.2.2.1
theorem dX9_asked_18 : decode cX9_asked 18 = .ok (.ifCond .eq 11, 3) := DX9_asked_0.2.2.2.2.2.2.2.2.2.2.2.2.1
theorem dX9_asked_21 : decode cX9_asked 21 = .ok (.aload_n 0, 1) := DX9_asked_0.2.2.2.2.2.2.2.2.2.2.2.2.2.1
theorem dX9_asked_22 : decode cX9_asked 22 = .ok (.iload_n 2, 1) := DX9_asked_0.2.2.2.2.2.2.2.2.2.2.2.2.2.2.1
theorem dX9_asked_23 : decode cX9_asked 23 = .ok (.invokevirtual 179, 3) := DX9_asked_0.2.2.2.2.2.2.2.2.2.2.2.2.2.2.2.1
theorem DX9_asked_26 : dAre cX9_asked [(26, .goto 4, 3), (29, .iconst 0, 1), (30, .ior, 1), (31, .istore_n 1, 1), (32, .iinc 2 1, 3), (35, .goto (-31), 3), (38, .iload_n 1, 1), (39, .ireturn, 1)] := dAre0 (by decide +kernel)
theorem dX9_asked_26 : decode cX9_asked 26 = .ok (.goto 4, 3) := DX9_asked_26.1
theorem dX9_asked_29 : decode cX9_asked 29 = .ok (.iconst 0, 1) := DX9_asked_26.2.1
theorem dX9_asked_30 : decode cX9_asked 30 = .ok (.ior, 1) := DX9_asked_26.2.2.1
theorem dX9_asked_31 : decode cX9_asked 31 = .ok (.istore_n 1, 1) := DX9_asked_26.2.2.2.1
theorem dX9_asked_32 : decode cX9_asked 32 = .ok (.iinc 2 1, 3) := DX9_asked_26.2.2.2.2.1
theorem dX9_asked_35 : decode cX9_asked 35 = .ok (.goto (-31), 3) := DX9_asked_26.2.2.2.2.2.1
theorem dX9_asked_38 : decode cX9_asked 38 = .ok (.iload_n 1, 1) := DX9_asked_26.2.2.2.2.2.2.1
theorem dX9_asked_39 : decode cX9_asked 39 = .ok (.ireturn, 1) := DX9_asked_26.2.2.2.2.2.2.2.1
theorem mX9_asked : gMv yX9_asked cX9_asked 3 (some .int) RX9 0 := ⟨q1062, q1419, q10, q1063, rfl, by decide, by decide, by decide +kernel⟩
noncomputable def bX9_asked_30 (v2 : Int32) (t0 : Int32) (t1 : Int32) : Option ((Int32 × Int32) ⊕ (Int32)) :=
  some (.inl (t1 ||| t0, v2 + 1))
set_option maxRecDepth 100000 in
set_option maxHeartbeats 4000000 in
theorem wbX9_asked_30 {z : gZ} {E : gE} {bk : Nat} (F : Fx z sh E "LeapJoinModel" cX9_asked (gR 2) 3) (B : bZ z bk) (hE : gDist sh E) (v2 : Int32) (t0 : Int32) (t1 : Int32) (I : gM) (J : gN) {y : (Int32 × Int32) ⊕ (Int32)} (h : bX9_asked_30 v2 t0 t1 = some y) (hl : ∀ s' : Int32 × Int32, y = .inl s' → G z 4 [(0, .ref (E.2.1 62)), (1, .int (s'.1)), (2, .int (s'.2))] [] I J) (K4_0 : ∀ x : Int32, y = .inr x → G z 38 [(1, .int x)] [] I J) : G z 30 [(0, .ref (E.2.1 62)), (2, .int v2)] [.int t0, .int t1] I J := by
  unfold bX9_asked_30 at h
  refine g_ior (v := t1 ||| t0) F dX9_asked_30 rfl ?_
  refine g_istore_n (Ln := [(1, .int (t1 ||| t0)), (0, .ref (E.2.1 62)), (2, .int v2)]) F dX9_asked_31 rfl (by decide) rfl ?_
  refine g_iinc (v := v2 + 1) (Ln := [(2, .int (v2 + 1)), (1, .int (t1 ||| t0)), (0, .ref (E.2.1 62))]) F 2 dX9_asked_32 rfl (add_c (by decide)) (by decide) rfl ?_
  refine g_goto (tgt := 4) F dX9_asked_35 (by decide) ?_
  obtain rfl := Option.some.inj h
  refine g_sub (Ln := [(0, .ref (E.2.1 62)), (1, .int (t1 ||| t0)), (2, .int (v2 + 1))]) [2, 1, 0] rfl ?_
  exact hl (t1 ||| t0, v2 + 1) rfl
noncomputable def lX9_asked_4 (I : gM) : (Int32 × Int32) → Option (Int32) :=
  itO fun s =>
    if (I 62 17) ≤ s.2 then
      some (.inr s.1)
    else
      (fX9_isUsed s.2 I).bind fun r1 =>
      if r1 = 0 then
        bX9_asked_30 s.2 (0 : Int32) s.1
      else
        (fX9_lettersOf s.2 I).bind fun r2 =>
        bX9_asked_30 s.2 r2 s.1
set_option maxRecDepth 100000 in
set_option maxHeartbeats 4000000 in
theorem wlX9_asked_4 {z : gZ} {E : gE} {bk : Nat} (F : Fx z sh E "LeapJoinModel" cX9_asked (gR 2) 3) (B : bZ z bk) (hE : gDist sh E) (I : gM) (J : gN) {r : Int32} : ∀ s : Int32 × Int32, lX9_asked_4 I s = some r → (G z 38 [(1, .int r)] [] I J) → G z 4 [(0, .ref (E.2.1 62)), (1, .int s.1), (2, .int s.2)] [] I J := by
  intro s h X0
  unfold lX9_asked_4 at h
  revert s
  refine itO_ind (P := fun s : Int32 × Int32 => G z 4 [(0, .ref (E.2.1 62)), (1, .int s.1), (2, .int s.2)] [] I J) (fun s y h hl hr => ?_)
  have K4_0 : ∀ x : Int32, y = .inr x → (G z 38 [(1, .int x)] [] I J) := fun x q => by have q2 := hr _ q; subst q2; exact X0
  refine g_iload_n F 2 dX9_asked_4 rfl rfl ?_
  refine g_aload_n F 0 dX9_asked_5 rfl rfl ?_
  refine g_geti (j := 17) (v := I 62 17) F s62 rfl rfl uX9 (by decide) q838 rfl dX9_asked_6 ?_
  refine u_icmp_ge (tgt := 38) F dX9_asked_9 (by decide) h (fun h => ?_) (fun h => ?_)
  · obtain rfl := Option.some.inj h
    refine g_sub (Ln := [(1, .int s.1)]) [1] rfl ?_
    exact K4_0 s.1 rfl
  · refine g_iload_n F 1 dX9_asked_12 rfl rfl ?_
    refine g_aload_n F 0 dX9_asked_13 rfl rfl ?_
    refine g_iload_n F 2 dX9_asked_14 rfl rfl ?_
    refine u_callV (k := 62) (As := [.int s.2]) (rest := [.int s.1]) (sn := fun r1 => [.int r1, .int s.1]) F B (fun _ => wX9_isUsed (zl z) E hE bk s.2 I J) mX9_isUsed q1043 rfl s62 rfl rfl rfl (Nat.le_of_ble_eq_true rfl) dX9_asked_15 (fun _ => rfl) h (fun r1 h => ?_)
    refine u_if_eq (tgt := 29) F dX9_asked_18 (by decide) h (fun h => ?_) (fun h => ?_)
    · refine g_iconst (v := 0) F dX9_asked_29 (by decide) ?_
      refine g_sub (Ln := [(0, .ref (E.2.1 62)), (2, .int s.2)]) [0, 2] rfl ?_
      exact wbX9_asked_30 F B hE s.2 (0 : Int32) s.1 I J h hl K4_0
    · refine g_aload_n F 0 dX9_asked_21 rfl rfl ?_
      refine g_iload_n F 2 dX9_asked_22 rfl rfl ?_
      refine u_callV (k := 62) (As := [.int s.2]) (rest := [.int s.1]) (sn := fun r2 => [.int r2, .int s.1]) F B (fun _ => wX9_lettersOf (zl z) E hE bk s.2 I J) mX9_lettersOf q1064 rfl s62 rfl rfl rfl (Nat.le_of_ble_eq_true rfl) dX9_asked_23 (fun _ => rfl) h (fun r2 h => ?_)
      refine g_goto (tgt := 30) F dX9_asked_26 (by decide) ?_
      refine g_sub (Ln := [(0, .ref (E.2.1 62)), (2, .int s.2)]) [0, 2] rfl ?_
      exact wbX9_asked_30 F B hE s.2 r2 s.1 I J h hl K4_0
noncomputable def fX9_asked (I : gM) : Option (Int32) :=
  (lX9_asked_4 I ((0 : Int32), (0 : Int32))).bind fun w3 =>
  some w3
set_option maxRecDepth 100000 in
set_option maxHeartbeats 4000000 in
theorem wX9_asked (l : Launch) (E : gE) (hE : gDist sh E) (bk : Nat) (I : gM) (J : gN) {r : Int32} (h : fX9_asked I = some r) : Cu l sh E bk yX9_asked cX9_asked 3 (some .int) (gR 2) [.ref (E.2.1 62)] I J (fun r1 I1 J1 => r1 = some (.int r) ∧ I1 = I ∧ J1 = J) := by
  refine Cu.of "LeapJoinModel" rfl hE (by decide) (Nat.le_of_ble_eq_true rfl) (fun z F B e hl => ?_)
  subst hl
  unfold fX9_asked at h
  refine g_iconst (v := 0) F dX9_asked_0 (by decide) ?_
  refine g_istore_n (Ln := [(1, .int 0), (0, .ref (E.2.1 62))]) F dX9_asked_1 rfl (by decide) rfl ?_
  refine g_iconst (v := 0) F dX9_asked_2 (by decide) ?_
  refine g_istore_n (Ln := [(2, .int 0), (1, .int 0), (0, .ref (E.2.1 62))]) F dX9_asked_3 rfl (by decide) rfl ?_
  obtain ⟨w3, ew3, h⟩ := ob h
  refine g_sub (Ln := [(0, .ref (E.2.1 62)), (1, .int 0), (2, .int 0)]) [2, 1, 0] rfl ?_
  refine wlX9_asked_4 F B hE I J _ ew3 ?_
  refine g_iload_n F 0 dX9_asked_38 rfl rfl ?_
  obtain rfl := Option.some.inj h
  exact g_iret F e dX9_asked_39 ⟨rfl, rfl, rfl⟩
theorem DX9_compares_0 : dAre cX9_compares [(0, .iload_n 1, 1), (1, .iload_n 2, 1), (2, .invokestatic 182, 3), (5, .istore 6, 2), (7, .aload_n 0, 1), (8, .getfield 31, 3), (11, .iload 6, 2), (13, .iaload, 1), (14, .iload_n 3, 1), (15, .if_icmp .eq 15, 3), (18, .aload_n 0, 1), (19, .getfield 31, 3), (22, .iload 6, 2), (24, .iaload, 1), (25, .iload_n 3, 1), (26, .isub, 1)] := dAre0 (by decide +kernel)
theorem dX9_compares_0 : decode cX9_compares 0 = .ok (.iload_n 1, 1) := DX9_compares_0.1
theorem dX9_compares_1 : decode cX9_compares 1 = .ok (.iload_n 2, 1) := DX9_compares_0.2.1
theorem dX9_compares_2 : decode cX9_compares 2 = .ok (.invokestatic 182, 3) := DX9_compares_0.2.2.1
theorem dX9_compares_5 : decode cX9_compares 5 = .ok (.istore 6, 2) := DX9_compares_0.2.2.2.1
theorem dX9_compares_7 : decode cX9_compares 7 = .ok (.aload_n 0, 1) := DX9_compares_0.2.2.2.2.1
theorem dX9_compares_8 : decode cX9_compares 8 = .ok (.getfield 31, 3) := DX9_compares_0.2.2.2.2.2.1
theorem dX9_compares_11 : decode cX9_compares 11 = .ok (.iload 6, 2) := DX9_compares_0.2.2.2.2.2.2.1
theorem dX9_compares_13 : decode cX9_compares 13 = .ok (.iaload, 1) := DX9_compares_0.2.2.2.2.2.2.2.1
theorem dX9_compares_14 : decode cX9_compares 14 = .ok (.iload_n 3, 1) := DX9_compares_0.2.2.2.2.2.2.2.2.1
theorem dX9_compares_15 : decode cX9_compares 15 = .ok (.if_icmp .eq 15, 3) := DX9_compares_0.2.2.2.2.2.2.2.2.2.1
theorem dX9_compares_18 : decode cX9_compares 18 = .ok (.aload_n 0, 1) := DX9_compares_0.2.2.2.2.2.2.2.2.2.2.1
theorem dX9_compares_19 : decode cX9_compares 19 = .ok (.getfield 31, 3) := DX9_compares_0.2.2.2.2.2.2.2.2.2.2.2.1
theorem dX9_compares_22 : decode cX9_compares 22 = .ok (.iload 6, 2) := DX9_compares_0.2.2.2.2.2.2.2.2.2.2.2.2.1
theorem dX9_compares_24 : decode cX9_compares 24 = .ok (.iaload, 1) := DX9_compares_0.2.2.2.2.2.2.2.2.2.2.2.2.2.1
theorem dX9_compares_25 : decode cX9_compares 25 = .ok (.iload_n 3, 1) := DX9_compares_0.2.2.2.2.2.2.2.2.2.2.2.2.2.2.1
theorem dX9_compares_26 : decode cX9_compares 26 = .ok (.isub, 1) := DX9_compares_0.2.2.2.2.2.2.2.2.2.2.2.2.2.2.2.1
theorem DX9_compares_27 : dAre cX9_compares [(27, .goto 44, 3), (30, .aload_n 0, 1), (31, .getfield 31, 3), (34, .iload 6, 2), (36, .iconst 1, 1), (37, .iadd, 1), (38, .iaload, 1), (39, .iload 4, 2), (41, .if_icmp .eq 18, 3), (44, .aload_n 0, 1), (45, .getfield 31, 3), (48, .iload 6, 2), (50, .iconst 1, 1), (51, .iadd, 1), (52, .iaload, 1), (53, .iload 4, 2)] := dAre0 (by decide +kernel)
theorem dX9_compares_27 : decode cX9_compares 27 = .ok (.goto 44, 3) := DX9_compares_27.1
theorem dX9_compares_30 : decode cX9_compares 30 = .ok (.aload_n 0, 1) := DX9_compares_27.2.1
theorem dX9_compares_31 : decode cX9_compares 31 = .ok (.getfield 31, 3) := DX9_compares_27.2.2.1
theorem dX9_compares_34 : decode cX9_compares 34 = .ok (.iload 6, 2) := DX9_compares_27.2.2.2.1
theorem dX9_compares_36 : decode cX9_compares 36 = .ok (.iconst 1, 1) := DX9_compares_27.2.2.2.2.1
theorem dX9_compares_37 : decode cX9_compares 37 = .ok (.iadd, 1) := DX9_compares_27.2.2.2.2.2.1
theorem dX9_compares_38 : decode cX9_compares 38 = .ok (.iaload, 1) := DX9_compares_27.2.2.2.2.2.2.1
theorem dX9_compares_39 : decode cX9_compares 39 = .ok (.iload 4, 2) := DX9_compares_27.2.2.2.2.2.2.2.1
theorem dX9_compares_41 : decode cX9_compares 41 = .ok (.if_icmp .eq 18, 3) := DX9_compares_27.2.2.2.2.2.2.2.2.1
theorem dX9_compares_44 : decode cX9_compares 44 = .ok (.aload_n 0, 1) := DX9_compares_27.2.2.2.2.2.2.2.2.2.1
theorem dX9_compares_45 : decode cX9_compares 45 = .ok (.getfield 31, 3) := DX9_compares_27.2.2.2.2.2.2.2.2.2.2.1
theorem dX9_compares_48 : decode cX9_compares 48 = .ok (.iload 6, 2) := DX9_compares_27.2.2.2.2.2.2.2.2.2.2.2.1
theorem dX9_compares_50 : decode cX9_compares 50 = .ok (.iconst 1, 1) := DX9_compares_27.2.2.2.2.2.2.2.2.2.2.2.2.1
theorem dX9_compares_51 : decode cX9_compares 51 = .ok (.iadd, 1) := DX9_compares_27.2.2.2.2.2.2.2.2.2.2.2.2.2.1
theorem dX9_compares_52 : decode cX9_compares 52 = .ok (.iaload, 1) := DX9_compares_27.2.2.2.2.2.2.2.2.2.2.2.2.2.2.1
theorem dX9_compares_53 : decode cX9_compares 53 = .ok (.iload 4, 2) := DX9_compares_27.2.2.2.2.2.2.2.2.2.2.2.2.2.2.2.1
theorem DX9_compares_55 : dAre cX9_compares [(55, .isub, 1), (56, .goto 15, 3), (59, .aload_n 0, 1), (60, .getfield 31, 3), (63, .iload 6, 2), (65, .iconst 2, 1), (66, .iadd, 1), (67, .iaload, 1), (68, .iload 5, 2), (70, .isub, 1), (71, .ireturn, 1)] := dAre0 (by decide +kernel)
theorem dX9_compares_55 : decode cX9_compares 55 = .ok (.isub, 1) := DX9_compares_55.1
theorem dX9_compares_56 : decode cX9_compares 56 = .ok (.goto 15, 3) := DX9_compares_55.2.1
theorem dX9_compares_59 : decode cX9_compares 59 = .ok (.aload_n 0, 1) := DX9_compares_55.2.2.1
theorem dX9_compares_60 : decode cX9_compares 60 = .ok (.getfield 31, 3) := DX9_compares_55.2.2.2.1
theorem dX9_compares_63 : decode cX9_compares 63 = .ok (.iload 6, 2) := DX9_compares_55.2.2.2.2.1
theorem dX9_compares_65 : decode cX9_compares 65 = .ok (.iconst 2, 1) := DX9_compares_55.2.2.2.2.2.1
theorem dX9_compares_66 : decode cX9_compares 66 = .ok (.iadd, 1) := DX9_compares_55.2.2.2.2.2.2.1
theorem dX9_compares_67 : decode cX9_compares 67 = .ok (.iaload, 1) := DX9_compares_55.2.2.2.2.2.2.2.1
theorem dX9_compares_68 : decode cX9_compares 68 = .ok (.iload 5, 2) := DX9_compares_55.2.2.2.2.2.2.2.2.1
theorem dX9_compares_70 : decode cX9_compares 70 = .ok (.isub, 1) := DX9_compares_55.2.2.2.2.2.2.2.2.2.1
theorem dX9_compares_71 : decode cX9_compares 71 = .ok (.ireturn, 1) := DX9_compares_55.2.2.2.2.2.2.2.2.2.2.1
theorem mX9_compares : gMv yX9_compares cX9_compares 7 (some .int) RX9 5 := ⟨q998, q1400, q10, q999, rfl, by decide, by decide, by decide +kernel⟩
noncomputable def fX9_compares (v1 : Int32) (v2 : Int32) (v3 : Int32) (v4 : Int32) (v5 : Int32) (I : gM) : Option (Int32) :=
  (fX9_rowAt v1 v2).bind fun r1 =>
  (rI 331 (I 70) r1).bind fun u2 =>
  if u2 = v3 then
    (rI 331 (I 70) (r1 + 1)).bind fun u3 =>
    if u3 = v4 then
      (rI 331 (I 70) (r1 + 2)).bind fun u4 =>
      some (u4 - v5)
    else
      (rI 331 (I 70) (r1 + 1)).bind fun u5 =>
      some (u5 - v4)
  else
    (rI 331 (I 70) r1).bind fun u6 =>
    some (u6 - v3)
set_option maxRecDepth 100000 in
set_option maxHeartbeats 4000000 in
theorem wX9_compares (l : Launch) (E : gE) (hE : gDist sh E) (bk : Nat) (v1 : Int32) (v2 : Int32) (v3 : Int32) (v4 : Int32) (v5 : Int32) (I : gM) (J : gN) {r : Int32} (h : fX9_compares v1 v2 v3 v4 v5 I = some r) : Cu l sh E bk yX9_compares cX9_compares 7 (some .int) (gR 1) [.ref (E.2.1 62), .int v1, .int v2, .int v3, .int v4, .int v5] I J (fun r1 I1 J1 => r1 = some (.int r) ∧ I1 = I ∧ J1 = J) := by
  refine Cu.of "LeapJoinModel" rfl hE (by decide) (Nat.le_of_ble_eq_true rfl) (fun z F B e hl => ?_)
  subst hl
  unfold fX9_compares at h
  refine g_iload_n F 1 dX9_compares_0 rfl rfl ?_
  refine g_iload_n F 2 dX9_compares_1 rfl rfl ?_
  refine u_callS (As := [.int v1, .int v2]) (rest := []) (sn := fun r1 => [.int r1]) F B (fun _ => wX9_rowAt (zl z) E hE bk v1 v2 I J) mX9_rowAt q1000 rfl rfl rfl (Nat.le_of_ble_eq_true rfl) dX9_compares_2 (fun _ => rfl) h (fun r1 h => ?_)
  refine g_istore (Ln := [(6, .int r1), (0, .ref (E.2.1 62)), (1, .int v1), (2, .int v2), (3, .int v3), (4, .int v4), (5, .int v5)]) F dX9_compares_5 (by decide) rfl ?_
  refine g_aload_n F 1 dX9_compares_7 rfl rfl ?_
  refine g_getr (j := 13) (nn := 70) F s62 rfl rfl uX9 (by decide) q834 dX9_compares_8 ?_
  refine g_iload F 0 dX9_compares_11 rfl ?_
  refine u_rI F s70 (by decide) dX9_compares_13 h (fun u2 h => ?_)
  refine g_iload_n F 4 dX9_compares_14 rfl rfl ?_
  refine u_icmp_eq (tgt := 30) F dX9_compares_15 (by decide) h (fun h => ?_) (fun h => ?_)
  · refine g_aload_n F 1 dX9_compares_30 rfl rfl ?_
    refine g_getr (j := 13) (nn := 70) F s62 rfl rfl uX9 (by decide) q834 dX9_compares_31 ?_
    refine g_iload F 0 dX9_compares_34 rfl ?_
    refine g_iconst (v := 1) F dX9_compares_36 (by decide) ?_
    refine g_iadd (v := r1 + 1) F dX9_compares_37 rfl ?_
    refine u_rI F s70 (by decide) dX9_compares_38 h (fun u3 h => ?_)
    refine g_iload F 5 dX9_compares_39 rfl ?_
    refine u_icmp_eq (tgt := 59) F dX9_compares_41 (by decide) h (fun h => ?_) (fun h => ?_)
    · refine g_aload_n F 1 dX9_compares_59 rfl rfl ?_
      refine g_getr (j := 13) (nn := 70) F s62 rfl rfl uX9 (by decide) q834 dX9_compares_60 ?_
      refine g_iload F 0 dX9_compares_63 rfl ?_
      refine g_iconst (v := 2) F dX9_compares_65 (by decide) ?_
      refine g_iadd (v := r1 + 2) F dX9_compares_66 rfl ?_
      refine u_rI F s70 (by decide) dX9_compares_67 h (fun u4 h => ?_)
      refine g_iload F 6 dX9_compares_68 rfl ?_
      refine g_isub (v := u4 - v5) F dX9_compares_70 rfl ?_
      obtain rfl := Option.some.inj h
      exact g_iret F e dX9_compares_71 ⟨rfl, rfl, rfl⟩
    · refine g_aload_n F 1 dX9_compares_44 rfl rfl ?_
      refine g_getr (j := 13) (nn := 70) F s62 rfl rfl uX9 (by decide) q834 dX9_compares_45 ?_
      refine g_iload F 0 dX9_compares_48 rfl ?_
      refine g_iconst (v := 1) F dX9_compares_50 (by decide) ?_
      refine g_iadd (v := r1 + 1) F dX9_compares_51 rfl ?_
      refine u_rI F s70 (by decide) dX9_compares_52 h (fun u5 h => ?_)
      refine g_iload F 5 dX9_compares_53 rfl ?_
      refine g_isub (v := u5 - v4) F dX9_compares_55 rfl ?_
      refine g_goto (tgt := 71) F dX9_compares_56 (by decide) ?_
      obtain rfl := Option.some.inj h
      exact g_iret F e dX9_compares_71 ⟨rfl, rfl, rfl⟩
  · refine g_aload_n F 1 dX9_compares_18 rfl rfl ?_
    refine g_getr (j := 13) (nn := 70) F s62 rfl rfl uX9 (by decide) q834 dX9_compares_19 ?_
    refine g_iload F 0 dX9_compares_22 rfl ?_
    refine u_rI F s70 (by decide) dX9_compares_24 h (fun u6 h => ?_)
    refine g_iload_n F 4 dX9_compares_25 rfl rfl ?_
    refine g_isub (v := u6 - v3) F dX9_compares_26 rfl ?_
    refine g_goto (tgt := 71) F dX9_compares_27 (by decide) ?_
    obtain rfl := Option.some.inj h
    exact g_iret F e dX9_compares_71 ⟨rfl, rfl, rfl⟩
