theorem DX9_greatestTable_0 : dAre cX9_greatestTable [(0, .iconst 0, 1), (1, .istore_n 2, 1), (2, .iconst 1, 1), (3, .istore_n 3, 1), (4, .iload_n 3, 1), (5, .aload_n 0, 1), (6, .getfield 173, 3), (9, .if_icmp .ge 71, 3), (12, .iload_n 1, 1), (13, .ifCond .eq 30, 3), (16, .aload_n 0, 1), (17, .iload_n 3, 1), (18, .invokevirtual 363, 3), (21, .invokestatic 416, 3), (24, .aload_n 0, 1), (25, .iload_n 2, 1)] := dAre0 (by decide +kernel)
theorem dX9_greatestTable_0 : decode cX9_greatestTable 0 = .ok (.iconst 0, 1) := DX9_greatestTable_0.1
theorem dX9_greatestTable_1 : decode cX9_greatestTable 1 = .ok (.istore_n 2, 1) := DX9_greatestTable_0.2.1
theorem dX9_greatestTable_2 : decode cX9_greatestTable 2 = .ok (.iconst 1, 1) := DX9_greatestTable_0.2.2.1
theorem dX9_greatestTable_3 : decode cX9_greatestTable 3 = .ok (.istore_n 3, 1) := DX9_greatestTable_0.2.2.2.1
theorem dX9_greatestTable_4 : decode cX9_greatestTable 4 = .ok (.iload_n 3, 1) := DX9_greatestTable_0.2.2.2.2.1
theorem dX9_greatestTable_5 : decode cX9_greatestTable 5 = .ok (.aload_n 0, 1) := DX9_greatestTable_0.2.2.2.2.2.1
theorem dX9_greatestTable_6 : decode cX9_greatestTable 6 = .ok (.getfield 173, 3) := DX9_greatestTable_0.2.2.2.2.2.2.1
theorem dX9_greatestTable_9 : decode cX9_greatestTable 9 = .ok (.if_icmp .ge 71, 3) := DX9_greatestTable_0.2.2.2.2.2.2.2.1
theorem dX9_greatestTable_12 : decode cX9_greatestTable 12 = .ok (.iload_n 1, 1) := DX9_greatestTable_0.2.2.2.2.2.2.2.2.1
theorem dX9_greatestTable_13 : decode cX9_greatestTable 13 = .ok (.ifCond .eq 30, 3) := DX9_greatestTable_0.2.2.2.2.2.2.2.2.2.1
theorem dX9_greatestTable_16 : decode cX9_greatestTable 16 = .ok (.aload_n 0, 1) := DX9_greatestTable_0.2.2.2.2.2.2.2.2.2.2.1
theorem dX9_greatestTable_17 : decode cX9_greatestTable 17 = .ok (.iload_n 3, 1) := DX9_greatestTable_0.2.2.2.2.2.2.2.2.2.2.2.1
theorem dX9_greatestTable_18 : decode cX9_greatestTable 18 = .ok (.invokevirtual 363, 3) := DX9_greatestTable_0.2.2.2.2.2.2.2.2.2.2.2.2.1
theorem dX9_greatestTable_21 : decode cX9_greatestTable 21 = .ok (.invokestatic 416, 3) := DX9_greatestTable_0.2.2.2.2.2.2.2.2.2.2.2.2.2.1
theorem dX9_greatestTable_24 : decode cX9_greatestTable 24 = .ok (.aload_n 0, 1) := DX9_greatestTable_0.2.2.2.2.2.2.2.2.2.2.2.2.2.2.1
theorem dX9_greatestTable_25 : decode cX9_greatestTable 25 = .ok (.iload_n 2, 1) := DX9_greatestTable_0.2.2.2.2.2.2.2.2.2.2.2.2.2.2.2.1
theorem DX9_greatestTable_26 : dAre cX9_greatestTable [(26, .invokevirtual 363, 3), (29, .invokestatic 416, 3), (32, .if_icmp .le 7, 3), (35, .iconst 1, 1), (36, .goto 25, 3), (39, .iconst 0, 1), (40, .goto 21, 3), (43, .aload_n 0, 1), (44, .iload_n 3, 1), (45, .invokevirtual 186, 3), (48, .aload_n 0, 1), (49, .iload_n 2, 1), (50, .invokevirtual 186, 3), (53, .if_icmp .le 7, 3), (56, .iconst 1, 1), (57, .goto 4, 3)] := dAre0 (by decide +kernel)
theorem dX9_greatestTable_26 : decode cX9_greatestTable 26 = .ok (.invokevirtual 363, 3) := DX9_greatestTable_26.1
theorem dX9_greatestTable_29 : decode cX9_greatestTable 29 = .ok (.invokestatic 416, 3) := DX9_greatestTable_26.2.1
theorem dX9_greatestTable_32 : decode cX9_greatestTable 32 = .ok (.if_icmp .le 7, 3) := DX9_greatestTable_26.2.2.1
theorem dX9_greatestTable_35 : decode cX9_greatestTable 35 = .ok (.iconst 1, 1) := DX9_greatestTable_26.2.2.2.1
theorem dX9_greatestTable_36 : decode cX9_greatestTable 36 = .ok (.goto 25, 3) := DX9_greatestTable_26.2.2.2.2.1
theorem dX9_greatestTable_39 : decode cX9_greatestTable 39 = .ok (.iconst 0, 1) := DX9_greatestTable_26.2.2.2.2.2.1
theorem dX9_greatestTable_40 : decode cX9_greatestTable 40 = .ok (.goto 21, 3) := DX9_greatestTable_26.2.2.2.2.2.2.1
theorem dX9_greatestTable_43 : decode cX9_greatestTable 43 = .ok (.aload_n 0, 1) := DX9_greatestTable_26.2.2.2.2.2.2.2.1
theorem dX9_greatestTable_44 : decode cX9_greatestTable 44 = .ok (.iload_n 3, 1) := DX9_greatestTable_26.2.2.2.2.2.2.2.2.1
theorem dX9_greatestTable_45 : decode cX9_greatestTable 45 = .ok (.invokevirtual 186, 3) := DX9_greatestTable_26.2.2.2.2.2.2.2.2.2.1
theorem dX9_greatestTable_48 : decode cX9_greatestTable 48 = .ok (.aload_n 0, 1) := DX9_greatestTable_26.2.2.2.2.2.2.2.2.2.2.1
theorem dX9_greatestTable_49 : decode cX9_greatestTable 49 = .ok (.iload_n 2, 1) := DX9_greatestTable_26.2.2.2.2.2.2.2.2.2.2.2.1
theorem dX9_greatestTable_50 : decode cX9_greatestTable 50 = .ok (.invokevirtual 186, 3) := DX9_greatestTable_26.2.2.2.2.2.2.2.2.2.2.2.2.1
theorem dX9_greatestTable_53 : decode cX9_greatestTable 53 = .ok (.if_icmp .le 7, 3) := DX9_greatestTable_26.2.2.2.2.2.2.2.2.2.2.2.2.2.1
theorem dX9_greatestTable_56 : decode cX9_greatestTable 56 = .ok (.iconst 1, 1) := DX9_greatestTable_26.2.2.2.2.2.2.2.2.2.2.2.2.2.2.1
theorem dX9_greatestTable_57 : decode cX9_greatestTable 57 = .ok (.goto 4, 3) := DX9_greatestTable_26.2.2.2.2.2.2.2.2.2.2.2.2.2.2.2.1
theorem DX9_greatestTable_60 : dAre cX9_greatestTable [(60, .iconst 0, 1), (61, .istore 4, 2), (63, .iload 4, 2), (65, .ifCond .eq 7, 3), (68, .iload_n 3, 1), (69, .goto 4, 3), (72, .iload_n 2, 1), (73, .istore_n 2, 1), (74, .iinc 3 1, 3), (77, .goto (-73), 3), (80, .iload_n 2, 1), (81, .ireturn, 1)] := dAre0 (by decide +kernel)
theorem dX9_greatestTable_60 : decode cX9_greatestTable 60 = .ok (.iconst 0, 1) := DX9_greatestTable_60.1
theorem dX9_greatestTable_61 : decode cX9_greatestTable 61 = .ok (.istore 4, 2) := DX9_greatestTable_60.2.1
theorem dX9_greatestTable_63 : decode cX9_greatestTable 63 = .ok (.iload 4, 2) := DX9_greatestTable_60.2.2.1
theorem dX9_greatestTable_65 : decode cX9_greatestTable 65 = .ok (.ifCond .eq 7, 3) := DX9_greatestTable_60.2.2.2.1
theorem dX9_greatestTable_68 : decode cX9_greatestTable 68 = .ok (.iload_n 3, 1) := DX9_greatestTable_60.2.2.2.2.1
theorem dX9_greatestTable_69 : decode cX9_greatestTable 69 = .ok (.goto 4, 3) := DX9_greatestTable_60.2.2.2.2.2.1
theorem dX9_greatestTable_72 : decode cX9_greatestTable 72 = .ok (.iload_n 2, 1) := DX9_greatestTable_60.2.2.2.2.2.2.1
theorem dX9_greatestTable_73 : decode cX9_greatestTable 73 = .ok (.istore_n 2, 1) := DX9_greatestTable_60.2.2.2.2.2.2.2.1
theorem dX9_greatestTable_74 : decode cX9_greatestTable 74 = .ok (.iinc 3 1, 3) := DX9_greatestTable_60.2.2.2.2.2.2.2.2.1
theorem dX9_greatestTable_77 : decode cX9_greatestTable 77 = .ok (.goto (-73), 3) := DX9_greatestTable_60.2.2.2.2.2.2.2.2.2.1
theorem dX9_greatestTable_80 : decode cX9_greatestTable 80 = .ok (.iload_n 2, 1) := DX9_greatestTable_60.2.2.2.2.2.2.2.2.2.2.1
theorem dX9_greatestTable_81 : decode cX9_greatestTable 81 = .ok (.ireturn, 1) := DX9_greatestTable_60.2.2.2.2.2.2.2.2.2.2.2.1
theorem mX9_greatestTable : gMv yX9_greatestTable cX9_greatestTable 5 (some .int) RX9 1 := ⟨q1322, q1454, q10, q1323, rfl, by decide, by decide, by decide +kernel⟩
noncomputable def bX9_greatestTable_73 (v3 : Int32) (t0 : Int32) : Option ((Int32 × Int32) ⊕ (Int32)) :=
  some (.inl (t0, v3 + 1))
set_option maxRecDepth 100000 in
set_option maxHeartbeats 4000000 in
theorem wbX9_greatestTable_73 {z : gZ} {E : gE} {bk : Nat} (F : Fx z sh E "LeapJoinModel" cX9_greatestTable (gR 3) 5) (B : bZ z bk) (hE : gDist sh E) (v1 : Int32) (v3 : Int32) (t0 : Int32) (I : gM) (J : gN) {y : (Int32 × Int32) ⊕ (Int32)} (h : bX9_greatestTable_73 v3 t0 = some y) (hl : ∀ s' : Int32 × Int32, y = .inl s' → G z 4 [(0, .ref (E.2.1 62)), (1, .int v1), (2, .int (s'.1)), (3, .int (s'.2))] [] I J) (K4_0 : ∀ x : Int32, y = .inr x → G z 80 [(2, .int x)] [] I J) : G z 73 [(0, .ref (E.2.1 62)), (1, .int v1), (3, .int v3)] [.int t0] I J := by
  unfold bX9_greatestTable_73 at h
  refine g_istore_n (Ln := [(2, .int t0), (0, .ref (E.2.1 62)), (1, .int v1), (3, .int v3)]) F dX9_greatestTable_73 rfl (by decide) rfl ?_
  refine g_iinc (v := v3 + 1) (Ln := [(3, .int (v3 + 1)), (2, .int t0), (0, .ref (E.2.1 62)), (1, .int v1)]) F 3 dX9_greatestTable_74 rfl (add_c (by decide)) (by decide) rfl ?_
  refine g_goto (tgt := 4) F dX9_greatestTable_77 (by decide) ?_
  obtain rfl := Option.some.inj h
  refine g_sub (Ln := [(0, .ref (E.2.1 62)), (1, .int v1), (2, .int t0), (3, .int (v3 + 1))]) [2, 3, 1, 0] rfl ?_
  exact hl (t0, v3 + 1) rfl
noncomputable def bX9_greatestTable_61 (v2 : Int32) (v3 : Int32) (t0 : Int32) : Option ((Int32 × Int32) ⊕ (Int32)) :=
  if t0 = 0 then
    bX9_greatestTable_73 v3 v2
  else
    bX9_greatestTable_73 v3 v3
set_option maxRecDepth 100000 in
set_option maxHeartbeats 4000000 in
theorem wbX9_greatestTable_61 {z : gZ} {E : gE} {bk : Nat} (F : Fx z sh E "LeapJoinModel" cX9_greatestTable (gR 3) 5) (B : bZ z bk) (hE : gDist sh E) (v1 : Int32) (v2 : Int32) (v3 : Int32) (t0 : Int32) (I : gM) (J : gN) {y : (Int32 × Int32) ⊕ (Int32)} (h : bX9_greatestTable_61 v2 v3 t0 = some y) (hl : ∀ s' : Int32 × Int32, y = .inl s' → G z 4 [(0, .ref (E.2.1 62)), (1, .int v1), (2, .int (s'.1)), (3, .int (s'.2))] [] I J) (K4_0 : ∀ x : Int32, y = .inr x → G z 80 [(2, .int x)] [] I J) : G z 61 [(0, .ref (E.2.1 62)), (1, .int v1), (2, .int v2), (3, .int v3)] [.int t0] I J := by
  unfold bX9_greatestTable_61 at h
  refine g_istore (Ln := [(4, .int t0), (0, .ref (E.2.1 62)), (1, .int v1), (2, .int v2), (3, .int v3)]) F dX9_greatestTable_61 (by decide) rfl ?_
  refine g_iload F 0 dX9_greatestTable_63 rfl ?_
  refine u_if_eq (tgt := 72) F dX9_greatestTable_65 (by decide) h (fun h => ?_) (fun h => ?_)
  · refine g_iload_n F 3 dX9_greatestTable_72 rfl rfl ?_
    refine g_sub (Ln := [(0, .ref (E.2.1 62)), (1, .int v1), (3, .int v3)]) [1, 2, 4] rfl ?_
    exact wbX9_greatestTable_73 F B hE v1 v3 v2 I J h hl K4_0
  · refine g_iload_n F 4 dX9_greatestTable_68 rfl rfl ?_
    refine g_goto (tgt := 73) F dX9_greatestTable_69 (by decide) ?_
    refine g_sub (Ln := [(0, .ref (E.2.1 62)), (1, .int v1), (3, .int v3)]) [1, 2, 4] rfl ?_
    exact wbX9_greatestTable_73 F B hE v1 v3 v3 I J h hl K4_0
noncomputable def lX9_greatestTable_4 (v1 : Int32) (I : gM) : (Int32 × Int32) → Option (Int32) :=
  itO fun s =>
    if (I 62 17) ≤ s.2 then
      some (.inr s.1)
    else
      if v1 = 0 then
        (fX9_many s.2 I).bind fun r1 =>
        (fX9_many s.1 I).bind fun r2 =>
        if r1 ≤ r2 then
          bX9_greatestTable_61 s.1 s.2 (0 : Int32)
        else
          bX9_greatestTable_61 s.1 s.2 (1 : Int32)
      else
        (fX9_givenBy s.2 I).bind fun r3 =>
        (fX9_bits r3).bind fun r4 =>
        (fX9_givenBy s.1 I).bind fun r5 =>
        (fX9_bits r5).bind fun r6 =>
        if r4 ≤ r6 then
          bX9_greatestTable_61 s.1 s.2 (0 : Int32)
        else
          bX9_greatestTable_61 s.1 s.2 (1 : Int32)
set_option maxRecDepth 100000 in
set_option maxHeartbeats 4000000 in
theorem wlX9_greatestTable_4 {z : gZ} {E : gE} {bk : Nat} (F : Fx z sh E "LeapJoinModel" cX9_greatestTable (gR 3) 5) (B : bZ z bk) (hE : gDist sh E) (v1 : Int32) (I : gM) (J : gN) {r : Int32} : ∀ s : Int32 × Int32, lX9_greatestTable_4 v1 I s = some r → (G z 80 [(2, .int r)] [] I J) → G z 4 [(0, .ref (E.2.1 62)), (1, .int v1), (2, .int s.1), (3, .int s.2)] [] I J := by
  intro s h X0
  unfold lX9_greatestTable_4 at h
  revert s
  refine itO_ind (P := fun s : Int32 × Int32 => G z 4 [(0, .ref (E.2.1 62)), (1, .int v1), (2, .int s.1), (3, .int s.2)] [] I J) (fun s y h hl hr => ?_)
  have K4_0 : ∀ x : Int32, y = .inr x → (G z 80 [(2, .int x)] [] I J) := fun x q => by have q2 := hr _ q; subst q2; exact X0
  refine g_iload_n F 3 dX9_greatestTable_4 rfl rfl ?_
  refine g_aload_n F 0 dX9_greatestTable_5 rfl rfl ?_
  refine g_geti (j := 17) (v := I 62 17) F s62 rfl rfl uX9 (by decide) q838 rfl dX9_greatestTable_6 ?_
  refine u_icmp_ge (tgt := 80) F dX9_greatestTable_9 (by decide) h (fun h => ?_) (fun h => ?_)
  · obtain rfl := Option.some.inj h
    refine g_sub (Ln := [(2, .int s.1)]) [2] rfl ?_
    exact K4_0 s.1 rfl
  · refine g_iload_n F 1 dX9_greatestTable_12 rfl rfl ?_
    refine u_if_eq (tgt := 43) F dX9_greatestTable_13 (by decide) h (fun h => ?_) (fun h => ?_)
    · refine g_aload_n F 0 dX9_greatestTable_43 rfl rfl ?_
      refine g_iload_n F 3 dX9_greatestTable_44 rfl rfl ?_
      refine u_callV (k := 62) (As := [.int s.2]) (rest := []) (sn := fun r1 => [.int r1]) F B (fun _ => wX9_many (zl z) E hE bk s.2 I J) mX9_many q994 rfl s62 rfl rfl rfl (Nat.le_of_ble_eq_true rfl) dX9_greatestTable_45 (fun _ => rfl) h (fun r1 h => ?_)
      refine g_aload_n F 0 dX9_greatestTable_48 rfl rfl ?_
      refine g_iload_n F 2 dX9_greatestTable_49 rfl rfl ?_
      refine u_callV (k := 62) (As := [.int s.1]) (rest := [.int r1]) (sn := fun r2 => [.int r2, .int r1]) F B (fun _ => wX9_many (zl z) E hE bk s.1 I J) mX9_many q994 rfl s62 rfl rfl rfl (Nat.le_of_ble_eq_true rfl) dX9_greatestTable_50 (fun _ => rfl) h (fun r2 h => ?_)
      refine u_icmp_le (tgt := 60) F dX9_greatestTable_53 (by decide) h (fun h => ?_) (fun h => ?_)
      · refine g_iconst (v := 0) F dX9_greatestTable_60 (by decide) ?_
        refine g_sub (Ln := [(0, .ref (E.2.1 62)), (1, .int v1), (2, .int s.1), (3, .int s.2)]) [0, 1, 2, 3] rfl ?_
        exact wbX9_greatestTable_61 F B hE v1 s.1 s.2 (0 : Int32) I J h hl K4_0
      · refine g_iconst (v := 1) F dX9_greatestTable_56 (by decide) ?_
        refine g_goto (tgt := 61) F dX9_greatestTable_57 (by decide) ?_
        refine g_sub (Ln := [(0, .ref (E.2.1 62)), (1, .int v1), (2, .int s.1), (3, .int s.2)]) [0, 1, 2, 3] rfl ?_
        exact wbX9_greatestTable_61 F B hE v1 s.1 s.2 (1 : Int32) I J h hl K4_0
    · refine g_aload_n F 0 dX9_greatestTable_16 rfl rfl ?_
      refine g_iload_n F 3 dX9_greatestTable_17 rfl rfl ?_
      refine u_callV (k := 62) (As := [.int s.2]) (rest := []) (sn := fun r3 => [.int r3]) F B (fun _ => wX9_givenBy (zl z) E hE bk s.2 I J) mX9_givenBy q1196 rfl s62 rfl rfl rfl (Nat.le_of_ble_eq_true rfl) dX9_greatestTable_18 (fun _ => rfl) h (fun r3 h => ?_)
      refine u_callS (As := [.int r3]) (rest := []) (sn := fun r4 => [.int r4]) F B (fun _ => wX9_bits (zl z) E hE bk r3 I J) mX9_bits q1324 rfl rfl rfl (Nat.le_of_ble_eq_true rfl) dX9_greatestTable_21 (fun _ => rfl) h (fun r4 h => ?_)
      refine g_aload_n F 0 dX9_greatestTable_24 rfl rfl ?_
      refine g_iload_n F 2 dX9_greatestTable_25 rfl rfl ?_
      refine u_callV (k := 62) (As := [.int s.1]) (rest := [.int r4]) (sn := fun r5 => [.int r5, .int r4]) F B (fun _ => wX9_givenBy (zl z) E hE bk s.1 I J) mX9_givenBy q1196 rfl s62 rfl rfl rfl (Nat.le_of_ble_eq_true rfl) dX9_greatestTable_26 (fun _ => rfl) h (fun r5 h => ?_)
      refine u_callS (As := [.int r5]) (rest := [.int r4]) (sn := fun r6 => [.int r6, .int r4]) F B (fun _ => wX9_bits (zl z) E hE bk r5 I J) mX9_bits q1324 rfl rfl rfl (Nat.le_of_ble_eq_true rfl) dX9_greatestTable_29 (fun _ => rfl) h (fun r6 h => ?_)
      refine u_icmp_le (tgt := 39) F dX9_greatestTable_32 (by decide) h (fun h => ?_) (fun h => ?_)
      · refine g_iconst (v := 0) F dX9_greatestTable_39 (by decide) ?_
        refine g_goto (tgt := 61) F dX9_greatestTable_40 (by decide) ?_
        refine g_sub (Ln := [(0, .ref (E.2.1 62)), (1, .int v1), (2, .int s.1), (3, .int s.2)]) [0, 1, 2, 3] rfl ?_
        exact wbX9_greatestTable_61 F B hE v1 s.1 s.2 (0 : Int32) I J h hl K4_0
      · refine g_iconst (v := 1) F dX9_greatestTable_35 (by decide) ?_
        refine g_goto (tgt := 61) F dX9_greatestTable_36 (by decide) ?_
        refine g_sub (Ln := [(0, .ref (E.2.1 62)), (1, .int v1), (2, .int s.1), (3, .int s.2)]) [0, 1, 2, 3] rfl ?_
        exact wbX9_greatestTable_61 F B hE v1 s.1 s.2 (1 : Int32) I J h hl K4_0
noncomputable def fX9_greatestTable (v1 : Int32) (I : gM) : Option (Int32) :=
  (lX9_greatestTable_4 v1 I ((0 : Int32), (1 : Int32))).bind fun w7 =>
  some w7
set_option maxRecDepth 100000 in
set_option maxHeartbeats 4000000 in
theorem wX9_greatestTable (l : Launch) (E : gE) (hE : gDist sh E) (bk : Nat) (v1 : Int32) (I : gM) (J : gN) {r : Int32} (h : fX9_greatestTable v1 I = some r) : Cu l sh E bk yX9_greatestTable cX9_greatestTable 5 (some .int) (gR 3) [.ref (E.2.1 62), .int v1] I J (fun r1 I1 J1 => r1 = some (.int r) ∧ I1 = I ∧ J1 = J) := by
  refine Cu.of "LeapJoinModel" rfl hE (by decide) (Nat.le_of_ble_eq_true rfl) (fun z F B e hl => ?_)
  subst hl
  unfold fX9_greatestTable at h
  refine g_iconst (v := 0) F dX9_greatestTable_0 (by decide) ?_
  refine g_istore_n (Ln := [(2, .int 0), (0, .ref (E.2.1 62)), (1, .int v1)]) F dX9_greatestTable_1 rfl (by decide) rfl ?_
  refine g_iconst (v := 1) F dX9_greatestTable_2 (by decide) ?_
  refine g_istore_n (Ln := [(3, .int 1), (2, .int 0), (0, .ref (E.2.1 62)), (1, .int v1)]) F dX9_greatestTable_3 rfl (by decide) rfl ?_
  obtain ⟨w7, ew7, h⟩ := ob h
  refine g_sub (Ln := [(0, .ref (E.2.1 62)), (1, .int v1), (2, .int 0), (3, .int 1)]) [2, 3, 1, 0] rfl ?_
  refine wlX9_greatestTable_4 F B hE v1 I J _ ew7 ?_
  refine g_iload_n F 0 dX9_greatestTable_80 rfl rfl ?_
  obtain rfl := Option.some.inj h
  exact g_iret F e dX9_greatestTable_81 ⟨rfl, rfl, rfl⟩
theorem DX9_notGiven_0 : dAre cX9_notGiven [(0, .iconst 0, 1), (1, .istore_n 1, 1), (2, .iconst 0, 1), (3, .istore_n 2, 1), (4, .iload_n 2, 1), (5, .aload_n 0, 1), (6, .getfield 173, 3), (9, .if_icmp .ge 38, 3), (12, .iload_n 1, 1), (13, .aload_n 0, 1), (14, .iload_n 2, 1), (15, .invokevirtual 176, 3), (18, .ifCond .eq 20, 3), (21, .aload_n 0, 1), (22, .iload_n 2, 1), (23, .invokevirtual 186, 3)] := dAre0 (by decide +kernel)
theorem dX9_notGiven_0 : decode cX9_notGiven 0 = .ok (.iconst 0, 1) := DX9_notGiven_0.1
theorem dX9_notGiven_1 : decode cX9_notGiven 1 = .ok (.istore_n 1, 1) := DX9_notGiven_0.2.1
theorem dX9_notGiven_2 : decode cX9_notGiven 2 = .ok (.iconst 0, 1) := DX9_notGiven_0.2.2.1
theorem dX9_notGiven_3 : decode cX9_notGiven 3 = .ok (.istore_n 2, 1) := DX9_notGiven_0.2.2.2.1
theorem dX9_notGiven_4 : decode cX9_notGiven 4 = .ok (.iload_n 2, 1) := DX9_notGiven_0.2.2.2.2.1
theorem dX9_notGiven_5 : decode cX9_notGiven 5 = .ok (.aload_n 0, 1) := DX9_notGiven_0.2.2.2.2.2.1
theorem dX9_notGiven_6 : decode cX9_notGiven 6 = .ok (.getfield 173, 3) := DX9_notGiven_0.2.2.2.2.2.2.1
theorem dX9_notGiven_9 : decode cX9_notGiven 9 = .ok (.if_icmp .ge 38, 3) := DX9_notGiven_0.2.2.2.2.2.2.2.1
theorem dX9_notGiven_12 : decode cX9_notGiven 12 = .ok (.iload_n 1, 1) := DX9_notGiven_0.2.2.2.2.2.2.2.2.1
theorem dX9_notGiven_13 : decode cX9_notGiven 13 = .ok (.aload_n 0, 1) := DX9_notGiven_0.2.2.2.2.2.2.2.2.2.1
theorem dX9_notGiven_14 : decode cX9_notGiven 14 = .ok (.iload_n 2, 1) := DX9_notGiven_0.2.2.2.2.2.2.2.2.2.2.1
theorem dX9_notGiven_15 : decode cX9_notGiven 15 = .ok (.invokevirtual 176, 3) := DX9_notGiven_0.2.2.2.2.2.2.2.2.2.2.2.1
theorem dX9_notGiven_18 : decode cX9_notGiven 18 = .ok (.ifCond .eq 20, 3) := DX9_notGiven_0.2.2.2.2.2.2.2.2.2.2.2.2.1
theorem dX9_notGiven_21 : decode cX9_notGiven 21 = .ok (.aload_n 0, 1) := DX9_notGiven_0.2.2.2.2.2.2.2.2.2.2.2.2.2.1
theorem dX9_notGiven_22 : decode cX9_notGiven 22 = .ok (.iload_n 2, 1) := DX9_notGiven_0.2.2.2.2.2.2.2.2.2.2.2.2.2.2.1
theorem dX9_notGiven_23 : decode cX9_notGiven 23 = .ok (.invokevirtual 186, 3) := DX9_notGiven_0.2.2.2.2.2.2.2.2.2.2.2.2.2.2.2.1
theorem DX9_notGiven_26 : dAre cX9_notGiven [(26, .aload_n 0, 1), (27, .iload_n 2, 1), (28, .invokevirtual 363, 3), (31, .invokestatic 416, 3), (34, .isub, 1), (35, .goto 4, 3), (38, .iconst 0, 1), (39, .iadd, 1), (40, .istore_n 1, 1), (41, .iinc 2 1, 3), (44, .goto (-40), 3), (47, .iload_n 1, 1), (48, .ireturn, 1)] := dAre0 (by decide +kernel)
theorem dX9_notGiven_26 : decode cX9_notGiven 26 = .ok (.aload_n 0, 1) := DX9_notGiven_26.1
theorem dX9_notGiven_27 : decode cX9_notGiven 27 = .ok (.iload_n 2, 1) := DX9_notGiven_26.2.1
theorem dX9_notGiven_28 : decode cX9_notGiven 28 = .ok (.invokevirtual 363, 3) := DX9_notGiven_26.2.2.1
theorem dX9_notGiven_31 : decode cX9_notGiven 31 = .ok (.invokestatic 416, 3) := DX9_notGiven_26.2.2.2.1
theorem dX9_notGiven_34 : decode cX9_notGiven 34 = .ok (.isub, 1) := DX9_notGiven_26.2.2.2.2.1
theorem dX9_notGiven_35 : decode cX9_notGiven 35 = .ok (.goto 4, 3) := DX9_notGiven_26.2.2.2.2.2.1
theorem dX9_notGiven_38 : decode cX9_notGiven 38 = .ok (.iconst 0, 1) := DX9_notGiven_26.2.2.2.2.2.2.1
theorem dX9_notGiven_39 : decode cX9_notGiven 39 = .ok (.iadd, 1) := DX9_notGiven_26.2.2.2.2.2.2.2.1
theorem dX9_notGiven_40 : decode cX9_notGiven 40 = .ok (.istore_n 1, 1) := DX9_notGiven_26.2.2.2.2.2.2.2.2.1
theorem dX9_notGiven_41 : decode cX9_notGiven 41 = .ok (.iinc 2 1, 3) := DX9_notGiven_26.2.2.2.2.2.2.2.2.2.1
theorem dX9_notGiven_44 : decode cX9_notGiven 44 = .ok (.goto (-40), 3) := DX9_notGiven_26.2.2.2.2.2.2.2.2.2.2.1
theorem dX9_notGiven_47 : decode cX9_notGiven 47 = .ok (.iload_n 1, 1) := DX9_notGiven_26.2.2.2.2.2.2.2.2.2.2.2.1
theorem dX9_notGiven_48 : decode cX9_notGiven 48 = .ok (.ireturn, 1) := DX9_notGiven_26.2.2.2.2.2.2.2.2.2.2.2.2.1
theorem mX9_notGiven : gMv yX9_notGiven cX9_notGiven 3 (some .int) RX9 0 := ⟨q1328, q1455, q10, q1329, rfl, by decide, by decide, by decide +kernel⟩
noncomputable def bX9_notGiven_39 (v2 : Int32) (t0 : Int32) (t1 : Int32) : Option ((Int32 × Int32) ⊕ (Int32)) :=
  some (.inl (t1 + t0, v2 + 1))
set_option maxRecDepth 100000 in
set_option maxHeartbeats 4000000 in
theorem wbX9_notGiven_39 {z : gZ} {E : gE} {bk : Nat} (F : Fx z sh E "LeapJoinModel" cX9_notGiven (gR 3) 3) (B : bZ z bk) (hE : gDist sh E) (v2 : Int32) (t0 : Int32) (t1 : Int32) (I : gM) (J : gN) {y : (Int32 × Int32) ⊕ (Int32)} (h : bX9_notGiven_39 v2 t0 t1 = some y) (hl : ∀ s' : Int32 × Int32, y = .inl s' → G z 4 [(0, .ref (E.2.1 62)), (1, .int (s'.1)), (2, .int (s'.2))] [] I J) (K4_0 : ∀ x : Int32, y = .inr x → G z 47 [(1, .int x)] [] I J) : G z 39 [(0, .ref (E.2.1 62)), (2, .int v2)] [.int t0, .int t1] I J := by
  unfold bX9_notGiven_39 at h
  refine g_iadd (v := t1 + t0) F dX9_notGiven_39 rfl ?_
  refine g_istore_n (Ln := [(1, .int (t1 + t0)), (0, .ref (E.2.1 62)), (2, .int v2)]) F dX9_notGiven_40 rfl (by decide) rfl ?_
  refine g_iinc (v := v2 + 1) (Ln := [(2, .int (v2 + 1)), (1, .int (t1 + t0)), (0, .ref (E.2.1 62))]) F 2 dX9_notGiven_41 rfl (add_c (by decide)) (by decide) rfl ?_
  refine g_goto (tgt := 4) F dX9_notGiven_44 (by decide) ?_
  obtain rfl := Option.some.inj h
  refine g_sub (Ln := [(0, .ref (E.2.1 62)), (1, .int (t1 + t0)), (2, .int (v2 + 1))]) [2, 1, 0] rfl ?_
  exact hl (t1 + t0, v2 + 1) rfl
noncomputable def lX9_notGiven_4 (I : gM) : (Int32 × Int32) → Option (Int32) :=
  itO fun s =>
    if (I 62 17) ≤ s.2 then
      some (.inr s.1)
    else
      (fX9_isUsed s.2 I).bind fun r1 =>
      if r1 = 0 then
        bX9_notGiven_39 s.2 (0 : Int32) s.1
      else
        (fX9_many s.2 I).bind fun r2 =>
        (fX9_givenBy s.2 I).bind fun r3 =>
        (fX9_bits r3).bind fun r4 =>
        bX9_notGiven_39 s.2 (r2 - r4) s.1
set_option maxRecDepth 100000 in
set_option maxHeartbeats 4000000 in
theorem wlX9_notGiven_4 {z : gZ} {E : gE} {bk : Nat} (F : Fx z sh E "LeapJoinModel" cX9_notGiven (gR 3) 3) (B : bZ z bk) (hE : gDist sh E) (I : gM) (J : gN) {r : Int32} : ∀ s : Int32 × Int32, lX9_notGiven_4 I s = some r → (G z 47 [(1, .int r)] [] I J) → G z 4 [(0, .ref (E.2.1 62)), (1, .int s.1), (2, .int s.2)] [] I J := by
  intro s h X0
  unfold lX9_notGiven_4 at h
  revert s
  refine itO_ind (P := fun s : Int32 × Int32 => G z 4 [(0, .ref (E.2.1 62)), (1, .int s.1), (2, .int s.2)] [] I J) (fun s y h hl hr => ?_)
  have K4_0 : ∀ x : Int32, y = .inr x → (G z 47 [(1, .int x)] [] I J) := fun x q => by have q2 := hr _ q; subst q2; exact X0
  refine g_iload_n F 2 dX9_notGiven_4 rfl rfl ?_
  refine g_aload_n F 0 dX9_notGiven_5 rfl rfl ?_
  refine g_geti (j := 17) (v := I 62 17) F s62 rfl rfl uX9 (by decide) q838 rfl dX9_notGiven_6 ?_
  refine u_icmp_ge (tgt := 47) F dX9_notGiven_9 (by decide) h (fun h => ?_) (fun h => ?_)
  · obtain rfl := Option.some.inj h
    refine g_sub (Ln := [(1, .int s.1)]) [1] rfl ?_
    exact K4_0 s.1 rfl
  · refine g_iload_n F 1 dX9_notGiven_12 rfl rfl ?_
    refine g_aload_n F 0 dX9_notGiven_13 rfl rfl ?_
    refine g_iload_n F 2 dX9_notGiven_14 rfl rfl ?_
    refine u_callV (k := 62) (As := [.int s.2]) (rest := [.int s.1]) (sn := fun r1 => [.int r1, .int s.1]) F B (fun _ => wX9_isUsed (zl z) E hE bk s.2 I J) mX9_isUsed q1043 rfl s62 rfl rfl rfl (Nat.le_of_ble_eq_true rfl) dX9_notGiven_15 (fun _ => rfl) h (fun r1 h => ?_)
    refine u_if_eq (tgt := 38) F dX9_notGiven_18 (by decide) h (fun h => ?_) (fun h => ?_)
    · refine g_iconst (v := 0) F dX9_notGiven_38 (by decide) ?_
      refine g_sub (Ln := [(0, .ref (E.2.1 62)), (2, .int s.2)]) [0, 2] rfl ?_
      exact wbX9_notGiven_39 F B hE s.2 (0 : Int32) s.1 I J h hl K4_0
    · refine g_aload_n F 0 dX9_notGiven_21 rfl rfl ?_
      refine g_iload_n F 2 dX9_notGiven_22 rfl rfl ?_
      refine u_callV (k := 62) (As := [.int s.2]) (rest := [.int s.1]) (sn := fun r2 => [.int r2, .int s.1]) F B (fun _ => wX9_many (zl z) E hE bk s.2 I J) mX9_many q994 rfl s62 rfl rfl rfl (Nat.le_of_ble_eq_true rfl) dX9_notGiven_23 (fun _ => rfl) h (fun r2 h => ?_)
      refine g_aload_n F 0 dX9_notGiven_26 rfl rfl ?_
      refine g_iload_n F 2 dX9_notGiven_27 rfl rfl ?_
      refine u_callV (k := 62) (As := [.int s.2]) (rest := [.int r2, .int s.1]) (sn := fun r3 => [.int r3, .int r2, .int s.1]) F B (fun _ => wX9_givenBy (zl z) E hE bk s.2 I J) mX9_givenBy q1196 rfl s62 rfl rfl rfl (Nat.le_of_ble_eq_true rfl) dX9_notGiven_28 (fun _ => rfl) h (fun r3 h => ?_)
      refine u_callS (As := [.int r3]) (rest := [.int r2, .int s.1]) (sn := fun r4 => [.int r4, .int r2, .int s.1]) F B (fun _ => wX9_bits (zl z) E hE bk r3 I J) mX9_bits q1324 rfl rfl rfl (Nat.le_of_ble_eq_true rfl) dX9_notGiven_31 (fun _ => rfl) h (fun r4 h => ?_)
      refine g_isub (v := r2 - r4) F dX9_notGiven_34 rfl ?_
      refine g_goto (tgt := 39) F dX9_notGiven_35 (by decide) ?_
      refine g_sub (Ln := [(0, .ref (E.2.1 62)), (2, .int s.2)]) [0, 2] rfl ?_
      exact wbX9_notGiven_39 F B hE s.2 (r2 - r4) s.1 I J h hl K4_0
noncomputable def fX9_notGiven (I : gM) : Option (Int32) :=
  (lX9_notGiven_4 I ((0 : Int32), (0 : Int32))).bind fun w5 =>
  some w5
set_option maxRecDepth 100000 in
set_option maxHeartbeats 4000000 in
theorem wX9_notGiven (l : Launch) (E : gE) (hE : gDist sh E) (bk : Nat) (I : gM) (J : gN) {r : Int32} (h : fX9_notGiven I = some r) : Cu l sh E bk yX9_notGiven cX9_notGiven 3 (some .int) (gR 3) [.ref (E.2.1 62)] I J (fun r1 I1 J1 => r1 = some (.int r) ∧ I1 = I ∧ J1 = J) := by
  refine Cu.of "LeapJoinModel" rfl hE (by decide) (Nat.le_of_ble_eq_true rfl) (fun z F B e hl => ?_)
  subst hl
  unfold fX9_notGiven at h
  refine g_iconst (v := 0) F dX9_notGiven_0 (by decide) ?_
  refine g_istore_n (Ln := [(1, .int 0), (0, .ref (E.2.1 62))]) F dX9_notGiven_1 rfl (by decide) rfl ?_
  refine g_iconst (v := 0) F dX9_notGiven_2 (by decide) ?_
  refine g_istore_n (Ln := [(2, .int 0), (1, .int 0), (0, .ref (E.2.1 62))]) F dX9_notGiven_3 rfl (by decide) rfl ?_
  obtain ⟨w5, ew5, h⟩ := ob h
  refine g_sub (Ln := [(0, .ref (E.2.1 62)), (1, .int 0), (2, .int 0)]) [2, 1, 0] rfl ?_
  refine wlX9_notGiven_4 F B hE I J _ ew5 ?_
  refine g_iload_n F 0 dX9_notGiven_47 rfl rfl ?_
  obtain rfl := Option.some.inj h
  exact g_iret F e dX9_notGiven_48 ⟨rfl, rfl, rfl⟩
theorem DX9_couples_0 : dAre cX9_couples [(0, .iconst 0, 1), (1, .istore_n 1, 1), (2, .iconst 0, 1), (3, .istore_n 2, 1), (4, .iload_n 2, 1), (5, .iconst 4, 1), (6, .if_icmp .ge 60, 3), (9, .iconst 0, 1), (10, .istore_n 3, 1), (11, .iload_n 3, 1), (12, .iconst 4, 1), (13, .if_icmp .ge 47, 3), (16, .iload_n 1, 1), (17, .iload_n 2, 1), (18, .iload_n 3, 1), (19, .if_icmp .eq 32, 3)] := dAre0 (by decide +kernel)
theorem dX9_couples_0 : decode cX9_couples 0 = .ok (.iconst 0, 1) := DX9_couples_0.1
theorem dX9_couples_1 : decode cX9_couples 1 = .ok (.istore_n 1, 1) := DX9_couples_0.2.1
theorem dX9_couples_2 : decode cX9_couples 2 = .ok (.iconst 0, 1) := DX9_couples_0.2.2.1
theorem dX9_couples_3 : decode cX9_couples 3 = .ok (.istore_n 2, 1) := DX9_couples_0.2.2.2.1
theorem dX9_couples_4 : decode cX9_couples 4 = .ok (.iload_n 2, 1) := DX9_couples_0.2.2.2.2.1
theorem dX9_couples_5 : decode cX9_couples 5 = .ok (.iconst 4, 1) := DX9_couples_0.2.2.2.2.2.1
theorem dX9_couples_6 : decode cX9_couples 6 = .ok (.if_icmp .ge 60, 3) := DX9_couples_0.2.2.2.2.2.2.1
theorem dX9_couples_9 : decode cX9_couples 9 = .ok (.iconst 0, 1) := DX9_couples_0.2.2.2.2.2.2.2.1
theorem dX9_couples_10 : decode cX9_couples 10 = .ok (.istore_n 3, 1) := DX9_couples_0.2.2.2.2.2.2.2.2.1
theorem dX9_couples_11 : decode cX9_couples 11 = .ok (.iload_n 3, 1) := DX9_couples_0.2.2.2.2.2.2.2.2.2.1
theorem dX9_couples_12 : decode cX9_couples 12 = .ok (.iconst 4, 1) := DX9_couples_0.2.2.2.2.2.2.2.2.2.2.1
theorem dX9_couples_13 : decode cX9_couples 13 = .ok (.if_icmp .ge 47, 3) := DX9_couples_0.2.2.2.2.2.2.2.2.2.2.2.1
theorem dX9_couples_16 : decode cX9_couples 16 = .ok (.iload_n 1, 1) := DX9_couples_0.2.2.2.2.2.2.2.2.2.2.2.2.1
theorem dX9_couples_17 : decode cX9_couples 17 = .ok (.iload_n 2, 1) := DX9_couples_0.2.2.2.2.2.2.2.2.2.2.2.2.2.1
theorem dX9_couples_18 : decode cX9_couples 18 = .ok (.iload_n 3, 1) := DX9_couples_0.2.2.2.2.2.2.2.2.2.2.2.2.2.2.1
theorem dX9_couples_19 : decode cX9_couples 19 = .ok (.if_icmp .eq 32, 3) := DX9_couples_0.2.2.2.2.2.2.2.2.2.2.2.2.2.2.2.1
theorem DX9_couples_22 : dAre cX9_couples [(22, .aload_n 0, 1), (23, .iload_n 2, 1), (24, .invokevirtual 342, 3), (27, .ifCond .eq 24, 3), (30, .aload_n 0, 1), (31, .iload_n 3, 1), (32, .invokevirtual 342, 3), (35, .ifCond .eq 16, 3), (38, .aload_n 0, 1), (39, .iload_n 2, 1), (40, .iload_n 3, 1), (41, .invokevirtual 372, 3), (44, .ifCond .eq 7, 3), (47, .iconst 1, 1), (48, .goto 4, 3), (51, .iconst 0, 1)] := dAre0 (by decide +kernel)
theorem dX9_couples_22 : decode cX9_couples 22 = .ok (.aload_n 0, 1) := DX9_couples_22.1
theorem dX9_couples_23 : decode cX9_couples 23 = .ok (.iload_n 2, 1) := DX9_couples_22.2.1
theorem dX9_couples_24 : decode cX9_couples 24 = .ok (.invokevirtual 342, 3) := DX9_couples_22.2.2.1
theorem dX9_couples_27 : decode cX9_couples 27 = .ok (.ifCond .eq 24, 3) := DX9_couples_22.2.2.2.1
theorem dX9_couples_30 : decode cX9_couples 30 = .ok (.aload_n 0, 1) := DX9_couples_22.2.2.2.2.1
theorem dX9_couples_31 : decode cX9_couples 31 = .ok (.iload_n 3, 1) := DX9_couples_22.2.2.2.2.2.1
theorem dX9_couples_32 : decode cX9_couples 32 = .ok (.invokevirtual 342, 3) := DX9_couples_22.2.2.2.2.2.2.1
theorem dX9_couples_35 : decode cX9_couples 35 = .ok (.ifCond .eq 16, 3) := DX9_couples_22.2.2.2.2.2.2.2.1
theorem dX9_couples_38 : decode cX9_couples 38 = .ok (.aload_n 0, 1) := DX9_couples_22.2.2.2.2.2.2.2.2.1
theorem dX9_couples_39 : decode cX9_couples 39 = .ok (.iload_n 2, 1) := DX9_couples_22.2.2.2.2.2.2.2.2.2.1
theorem dX9_couples_40 : decode cX9_couples 40 = .ok (.iload_n 3, 1) := DX9_couples_22.2.2.2.2.2.2.2.2.2.2.1
theorem dX9_couples_41 : decode cX9_couples 41 = .ok (.invokevirtual 372, 3) := DX9_couples_22.2.2.2.2.2.2.2.2.2.2.2.1
theorem dX9_couples_44 : decode cX9_couples 44 = .ok (.ifCond .eq 7, 3) := DX9_couples_22.2.2.2.2.2.2.2.2.2.2.2.2.1
theorem dX9_couples_47 : decode cX9_couples 47 = .ok (.iconst 1, 1) := DX9_couples_22.2.2.2.2.2.2.2.2.2.2.2.2.2.1
theorem dX9_couples_48 : decode cX9_couples 48 = .ok (.goto 4, 3) := DX9_couples_22.2.2.2.2.2.2.2.2.2.2.2.2.2.2.1
theorem dX9_couples_51 : decode cX9_couples 51 = .ok (.iconst 0, 1) := DX9_couples_22.2.2.2.2.2.2.2.2.2.2.2.2.2.2.2.1
theorem DX9_couples_52 : dAre cX9_couples [(52, .iadd, 1), (53, .istore_n 1, 1), (54, .iinc 3 1, 3), (57, .goto (-46), 3), (60, .iinc 2 1, 3), (63, .goto (-59), 3), (66, .iload_n 1, 1), (67, .ireturn, 1)] := dAre0 (by decide +kernel)
theorem dX9_couples_52 : decode cX9_couples 52 = .ok (.iadd, 1) := DX9_couples_52.1
theorem dX9_couples_53 : decode cX9_couples 53 = .ok (.istore_n 1, 1) := DX9_couples_52.2.1
theorem dX9_couples_54 : decode cX9_couples 54 = .ok (.iinc 3 1, 3) := DX9_couples_52.2.2.1
theorem dX9_couples_57 : decode cX9_couples 57 = .ok (.goto (-46), 3) := DX9_couples_52.2.2.2.1
theorem dX9_couples_60 : decode cX9_couples 60 = .ok (.iinc 2 1, 3) := DX9_couples_52.2.2.2.2.1
theorem dX9_couples_63 : decode cX9_couples 63 = .ok (.goto (-59), 3) := DX9_couples_52.2.2.2.2.2.1
theorem dX9_couples_66 : decode cX9_couples 66 = .ok (.iload_n 1, 1) := DX9_couples_52.2.2.2.2.2.2.1
theorem dX9_couples_67 : decode cX9_couples 67 = .ok (.ireturn, 1) := DX9_couples_52.2.2.2.2.2.2.2.1
theorem mX9_couples : gMv yX9_couples cX9_couples 4 (some .int) RX9 0 := ⟨q1331, q1456, q10, q1332, rfl, by decide, by decide, by decide +kernel⟩
noncomputable def bX9_couples_52 (v3 : Int32) (t0 : Int32) (t1 : Int32) (I : gM) : Option ((Int32 × Int32 × gM) ⊕ (Int32 × gM)) :=
  some (.inl (t1 + t0, v3 + 1, I))
set_option maxRecDepth 100000 in
set_option maxHeartbeats 4000000 in
theorem wbX9_couples_52 {z : gZ} {E : gE} {bk : Nat} (F : Fx z sh E "LeapJoinModel" cX9_couples (gR 4) 4) (B : bZ z bk) (hE : gDist sh E) (v2 : Int32) (v3 : Int32) (t0 : Int32) (t1 : Int32) (I : gM) (J : gN) {y : (Int32 × Int32 × gM) ⊕ (Int32 × gM)} (h : bX9_couples_52 v3 t0 t1 I = some y) (hl : ∀ s' : Int32 × Int32 × gM, y = .inl s' → G z 11 [(0, .ref (E.2.1 62)), (1, .int (s'.1)), (2, .int v2), (3, .int (s'.2.1))] [] s'.2.2 J) (K11_0 : ∀ x : Int32 × gM, y = .inr x → G z 60 [(0, .ref (E.2.1 62)), (1, .int x.1), (2, .int v2)] [] x.2 J) : G z 52 [(0, .ref (E.2.1 62)), (2, .int v2), (3, .int v3)] [.int t0, .int t1] I J := by
  unfold bX9_couples_52 at h
  refine g_iadd (v := t1 + t0) F dX9_couples_52 rfl ?_
  refine g_istore_n (Ln := [(1, .int (t1 + t0)), (0, .ref (E.2.1 62)), (2, .int v2), (3, .int v3)]) F dX9_couples_53 rfl (by decide) rfl ?_
  refine g_iinc (v := v3 + 1) (Ln := [(3, .int (v3 + 1)), (1, .int (t1 + t0)), (0, .ref (E.2.1 62)), (2, .int v2)]) F 3 dX9_couples_54 rfl (add_c (by decide)) (by decide) rfl ?_
  refine g_goto (tgt := 11) F dX9_couples_57 (by decide) ?_
  obtain rfl := Option.some.inj h
  refine g_sub (Ln := [(0, .ref (E.2.1 62)), (1, .int (t1 + t0)), (2, .int v2), (3, .int (v3 + 1))]) [2, 1, 3, 0] rfl ?_
  exact hl (t1 + t0, v3 + 1, I) rfl
noncomputable def bX9_couples_51 (v3 : Int32) (t0 : Int32) (I : gM) : Option ((Int32 × Int32 × gM) ⊕ (Int32 × gM)) :=
  bX9_couples_52 v3 (0 : Int32) t0 I
set_option maxRecDepth 100000 in
set_option maxHeartbeats 4000000 in
theorem wbX9_couples_51 {z : gZ} {E : gE} {bk : Nat} (F : Fx z sh E "LeapJoinModel" cX9_couples (gR 4) 4) (B : bZ z bk) (hE : gDist sh E) (v2 : Int32) (v3 : Int32) (t0 : Int32) (I : gM) (J : gN) {y : (Int32 × Int32 × gM) ⊕ (Int32 × gM)} (h : bX9_couples_51 v3 t0 I = some y) (hl : ∀ s' : Int32 × Int32 × gM, y = .inl s' → G z 11 [(0, .ref (E.2.1 62)), (1, .int (s'.1)), (2, .int v2), (3, .int (s'.2.1))] [] s'.2.2 J) (K11_0 : ∀ x : Int32 × gM, y = .inr x → G z 60 [(0, .ref (E.2.1 62)), (1, .int x.1), (2, .int v2)] [] x.2 J) : G z 51 [(0, .ref (E.2.1 62)), (2, .int v2), (3, .int v3)] [.int t0] I J := by
  unfold bX9_couples_51 at h
  refine g_iconst (v := 0) F dX9_couples_51 (by decide) ?_
  refine g_sub (Ln := [(0, .ref (E.2.1 62)), (2, .int v2), (3, .int v3)]) [0, 1, 2] rfl ?_
  exact wbX9_couples_52 F B hE v2 v3 (0 : Int32) t0 I J h hl K11_0
noncomputable def lX9_couples_11 (v2 : Int32) : (Int32 × Int32 × gM) → Option (Int32 × gM) :=
  itO fun s =>
    if (4 : Int32) ≤ s.2.1 then
      some (.inr (s.1, s.2.2))
    else
      if v2 = s.2.1 then
        bX9_couples_51 s.2.1 s.1 s.2.2
      else
        (fX9_isAsked v2 s.2.2).bind fun r1 =>
        if r1 = 0 then
          bX9_couples_51 s.2.1 s.1 s.2.2
        else
          (fX9_isAsked s.2.1 s.2.2).bind fun r2 =>
          if r2 = 0 then
            bX9_couples_51 s.2.1 s.1 s.2.2
          else
            (fX9_isTold v2 s.2.1 s.2.2).bind fun r3 =>
            if r3.1 = 0 then
              bX9_couples_51 s.2.1 s.1 r3.2
            else
              bX9_couples_52 s.2.1 (1 : Int32) s.1 r3.2
set_option maxRecDepth 100000 in
set_option maxHeartbeats 4000000 in
theorem wlX9_couples_11 {z : gZ} {E : gE} {bk : Nat} (F : Fx z sh E "LeapJoinModel" cX9_couples (gR 4) 4) (B : bZ z bk) (hE : gDist sh E) (v2 : Int32) (J : gN) {r : Int32 × gM} : ∀ s : Int32 × Int32 × gM, lX9_couples_11 v2 s = some r → (G z 60 [(0, .ref (E.2.1 62)), (1, .int r.1), (2, .int v2)] [] r.2 J) → G z 11 [(0, .ref (E.2.1 62)), (1, .int s.1), (2, .int v2), (3, .int s.2.1)] [] s.2.2 J := by
  intro s h X0
  unfold lX9_couples_11 at h
  revert s
  refine itO_ind (P := fun s : Int32 × Int32 × gM => G z 11 [(0, .ref (E.2.1 62)), (1, .int s.1), (2, .int v2), (3, .int s.2.1)] [] s.2.2 J) (fun s y h hl hr => ?_)
  have K11_0 : ∀ x : Int32 × gM, y = .inr x → (G z 60 [(0, .ref (E.2.1 62)), (1, .int x.1), (2, .int v2)] [] x.2 J) := fun x q => by have q2 := hr _ q; subst q2; exact X0
  refine g_iload_n F 3 dX9_couples_11 rfl rfl ?_
  refine g_iconst (v := 4) F dX9_couples_12 (by decide) ?_
  refine u_icmp_ge (tgt := 60) F dX9_couples_13 (by decide) h (fun h => ?_) (fun h => ?_)
  · obtain rfl := Option.some.inj h
    refine g_sub (Ln := [(0, .ref (E.2.1 62)), (1, .int s.1), (2, .int v2)]) [0, 1, 2] rfl ?_
    exact K11_0 (s.1, s.2.2) rfl
  · refine g_iload_n F 1 dX9_couples_16 rfl rfl ?_
    refine g_iload_n F 2 dX9_couples_17 rfl rfl ?_
    refine g_iload_n F 3 dX9_couples_18 rfl rfl ?_
    refine u_icmp_eq (tgt := 51) F dX9_couples_19 (by decide) h (fun h => ?_) (fun h => ?_)
    · refine g_sub (Ln := [(0, .ref (E.2.1 62)), (2, .int v2), (3, .int s.2.1)]) [0, 2, 3] rfl ?_
      exact wbX9_couples_51 F B hE v2 s.2.1 s.1 s.2.2 J h hl K11_0
    · refine g_aload_n F 0 dX9_couples_22 rfl rfl ?_
      refine g_iload_n F 2 dX9_couples_23 rfl rfl ?_
      refine u_callV (k := 62) (As := [.int v2]) (rest := [.int s.1]) (sn := fun r1 => [.int r1, .int s.1]) F B (fun _ => wX9_isAsked (zl z) E hE bk v2 s.2.2 J) mX9_isAsked q1167 rfl s62 rfl rfl rfl (Nat.le_of_ble_eq_true rfl) dX9_couples_24 (fun _ => rfl) h (fun r1 h => ?_)
      refine u_if_eq (tgt := 51) F dX9_couples_27 (by decide) h (fun h => ?_) (fun h => ?_)
      · refine g_sub (Ln := [(0, .ref (E.2.1 62)), (2, .int v2), (3, .int s.2.1)]) [0, 2, 3] rfl ?_
        exact wbX9_couples_51 F B hE v2 s.2.1 s.1 s.2.2 J h hl K11_0
      · refine g_aload_n F 0 dX9_couples_30 rfl rfl ?_
        refine g_iload_n F 3 dX9_couples_31 rfl rfl ?_
        refine u_callV (k := 62) (As := [.int s.2.1]) (rest := [.int s.1]) (sn := fun r2 => [.int r2, .int s.1]) F B (fun _ => wX9_isAsked (zl z) E hE bk s.2.1 s.2.2 J) mX9_isAsked q1167 rfl s62 rfl rfl rfl (Nat.le_of_ble_eq_true rfl) dX9_couples_32 (fun _ => rfl) h (fun r2 h => ?_)
        refine u_if_eq (tgt := 51) F dX9_couples_35 (by decide) h (fun h => ?_) (fun h => ?_)
        · refine g_sub (Ln := [(0, .ref (E.2.1 62)), (2, .int v2), (3, .int s.2.1)]) [0, 2, 3] rfl ?_
          exact wbX9_couples_51 F B hE v2 s.2.1 s.1 s.2.2 J h hl K11_0
        · refine g_aload_n F 0 dX9_couples_38 rfl rfl ?_
          refine g_iload_n F 2 dX9_couples_39 rfl rfl ?_
          refine g_iload_n F 3 dX9_couples_40 rfl rfl ?_
          refine u_callV (k := 62) (As := [.int v2, .int s.2.1]) (rest := [.int s.1]) (sn := fun r3 => [.int r3.1, .int s.1]) F B (fun _ => wX9_isTold (zl z) E hE bk v2 s.2.1 s.2.2 J) mX9_isTold q1228 rfl s62 rfl rfl rfl (Nat.le_of_ble_eq_true rfl) dX9_couples_41 (fun _ => rfl) h (fun r3 h => ?_)
          refine u_if_eq (tgt := 51) F dX9_couples_44 (by decide) h (fun h => ?_) (fun h => ?_)
          · refine g_sub (Ln := [(0, .ref (E.2.1 62)), (2, .int v2), (3, .int s.2.1)]) [0, 2, 3] rfl ?_
            exact wbX9_couples_51 F B hE v2 s.2.1 s.1 r3.2 J h hl K11_0
          · refine g_iconst (v := 1) F dX9_couples_47 (by decide) ?_
            refine g_goto (tgt := 52) F dX9_couples_48 (by decide) ?_
            refine g_sub (Ln := [(0, .ref (E.2.1 62)), (2, .int v2), (3, .int s.2.1)]) [0, 2, 3] rfl ?_
            exact wbX9_couples_52 F B hE v2 s.2.1 (1 : Int32) s.1 r3.2 J h hl K11_0
noncomputable def lX9_couples_4 : (Int32 × Int32 × gM) → Option (Int32 × gM) :=
  itO fun s =>
    if (4 : Int32) ≤ s.2.1 then
      some (.inr (s.1, s.2.2))
    else
      (lX9_couples_11 s.2.1 (s.1, (0 : Int32), s.2.2)).bind fun w4 =>
      some (.inl (w4.1, s.2.1 + 1, w4.2))
set_option maxRecDepth 100000 in
set_option maxHeartbeats 4000000 in
theorem wlX9_couples_4 {z : gZ} {E : gE} {bk : Nat} (F : Fx z sh E "LeapJoinModel" cX9_couples (gR 4) 4) (B : bZ z bk) (hE : gDist sh E) (J : gN) {r : Int32 × gM} : ∀ s : Int32 × Int32 × gM, lX9_couples_4 s = some r → (G z 66 [(1, .int r.1)] [] r.2 J) → G z 4 [(0, .ref (E.2.1 62)), (1, .int s.1), (2, .int s.2.1)] [] s.2.2 J := by
  intro s h X0
  unfold lX9_couples_4 at h
  revert s
  refine itO_ind (P := fun s : Int32 × Int32 × gM => G z 4 [(0, .ref (E.2.1 62)), (1, .int s.1), (2, .int s.2.1)] [] s.2.2 J) (fun s y h hl hr => ?_)
  have K4_0 : ∀ x : Int32 × gM, y = .inr x → (G z 66 [(1, .int x.1)] [] x.2 J) := fun x q => by have q2 := hr _ q; subst q2; exact X0
  refine g_iload_n F 2 dX9_couples_4 rfl rfl ?_
  refine g_iconst (v := 4) F dX9_couples_5 (by decide) ?_
  refine u_icmp_ge (tgt := 66) F dX9_couples_6 (by decide) h (fun h => ?_) (fun h => ?_)
  · obtain rfl := Option.some.inj h
    refine g_sub (Ln := [(1, .int s.1)]) [1] rfl ?_
    exact K4_0 (s.1, s.2.2) rfl
  · refine g_iconst (v := 0) F dX9_couples_9 (by decide) ?_
    refine g_istore_n (Ln := [(3, .int 0), (0, .ref (E.2.1 62)), (1, .int s.1), (2, .int s.2.1)]) F dX9_couples_10 rfl (by decide) rfl ?_
    obtain ⟨w4, ew4, h⟩ := ob h
    refine g_sub (Ln := [(0, .ref (E.2.1 62)), (1, .int s.1), (2, .int s.2.1), (3, .int 0)]) [1, 2, 3, 0] rfl ?_
    refine wlX9_couples_11 F B hE s.2.1 J _ ew4 ?_
    refine g_iinc (v := s.2.1 + 1) (Ln := [(2, .int (s.2.1 + 1)), (0, .ref (E.2.1 62)), (1, .int w4.1)]) F 2 dX9_couples_60 rfl (add_c (by decide)) (by decide) rfl ?_
    refine g_goto (tgt := 4) F dX9_couples_63 (by decide) ?_
    obtain rfl := Option.some.inj h
    refine g_sub (Ln := [(0, .ref (E.2.1 62)), (1, .int w4.1), (2, .int (s.2.1 + 1))]) [1, 2, 0] rfl ?_
    exact hl (w4.1, s.2.1 + 1, w4.2) rfl
noncomputable def fX9_couples (I : gM) : Option (Int32 × gM) :=
  (lX9_couples_4 ((0 : Int32), (0 : Int32), I)).bind fun w5 =>
  some (w5.1, w5.2)
set_option maxRecDepth 100000 in
set_option maxHeartbeats 4000000 in
theorem wX9_couples (l : Launch) (E : gE) (hE : gDist sh E) (bk : Nat) (I : gM) (J : gN) {r : Int32 × gM} (h : fX9_couples I = some r) : Cu l sh E bk yX9_couples cX9_couples 4 (some .int) (gR 4) [.ref (E.2.1 62)] I J (fun r1 I1 J1 => r1 = some (.int r.1) ∧ I1 = r.2 ∧ J1 = J) := by
  refine Cu.of "LeapJoinModel" rfl hE (by decide) (Nat.le_of_ble_eq_true rfl) (fun z F B e hl => ?_)
  subst hl
  unfold fX9_couples at h
  refine g_iconst (v := 0) F dX9_couples_0 (by decide) ?_
  refine g_istore_n (Ln := [(1, .int 0), (0, .ref (E.2.1 62))]) F dX9_couples_1 rfl (by decide) rfl ?_
  refine g_iconst (v := 0) F dX9_couples_2 (by decide) ?_
  refine g_istore_n (Ln := [(2, .int 0), (1, .int 0), (0, .ref (E.2.1 62))]) F dX9_couples_3 rfl (by decide) rfl ?_
  obtain ⟨w5, ew5, h⟩ := ob h
  refine g_sub (Ln := [(0, .ref (E.2.1 62)), (1, .int 0), (2, .int 0)]) [2, 1, 0] rfl ?_
  refine wlX9_couples_4 F B hE J _ ew5 ?_
  refine g_iload_n F 0 dX9_couples_66 rfl rfl ?_
  obtain rfl := Option.some.inj h
  exact g_iret F e dX9_couples_67 ⟨rfl, rfl, rfl⟩
theorem dX9_most_26 : decode cX9_most 26 = .ok (.tableswitch 78 0 5 #[38, 43, 43, 58, 63, 68], 38) := by decide +kernel
theorem DX9_most_0 : dAre cX9_most [(0, .aload_n 0, 1), (1, .invokevirtual 277, 3), (4, .ifCond .eq 13, 3), (7, .iload_n 1, 1), (8, .iconst 0, 1), (9, .bipush 6, 2), (11, .invokestatic 104, 3), (14, .ifCond .ne 7, 3), (17, .ldc_w 338, 3), (20, .ireturn, 1), (21, .aload_n 0, 1), (22, .invokevirtual 296, 3), (25, .iload_n 1, 1), (64, .aload_n 0, 1), (65, .invokevirtual 419, 3), (68, .ireturn, 1)] := dAre0 (by decide +kernel)
theorem dX9_most_0 : decode cX9_most 0 = .ok (.aload_n 0, 1) := DX9_most_0.1
theorem dX9_most_1 : decode cX9_most 1 = .ok (.invokevirtual 277, 3) := DX9_most_0.2.1
theorem dX9_most_4 : decode cX9_most 4 = .ok (.ifCond .eq 13, 3) := DX9_most_0.2.2.1
theorem dX9_most_7 : decode cX9_most 7 = .ok (.iload_n 1, 1) := DX9_most_0.2.2.2.1
theorem dX9_most_8 : decode cX9_most 8 = .ok (.iconst 0, 1) := DX9_most_0.2.2.2.2.1
theorem dX9_most_9 : decode cX9_most 9 = .ok (.bipush 6, 2) := DX9_most_0.2.2.2.2.2.1
theorem dX9_most_11 : decode cX9_most 11 = .ok (.invokestatic 104, 3) := DX9_most_0.2.2.2.2.2.2.1
theorem dX9_most_14 : decode cX9_most 14 = .ok (.ifCond .ne 7, 3) := DX9_most_0.2.2.2.2.2.2.2.1
theorem dX9_most_17 : decode cX9_most 17 = .ok (.ldc_w 338, 3) := DX9_most_0.2.2.2.2.2.2.2.2.1
theorem dX9_most_20 : decode cX9_most 20 = .ok (.ireturn, 1) := DX9_most_0.2.2.2.2.2.2.2.2.2.1
theorem dX9_most_21 : decode cX9_most 21 = .ok (.aload_n 0, 1) := DX9_most_0.2.2.2.2.2.2.2.2.2.2.1
theorem dX9_most_22 : decode cX9_most 22 = .ok (.invokevirtual 296, 3) := DX9_most_0.2.2.2.2.2.2.2.2.2.2.2.1
theorem dX9_most_25 : decode cX9_most 25 = .ok (.iload_n 1, 1) := DX9_most_0.2.2.2.2.2.2.2.2.2.2.2.2.1
theorem dX9_most_64 : decode cX9_most 64 = .ok (.aload_n 0, 1) := DX9_most_0.2.2.2.2.2.2.2.2.2.2.2.2.2.1
theorem dX9_most_65 : decode cX9_most 65 = .ok (.invokevirtual 419, 3) := DX9_most_0.2.2.2.2.2.2.2.2.2.2.2.2.2.2.1
theorem dX9_most_68 : decode cX9_most 68 = .ok (.ireturn, 1) := DX9_most_0.2.2.2.2.2.2.2.2.2.2.2.2.2.2.2.1
theorem DX9_most_69 : dAre cX9_most [(69, .aload_n 0, 1), (70, .iload_n 1, 1), (71, .iconst 2, 1), (72, .if_icmp .ne 7, 3), (75, .iconst 1, 1), (76, .goto 4, 3), (79, .iconst 0, 1), (80, .invokevirtual 422, 3), (83, .ireturn, 1), (84, .aload_n 0, 1), (85, .invokevirtual 426, 3), (88, .ireturn, 1), (89, .aload_n 0, 1), (90, .invokevirtual 429, 3), (93, .ireturn, 1), (94, .aload_n 0, 1)] := dAre0 (by decide +kernel)
theorem dX9_most_69 : decode cX9_most 69 = .ok (.aload_n 0, 1) := DX9_most_69.1
theorem dX9_most_70 : decode cX9_most 70 = .ok (.iload_n 1, 1) := DX9_most_69.2.1
theorem dX9_most_71 : decode cX9_most 71 = .ok (.iconst 2, 1) := DX9_most_69.2.2.1
theorem dX9_most_72 : decode cX9_most 72 = .ok (.if_icmp .ne 7, 3) := DX9_most_69.2.2.2.1
theorem dX9_most_75 : decode cX9_most 75 = .ok (.iconst 1, 1) := DX9_most_69.2.2.2.2.1
theorem dX9_most_76 : decode cX9_most 76 = .ok (.goto 4, 3) := DX9_most_69.2.2.2.2.2.1
theorem dX9_most_79 : decode cX9_most 79 = .ok (.iconst 0, 1) := DX9_most_69.2.2.2.2.2.2.1
theorem dX9_most_80 : decode cX9_most 80 = .ok (.invokevirtual 422, 3) := DX9_most_69.2.2.2.2.2.2.2.1
theorem dX9_most_83 : decode cX9_most 83 = .ok (.ireturn, 1) := DX9_most_69.2.2.2.2.2.2.2.2.1
theorem dX9_most_84 : decode cX9_most 84 = .ok (.aload_n 0, 1) := DX9_most_69.2.2.2.2.2.2.2.2.2.1
theorem dX9_most_85 : decode cX9_most 85 = .ok (.invokevirtual 426, 3) := DX9_most_69.2.2.2.2.2.2.2.2.2.2.1
theorem dX9_most_88 : decode cX9_most 88 = .ok (.ireturn, 1) := DX9_most_69.2.2.2.2.2.2.2.2.2.2.2.1
theorem dX9_most_89 : decode cX9_most 89 = .ok (.aload_n 0, 1) := DX9_most_69.2.2.2.2.2.2.2.2.2.2.2.2.1
theorem dX9_most_90 : decode cX9_most 90 = .ok (.invokevirtual 429, 3) := DX9_most_69.2.2.2.2.2.2.2.2.2.2.2.2.2.1
theorem dX9_most_93 : decode cX9_most 93 = .ok (.ireturn, 1) := DX9_most_69.2.2.2.2.2.2.2.2.2.2.2.2.2.2.1
theorem dX9_most_94 : decode cX9_most 94 = .ok (.aload_n 0, 1) := DX9_most_69.2.2.2.2.2.2.2.2.2.2.2.2.2.2.2.1
theorem DX9_most_95 : dAre cX9_most [(95, .iconst 0, 1), (96, .invokevirtual 274, 3), (99, .aload_n 0, 1), (100, .getfield 244, 3), (103, .ireturn, 1), (104, .aload_n 0, 1), (105, .invokevirtual 357, 3), (108, .aload_n 0, 1), (109, .getfield 351, 3), (112, .ireturn, 1)] := dAre0 (by decide +kernel)
theorem dX9_most_95 : decode cX9_most 95 = .ok (.iconst 0, 1) := DX9_most_95.1
theorem dX9_most_96 : decode cX9_most 96 = .ok (.invokevirtual 274, 3) := DX9_most_95.2.1
theorem dX9_most_99 : decode cX9_most 99 = .ok (.aload_n 0, 1) := DX9_most_95.2.2.1
theorem dX9_most_100 : decode cX9_most 100 = .ok (.getfield 244, 3) := DX9_most_95.2.2.2.1
theorem dX9_most_103 : decode cX9_most 103 = .ok (.ireturn, 1) := DX9_most_95.2.2.2.2.1
theorem dX9_most_104 : decode cX9_most 104 = .ok (.aload_n 0, 1) := DX9_most_95.2.2.2.2.2.1
theorem dX9_most_105 : decode cX9_most 105 = .ok (.invokevirtual 357, 3) := DX9_most_95.2.2.2.2.2.2.1
theorem dX9_most_108 : decode cX9_most 108 = .ok (.aload_n 0, 1) := DX9_most_95.2.2.2.2.2.2.2.1
theorem dX9_most_109 : decode cX9_most 109 = .ok (.getfield 351, 3) := DX9_most_95.2.2.2.2.2.2.2.2.1
theorem dX9_most_112 : decode cX9_most 112 = .ok (.ireturn, 1) := DX9_most_95.2.2.2.2.2.2.2.2.2.1
theorem mX9_most : gMv yX9_most cX9_most 2 (some .int) RX9 1 := ⟨q1315, q1316, q10, q1317, rfl, by decide, by decide, by decide +kernel⟩
noncomputable def bX9_most_80 (t0 : Int32) (I : gM) : Option (Int32 × gM) :=
  (fX9_greatestTable t0 I).bind fun r5 =>
  some (r5, I)
set_option maxRecDepth 100000 in
set_option maxHeartbeats 4000000 in
theorem wbX9_most_80 {z : gZ} {E : gE} {bk : Nat} (F : Fx z sh E "LeapJoinModel" cX9_most (gR 13) 2) (B : bZ z bk) (hE : gDist sh E) (t0 : Int32) (I : gM) (J : gN) {y : Int32 × gM} (h : bX9_most_80 t0 I = some y) (e : Fe z sh E (some .int) (fun r1 I1 J1 => r1 = some (.int y.1) ∧ I1 = y.2 ∧ J1 = J)) : G z 80 [] [.int t0, .ref (E.2.1 62)] I J := by
  unfold bX9_most_80 at h
  refine u_callV (k := 62) (As := [.int t0]) (rest := []) (sn := fun r5 => [.int r5]) F B (fun _ => wX9_greatestTable (zl z) E hE bk t0 I J) mX9_greatestTable q1321 rfl s62 rfl rfl rfl (Nat.le_of_ble_eq_true rfl) dX9_most_80 (fun _ => rfl) h (fun r5 h => ?_)
  obtain rfl := Option.some.inj h
  exact g_iret F e dX9_most_83 ⟨rfl, rfl, rfl⟩
noncomputable def fX9_most (v1 : Int32) (I : gM) : Option (Int32 × gM) :=
  (fX9_areTables I).bind fun r1 =>
  if r1 = 0 then
    some (((-1000000) : Int32), I)
  else
    (fX9_in v1 (0 : Int32) (6 : Int32)).bind fun r2 =>
    if r2 = 0 then
      some (((-1000000) : Int32), I)
    else
      (fX9_joinsNow I).bind fun r3 =>
      if v1 = 0 then
        (fX9_sumOfRows r3).bind fun r4 =>
        some (r4, r3)
      else
      if v1 = 1 then
        if v1 = 2 then
          bX9_most_80 (1 : Int32) r3
        else
          bX9_most_80 (0 : Int32) r3
      else
      if v1 = 2 then
        if v1 = 2 then
          bX9_most_80 (1 : Int32) r3
        else
          bX9_most_80 (0 : Int32) r3
      else
      if v1 = 3 then
        (fX9_notGiven r3).bind fun r6 =>
        some (r6, r3)
      else
      if v1 = 4 then
        (fX9_couples r3).bind fun r7 =>
        some (r7.1, r7.2)
      else
      if v1 = 5 then
        (fX9_joins (0 : Int32) r3).bind fun r8 =>
        some (r8 62 27, r8)
      else
      (fX9_triesOrders r3).bind fun r9 =>
      some (r9 62 33, r9)
set_option maxRecDepth 100000 in
set_option maxHeartbeats 4000000 in
theorem wX9_most (l : Launch) (E : gE) (hE : gDist sh E) (bk : Nat) (v1 : Int32) (I : gM) (J : gN) {r : Int32 × gM} (h : fX9_most v1 I = some r) : Cu l sh E bk yX9_most cX9_most 2 (some .int) (gR 13) [.ref (E.2.1 62), .int v1] I J (fun r1 I1 J1 => r1 = some (.int r.1) ∧ I1 = r.2 ∧ J1 = J) := by
  refine Cu.of "LeapJoinModel" rfl hE (by decide) (Nat.le_of_ble_eq_true rfl) (fun z F B e hl => ?_)
  subst hl
  unfold fX9_most at h
  refine g_aload_n F 0 dX9_most_0 rfl rfl ?_
  refine u_callV (k := 62) (As := []) (rest := []) (sn := fun r1 => [.int r1]) F B (fun _ => wX9_areTables (zl z) E hE bk  I J) mX9_areTables q1028 rfl s62 rfl rfl rfl (Nat.le_of_ble_eq_true rfl) dX9_most_1 (fun _ => rfl) h (fun r1 h => ?_)
  refine u_if_eq (tgt := 17) F dX9_most_4 (by decide) h (fun h => ?_) (fun h => ?_)
  · refine g_ldc_w F dX9_most_17 q1143 ?_
    obtain rfl := Option.some.inj h
    exact g_iret F e dX9_most_20 ⟨rfl, rfl, rfl⟩
  · refine g_iload_n F 1 dX9_most_7 rfl rfl ?_
    refine g_iconst (v := 0) F dX9_most_8 (by decide) ?_
    refine g_bipush (v := 6) F dX9_most_9 (by decide) ?_
    refine u_callS (As := [.int v1, .int 0, .int 6]) (rest := []) (sn := fun r2 => [.int r2]) F B (fun _ => wX9_in (zl z) E hE bk v1 (0 : Int32) (6 : Int32) I J) mX9_in q923 rfl rfl rfl (Nat.le_of_ble_eq_true rfl) dX9_most_11 (fun _ => rfl) h (fun r2 h => ?_)
    refine u_if_ne (tgt := 21) F dX9_most_14 (by decide) h (fun h => ?_) (fun h => ?_)
    · refine g_ldc_w F dX9_most_17 q1143 ?_
      obtain rfl := Option.some.inj h
      exact g_iret F e dX9_most_20 ⟨rfl, rfl, rfl⟩
    · refine g_aload_n F 0 dX9_most_21 rfl rfl ?_
      refine u_callV (k := 62) (As := []) (rest := []) (sn := fun _ => []) F B (fun _ => wX9_joinsNow (zl z) E hE bk  I J) mX9_joinsNow q1052 rfl s62 rfl rfl rfl (Nat.le_of_ble_eq_true rfl) dX9_most_22 (fun _ => rfl) h (fun r3 h => ?_)
      refine g_iload_n F 1 dX9_most_25 rfl rfl ?_
      rcases oi h with ⟨c26_0, h⟩ | ⟨c26_0, h⟩
      · refine g_tableIn (tgt := 64) F dX9_most_26 (by rw [c26_0]; decide) (by rw [c26_0]; decide) (by rw [c26_0]; rfl) (by decide) ?_
        refine g_aload_n F 0 dX9_most_64 rfl rfl ?_
        refine u_callV (k := 62) (As := []) (rest := []) (sn := fun r4 => [.int r4]) F B (fun _ => wX9_sumOfRows (zl z) E hE bk  r3 J) mX9_sumOfRows q1318 rfl s62 rfl rfl rfl (Nat.le_of_ble_eq_true rfl) dX9_most_65 (fun _ => rfl) h (fun r4 h => ?_)
        obtain rfl := Option.some.inj h
        exact g_iret F e dX9_most_68 ⟨rfl, rfl, rfl⟩
      rcases oi h with ⟨c26_1, h⟩ | ⟨c26_1, h⟩
      · refine g_tableIn (tgt := 69) F dX9_most_26 (by rw [c26_1]; decide) (by rw [c26_1]; decide) (by rw [c26_1]; rfl) (by decide) ?_
        refine g_aload_n F 0 dX9_most_69 rfl rfl ?_
        refine g_iload_n F 1 dX9_most_70 rfl rfl ?_
        refine g_iconst (v := 2) F dX9_most_71 (by decide) ?_
        refine u_icmp_ne (tgt := 79) F dX9_most_72 (by decide) h (fun h => ?_) (fun h => ?_)
        · refine g_iconst (v := 1) F dX9_most_75 (by decide) ?_
          refine g_goto (tgt := 80) F dX9_most_76 (by decide) ?_
          refine g_sub (Ln := []) [] rfl ?_
          exact wbX9_most_80 F B hE (1 : Int32) r3 J h e
        · refine g_iconst (v := 0) F dX9_most_79 (by decide) ?_
          refine g_sub (Ln := []) [] rfl ?_
          exact wbX9_most_80 F B hE (0 : Int32) r3 J h e
      rcases oi h with ⟨c26_2, h⟩ | ⟨c26_2, h⟩
      · refine g_tableIn (tgt := 69) F dX9_most_26 (by rw [c26_2]; decide) (by rw [c26_2]; decide) (by rw [c26_2]; rfl) (by decide) ?_
        refine g_aload_n F 0 dX9_most_69 rfl rfl ?_
        refine g_iload_n F 1 dX9_most_70 rfl rfl ?_
        refine g_iconst (v := 2) F dX9_most_71 (by decide) ?_
        refine u_icmp_ne (tgt := 79) F dX9_most_72 (by decide) h (fun h => ?_) (fun h => ?_)
        · refine g_iconst (v := 1) F dX9_most_75 (by decide) ?_
          refine g_goto (tgt := 80) F dX9_most_76 (by decide) ?_
          refine g_sub (Ln := []) [] rfl ?_
          exact wbX9_most_80 F B hE (1 : Int32) r3 J h e
        · refine g_iconst (v := 0) F dX9_most_79 (by decide) ?_
          refine g_sub (Ln := []) [] rfl ?_
          exact wbX9_most_80 F B hE (0 : Int32) r3 J h e
      rcases oi h with ⟨c26_3, h⟩ | ⟨c26_3, h⟩
      · refine g_tableIn (tgt := 84) F dX9_most_26 (by rw [c26_3]; decide) (by rw [c26_3]; decide) (by rw [c26_3]; rfl) (by decide) ?_
        refine g_aload_n F 0 dX9_most_84 rfl rfl ?_
        refine u_callV (k := 62) (As := []) (rest := []) (sn := fun r6 => [.int r6]) F B (fun _ => wX9_notGiven (zl z) E hE bk  r3 J) mX9_notGiven q1327 rfl s62 rfl rfl rfl (Nat.le_of_ble_eq_true rfl) dX9_most_85 (fun _ => rfl) h (fun r6 h => ?_)
        obtain rfl := Option.some.inj h
        exact g_iret F e dX9_most_88 ⟨rfl, rfl, rfl⟩
      rcases oi h with ⟨c26_4, h⟩ | ⟨c26_4, h⟩
      · refine g_tableIn (tgt := 89) F dX9_most_26 (by rw [c26_4]; decide) (by rw [c26_4]; decide) (by rw [c26_4]; rfl) (by decide) ?_
        refine g_aload_n F 0 dX9_most_89 rfl rfl ?_
        refine u_callV (k := 62) (As := []) (rest := []) (sn := fun r7 => [.int r7.1]) F B (fun _ => wX9_couples (zl z) E hE bk  r3 J) mX9_couples q1330 rfl s62 rfl rfl rfl (Nat.le_of_ble_eq_true rfl) dX9_most_90 (fun _ => rfl) h (fun r7 h => ?_)
        obtain rfl := Option.some.inj h
        exact g_iret F e dX9_most_93 ⟨rfl, rfl, rfl⟩
      rcases oi h with ⟨c26_5, h⟩ | ⟨c26_5, h⟩
      · refine g_tableIn (tgt := 94) F dX9_most_26 (by rw [c26_5]; decide) (by rw [c26_5]; decide) (by rw [c26_5]; rfl) (by decide) ?_
        refine g_aload_n F 0 dX9_most_94 rfl rfl ?_
        refine g_iconst (v := 0) F dX9_most_95 (by decide) ?_
        refine u_callV (k := 62) (As := [.int 0]) (rest := []) (sn := fun _ => []) F B (fun _ => wX9_joins (zl z) E hE bk (0 : Int32) r3 J) mX9_joins q1055 rfl s62 rfl rfl rfl (Nat.le_of_ble_eq_true rfl) dX9_most_96 (fun _ => rfl) h (fun r8 h => ?_)
        refine g_aload_n F 0 dX9_most_99 rfl rfl ?_
        refine g_geti (j := 27) (v := r8 62 27) F s62 rfl rfl uX9 (by decide) q848 rfl dX9_most_100 ?_
        obtain rfl := Option.some.inj h
        exact g_iret F e dX9_most_103 ⟨rfl, rfl, rfl⟩
      refine g_tableOut (tgt := 104) F dX9_most_26 (by have q0 : ¬ (v1).toInt = 0 := fun q => c26_0 (Int32.toInt_inj.mp (q.trans (by decide))); have q1 : ¬ (v1).toInt = 1 := fun q => c26_1 (Int32.toInt_inj.mp (q.trans (by decide))); have q2 : ¬ (v1).toInt = 2 := fun q => c26_2 (Int32.toInt_inj.mp (q.trans (by decide))); have q3 : ¬ (v1).toInt = 3 := fun q => c26_3 (Int32.toInt_inj.mp (q.trans (by decide))); have q4 : ¬ (v1).toInt = 4 := fun q => c26_4 (Int32.toInt_inj.mp (q.trans (by decide))); have q5 : ¬ (v1).toInt = 5 := fun q => c26_5 (Int32.toInt_inj.mp (q.trans (by decide))); omega) (by decide) ?_
      refine g_aload_n F 0 dX9_most_104 rfl rfl ?_
      refine u_callV (k := 62) (As := []) (rest := []) (sn := fun _ => []) F B (fun _ => wX9_triesOrders (zl z) E hE bk  r3 J) mX9_triesOrders q1185 rfl s62 rfl rfl rfl (Nat.le_of_ble_eq_true rfl) dX9_most_105 (fun _ => rfl) h (fun r9 h => ?_)
      refine g_aload_n F 0 dX9_most_108 rfl rfl ?_
      refine g_geti (j := 33) (v := r9 62 33) F s62 rfl rfl uX9 (by decide) q854 rfl dX9_most_109 ?_
      obtain rfl := Option.some.inj h
      exact g_iret F e dX9_most_112 ⟨rfl, rfl, rfl⟩
theorem DX9_image_0 : dAre cX9_image [(0, .aload_n 0, 1), (1, .invokevirtual 277, 3), (4, .ifCond .ne 5, 3), (7, .iconst (-1), 1), (8, .ireturn, 1), (9, .iconst 0, 1), (10, .istore_n 1, 1), (11, .iload_n 1, 1), (12, .sipush 331, 3), (15, .if_icmp .ge 21, 3), (18, .aload_n 0, 1), (19, .getfield 90, 3), (22, .iload_n 1, 1), (23, .aload_n 0, 1), (24, .getfield 31, 3), (27, .iload_n 1, 1)] := dAre0 (by decide +kernel)
theorem dX9_image_0 : decode cX9_image 0 = .ok (.aload_n 0, 1) := DX9_image_0.1
theorem dX9_image_1 : decode cX9_image 1 = .ok (.invokevirtual 277, 3) := DX9_image_0.2.1
theorem dX9_image_4 : decode cX9_image 4 = .ok (.ifCond .ne 5, 3) := DX9_image_0.2.2.1
theorem dX9_image_7 : decode cX9_image 7 = .ok (.iconst (-1), 1) := DX9_image_0.2.2.2.1
theorem dX9_image_8 : decode cX9_image 8 = .ok (.ireturn, 1) := DX9_image_0.2.2.2.2.1
theorem dX9_image_9 : decode cX9_image 9 = .ok (.iconst 0, 1) := DX9_image_0.2.2.2.2.2.1
theorem dX9_image_10 : decode cX9_image 10 = .ok (.istore_n 1, 1) := DX9_image_0.2.2.2.2.2.2.1
theorem dX9_image_11 : decode cX9_image 11 = .ok (.iload_n 1, 1) := DX9_image_0.2.2.2.2.2.2.2.1
theorem dX9_image_12 : decode cX9_image 12 = .ok (.sipush 331, 3) := DX9_image_0.2.2.2.2.2.2.2.2.1
theorem dX9_image_15 : decode cX9_image 15 = .ok (.if_icmp .ge 21, 3) := DX9_image_0.2.2.2.2.2.2.2.2.2.1
theorem dX9_image_18 : decode cX9_image 18 = .ok (.aload_n 0, 1) := DX9_image_0.2.2.2.2.2.2.2.2.2.2.1
theorem dX9_image_19 : decode cX9_image 19 = .ok (.getfield 90, 3) := DX9_image_0.2.2.2.2.2.2.2.2.2.2.2.1
theorem dX9_image_22 : decode cX9_image 22 = .ok (.iload_n 1, 1) := DX9_image_0.2.2.2.2.2.2.2.2.2.2.2.2.1
theorem dX9_image_23 : decode cX9_image 23 = .ok (.aload_n 0, 1) := DX9_image_0.2.2.2.2.2.2.2.2.2.2.2.2.2.1
theorem dX9_image_24 : decode cX9_image 24 = .ok (.getfield 31, 3) := DX9_image_0.2.2.2.2.2.2.2.2.2.2.2.2.2.2.1
theorem dX9_image_27 : decode cX9_image 27 = .ok (.iload_n 1, 1) := DX9_image_0.2.2.2.2.2.2.2.2.2.2.2.2.2.2.2.1
theorem DX9_image_28 : dAre cX9_image [(28, .iaload, 1), (29, .iastore, 1), (30, .iinc 1 1, 3), (33, .goto (-22), 3), (36, .aload_n 0, 1), (37, .iconst 1, 1), (38, .putfield 207, 3), (41, .aload_n 0, 1), (42, .invokevirtual 299, 3), (45, .ireturn, 1)] := dAre0 (by decide +kernel)
theorem dX9_image_28 : decode cX9_image 28 = .ok (.iaload, 1) := DX9_image_28.1
theorem dX9_image_29 : decode cX9_image 29 = .ok (.iastore, 1) := DX9_image_28.2.1
theorem dX9_image_30 : decode cX9_image 30 = .ok (.iinc 1 1, 3) := DX9_image_28.2.2.1
theorem dX9_image_33 : decode cX9_image 33 = .ok (.goto (-22), 3) := DX9_image_28.2.2.2.1
theorem dX9_image_36 : decode cX9_image 36 = .ok (.aload_n 0, 1) := DX9_image_28.2.2.2.2.1
theorem dX9_image_37 : decode cX9_image 37 = .ok (.iconst 1, 1) := DX9_image_28.2.2.2.2.2.1
theorem dX9_image_38 : decode cX9_image 38 = .ok (.putfield 207, 3) := DX9_image_28.2.2.2.2.2.2.1
theorem dX9_image_41 : decode cX9_image 41 = .ok (.aload_n 0, 1) := DX9_image_28.2.2.2.2.2.2.2.1
theorem dX9_image_42 : decode cX9_image 42 = .ok (.invokevirtual 299, 3) := DX9_image_28.2.2.2.2.2.2.2.2.1
theorem dX9_image_45 : decode cX9_image 45 = .ok (.ireturn, 1) := DX9_image_28.2.2.2.2.2.2.2.2.2.1
theorem mX9_image : gMv yX9_image cX9_image 2 (some .int) RX9 0 := ⟨q1334, q1335, q10, q1336, rfl, by decide, by decide, by decide +kernel⟩
noncomputable def lX9_image_11 : (Int32 × gM) → Option (gM) :=
  itO fun s =>
    if (331 : Int32) ≤ s.1 then
      some (.inr s.2)
    else
      (rI 331 (s.2 70) s.1).bind fun u2 =>
      (wI s.2 89 331 s.1 u2).bind fun I3 =>
      some (.inl (s.1 + 1, I3))
set_option maxRecDepth 100000 in
set_option maxHeartbeats 4000000 in
theorem wlX9_image_11 {z : gZ} {E : gE} {bk : Nat} (F : Fx z sh E "LeapJoinModel" cX9_image (gR 14) 2) (B : bZ z bk) (hE : gDist sh E) (J : gN) {r : gM} : ∀ s : Int32 × gM, lX9_image_11 s = some r → (G z 36 [(0, .ref (E.2.1 62))] [] r J) → G z 11 [(0, .ref (E.2.1 62)), (1, .int s.1)] [] s.2 J := by
  intro s h X0
  unfold lX9_image_11 at h
  revert s
  refine itO_ind (P := fun s : Int32 × gM => G z 11 [(0, .ref (E.2.1 62)), (1, .int s.1)] [] s.2 J) (fun s y h hl hr => ?_)
  have K11_0 : ∀ x : gM, y = .inr x → (G z 36 [(0, .ref (E.2.1 62))] [] x J) := fun x q => by have q2 := hr _ q; subst q2; exact X0
  refine g_iload_n F 1 dX9_image_11 rfl rfl ?_
  refine g_sipush (v := 331) F dX9_image_12 (by decide) ?_
  refine u_icmp_ge (tgt := 36) F dX9_image_15 (by decide) h (fun h => ?_) (fun h => ?_)
  · obtain rfl := Option.some.inj h
    refine g_sub (Ln := [(0, .ref (E.2.1 62))]) [0] rfl ?_
    exact K11_0 s.2 rfl
  · refine g_aload_n F 0 dX9_image_18 rfl rfl ?_
    refine g_getr (j := 41) (nn := 89) F s62 rfl rfl uX9 (by decide) q862 dX9_image_19 ?_
    refine g_iload_n F 1 dX9_image_22 rfl rfl ?_
    refine g_aload_n F 0 dX9_image_23 rfl rfl ?_
    refine g_getr (j := 13) (nn := 70) F s62 rfl rfl uX9 (by decide) q834 dX9_image_24 ?_
    refine g_iload_n F 1 dX9_image_27 rfl rfl ?_
    refine u_rI F s70 (by decide) dX9_image_28 h (fun u2 h => ?_)
    refine u_wI F s89 (by decide) dX9_image_29 h (fun I3 h => ?_)
    refine g_iinc (v := s.1 + 1) (Ln := [(1, .int (s.1 + 1)), (0, .ref (E.2.1 62))]) F 1 dX9_image_30 rfl (add_c (by decide)) (by decide) rfl ?_
    refine g_goto (tgt := 11) F dX9_image_33 (by decide) ?_
    obtain rfl := Option.some.inj h
    refine g_sub (Ln := [(0, .ref (E.2.1 62)), (1, .int (s.1 + 1))]) [1, 0] rfl ?_
    exact hl (s.1 + 1, I3) rfl
noncomputable def fX9_image (I : gM) : Option (Int32 × gM) :=
  (fX9_areTables I).bind fun r1 =>
  if r1 = 0 then
    some (((-1) : Int32), I)
  else
    (lX9_image_11 ((0 : Int32), I)).bind fun w4 =>
    (pU w4 62 42 (1 : Int32)).bind fun I5 =>
    (fX9_rowsNow I5).bind fun r6 =>
    some (r6.1, r6.2)
set_option maxRecDepth 100000 in
set_option maxHeartbeats 4000000 in
theorem wX9_image (l : Launch) (E : gE) (hE : gDist sh E) (bk : Nat) (I : gM) (J : gN) {r : Int32 × gM} (h : fX9_image I = some r) : Cu l sh E bk yX9_image cX9_image 2 (some .int) (gR 14) [.ref (E.2.1 62)] I J (fun r1 I1 J1 => r1 = some (.int r.1) ∧ I1 = r.2 ∧ J1 = J) := by
  refine Cu.of "LeapJoinModel" rfl hE (by decide) (Nat.le_of_ble_eq_true rfl) (fun z F B e hl => ?_)
  subst hl
  unfold fX9_image at h
  refine g_aload_n F 0 dX9_image_0 rfl rfl ?_
  refine u_callV (k := 62) (As := []) (rest := []) (sn := fun r1 => [.int r1]) F B (fun _ => wX9_areTables (zl z) E hE bk  I J) mX9_areTables q1028 rfl s62 rfl rfl rfl (Nat.le_of_ble_eq_true rfl) dX9_image_1 (fun _ => rfl) h (fun r1 h => ?_)
  refine u_if_ne (tgt := 9) F dX9_image_4 (by decide) h (fun h => ?_) (fun h => ?_)
  · refine g_iconst (v := (-1)) F dX9_image_7 (by decide) ?_
    obtain rfl := Option.some.inj h
    exact g_iret F e dX9_image_8 ⟨rfl, rfl, rfl⟩
  · refine g_iconst (v := 0) F dX9_image_9 (by decide) ?_
    refine g_istore_n (Ln := [(1, .int 0), (0, .ref (E.2.1 62))]) F dX9_image_10 rfl (by decide) rfl ?_
    obtain ⟨w4, ew4, h⟩ := ob h
    refine g_sub (Ln := [(0, .ref (E.2.1 62)), (1, .int 0)]) [1, 0] rfl ?_
    refine wlX9_image_11 F B hE J _ ew4 ?_
    refine g_aload_n F 0 dX9_image_36 rfl rfl ?_
    refine g_iconst (v := 1) F dX9_image_37 (by decide) ?_
    refine u_puti (j := 42) F s62 rfl rfl uX9 (by decide) q863 tyX9_ok nmX9 rfl rfl rfl dX9_image_38 h (fun I5 h => ?_)
    refine g_aload_n F 0 dX9_image_41 rfl rfl ?_
    refine u_callV (k := 62) (As := []) (rest := []) (sn := fun r6 => [.int r6.1]) F B (fun _ => wX9_rowsNow (zl z) E hE bk  I5 J) mX9_rowsNow q1049 rfl s62 rfl rfl rfl (Nat.le_of_ble_eq_true rfl) dX9_image_42 (fun _ => rfl) h (fun r6 h => ?_)
    obtain rfl := Option.some.inj h
    exact g_iret F e dX9_image_45 ⟨rfl, rfl, rfl⟩
theorem DX9_back_0 : dAre cX9_back [(0, .aload_n 0, 1), (1, .getfield 207, 3), (4, .ifCond .ne 5, 3), (7, .iconst (-1), 1), (8, .ireturn, 1), (9, .iconst 0, 1), (10, .istore_n 1, 1), (11, .iload_n 1, 1), (12, .sipush 331, 3), (15, .if_icmp .ge 21, 3), (18, .aload_n 0, 1), (19, .getfield 31, 3), (22, .iload_n 1, 1), (23, .aload_n 0, 1), (24, .getfield 90, 3), (27, .iload_n 1, 1)] := dAre0 (by decide +kernel)
theorem dX9_back_0 : decode cX9_back 0 = .ok (.aload_n 0, 1) := DX9_back_0.1
theorem dX9_back_1 : decode cX9_back 1 = .ok (.getfield 207, 3) := DX9_back_0.2.1
theorem dX9_back_4 : decode cX9_back 4 = .ok (.ifCond .ne 5, 3) := DX9_back_0.2.2.1
theorem dX9_back_7 : decode cX9_back 7 = .ok (.iconst (-1), 1) := DX9_back_0.2.2.2.1
theorem dX9_back_8 : decode cX9_back 8 = .ok (.ireturn, 1) := DX9_back_0.2.2.2.2.1
theorem dX9_back_9 : decode cX9_back 9 = .ok (.iconst 0, 1) := DX9_back_0.2.2.2.2.2.1
theorem dX9_back_10 : decode cX9_back 10 = .ok (.istore_n 1, 1) := DX9_back_0.2.2.2.2.2.2.1
theorem dX9_back_11 : decode cX9_back 11 = .ok (.iload_n 1, 1) := DX9_back_0.2.2.2.2.2.2.2.1
theorem dX9_back_12 : decode cX9_back 12 = .ok (.sipush 331, 3) := DX9_back_0.2.2.2.2.2.2.2.2.1
theorem dX9_back_15 : decode cX9_back 15 = .ok (.if_icmp .ge 21, 3) := DX9_back_0.2.2.2.2.2.2.2.2.2.1
theorem dX9_back_18 : decode cX9_back 18 = .ok (.aload_n 0, 1) := DX9_back_0.2.2.2.2.2.2.2.2.2.2.1
theorem dX9_back_19 : decode cX9_back 19 = .ok (.getfield 31, 3) := DX9_back_0.2.2.2.2.2.2.2.2.2.2.2.1
theorem dX9_back_22 : decode cX9_back 22 = .ok (.iload_n 1, 1) := DX9_back_0.2.2.2.2.2.2.2.2.2.2.2.2.1
theorem dX9_back_23 : decode cX9_back 23 = .ok (.aload_n 0, 1) := DX9_back_0.2.2.2.2.2.2.2.2.2.2.2.2.2.1
theorem dX9_back_24 : decode cX9_back 24 = .ok (.getfield 90, 3) := DX9_back_0.2.2.2.2.2.2.2.2.2.2.2.2.2.2.1
theorem dX9_back_27 : decode cX9_back 27 = .ok (.iload_n 1, 1) := DX9_back_0.2.2.2.2.2.2.2.2.2.2.2.2.2.2.2.1
theorem DX9_back_28 : dAre cX9_back [(28, .iaload, 1), (29, .iastore, 1), (30, .iinc 1 1, 3), (33, .goto (-22), 3), (36, .aload_n 0, 1), (37, .iconst 0, 1), (38, .putfield 204, 3), (41, .aload_n 0, 1), (42, .invokevirtual 299, 3), (45, .ireturn, 1)] := dAre0 (by decide +kernel)
theorem dX9_back_28 : decode cX9_back 28 = .ok (.iaload, 1) := DX9_back_28.1
theorem dX9_back_29 : decode cX9_back 29 = .ok (.iastore, 1) := DX9_back_28.2.1
theorem dX9_back_30 : decode cX9_back 30 = .ok (.iinc 1 1, 3) := DX9_back_28.2.2.1
theorem dX9_back_33 : decode cX9_back 33 = .ok (.goto (-22), 3) := DX9_back_28.2.2.2.1
theorem dX9_back_36 : decode cX9_back 36 = .ok (.aload_n 0, 1) := DX9_back_28.2.2.2.2.1
theorem dX9_back_37 : decode cX9_back 37 = .ok (.iconst 0, 1) := DX9_back_28.2.2.2.2.2.1
theorem dX9_back_38 : decode cX9_back 38 = .ok (.putfield 204, 3) := DX9_back_28.2.2.2.2.2.2.1
theorem dX9_back_41 : decode cX9_back 41 = .ok (.aload_n 0, 1) := DX9_back_28.2.2.2.2.2.2.2.1
theorem dX9_back_42 : decode cX9_back 42 = .ok (.invokevirtual 299, 3) := DX9_back_28.2.2.2.2.2.2.2.2.1
theorem dX9_back_45 : decode cX9_back 45 = .ok (.ireturn, 1) := DX9_back_28.2.2.2.2.2.2.2.2.2.1
theorem mX9_back : gMv yX9_back cX9_back 2 (some .int) RX9 0 := ⟨q1338, q1339, q10, q1340, rfl, by decide, by decide, by decide +kernel⟩
noncomputable def lX9_back_11 : (Int32 × gM) → Option (gM) :=
  itO fun s =>
    if (331 : Int32) ≤ s.1 then
      some (.inr s.2)
    else
      (rI 331 (s.2 89) s.1).bind fun u1 =>
      (wI s.2 70 331 s.1 u1).bind fun I2 =>
      some (.inl (s.1 + 1, I2))
set_option maxRecDepth 100000 in
set_option maxHeartbeats 4000000 in
theorem wlX9_back_11 {z : gZ} {E : gE} {bk : Nat} (F : Fx z sh E "LeapJoinModel" cX9_back (gR 14) 2) (B : bZ z bk) (hE : gDist sh E) (J : gN) {r : gM} : ∀ s : Int32 × gM, lX9_back_11 s = some r → (G z 36 [(0, .ref (E.2.1 62))] [] r J) → G z 11 [(0, .ref (E.2.1 62)), (1, .int s.1)] [] s.2 J := by
  intro s h X0
  unfold lX9_back_11 at h
  revert s
  refine itO_ind (P := fun s : Int32 × gM => G z 11 [(0, .ref (E.2.1 62)), (1, .int s.1)] [] s.2 J) (fun s y h hl hr => ?_)
  have K11_0 : ∀ x : gM, y = .inr x → (G z 36 [(0, .ref (E.2.1 62))] [] x J) := fun x q => by have q2 := hr _ q; subst q2; exact X0
  refine g_iload_n F 1 dX9_back_11 rfl rfl ?_
  refine g_sipush (v := 331) F dX9_back_12 (by decide) ?_
  refine u_icmp_ge (tgt := 36) F dX9_back_15 (by decide) h (fun h => ?_) (fun h => ?_)
  · obtain rfl := Option.some.inj h
    refine g_sub (Ln := [(0, .ref (E.2.1 62))]) [0] rfl ?_
    exact K11_0 s.2 rfl
  · refine g_aload_n F 0 dX9_back_18 rfl rfl ?_
    refine g_getr (j := 13) (nn := 70) F s62 rfl rfl uX9 (by decide) q834 dX9_back_19 ?_
    refine g_iload_n F 1 dX9_back_22 rfl rfl ?_
    refine g_aload_n F 0 dX9_back_23 rfl rfl ?_
    refine g_getr (j := 41) (nn := 89) F s62 rfl rfl uX9 (by decide) q862 dX9_back_24 ?_
    refine g_iload_n F 1 dX9_back_27 rfl rfl ?_
    refine u_rI F s89 (by decide) dX9_back_28 h (fun u1 h => ?_)
    refine u_wI F s70 (by decide) dX9_back_29 h (fun I2 h => ?_)
    refine g_iinc (v := s.1 + 1) (Ln := [(1, .int (s.1 + 1)), (0, .ref (E.2.1 62))]) F 1 dX9_back_30 rfl (add_c (by decide)) (by decide) rfl ?_
    refine g_goto (tgt := 11) F dX9_back_33 (by decide) ?_
    obtain rfl := Option.some.inj h
    refine g_sub (Ln := [(0, .ref (E.2.1 62)), (1, .int (s.1 + 1))]) [1, 0] rfl ?_
    exact hl (s.1 + 1, I2) rfl
noncomputable def fX9_back (I : gM) : Option (Int32 × gM) :=
  if (I 62 42) = 0 then
    some (((-1) : Int32), I)
  else
    (lX9_back_11 ((0 : Int32), I)).bind fun w3 =>
    (pU w3 62 29 (0 : Int32)).bind fun I4 =>
    (fX9_rowsNow I4).bind fun r5 =>
    some (r5.1, r5.2)
set_option maxRecDepth 100000 in
set_option maxHeartbeats 4000000 in
theorem wX9_back (l : Launch) (E : gE) (hE : gDist sh E) (bk : Nat) (I : gM) (J : gN) {r : Int32 × gM} (h : fX9_back I = some r) : Cu l sh E bk yX9_back cX9_back 2 (some .int) (gR 14) [.ref (E.2.1 62)] I J (fun r1 I1 J1 => r1 = some (.int r.1) ∧ I1 = r.2 ∧ J1 = J) := by
  refine Cu.of "LeapJoinModel" rfl hE (by decide) (Nat.le_of_ble_eq_true rfl) (fun z F B e hl => ?_)
  subst hl
  unfold fX9_back at h
  refine g_aload_n F 0 dX9_back_0 rfl rfl ?_
  refine g_geti (j := 42) (v := I 62 42) F s62 rfl rfl uX9 (by decide) q863 rfl dX9_back_1 ?_
  refine u_if_ne (tgt := 9) F dX9_back_4 (by decide) h (fun h => ?_) (fun h => ?_)
  · refine g_iconst (v := (-1)) F dX9_back_7 (by decide) ?_
    obtain rfl := Option.some.inj h
    exact g_iret F e dX9_back_8 ⟨rfl, rfl, rfl⟩
  · refine g_iconst (v := 0) F dX9_back_9 (by decide) ?_
    refine g_istore_n (Ln := [(1, .int 0), (0, .ref (E.2.1 62))]) F dX9_back_10 rfl (by decide) rfl ?_
    obtain ⟨w3, ew3, h⟩ := ob h
    refine g_sub (Ln := [(0, .ref (E.2.1 62)), (1, .int 0)]) [1, 0] rfl ?_
    refine wlX9_back_11 F B hE J _ ew3 ?_
    refine g_aload_n F 0 dX9_back_36 rfl rfl ?_
    refine g_iconst (v := 0) F dX9_back_37 (by decide) ?_
    refine u_puti (j := 29) F s62 rfl rfl uX9 (by decide) q850 tyX9_ok nmX9 rfl rfl rfl dX9_back_38 h (fun I4 h => ?_)
    refine g_aload_n F 0 dX9_back_41 rfl rfl ?_
    refine u_callV (k := 62) (As := []) (rest := []) (sn := fun r5 => [.int r5.1]) F B (fun _ => wX9_rowsNow (zl z) E hE bk  I4 J) mX9_rowsNow q1049 rfl s62 rfl rfl rfl (Nat.le_of_ble_eq_true rfl) dX9_back_42 (fun _ => rfl) h (fun r5 h => ?_)
    obtain rfl := Option.some.inj h
    exact g_iret F e dX9_back_45 ⟨rfl, rfl, rfl⟩
theorem dX9_count_1 : decode cX9_count 1 = .ok (.tableswitch 64 0 4 #[35, 40, 45, 50, 59], 35) := by decide +kernel
theorem DX9_count_0 : dAre cX9_count [(0, .iload_n 1, 1), (36, .aload_n 0, 1), (37, .getfield 173, 3), (40, .ireturn, 1), (41, .aload_n 0, 1), (42, .getfield 214, 3), (45, .ireturn, 1), (46, .aload_n 0, 1), (47, .getfield 101, 3), (50, .ireturn, 1), (51, .aload_n 0, 1), (52, .getfield 31, 3), (55, .sipush 150, 3), (58, .iaload, 1), (59, .ireturn, 1), (60, .aload_n 0, 1)] := dAre0 (by decide +kernel)
theorem dX9_count_0 : decode cX9_count 0 = .ok (.iload_n 1, 1) := DX9_count_0.1
theorem dX9_count_36 : decode cX9_count 36 = .ok (.aload_n 0, 1) := DX9_count_0.2.1
theorem dX9_count_37 : decode cX9_count 37 = .ok (.getfield 173, 3) := DX9_count_0.2.2.1
theorem dX9_count_40 : decode cX9_count 40 = .ok (.ireturn, 1) := DX9_count_0.2.2.2.1
theorem dX9_count_41 : decode cX9_count 41 = .ok (.aload_n 0, 1) := DX9_count_0.2.2.2.2.1
theorem dX9_count_42 : decode cX9_count 42 = .ok (.getfield 214, 3) := DX9_count_0.2.2.2.2.2.1
theorem dX9_count_45 : decode cX9_count 45 = .ok (.ireturn, 1) := DX9_count_0.2.2.2.2.2.2.1
theorem dX9_count_46 : decode cX9_count 46 = .ok (.aload_n 0, 1) := DX9_count_0.2.2.2.2.2.2.2.1
theorem dX9_count_47 : decode cX9_count 47 = .ok (.getfield 101, 3) := DX9_count_0.2.2.2.2.2.2.2.2.1
theorem dX9_count_50 : decode cX9_count 50 = .ok (.ireturn, 1) := DX9_count_0.2.2.2.2.2.2.2.2.2.1
theorem dX9_count_51 : decode cX9_count 51 = .ok (.aload_n 0, 1) := DX9_count_0.2.2.2.2.2.2.2.2.2.2.1
theorem dX9_count_52 : decode cX9_count 52 = .ok (.getfield 31, 3) := DX9_count_0.2.2.2.2.2.2.2.2.2.2.2.1
theorem dX9_count_55 : decode cX9_count 55 = .ok (.sipush 150, 3) := DX9_count_0.2.2.2.2.2.2.2.2.2.2.2.2.1
theorem dX9_count_58 : decode cX9_count 58 = .ok (.iaload, 1) := DX9_count_0.2.2.2.2.2.2.2.2.2.2.2.2.2.1
theorem dX9_count_59 : decode cX9_count 59 = .ok (.ireturn, 1) := DX9_count_0.2.2.2.2.2.2.2.2.2.2.2.2.2.2.1
theorem dX9_count_60 : decode cX9_count 60 = .ok (.aload_n 0, 1) := DX9_count_0.2.2.2.2.2.2.2.2.2.2.2.2.2.2.2.1
theorem DX9_count_61 : dAre cX9_count [(61, .getfield 204, 3), (64, .ireturn, 1), (65, .ldc_w 338, 3), (68, .ireturn, 1)] := dAre0 (by decide +kernel)
theorem dX9_count_61 : decode cX9_count 61 = .ok (.getfield 204, 3) := DX9_count_61.1
theorem dX9_count_64 : decode cX9_count 64 = .ok (.ireturn, 1) := DX9_count_61.2.1
theorem dX9_count_65 : decode cX9_count 65 = .ok (.ldc_w 338, 3) := DX9_count_61.2.2.1
theorem dX9_count_68 : decode cX9_count 68 = .ok (.ireturn, 1) := DX9_count_61.2.2.2.1
theorem mX9_count : gMv yX9_count cX9_count 2 (some .int) RX9 1 := ⟨q1342, q1343, q10, q1344, rfl, by decide, by decide, by decide +kernel⟩
noncomputable def fX9_count (v1 : Int32) (I : gM) : Option (Int32) :=
  if v1 = 0 then
    some (I 62 17)
  else
  if v1 = 1 then
    some (I 62 12)
  else
  if v1 = 2 then
    some (I 62 2)
  else
  if v1 = 3 then
    (rI 331 (I 70) (150 : Int32)).bind fun u1 =>
    some u1
  else
  if v1 = 4 then
    some (I 62 29)
  else
  some ((-1000000) : Int32)
set_option maxRecDepth 100000 in
set_option maxHeartbeats 4000000 in
theorem wX9_count (l : Launch) (E : gE) (hE : gDist sh E) (bk : Nat) (v1 : Int32) (I : gM) (J : gN) {r : Int32} (h : fX9_count v1 I = some r) : Cu l sh E bk yX9_count cX9_count 2 (some .int) (gR 0) [.ref (E.2.1 62), .int v1] I J (fun r1 I1 J1 => r1 = some (.int r) ∧ I1 = I ∧ J1 = J) := by
  refine Cu.of "LeapJoinModel" rfl hE (by decide) (Nat.le_of_ble_eq_true rfl) (fun z F B e hl => ?_)
  subst hl
  unfold fX9_count at h
  refine g_iload_n F 1 dX9_count_0 rfl rfl ?_
  rcases oi h with ⟨c1_0, h⟩ | ⟨c1_0, h⟩
  · refine g_tableIn (tgt := 36) F dX9_count_1 (by rw [c1_0]; decide) (by rw [c1_0]; decide) (by rw [c1_0]; rfl) (by decide) ?_
    refine g_aload_n F 0 dX9_count_36 rfl rfl ?_
    refine g_geti (j := 17) (v := I 62 17) F s62 rfl rfl uX9 (by decide) q838 rfl dX9_count_37 ?_
    obtain rfl := Option.some.inj h
    exact g_iret F e dX9_count_40 ⟨rfl, rfl, rfl⟩
  rcases oi h with ⟨c1_1, h⟩ | ⟨c1_1, h⟩
  · refine g_tableIn (tgt := 41) F dX9_count_1 (by rw [c1_1]; decide) (by rw [c1_1]; decide) (by rw [c1_1]; rfl) (by decide) ?_
    refine g_aload_n F 0 dX9_count_41 rfl rfl ?_
    refine g_geti (j := 12) (v := I 62 12) F s62 rfl rfl uX9 (by decide) q833 rfl dX9_count_42 ?_
    obtain rfl := Option.some.inj h
    exact g_iret F e dX9_count_45 ⟨rfl, rfl, rfl⟩
  rcases oi h with ⟨c1_2, h⟩ | ⟨c1_2, h⟩
  · refine g_tableIn (tgt := 46) F dX9_count_1 (by rw [c1_2]; decide) (by rw [c1_2]; decide) (by rw [c1_2]; rfl) (by decide) ?_
    refine g_aload_n F 0 dX9_count_46 rfl rfl ?_
    refine g_geti (j := 2) (v := I 62 2) F s62 rfl rfl uX9 (by decide) q823 rfl dX9_count_47 ?_
    obtain rfl := Option.some.inj h
    exact g_iret F e dX9_count_50 ⟨rfl, rfl, rfl⟩
  rcases oi h with ⟨c1_3, h⟩ | ⟨c1_3, h⟩
  · refine g_tableIn (tgt := 51) F dX9_count_1 (by rw [c1_3]; decide) (by rw [c1_3]; decide) (by rw [c1_3]; rfl) (by decide) ?_
    refine g_aload_n F 0 dX9_count_51 rfl rfl ?_
    refine g_getr (j := 13) (nn := 70) F s62 rfl rfl uX9 (by decide) q834 dX9_count_52 ?_
    refine g_sipush (v := 150) F dX9_count_55 (by decide) ?_
    refine u_rI F s70 (by decide) dX9_count_58 h (fun u1 h => ?_)
    obtain rfl := Option.some.inj h
    exact g_iret F e dX9_count_59 ⟨rfl, rfl, rfl⟩
  rcases oi h with ⟨c1_4, h⟩ | ⟨c1_4, h⟩
  · refine g_tableIn (tgt := 60) F dX9_count_1 (by rw [c1_4]; decide) (by rw [c1_4]; decide) (by rw [c1_4]; rfl) (by decide) ?_
    refine g_aload_n F 0 dX9_count_60 rfl rfl ?_
    refine g_geti (j := 29) (v := I 62 29) F s62 rfl rfl uX9 (by decide) q850 rfl dX9_count_61 ?_
    obtain rfl := Option.some.inj h
    exact g_iret F e dX9_count_64 ⟨rfl, rfl, rfl⟩
  refine g_tableOut (tgt := 65) F dX9_count_1 (by have q0 : ¬ (v1).toInt = 0 := fun q => c1_0 (Int32.toInt_inj.mp (q.trans (by decide))); have q1 : ¬ (v1).toInt = 1 := fun q => c1_1 (Int32.toInt_inj.mp (q.trans (by decide))); have q2 : ¬ (v1).toInt = 2 := fun q => c1_2 (Int32.toInt_inj.mp (q.trans (by decide))); have q3 : ¬ (v1).toInt = 3 := fun q => c1_3 (Int32.toInt_inj.mp (q.trans (by decide))); have q4 : ¬ (v1).toInt = 4 := fun q => c1_4 (Int32.toInt_inj.mp (q.trans (by decide))); omega) (by decide) ?_
  refine g_ldc_w F dX9_count_65 q1143 ?_
  obtain rfl := Option.some.inj h
  exact g_iret F e dX9_count_68 ⟨rfl, rfl, rfl⟩
