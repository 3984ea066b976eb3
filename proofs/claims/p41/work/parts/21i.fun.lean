theorem DX9_firstBehind_0 : dAre cX9_firstBehind [(0, .iconst 0, 1), (1, .istore_n 3, 1), (2, .iload_n 3, 1), (3, .aload_n 0, 1), (4, .getfield 173, 3), (7, .if_icmp .ge 30, 3), (10, .aload_n 0, 1), (11, .iload_n 3, 1), (12, .iload_n 1, 1), (13, .invokevirtual 226, 3), (16, .ifCond .eq 15, 3), (19, .aload_n 0, 1), (20, .iload_n 1, 1), (21, .iload_n 3, 1), (22, .invokevirtual 236, 3), (25, .iload_n 2, 1)] := dAre0 (by decide +kernel)
theorem dX9_firstBehind_0 : decode cX9_firstBehind 0 = .ok (.iconst 0, 1) := DX9_firstBehind_0.1
theorem dX9_firstBehind_1 : decode cX9_firstBehind 1 = .ok (.istore_n 3, 1) := DX9_firstBehind_0.2.1
theorem dX9_firstBehind_2 : decode cX9_firstBehind 2 = .ok (.iload_n 3, 1) := DX9_firstBehind_0.2.2.1
theorem dX9_firstBehind_3 : decode cX9_firstBehind 3 = .ok (.aload_n 0, 1) := DX9_firstBehind_0.2.2.2.1
theorem dX9_firstBehind_4 : decode cX9_firstBehind 4 = .ok (.getfield 173, 3) := DX9_firstBehind_0.2.2.2.2.1
theorem dX9_firstBehind_7 : decode cX9_firstBehind 7 = .ok (.if_icmp .ge 30, 3) := DX9_firstBehind_0.2.2.2.2.2.1
theorem dX9_firstBehind_10 : decode cX9_firstBehind 10 = .ok (.aload_n 0, 1) := DX9_firstBehind_0.2.2.2.2.2.2.1
theorem dX9_firstBehind_11 : decode cX9_firstBehind 11 = .ok (.iload_n 3, 1) := DX9_firstBehind_0.2.2.2.2.2.2.2.1
theorem dX9_firstBehind_12 : decode cX9_firstBehind 12 = .ok (.iload_n 1, 1) := DX9_firstBehind_0.2.2.2.2.2.2.2.2.1
theorem dX9_firstBehind_13 : decode cX9_firstBehind 13 = .ok (.invokevirtual 226, 3) := DX9_firstBehind_0.2.2.2.2.2.2.2.2.2.1
theorem dX9_firstBehind_16 : decode cX9_firstBehind 16 = .ok (.ifCond .eq 15, 3) := DX9_firstBehind_0.2.2.2.2.2.2.2.2.2.2.1
theorem dX9_firstBehind_19 : decode cX9_firstBehind 19 = .ok (.aload_n 0, 1) := DX9_firstBehind_0.2.2.2.2.2.2.2.2.2.2.2.1
theorem dX9_firstBehind_20 : decode cX9_firstBehind 20 = .ok (.iload_n 1, 1) := DX9_firstBehind_0.2.2.2.2.2.2.2.2.2.2.2.2.1
theorem dX9_firstBehind_21 : decode cX9_firstBehind 21 = .ok (.iload_n 3, 1) := DX9_firstBehind_0.2.2.2.2.2.2.2.2.2.2.2.2.2.1
theorem dX9_firstBehind_22 : decode cX9_firstBehind 22 = .ok (.invokevirtual 236, 3) := DX9_firstBehind_0.2.2.2.2.2.2.2.2.2.2.2.2.2.2.1
theorem dX9_firstBehind_25 : decode cX9_firstBehind 25 = .ok (.iload_n 2, 1) := DX9_firstBehind_0.2.2.2.2.2.2.2.2.2.2.2.2.2.2.2.1
theorem DX9_firstBehind_26 : dAre cX9_firstBehind [(26, .if_icmp .ge 5, 3), (29, .iload_n 3, 1), (30, .ireturn, 1), (31, .iinc 3 1, 3), (34, .goto (-32), 3), (37, .iconst (-1), 1), (38, .ireturn, 1)] := dAre0 (by decide +kernel)
theorem dX9_firstBehind_26 : decode cX9_firstBehind 26 = .ok (.if_icmp .ge 5, 3) := DX9_firstBehind_26.1
theorem dX9_firstBehind_29 : decode cX9_firstBehind 29 = .ok (.iload_n 3, 1) := DX9_firstBehind_26.2.1
theorem dX9_firstBehind_30 : decode cX9_firstBehind 30 = .ok (.ireturn, 1) := DX9_firstBehind_26.2.2.1
theorem dX9_firstBehind_31 : decode cX9_firstBehind 31 = .ok (.iinc 3 1, 3) := DX9_firstBehind_26.2.2.2.1
theorem dX9_firstBehind_34 : decode cX9_firstBehind 34 = .ok (.goto (-32), 3) := DX9_firstBehind_26.2.2.2.2.1
theorem dX9_firstBehind_37 : decode cX9_firstBehind 37 = .ok (.iconst (-1), 1) := DX9_firstBehind_26.2.2.2.2.2.1
theorem dX9_firstBehind_38 : decode cX9_firstBehind 38 = .ok (.ireturn, 1) := DX9_firstBehind_26.2.2.2.2.2.2.1
theorem mX9_firstBehind : gMv yX9_firstBehind cX9_firstBehind 4 (some .int) RX9 2 := ⟨q1096, q1430, q10, q1097, rfl, by decide, by decide, by decide +kernel⟩
noncomputable def bX9_firstBehind_31 (v3 : Int32) : Option ((Int32) ⊕ ((Int32) ⊕ (Unit))) :=
  some (.inl (v3 + 1))
set_option maxRecDepth 100000 in
set_option maxHeartbeats 4000000 in
theorem wbX9_firstBehind_31 {z : gZ} {E : gE} {bk : Nat} (F : Fx z sh E "LeapJoinModel" cX9_firstBehind (gR 3) 4) (B : bZ z bk) (hE : gDist sh E) (v1 : Int32) (v2 : Int32) (v3 : Int32) (I : gM) (J : gN) {y : (Int32) ⊕ ((Int32) ⊕ (Unit))} (h : bX9_firstBehind_31 v3 = some y) (hl : ∀ s' : Int32, y = .inl s' → G z 2 [(0, .ref (E.2.1 62)), (1, .int v1), (2, .int v2), (3, .int (s'))] [] I J) (K2_0 : ∀ x : Int32, y = .inr (.inl x) → G z 29 [(3, .int x)] [] I J) (K2_1 : ∀ x : Unit, y = .inr (.inr x) → G z 37 [] [] I J) : G z 31 [(0, .ref (E.2.1 62)), (1, .int v1), (2, .int v2), (3, .int v3)] [] I J := by
  unfold bX9_firstBehind_31 at h
  refine g_iinc (v := v3 + 1) (Ln := [(3, .int (v3 + 1)), (0, .ref (E.2.1 62)), (1, .int v1), (2, .int v2)]) F 3 dX9_firstBehind_31 rfl (add_c (by decide)) (by decide) rfl ?_
  refine g_goto (tgt := 2) F dX9_firstBehind_34 (by decide) ?_
  obtain rfl := Option.some.inj h
  refine g_sub (Ln := [(0, .ref (E.2.1 62)), (1, .int v1), (2, .int v2), (3, .int (v3 + 1))]) [1, 2, 3, 0] rfl ?_
  exact hl (v3 + 1) rfl
noncomputable def lX9_firstBehind_2 (v1 : Int32) (v2 : Int32) (I : gM) : Int32 → Option ((Int32) ⊕ (Unit)) :=
  itO fun s =>
    if (I 62 17) ≤ s then
      some (.inr (.inr ()))
    else
      (fX9_isIn s v1 I).bind fun r1 =>
      if r1 = 0 then
        bX9_firstBehind_31 s
      else
        (fX9_keyAt v1 s I).bind fun r2 =>
        if v2 ≤ r2 then
          bX9_firstBehind_31 s
        else
          some (.inr (.inl s))
set_option maxRecDepth 100000 in
set_option maxHeartbeats 4000000 in
theorem wlX9_firstBehind_2 {z : gZ} {E : gE} {bk : Nat} (F : Fx z sh E "LeapJoinModel" cX9_firstBehind (gR 3) 4) (B : bZ z bk) (hE : gDist sh E) (v1 : Int32) (v2 : Int32) (I : gM) (J : gN) {r : (Int32) ⊕ (Unit)} : ∀ s : Int32, lX9_firstBehind_2 v1 v2 I s = some r → (∀ x : Int32, r = .inl x → G z 29 [(3, .int x)] [] I J) → (∀ x : Unit, r = .inr x → G z 37 [] [] I J) → G z 2 [(0, .ref (E.2.1 62)), (1, .int v1), (2, .int v2), (3, .int s)] [] I J := by
  intro s h X0 X1
  unfold lX9_firstBehind_2 at h
  revert s
  refine itO_ind (P := fun s : Int32 => G z 2 [(0, .ref (E.2.1 62)), (1, .int v1), (2, .int v2), (3, .int s)] [] I J) (fun s y h hl hr => ?_)
  have K2_0 := fun (x : Int32) (q : y = .inr (.inl x)) => X0 x (hr _ q).symm
  have K2_1 := fun (x : Unit) (q : y = .inr (.inr x)) => X1 x (hr _ q).symm
  refine g_iload_n F 3 dX9_firstBehind_2 rfl rfl ?_
  refine g_aload_n F 0 dX9_firstBehind_3 rfl rfl ?_
  refine g_geti (j := 17) (v := I 62 17) F s62 rfl rfl uX9 (by decide) q838 rfl dX9_firstBehind_4 ?_
  refine u_icmp_ge (tgt := 37) F dX9_firstBehind_7 (by decide) h (fun h => ?_) (fun h => ?_)
  · obtain rfl := Option.some.inj h
    refine g_sub (Ln := []) [] rfl ?_
    exact K2_1 () rfl
  · refine g_aload_n F 0 dX9_firstBehind_10 rfl rfl ?_
    refine g_iload_n F 3 dX9_firstBehind_11 rfl rfl ?_
    refine g_iload_n F 1 dX9_firstBehind_12 rfl rfl ?_
    refine u_callV (k := 62) (As := [.int s, .int v1]) (rest := []) (sn := fun r1 => [.int r1]) F B (fun _ => wX9_isIn (zl z) E hE bk s v1 I J) mX9_isIn q1076 rfl s62 rfl rfl rfl (Nat.le_of_ble_eq_true rfl) dX9_firstBehind_13 (fun _ => rfl) h (fun r1 h => ?_)
    refine u_if_eq (tgt := 31) F dX9_firstBehind_16 (by decide) h (fun h => ?_) (fun h => ?_)
    · refine g_sub (Ln := [(0, .ref (E.2.1 62)), (1, .int v1), (2, .int v2), (3, .int s)]) [0, 1, 2, 3] rfl ?_
      exact wbX9_firstBehind_31 F B hE v1 v2 s I J h hl K2_0 K2_1
    · refine g_aload_n F 0 dX9_firstBehind_19 rfl rfl ?_
      refine g_iload_n F 1 dX9_firstBehind_20 rfl rfl ?_
      refine g_iload_n F 3 dX9_firstBehind_21 rfl rfl ?_
      refine u_callV (k := 62) (As := [.int v1, .int s]) (rest := []) (sn := fun r2 => [.int r2]) F B (fun _ => wX9_keyAt (zl z) E hE bk v1 s I J) mX9_keyAt q1091 rfl s62 rfl rfl rfl (Nat.le_of_ble_eq_true rfl) dX9_firstBehind_22 (fun _ => rfl) h (fun r2 h => ?_)
      refine g_iload_n F 2 dX9_firstBehind_25 rfl rfl ?_
      refine u_icmp_ge (tgt := 31) F dX9_firstBehind_26 (by decide) h (fun h => ?_) (fun h => ?_)
      · refine g_sub (Ln := [(0, .ref (E.2.1 62)), (1, .int v1), (2, .int v2), (3, .int s)]) [0, 1, 2, 3] rfl ?_
        exact wbX9_firstBehind_31 F B hE v1 v2 s I J h hl K2_0 K2_1
      · obtain rfl := Option.some.inj h
        refine g_sub (Ln := [(3, .int s)]) [3] rfl ?_
        exact K2_0 s rfl
noncomputable def fX9_firstBehind (v1 : Int32) (v2 : Int32) (I : gM) : Option (Int32) :=
  (lX9_firstBehind_2 v1 v2 I (0 : Int32)).bind fun w3 =>
  Sum.elim (fun w3_0 =>
    some w3_0)
  (fun w3_1 =>
    some ((-1) : Int32)) w3
set_option maxRecDepth 100000 in
set_option maxHeartbeats 4000000 in
theorem wX9_firstBehind (l : Launch) (E : gE) (hE : gDist sh E) (bk : Nat) (v1 : Int32) (v2 : Int32) (I : gM) (J : gN) {r : Int32} (h : fX9_firstBehind v1 v2 I = some r) : Cu l sh E bk yX9_firstBehind cX9_firstBehind 4 (some .int) (gR 3) [.ref (E.2.1 62), .int v1, .int v2] I J (fun r1 I1 J1 => r1 = some (.int r) ∧ I1 = I ∧ J1 = J) := by
  refine Cu.of "LeapJoinModel" rfl hE (by decide) (Nat.le_of_ble_eq_true rfl) (fun z F B e hl => ?_)
  subst hl
  unfold fX9_firstBehind at h
  refine g_iconst (v := 0) F dX9_firstBehind_0 (by decide) ?_
  refine g_istore_n (Ln := [(3, .int 0), (0, .ref (E.2.1 62)), (1, .int v1), (2, .int v2)]) F dX9_firstBehind_1 rfl (by decide) rfl ?_
  obtain ⟨w3, ew3, h⟩ := ob h
  refine g_sub (Ln := [(0, .ref (E.2.1 62)), (1, .int v1), (2, .int v2), (3, .int 0)]) [1, 2, 3, 0] rfl ?_
  refine wlX9_firstBehind_2 F B hE v1 v2 I J _ ew3 (fun w3_0 q => ?_) (fun w3_1 q => ?_)
  · subst q
    replace h := oE1 h
    refine g_iload_n F 0 dX9_firstBehind_29 rfl rfl ?_
    obtain rfl := Option.some.inj h
    exact g_iret F e dX9_firstBehind_30 ⟨rfl, rfl, rfl⟩
  · subst q
    replace h := oE2 h
    refine g_iconst (v := (-1)) F dX9_firstBehind_37 (by decide) ?_
    obtain rfl := Option.some.inj h
    exact g_iret F e dX9_firstBehind_38 ⟨rfl, rfl, rfl⟩
theorem DX9_firstIn_0 : dAre cX9_firstIn [(0, .iconst 0, 1), (1, .istore_n 2, 1), (2, .aload_n 0, 1), (3, .iload_n 2, 1), (4, .iload_n 1, 1), (5, .invokevirtual 226, 3), (8, .ifCond .ne 9, 3), (11, .iinc 2 1, 3), (14, .goto (-12), 3), (17, .iload_n 2, 1), (18, .ireturn, 1)] := dAre0 (by decide +kernel)
theorem dX9_firstIn_0 : decode cX9_firstIn 0 = .ok (.iconst 0, 1) := DX9_firstIn_0.1
theorem dX9_firstIn_1 : decode cX9_firstIn 1 = .ok (.istore_n 2, 1) := DX9_firstIn_0.2.1
theorem dX9_firstIn_2 : decode cX9_firstIn 2 = .ok (.aload_n 0, 1) := DX9_firstIn_0.2.2.1
theorem dX9_firstIn_3 : decode cX9_firstIn 3 = .ok (.iload_n 2, 1) := DX9_firstIn_0.2.2.2.1
theorem dX9_firstIn_4 : decode cX9_firstIn 4 = .ok (.iload_n 1, 1) := DX9_firstIn_0.2.2.2.2.1
theorem dX9_firstIn_5 : decode cX9_firstIn 5 = .ok (.invokevirtual 226, 3) := DX9_firstIn_0.2.2.2.2.2.1
theorem dX9_firstIn_8 : decode cX9_firstIn 8 = .ok (.ifCond .ne 9, 3) := DX9_firstIn_0.2.2.2.2.2.2.1
theorem dX9_firstIn_11 : decode cX9_firstIn 11 = .ok (.iinc 2 1, 3) := DX9_firstIn_0.2.2.2.2.2.2.2.1
theorem dX9_firstIn_14 : decode cX9_firstIn 14 = .ok (.goto (-12), 3) := DX9_firstIn_0.2.2.2.2.2.2.2.2.1
theorem dX9_firstIn_17 : decode cX9_firstIn 17 = .ok (.iload_n 2, 1) := DX9_firstIn_0.2.2.2.2.2.2.2.2.2.1
theorem dX9_firstIn_18 : decode cX9_firstIn 18 = .ok (.ireturn, 1) := DX9_firstIn_0.2.2.2.2.2.2.2.2.2.2.1
theorem mX9_firstIn : gMv yX9_firstIn cX9_firstIn 3 (some .int) RX9 1 := ⟨q1099, q1431, q10, q1100, rfl, by decide, by decide, by decide +kernel⟩
noncomputable def lX9_firstIn_2 (v1 : Int32) (I : gM) : Int32 → Option (Int32) :=
  itO fun s =>
    (fX9_isIn s v1 I).bind fun r1 =>
    if r1 = 0 then
      some (.inl (s + 1))
    else
      some (.inr s)
set_option maxRecDepth 100000 in
set_option maxHeartbeats 4000000 in
theorem wlX9_firstIn_2 {z : gZ} {E : gE} {bk : Nat} (F : Fx z sh E "LeapJoinModel" cX9_firstIn (gR 3) 3) (B : bZ z bk) (hE : gDist sh E) (v1 : Int32) (I : gM) (J : gN) {r : Int32} : ∀ s : Int32, lX9_firstIn_2 v1 I s = some r → (G z 17 [(2, .int r)] [] I J) → G z 2 [(0, .ref (E.2.1 62)), (1, .int v1), (2, .int s)] [] I J := by
  intro s h X0
  unfold lX9_firstIn_2 at h
  revert s
  refine itO_ind (P := fun s : Int32 => G z 2 [(0, .ref (E.2.1 62)), (1, .int v1), (2, .int s)] [] I J) (fun s y h hl hr => ?_)
  have K2_0 : ∀ x : Int32, y = .inr x → (G z 17 [(2, .int x)] [] I J) := fun x q => by have q2 := hr _ q; subst q2; exact X0
  refine g_aload_n F 0 dX9_firstIn_2 rfl rfl ?_
  refine g_iload_n F 2 dX9_firstIn_3 rfl rfl ?_
  refine g_iload_n F 1 dX9_firstIn_4 rfl rfl ?_
  refine u_callV (k := 62) (As := [.int s, .int v1]) (rest := []) (sn := fun r1 => [.int r1]) F B (fun _ => wX9_isIn (zl z) E hE bk s v1 I J) mX9_isIn q1076 rfl s62 rfl rfl rfl (Nat.le_of_ble_eq_true rfl) dX9_firstIn_5 (fun _ => rfl) h (fun r1 h => ?_)
  refine u_if_ne (tgt := 17) F dX9_firstIn_8 (by decide) h (fun h => ?_) (fun h => ?_)
  · refine g_iinc (v := s + 1) (Ln := [(2, .int (s + 1)), (0, .ref (E.2.1 62)), (1, .int v1)]) F 2 dX9_firstIn_11 rfl (add_c (by decide)) (by decide) rfl ?_
    refine g_goto (tgt := 2) F dX9_firstIn_14 (by decide) ?_
    obtain rfl := Option.some.inj h
    refine g_sub (Ln := [(0, .ref (E.2.1 62)), (1, .int v1), (2, .int (s + 1))]) [1, 2, 0] rfl ?_
    exact hl (s + 1) rfl
  · obtain rfl := Option.some.inj h
    refine g_sub (Ln := [(2, .int s)]) [2] rfl ?_
    exact K2_0 s rfl
noncomputable def fX9_firstIn (v1 : Int32) (I : gM) : Option (Int32) :=
  (lX9_firstIn_2 v1 I (0 : Int32)).bind fun w2 =>
  some w2
set_option maxRecDepth 100000 in
set_option maxHeartbeats 4000000 in
theorem wX9_firstIn (l : Launch) (E : gE) (hE : gDist sh E) (bk : Nat) (v1 : Int32) (I : gM) (J : gN) {r : Int32} (h : fX9_firstIn v1 I = some r) : Cu l sh E bk yX9_firstIn cX9_firstIn 3 (some .int) (gR 3) [.ref (E.2.1 62), .int v1] I J (fun r1 I1 J1 => r1 = some (.int r) ∧ I1 = I ∧ J1 = J) := by
  refine Cu.of "LeapJoinModel" rfl hE (by decide) (Nat.le_of_ble_eq_true rfl) (fun z F B e hl => ?_)
  subst hl
  unfold fX9_firstIn at h
  refine g_iconst (v := 0) F dX9_firstIn_0 (by decide) ?_
  refine g_istore_n (Ln := [(2, .int 0), (0, .ref (E.2.1 62)), (1, .int v1)]) F dX9_firstIn_1 rfl (by decide) rfl ?_
  obtain ⟨w2, ew2, h⟩ := ob h
  refine g_sub (Ln := [(0, .ref (E.2.1 62)), (1, .int v1), (2, .int 0)]) [1, 2, 0] rfl ?_
  refine wlX9_firstIn_2 F B hE v1 I J _ ew2 ?_
  refine g_iload_n F 0 dX9_firstIn_17 rfl rfl ?_
  obtain rfl := Option.some.inj h
  exact g_iret F e dX9_firstIn_18 ⟨rfl, rfl, rfl⟩
theorem DX9_leaps_0 : dAre cX9_leaps [(0, .iconst 4, 1), (1, .iload_n 1, 1), (2, .imul, 1), (3, .iload_n 2, 1), (4, .iadd, 1), (5, .istore 4, 2), (7, .aload_n 0, 1), (8, .dup, 1), (9, .getfield 244, 3), (12, .iconst 1, 1), (13, .iadd, 1), (14, .putfield 244, 3), (17, .aload_n 0, 1), (18, .getfield 55, 3), (21, .iload 4, 2), (23, .iaload, 1)] := dAre0 (by decide +kernel)
theorem dX9_leaps_0 : decode cX9_leaps 0 = .ok (.iconst 4, 1) := DX9_leaps_0.1
theorem dX9_leaps_1 : decode cX9_leaps 1 = .ok (.iload_n 1, 1) := DX9_leaps_0.2.1
theorem dX9_leaps_2 : decode cX9_leaps 2 = .ok (.imul, 1) := DX9_leaps_0.2.2.1
theorem dX9_leaps_3 : decode cX9_leaps 3 = .ok (.iload_n 2, 1) := DX9_leaps_0.2.2.2.1
theorem dX9_leaps_4 : decode cX9_leaps 4 = .ok (.iadd, 1) := DX9_leaps_0.2.2.2.2.1
theorem dX9_leaps_5 : decode cX9_leaps 5 = .ok (.istore 4, 2) := DX9_leaps_0.2.2.2.2.2.1
theorem dX9_leaps_7 : decode cX9_leaps 7 = .ok (.aload_n 0, 1) := DX9_leaps_0.2.2.2.2.2.2.1
theorem dX9_leaps_8 : decode cX9_leaps 8 = .ok (.dup, 1) := DX9_leaps_0.2.2.2.2.2.2.2.1
theorem dX9_leaps_9 : decode cX9_leaps 9 = .ok (.getfield 244, 3) := DX9_leaps_0.2.2.2.2.2.2.2.2.1
theorem dX9_leaps_12 : decode cX9_leaps 12 = .ok (.iconst 1, 1) := DX9_leaps_0.2.2.2.2.2.2.2.2.2.1
theorem dX9_leaps_13 : decode cX9_leaps 13 = .ok (.iadd, 1) := DX9_leaps_0.2.2.2.2.2.2.2.2.2.2.1
theorem dX9_leaps_14 : decode cX9_leaps 14 = .ok (.putfield 244, 3) := DX9_leaps_0.2.2.2.2.2.2.2.2.2.2.2.1
theorem dX9_leaps_17 : decode cX9_leaps 17 = .ok (.aload_n 0, 1) := DX9_leaps_0.2.2.2.2.2.2.2.2.2.2.2.2.1
theorem dX9_leaps_18 : decode cX9_leaps 18 = .ok (.getfield 55, 3) := DX9_leaps_0.2.2.2.2.2.2.2.2.2.2.2.2.2.1
theorem dX9_leaps_21 : decode cX9_leaps 21 = .ok (.iload 4, 2) := DX9_leaps_0.2.2.2.2.2.2.2.2.2.2.2.2.2.2.1
theorem dX9_leaps_23 : decode cX9_leaps 23 = .ok (.iaload, 1) := DX9_leaps_0.2.2.2.2.2.2.2.2.2.2.2.2.2.2.2.1
theorem DX9_leaps_24 : dAre cX9_leaps [(24, .aload_n 0, 1), (25, .getfield 52, 3), (28, .iload 4, 2), (30, .iaload, 1), (31, .if_icmp .ge 39, 3), (34, .aload_n 0, 1), (35, .getfield 49, 3), (38, .bipush 12, 2), (40, .iload 4, 2), (42, .imul, 1), (43, .aload_n 0, 1), (44, .getfield 55, 3), (47, .iload 4, 2), (49, .iaload, 1), (50, .iadd, 1), (51, .iaload, 1)] := dAre0 (by decide +kernel)
theorem dX9_leaps_24 : decode cX9_leaps 24 = .ok (.aload_n 0, 1) := DX9_leaps_24.1
theorem dX9_leaps_25 : decode cX9_leaps 25 = .ok (.getfield 52, 3) := DX9_leaps_24.2.1
theorem dX9_leaps_28 : decode cX9_leaps 28 = .ok (.iload 4, 2) := DX9_leaps_24.2.2.1
theorem dX9_leaps_30 : decode cX9_leaps 30 = .ok (.iaload, 1) := DX9_leaps_24.2.2.2.1
theorem dX9_leaps_31 : decode cX9_leaps 31 = .ok (.if_icmp .ge 39, 3) := DX9_leaps_24.2.2.2.2.1
theorem dX9_leaps_34 : decode cX9_leaps 34 = .ok (.aload_n 0, 1) := DX9_leaps_24.2.2.2.2.2.1
theorem dX9_leaps_35 : decode cX9_leaps 35 = .ok (.getfield 49, 3) := DX9_leaps_24.2.2.2.2.2.2.1
theorem dX9_leaps_38 : decode cX9_leaps 38 = .ok (.bipush 12, 2) := DX9_leaps_24.2.2.2.2.2.2.2.1
theorem dX9_leaps_40 : decode cX9_leaps 40 = .ok (.iload 4, 2) := DX9_leaps_24.2.2.2.2.2.2.2.2.1
theorem dX9_leaps_42 : decode cX9_leaps 42 = .ok (.imul, 1) := DX9_leaps_24.2.2.2.2.2.2.2.2.2.1
theorem dX9_leaps_43 : decode cX9_leaps 43 = .ok (.aload_n 0, 1) := DX9_leaps_24.2.2.2.2.2.2.2.2.2.2.1
theorem dX9_leaps_44 : decode cX9_leaps 44 = .ok (.getfield 55, 3) := DX9_leaps_24.2.2.2.2.2.2.2.2.2.2.2.1
theorem dX9_leaps_47 : decode cX9_leaps 47 = .ok (.iload 4, 2) := DX9_leaps_24.2.2.2.2.2.2.2.2.2.2.2.2.1
theorem dX9_leaps_49 : decode cX9_leaps 49 = .ok (.iaload, 1) := DX9_leaps_24.2.2.2.2.2.2.2.2.2.2.2.2.2.1
theorem dX9_leaps_50 : decode cX9_leaps 50 = .ok (.iadd, 1) := DX9_leaps_24.2.2.2.2.2.2.2.2.2.2.2.2.2.2.1
theorem dX9_leaps_51 : decode cX9_leaps 51 = .ok (.iaload, 1) := DX9_leaps_24.2.2.2.2.2.2.2.2.2.2.2.2.2.2.2.1
theorem DX9_leaps_52 : dAre cX9_leaps [(52, .iload_n 3, 1), (53, .if_icmp .ge 17, 3), (56, .aload_n 0, 1), (57, .getfield 55, 3), (60, .iload 4, 2), (62, .dup2, 1), (63, .iaload, 1), (64, .iconst 1, 1), (65, .iadd, 1), (66, .iastore, 1), (67, .goto (-50), 3), (70, .aload_n 0, 1), (71, .getfield 55, 3), (74, .iload 4, 2), (76, .iaload, 1), (77, .aload_n 0, 1)] := dAre0 (by decide +kernel)
theorem dX9_leaps_52 : decode cX9_leaps 52 = .ok (.iload_n 3, 1) := DX9_leaps_52.1
theorem dX9_leaps_53 : decode cX9_leaps 53 = .ok (.if_icmp .ge 17, 3) := DX9_leaps_52.2.1
theorem dX9_leaps_56 : decode cX9_leaps 56 = .ok (.aload_n 0, 1) := DX9_leaps_52.2.2.1
theorem dX9_leaps_57 : decode cX9_leaps 57 = .ok (.getfield 55, 3) := DX9_leaps_52.2.2.2.1
theorem dX9_leaps_60 : decode cX9_leaps 60 = .ok (.iload 4, 2) := DX9_leaps_52.2.2.2.2.1
theorem dX9_leaps_62 : decode cX9_leaps 62 = .ok (.dup2, 1) := DX9_leaps_52.2.2.2.2.2.1
theorem dX9_leaps_63 : decode cX9_leaps 63 = .ok (.iaload, 1) := DX9_leaps_52.2.2.2.2.2.2.1
theorem dX9_leaps_64 : decode cX9_leaps 64 = .ok (.iconst 1, 1) := DX9_leaps_52.2.2.2.2.2.2.2.1
theorem dX9_leaps_65 : decode cX9_leaps 65 = .ok (.iadd, 1) := DX9_leaps_52.2.2.2.2.2.2.2.2.1
theorem dX9_leaps_66 : decode cX9_leaps 66 = .ok (.iastore, 1) := DX9_leaps_52.2.2.2.2.2.2.2.2.2.1
theorem dX9_leaps_67 : decode cX9_leaps 67 = .ok (.goto (-50), 3) := DX9_leaps_52.2.2.2.2.2.2.2.2.2.2.1
theorem dX9_leaps_70 : decode cX9_leaps 70 = .ok (.aload_n 0, 1) := DX9_leaps_52.2.2.2.2.2.2.2.2.2.2.2.1
theorem dX9_leaps_71 : decode cX9_leaps 71 = .ok (.getfield 55, 3) := DX9_leaps_52.2.2.2.2.2.2.2.2.2.2.2.2.1
theorem dX9_leaps_74 : decode cX9_leaps 74 = .ok (.iload 4, 2) := DX9_leaps_52.2.2.2.2.2.2.2.2.2.2.2.2.2.1
theorem dX9_leaps_76 : decode cX9_leaps 76 = .ok (.iaload, 1) := DX9_leaps_52.2.2.2.2.2.2.2.2.2.2.2.2.2.2.1
theorem dX9_leaps_77 : decode cX9_leaps 77 = .ok (.aload_n 0, 1) := DX9_leaps_52.2.2.2.2.2.2.2.2.2.2.2.2.2.2.2.1
theorem DX9_leaps_78 : dAre cX9_leaps [(78, .getfield 52, 3), (81, .iload 4, 2), (83, .iaload, 1), (84, .if_icmp .ge 7, 3), (87, .iconst 1, 1), (88, .goto 4, 3), (91, .iconst 0, 1), (92, .ireturn, 1)] := dAre0 (by decide +kernel)
theorem dX9_leaps_78 : decode cX9_leaps 78 = .ok (.getfield 52, 3) := DX9_leaps_78.1
theorem dX9_leaps_81 : decode cX9_leaps 81 = .ok (.iload 4, 2) := DX9_leaps_78.2.1
theorem dX9_leaps_83 : decode cX9_leaps 83 = .ok (.iaload, 1) := DX9_leaps_78.2.2.1
theorem dX9_leaps_84 : decode cX9_leaps 84 = .ok (.if_icmp .ge 7, 3) := DX9_leaps_78.2.2.2.1
theorem dX9_leaps_87 : decode cX9_leaps 87 = .ok (.iconst 1, 1) := DX9_leaps_78.2.2.2.2.1
theorem dX9_leaps_88 : decode cX9_leaps 88 = .ok (.goto 4, 3) := DX9_leaps_78.2.2.2.2.2.1
theorem dX9_leaps_91 : decode cX9_leaps 91 = .ok (.iconst 0, 1) := DX9_leaps_78.2.2.2.2.2.2.1
theorem dX9_leaps_92 : decode cX9_leaps 92 = .ok (.ireturn, 1) := DX9_leaps_78.2.2.2.2.2.2.2.1
theorem mX9_leaps : gMv yX9_leaps cX9_leaps 5 (some .boolean) RX9 3 := ⟨q1102, q1432, q10, q1103, rfl, by decide, by decide, by decide +kernel⟩
noncomputable def lX9_leaps_17 (v3 : Int32) (v4 : Int32) : gM → Option (gM) :=
  itO fun s =>
    (rI 16 (s 78) v4).bind fun u2 =>
    (rI 16 (s 77) v4).bind fun u3 =>
    if u3 ≤ u2 then
      some (.inr s)
    else
      (rI 16 (s 78) v4).bind fun u4 =>
      (rI 192 (s 76) (((12 : Int32) * v4) + u4)).bind fun u5 =>
      if v3 ≤ u5 then
        some (.inr s)
      else
        (rI 16 (s 78) v4).bind fun u6 =>
        (wI s 78 16 v4 (u6 + 1)).bind fun I7 =>
        some (.inl I7)
set_option maxRecDepth 100000 in
set_option maxHeartbeats 4000000 in
theorem wlX9_leaps_17 {z : gZ} {E : gE} {bk : Nat} (F : Fx z sh E "LeapJoinModel" cX9_leaps (gR 0) 5) (B : bZ z bk) (hE : gDist sh E) (v3 : Int32) (v4 : Int32) (J : gN) {r : gM} : ∀ s : gM, lX9_leaps_17 v3 v4 s = some r → (G z 70 [(0, .ref (E.2.1 62)), (4, .int v4)] [] r J) → G z 17 [(0, .ref (E.2.1 62)), (3, .int v3), (4, .int v4)] [] s J := by
  intro s h X0
  unfold lX9_leaps_17 at h
  revert s
  refine itO_ind (P := fun s : gM => G z 17 [(0, .ref (E.2.1 62)), (3, .int v3), (4, .int v4)] [] s J) (fun s y h hl hr => ?_)
  have K17_0 : ∀ x : gM, y = .inr x → (G z 70 [(0, .ref (E.2.1 62)), (4, .int v4)] [] x J) := fun x q => by have q2 := hr _ q; subst q2; exact X0
  refine g_aload_n F 0 dX9_leaps_17 rfl rfl ?_
  refine g_getr (j := 23) (nn := 78) F s62 rfl rfl uX9 (by decide) q844 dX9_leaps_18 ?_
  refine g_iload F 2 dX9_leaps_21 rfl ?_
  refine u_rI F s78 (by decide) dX9_leaps_23 h (fun u2 h => ?_)
  refine g_aload_n F 0 dX9_leaps_24 rfl rfl ?_
  refine g_getr (j := 22) (nn := 77) F s62 rfl rfl uX9 (by decide) q843 dX9_leaps_25 ?_
  refine g_iload F 2 dX9_leaps_28 rfl ?_
  refine u_rI F s77 (by decide) dX9_leaps_30 h (fun u3 h => ?_)
  refine u_icmp_ge (tgt := 70) F dX9_leaps_31 (by decide) h (fun h => ?_) (fun h => ?_)
  · obtain rfl := Option.some.inj h
    refine g_sub (Ln := [(0, .ref (E.2.1 62)), (4, .int v4)]) [0, 2] rfl ?_
    exact K17_0 s rfl
  · refine g_aload_n F 0 dX9_leaps_34 rfl rfl ?_
    refine g_getr (j := 21) (nn := 76) F s62 rfl rfl uX9 (by decide) q842 dX9_leaps_35 ?_
    refine g_bipush (v := 12) F dX9_leaps_38 (by decide) ?_
    refine g_iload F 2 dX9_leaps_40 rfl ?_
    refine g_imul (v := (12 : Int32) * v4) F dX9_leaps_42 rfl ?_
    refine g_aload_n F 0 dX9_leaps_43 rfl rfl ?_
    refine g_getr (j := 23) (nn := 78) F s62 rfl rfl uX9 (by decide) q844 dX9_leaps_44 ?_
    refine g_iload F 2 dX9_leaps_47 rfl ?_
    refine u_rI F s78 (by decide) dX9_leaps_49 h (fun u4 h => ?_)
    refine g_iadd (v := ((12 : Int32) * v4) + u4) F dX9_leaps_50 rfl ?_
    refine u_rI F s76 (by decide) dX9_leaps_51 h (fun u5 h => ?_)
    refine g_iload_n F 1 dX9_leaps_52 rfl rfl ?_
    refine u_icmp_ge (tgt := 70) F dX9_leaps_53 (by decide) h (fun h => ?_) (fun h => ?_)
    · obtain rfl := Option.some.inj h
      refine g_sub (Ln := [(0, .ref (E.2.1 62)), (4, .int v4)]) [0, 2] rfl ?_
      exact K17_0 s rfl
    · refine g_aload_n F 0 dX9_leaps_56 rfl rfl ?_
      refine g_getr (j := 23) (nn := 78) F s62 rfl rfl uX9 (by decide) q844 dX9_leaps_57 ?_
      refine g_iload F 2 dX9_leaps_60 rfl ?_
      refine g_dup2 F dX9_leaps_62 rfl rfl ?_
      refine u_rI F s78 (by decide) dX9_leaps_63 h (fun u6 h => ?_)
      refine g_iconst (v := 1) F dX9_leaps_64 (by decide) ?_
      refine g_iadd (v := u6 + 1) F dX9_leaps_65 rfl ?_
      refine u_wI F s78 (by decide) dX9_leaps_66 h (fun I7 h => ?_)
      refine g_goto (tgt := 17) F dX9_leaps_67 (by decide) ?_
      obtain rfl := Option.some.inj h
      refine g_sub (Ln := [(0, .ref (E.2.1 62)), (3, .int v3), (4, .int v4)]) [0, 1, 2] rfl ?_
      exact hl I7 rfl
noncomputable def bX9_leaps_70 (v4 : Int32) (I : gM) : Option (Int32 × gM) :=
  (rI 16 (I 78) v4).bind fun u9 =>
  (rI 16 (I 77) v4).bind fun u10 =>
  if u10 ≤ u9 then
    some ((0 : Int32), I)
  else
    some ((1 : Int32), I)
set_option maxRecDepth 100000 in
set_option maxHeartbeats 4000000 in
theorem wbX9_leaps_70 {z : gZ} {E : gE} {bk : Nat} (F : Fx z sh E "LeapJoinModel" cX9_leaps (gR 0) 5) (B : bZ z bk) (hE : gDist sh E) (v4 : Int32) (I : gM) (J : gN) {y : Int32 × gM} (h : bX9_leaps_70 v4 I = some y) (e : Fe z sh E (some .boolean) (fun r1 I1 J1 => r1 = some (.int y.1) ∧ I1 = y.2 ∧ J1 = J)) : G z 70 [(0, .ref (E.2.1 62)), (4, .int v4)] [] I J := by
  unfold bX9_leaps_70 at h
  refine g_aload_n F 0 dX9_leaps_70 rfl rfl ?_
  refine g_getr (j := 23) (nn := 78) F s62 rfl rfl uX9 (by decide) q844 dX9_leaps_71 ?_
  refine g_iload F 1 dX9_leaps_74 rfl ?_
  refine u_rI F s78 (by decide) dX9_leaps_76 h (fun u9 h => ?_)
  refine g_aload_n F 0 dX9_leaps_77 rfl rfl ?_
  refine g_getr (j := 22) (nn := 77) F s62 rfl rfl uX9 (by decide) q843 dX9_leaps_78 ?_
  refine g_iload F 1 dX9_leaps_81 rfl ?_
  refine u_rI F s77 (by decide) dX9_leaps_83 h (fun u10 h => ?_)
  refine u_icmp_ge (tgt := 91) F dX9_leaps_84 (by decide) h (fun h => ?_) (fun h => ?_)
  · refine g_iconst (v := 0) F dX9_leaps_91 (by decide) ?_
    obtain rfl := Option.some.inj h
    exact g_zret F rfl e dX9_leaps_92 ⟨rfl, rfl, rfl⟩
  · refine g_iconst (v := 1) F dX9_leaps_87 (by decide) ?_
    refine g_goto (tgt := 92) F dX9_leaps_88 (by decide) ?_
    obtain rfl := Option.some.inj h
    exact g_zret F rfl e dX9_leaps_92 ⟨rfl, rfl, rfl⟩
noncomputable def fX9_leaps (v1 : Int32) (v2 : Int32) (v3 : Int32) (I : gM) : Option (Int32 × gM) :=
  (pU I 62 27 ((I 62 27) + 1)).bind fun I1 =>
  (lX9_leaps_17 v3 (((4 : Int32) * v1) + v2) I1).bind fun w8 =>
  bX9_leaps_70 (((4 : Int32) * v1) + v2) w8
set_option maxRecDepth 100000 in
set_option maxHeartbeats 4000000 in
theorem wX9_leaps (l : Launch) (E : gE) (hE : gDist sh E) (bk : Nat) (v1 : Int32) (v2 : Int32) (v3 : Int32) (I : gM) (J : gN) {r : Int32 × gM} (h : fX9_leaps v1 v2 v3 I = some r) : Cu l sh E bk yX9_leaps cX9_leaps 5 (some .boolean) (gR 0) [.ref (E.2.1 62), .int v1, .int v2, .int v3] I J (fun r1 I1 J1 => r1 = some (.int r.1) ∧ I1 = r.2 ∧ J1 = J) := by
  refine Cu.of "LeapJoinModel" rfl hE (by decide) (Nat.le_of_ble_eq_true rfl) (fun z F B e hl => ?_)
  subst hl
  unfold fX9_leaps at h
  refine g_iconst (v := 4) F dX9_leaps_0 (by decide) ?_
  refine g_iload_n F 1 dX9_leaps_1 rfl rfl ?_
  refine g_imul (v := (4 : Int32) * v1) F dX9_leaps_2 rfl ?_
  refine g_iload_n F 2 dX9_leaps_3 rfl rfl ?_
  refine g_iadd (v := ((4 : Int32) * v1) + v2) F dX9_leaps_4 rfl ?_
  refine g_istore (Ln := [(4, .int (((4 : Int32) * v1) + v2)), (0, .ref (E.2.1 62)), (1, .int v1), (2, .int v2), (3, .int v3)]) F dX9_leaps_5 (by decide) rfl ?_
  refine g_aload_n F 1 dX9_leaps_7 rfl rfl ?_
  refine g_dup F dX9_leaps_8 rfl ?_
  refine g_geti (j := 27) (v := I 62 27) F s62 rfl rfl uX9 (by decide) q848 rfl dX9_leaps_9 ?_
  refine g_iconst (v := 1) F dX9_leaps_12 (by decide) ?_
  refine g_iadd (v := (I 62 27) + 1) F dX9_leaps_13 rfl ?_
  refine u_puti (j := 27) F s62 rfl rfl uX9 (by decide) q848 tyX9_ok nmX9 rfl rfl rfl dX9_leaps_14 h (fun I1 h => ?_)
  obtain ⟨w8, ew8, h⟩ := ob h
  refine g_sub (Ln := [(0, .ref (E.2.1 62)), (3, .int v3), (4, .int (((4 : Int32) * v1) + v2))]) [1, 4, 0] rfl ?_
  refine wlX9_leaps_17 F B hE v3 (((4 : Int32) * v1) + v2) J _ ew8 ?_
  refine g_sub (Ln := [(0, .ref (E.2.1 62)), (4, .int (((4 : Int32) * v1) + v2))]) [0, 1] rfl ?_
  exact wbX9_leaps_70 F B hE (((4 : Int32) * v1) + v2) w8 J h e
theorem DX9_takesRow_0 : dAre cX9_takesRow [(0, .iconst 0, 1), (1, .istore_n 1, 1), (2, .iload_n 1, 1), (3, .iconst 4, 1), (4, .if_icmp .ge 28, 3), (7, .aload_n 0, 1), (8, .getfield 62, 3), (11, .iconst 4, 1), (12, .aload_n 0, 1), (13, .getfield 247, 3), (16, .imul, 1), (17, .iload_n 1, 1), (18, .iadd, 1), (19, .aload_n 0, 1), (20, .getfield 46, 3), (23, .iload_n 1, 1)] := dAre0 (by decide +kernel)
theorem dX9_takesRow_0 : decode cX9_takesRow 0 = .ok (.iconst 0, 1) := DX9_takesRow_0.1
theorem dX9_takesRow_1 : decode cX9_takesRow 1 = .ok (.istore_n 1, 1) := DX9_takesRow_0.2.1
theorem dX9_takesRow_2 : decode cX9_takesRow 2 = .ok (.iload_n 1, 1) := DX9_takesRow_0.2.2.1
theorem dX9_takesRow_3 : decode cX9_takesRow 3 = .ok (.iconst 4, 1) := DX9_takesRow_0.2.2.2.1
theorem dX9_takesRow_4 : decode cX9_takesRow 4 = .ok (.if_icmp .ge 28, 3) := DX9_takesRow_0.2.2.2.2.1
theorem dX9_takesRow_7 : decode cX9_takesRow 7 = .ok (.aload_n 0, 1) := DX9_takesRow_0.2.2.2.2.2.1
theorem dX9_takesRow_8 : decode cX9_takesRow 8 = .ok (.getfield 62, 3) := DX9_takesRow_0.2.2.2.2.2.2.1
theorem dX9_takesRow_11 : decode cX9_takesRow 11 = .ok (.iconst 4, 1) := DX9_takesRow_0.2.2.2.2.2.2.2.1
theorem dX9_takesRow_12 : decode cX9_takesRow 12 = .ok (.aload_n 0, 1) := DX9_takesRow_0.2.2.2.2.2.2.2.2.1
theorem dX9_takesRow_13 : decode cX9_takesRow 13 = .ok (.getfield 247, 3) := DX9_takesRow_0.2.2.2.2.2.2.2.2.2.1
theorem dX9_takesRow_16 : decode cX9_takesRow 16 = .ok (.imul, 1) := DX9_takesRow_0.2.2.2.2.2.2.2.2.2.2.1
theorem dX9_takesRow_17 : decode cX9_takesRow 17 = .ok (.iload_n 1, 1) := DX9_takesRow_0.2.2.2.2.2.2.2.2.2.2.2.1
theorem dX9_takesRow_18 : decode cX9_takesRow 18 = .ok (.iadd, 1) := DX9_takesRow_0.2.2.2.2.2.2.2.2.2.2.2.2.1
theorem dX9_takesRow_19 : decode cX9_takesRow 19 = .ok (.aload_n 0, 1) := DX9_takesRow_0.2.2.2.2.2.2.2.2.2.2.2.2.2.1
theorem dX9_takesRow_20 : decode cX9_takesRow 20 = .ok (.getfield 46, 3) := DX9_takesRow_0.2.2.2.2.2.2.2.2.2.2.2.2.2.2.1
theorem dX9_takesRow_23 : decode cX9_takesRow 23 = .ok (.iload_n 1, 1) := DX9_takesRow_0.2.2.2.2.2.2.2.2.2.2.2.2.2.2.2.1
theorem DX9_takesRow_24 : dAre cX9_takesRow [(24, .iaload, 1), (25, .iastore, 1), (26, .iinc 1 1, 3), (29, .goto (-27), 3), (32, .aload_n 0, 1), (33, .dup, 1), (34, .getfield 247, 3), (37, .iconst 1, 1), (38, .iadd, 1), (39, .putfield 247, 3), (42, .return_, 1)] := dAre0 (by decide +kernel)
theorem dX9_takesRow_24 : decode cX9_takesRow 24 = .ok (.iaload, 1) := DX9_takesRow_24.1
theorem dX9_takesRow_25 : decode cX9_takesRow 25 = .ok (.iastore, 1) := DX9_takesRow_24.2.1
theorem dX9_takesRow_26 : decode cX9_takesRow 26 = .ok (.iinc 1 1, 3) := DX9_takesRow_24.2.2.1
theorem dX9_takesRow_29 : decode cX9_takesRow 29 = .ok (.goto (-27), 3) := DX9_takesRow_24.2.2.2.1
theorem dX9_takesRow_32 : decode cX9_takesRow 32 = .ok (.aload_n 0, 1) := DX9_takesRow_24.2.2.2.2.1
theorem dX9_takesRow_33 : decode cX9_takesRow 33 = .ok (.dup, 1) := DX9_takesRow_24.2.2.2.2.2.1
theorem dX9_takesRow_34 : decode cX9_takesRow 34 = .ok (.getfield 247, 3) := DX9_takesRow_24.2.2.2.2.2.2.1
theorem dX9_takesRow_37 : decode cX9_takesRow 37 = .ok (.iconst 1, 1) := DX9_takesRow_24.2.2.2.2.2.2.2.1
theorem dX9_takesRow_38 : decode cX9_takesRow 38 = .ok (.iadd, 1) := DX9_takesRow_24.2.2.2.2.2.2.2.2.1
theorem dX9_takesRow_39 : decode cX9_takesRow 39 = .ok (.putfield 247, 3) := DX9_takesRow_24.2.2.2.2.2.2.2.2.2.1
theorem dX9_takesRow_42 : decode cX9_takesRow 42 = .ok (.return_, 1) := DX9_takesRow_24.2.2.2.2.2.2.2.2.2.2.1
theorem mX9_takesRow : gMv yX9_takesRow cX9_takesRow 2 none RX9 0 := ⟨q1071, q1422, q10, q1072, rfl, by decide, by decide, by decide +kernel⟩
noncomputable def lX9_takesRow_2 : (Int32 × gM) → Option (gM) :=
  itO fun s =>
    if (4 : Int32) ≤ s.1 then
      some (.inr s.2)
    else
      (rI 4 (s.2 75) s.1).bind fun u1 =>
      (wI s.2 80 82944 (((4 : Int32) * (s.2 62 26)) + s.1) u1).bind fun I2 =>
      some (.inl (s.1 + 1, I2))
set_option maxRecDepth 100000 in
set_option maxHeartbeats 4000000 in
theorem wlX9_takesRow_2 {z : gZ} {E : gE} {bk : Nat} (F : Fx z sh E "LeapJoinModel" cX9_takesRow (gR 0) 2) (B : bZ z bk) (hE : gDist sh E) (J : gN) {r : gM} : ∀ s : Int32 × gM, lX9_takesRow_2 s = some r → (G z 32 [(0, .ref (E.2.1 62))] [] r J) → G z 2 [(0, .ref (E.2.1 62)), (1, .int s.1)] [] s.2 J := by
  intro s h X0
  unfold lX9_takesRow_2 at h
  revert s
  refine itO_ind (P := fun s : Int32 × gM => G z 2 [(0, .ref (E.2.1 62)), (1, .int s.1)] [] s.2 J) (fun s y h hl hr => ?_)
  have K2_0 : ∀ x : gM, y = .inr x → (G z 32 [(0, .ref (E.2.1 62))] [] x J) := fun x q => by have q2 := hr _ q; subst q2; exact X0
  refine g_iload_n F 1 dX9_takesRow_2 rfl rfl ?_
  refine g_iconst (v := 4) F dX9_takesRow_3 (by decide) ?_
  refine u_icmp_ge (tgt := 32) F dX9_takesRow_4 (by decide) h (fun h => ?_) (fun h => ?_)
  · obtain rfl := Option.some.inj h
    refine g_sub (Ln := [(0, .ref (E.2.1 62))]) [0] rfl ?_
    exact K2_0 s.2 rfl
  · refine g_aload_n F 0 dX9_takesRow_7 rfl rfl ?_
    refine g_getr (j := 25) (nn := 80) F s62 rfl rfl uX9 (by decide) q846 dX9_takesRow_8 ?_
    refine g_iconst (v := 4) F dX9_takesRow_11 (by decide) ?_
    refine g_aload_n F 0 dX9_takesRow_12 rfl rfl ?_
    refine g_geti (j := 26) (v := s.2 62 26) F s62 rfl rfl uX9 (by decide) q847 rfl dX9_takesRow_13 ?_
    refine g_imul (v := (4 : Int32) * (s.2 62 26)) F dX9_takesRow_16 rfl ?_
    refine g_iload_n F 1 dX9_takesRow_17 rfl rfl ?_
    refine g_iadd (v := ((4 : Int32) * (s.2 62 26)) + s.1) F dX9_takesRow_18 rfl ?_
    refine g_aload_n F 0 dX9_takesRow_19 rfl rfl ?_
    refine g_getr (j := 20) (nn := 75) F s62 rfl rfl uX9 (by decide) q841 dX9_takesRow_20 ?_
    refine g_iload_n F 1 dX9_takesRow_23 rfl rfl ?_
    refine u_rI F s75 (by decide) dX9_takesRow_24 h (fun u1 h => ?_)
    refine u_wI F s80 (by decide) dX9_takesRow_25 h (fun I2 h => ?_)
    refine g_iinc (v := s.1 + 1) (Ln := [(1, .int (s.1 + 1)), (0, .ref (E.2.1 62))]) F 1 dX9_takesRow_26 rfl (add_c (by decide)) (by decide) rfl ?_
    refine g_goto (tgt := 2) F dX9_takesRow_29 (by decide) ?_
    obtain rfl := Option.some.inj h
    refine g_sub (Ln := [(0, .ref (E.2.1 62)), (1, .int (s.1 + 1))]) [1, 0] rfl ?_
    exact hl (s.1 + 1, I2) rfl
noncomputable def fX9_takesRow (I : gM) : Option (gM) :=
  (lX9_takesRow_2 ((0 : Int32), I)).bind fun w3 =>
  (pU w3 62 26 ((w3 62 26) + 1)).bind fun I4 =>
  some I4
set_option maxRecDepth 100000 in
set_option maxHeartbeats 4000000 in
theorem wX9_takesRow (l : Launch) (E : gE) (hE : gDist sh E) (bk : Nat) (I : gM) (J : gN) {r : gM} (h : fX9_takesRow I = some r) : Cu l sh E bk yX9_takesRow cX9_takesRow 2 none (gR 0) [.ref (E.2.1 62)] I J (fun r1 I1 J1 => r1 = none ∧ I1 = r ∧ J1 = J) := by
  refine Cu.of "LeapJoinModel" rfl hE (by decide) (Nat.le_of_ble_eq_true rfl) (fun z F B e hl => ?_)
  subst hl
  unfold fX9_takesRow at h
  refine g_iconst (v := 0) F dX9_takesRow_0 (by decide) ?_
  refine g_istore_n (Ln := [(1, .int 0), (0, .ref (E.2.1 62))]) F dX9_takesRow_1 rfl (by decide) rfl ?_
  obtain ⟨w3, ew3, h⟩ := ob h
  refine g_sub (Ln := [(0, .ref (E.2.1 62)), (1, .int 0)]) [1, 0] rfl ?_
  refine wlX9_takesRow_2 F B hE J _ ew3 ?_
  refine g_aload_n F 0 dX9_takesRow_32 rfl rfl ?_
  refine g_dup F dX9_takesRow_33 rfl ?_
  refine g_geti (j := 26) (v := w3 62 26) F s62 rfl rfl uX9 (by decide) q847 rfl dX9_takesRow_34 ?_
  refine g_iconst (v := 1) F dX9_takesRow_37 (by decide) ?_
  refine g_iadd (v := (w3 62 26) + 1) F dX9_takesRow_38 rfl ?_
  refine u_puti (j := 26) F s62 rfl rfl uX9 (by decide) q847 tyX9_ok nmX9 rfl rfl rfl dX9_takesRow_39 h (fun I4 h => ?_)
  obtain rfl := Option.some.inj h
  exact g_vret F e dX9_takesRow_42 ⟨rfl, rfl, rfl⟩
theorem DX9_goes_0 : dAre cX9_goes [(0, .iload_n 1, 1), (1, .aload_n 0, 1), (2, .getfield 217, 3), (5, .if_icmp .ne 8, 3), (8, .aload_n 0, 1), (9, .invokevirtual 250, 3), (12, .return_, 1), (13, .aload_n 0, 1), (14, .iload_n 1, 1), (15, .invokevirtual 253, 3), (18, .istore_n 2, 1), (19, .iload_n 2, 1), (20, .ifCond .eq 95, 3), (23, .aload_n 0, 1), (24, .iload_n 1, 1), (25, .invokevirtual 256, 3)] := dAre0 (by decide +kernel)
theorem dX9_goes_0 : decode cX9_goes 0 = .ok (.iload_n 1, 1) := DX9_goes_0.1
theorem dX9_goes_1 : decode cX9_goes 1 = .ok (.aload_n 0, 1) := DX9_goes_0.2.1
theorem dX9_goes_2 : decode cX9_goes 2 = .ok (.getfield 217, 3) := DX9_goes_0.2.2.1
theorem dX9_goes_5 : decode cX9_goes 5 = .ok (.if_icmp .ne 8, 3) := DX9_goes_0.2.2.2.1
theorem dX9_goes_8 : decode cX9_goes 8 = .ok (.aload_n 0, 1) := DX9_goes_0.2.2.2.2.1
theorem dX9_goes_9 : decode cX9_goes 9 = .ok (.invokevirtual 250, 3) := DX9_goes_0.2.2.2.2.2.1
theorem dX9_goes_12 : decode cX9_goes 12 = .ok (.return_, 1) := DX9_goes_0.2.2.2.2.2.2.1
theorem dX9_goes_13 : decode cX9_goes 13 = .ok (.aload_n 0, 1) := DX9_goes_0.2.2.2.2.2.2.2.1
theorem dX9_goes_14 : decode cX9_goes 14 = .ok (.iload_n 1, 1) := DX9_goes_0.2.2.2.2.2.2.2.2.1
theorem dX9_goes_15 : decode cX9_goes 15 = .ok (.invokevirtual 253, 3) := DX9_goes_0.2.2.2.2.2.2.2.2.2.1
theorem dX9_goes_18 : decode cX9_goes 18 = .ok (.istore_n 2, 1) := DX9_goes_0.2.2.2.2.2.2.2.2.2.2.1
theorem dX9_goes_19 : decode cX9_goes 19 = .ok (.iload_n 2, 1) := DX9_goes_0.2.2.2.2.2.2.2.2.2.2.2.1
theorem dX9_goes_20 : decode cX9_goes 20 = .ok (.ifCond .eq 95, 3) := DX9_goes_0.2.2.2.2.2.2.2.2.2.2.2.2.1
theorem dX9_goes_23 : decode cX9_goes 23 = .ok (.aload_n 0, 1) := DX9_goes_0.2.2.2.2.2.2.2.2.2.2.2.2.2.1
theorem dX9_goes_24 : decode cX9_goes 24 = .ok (.iload_n 1, 1) := DX9_goes_0.2.2.2.2.2.2.2.2.2.2.2.2.2.2.1
theorem dX9_goes_25 : decode cX9_goes 25 = .ok (.invokevirtual 256, 3) := DX9_goes_0.2.2.2.2.2.2.2.2.2.2.2.2.2.2.2.1
theorem DX9_goes_28 : dAre cX9_goes [(28, .istore_n 3, 1), (29, .aload_n 0, 1), (30, .iload_n 1, 1), (31, .iload_n 3, 1), (32, .invokevirtual 259, 3), (35, .istore 4, 2), (37, .iload 4, 2), (39, .iconst (-1), 1), (40, .if_icmp .ne 63, 3), (43, .aload_n 0, 1), (44, .getfield 46, 3), (47, .aload_n 0, 1), (48, .getfield 43, 3), (51, .iload_n 1, 1), (52, .iaload, 1), (53, .iload_n 3, 1)] := dAre0 (by decide +kernel)
theorem dX9_goes_28 : decode cX9_goes 28 = .ok (.istore_n 3, 1) := DX9_goes_28.1
theorem dX9_goes_29 : decode cX9_goes 29 = .ok (.aload_n 0, 1) := DX9_goes_28.2.1
theorem dX9_goes_30 : decode cX9_goes 30 = .ok (.iload_n 1, 1) := DX9_goes_28.2.2.1
theorem dX9_goes_31 : decode cX9_goes 31 = .ok (.iload_n 3, 1) := DX9_goes_28.2.2.2.1
theorem dX9_goes_32 : decode cX9_goes 32 = .ok (.invokevirtual 259, 3) := DX9_goes_28.2.2.2.2.1
theorem dX9_goes_35 : decode cX9_goes 35 = .ok (.istore 4, 2) := DX9_goes_28.2.2.2.2.2.1
theorem dX9_goes_37 : decode cX9_goes 37 = .ok (.iload 4, 2) := DX9_goes_28.2.2.2.2.2.2.1
theorem dX9_goes_39 : decode cX9_goes 39 = .ok (.iconst (-1), 1) := DX9_goes_28.2.2.2.2.2.2.2.1
theorem dX9_goes_40 : decode cX9_goes 40 = .ok (.if_icmp .ne 63, 3) := DX9_goes_28.2.2.2.2.2.2.2.2.1
theorem dX9_goes_43 : decode cX9_goes 43 = .ok (.aload_n 0, 1) := DX9_goes_28.2.2.2.2.2.2.2.2.2.1
theorem dX9_goes_44 : decode cX9_goes 44 = .ok (.getfield 46, 3) := DX9_goes_28.2.2.2.2.2.2.2.2.2.2.1
theorem dX9_goes_47 : decode cX9_goes 47 = .ok (.aload_n 0, 1) := DX9_goes_28.2.2.2.2.2.2.2.2.2.2.2.1
theorem dX9_goes_48 : decode cX9_goes 48 = .ok (.getfield 43, 3) := DX9_goes_28.2.2.2.2.2.2.2.2.2.2.2.2.1
theorem dX9_goes_51 : decode cX9_goes 51 = .ok (.iload_n 1, 1) := DX9_goes_28.2.2.2.2.2.2.2.2.2.2.2.2.2.1
theorem dX9_goes_52 : decode cX9_goes 52 = .ok (.iaload, 1) := DX9_goes_28.2.2.2.2.2.2.2.2.2.2.2.2.2.2.1
theorem dX9_goes_53 : decode cX9_goes 53 = .ok (.iload_n 3, 1) := DX9_goes_28.2.2.2.2.2.2.2.2.2.2.2.2.2.2.2.1
theorem DX9_goes_54 : dAre cX9_goes [(54, .iastore, 1), (55, .aload_n 0, 1), (56, .getfield 58, 3), (59, .iload_n 1, 1), (60, .iconst 1, 1), (61, .iadd, 1), (62, .dup2, 1), (63, .iaload, 1), (64, .iconst 1, 1), (65, .iadd, 1), (66, .iastore, 1), (67, .aload_n 0, 1), (68, .iload_n 1, 1), (69, .iconst 1, 1), (70, .iadd, 1), (71, .invokevirtual 262, 3)] := dAre0 (by decide +kernel)
theorem dX9_goes_54 : decode cX9_goes 54 = .ok (.iastore, 1) := DX9_goes_54.1
theorem dX9_goes_55 : decode cX9_goes 55 = .ok (.aload_n 0, 1) := DX9_goes_54.2.1
theorem dX9_goes_56 : decode cX9_goes 56 = .ok (.getfield 58, 3) := DX9_goes_54.2.2.1
theorem dX9_goes_59 : decode cX9_goes 59 = .ok (.iload_n 1, 1) := DX9_goes_54.2.2.2.1
theorem dX9_goes_60 : decode cX9_goes 60 = .ok (.iconst 1, 1) := DX9_goes_54.2.2.2.2.1
theorem dX9_goes_61 : decode cX9_goes 61 = .ok (.iadd, 1) := DX9_goes_54.2.2.2.2.2.1
theorem dX9_goes_62 : decode cX9_goes 62 = .ok (.dup2, 1) := DX9_goes_54.2.2.2.2.2.2.1
theorem dX9_goes_63 : decode cX9_goes 63 = .ok (.iaload, 1) := DX9_goes_54.2.2.2.2.2.2.2.1
theorem dX9_goes_64 : decode cX9_goes 64 = .ok (.iconst 1, 1) := DX9_goes_54.2.2.2.2.2.2.2.2.1
theorem dX9_goes_65 : decode cX9_goes 65 = .ok (.iadd, 1) := DX9_goes_54.2.2.2.2.2.2.2.2.2.1
theorem dX9_goes_66 : decode cX9_goes 66 = .ok (.iastore, 1) := DX9_goes_54.2.2.2.2.2.2.2.2.2.2.1
theorem dX9_goes_67 : decode cX9_goes 67 = .ok (.aload_n 0, 1) := DX9_goes_54.2.2.2.2.2.2.2.2.2.2.2.1
theorem dX9_goes_68 : decode cX9_goes 68 = .ok (.iload_n 1, 1) := DX9_goes_54.2.2.2.2.2.2.2.2.2.2.2.2.1
theorem dX9_goes_69 : decode cX9_goes 69 = .ok (.iconst 1, 1) := DX9_goes_54.2.2.2.2.2.2.2.2.2.2.2.2.2.1
theorem dX9_goes_70 : decode cX9_goes 70 = .ok (.iadd, 1) := DX9_goes_54.2.2.2.2.2.2.2.2.2.2.2.2.2.2.1
theorem dX9_goes_71 : decode cX9_goes 71 = .ok (.invokevirtual 262, 3) := DX9_goes_54.2.2.2.2.2.2.2.2.2.2.2.2.2.2.2.1
theorem DX9_goes_74 : dAre cX9_goes [(74, .aload_n 0, 1), (75, .getfield 46, 3), (78, .aload_n 0, 1), (79, .getfield 43, 3), (82, .iload_n 1, 1), (83, .iaload, 1), (84, .iconst (-1), 1), (85, .iastore, 1), (86, .aload_n 0, 1), (87, .iload_n 1, 1), (88, .aload_n 0, 1), (89, .iload_n 1, 1), (90, .invokevirtual 265, 3), (93, .iload_n 3, 1), (94, .iconst 1, 1), (95, .iadd, 1)] := dAre0 (by decide +kernel)
theorem dX9_goes_74 : decode cX9_goes 74 = .ok (.aload_n 0, 1) := DX9_goes_74.1
theorem dX9_goes_75 : decode cX9_goes 75 = .ok (.getfield 46, 3) := DX9_goes_74.2.1
theorem dX9_goes_78 : decode cX9_goes 78 = .ok (.aload_n 0, 1) := DX9_goes_74.2.2.1
theorem dX9_goes_79 : decode cX9_goes 79 = .ok (.getfield 43, 3) := DX9_goes_74.2.2.2.1
theorem dX9_goes_82 : decode cX9_goes 82 = .ok (.iload_n 1, 1) := DX9_goes_74.2.2.2.2.1
theorem dX9_goes_83 : decode cX9_goes 83 = .ok (.iaload, 1) := DX9_goes_74.2.2.2.2.2.1
theorem dX9_goes_84 : decode cX9_goes 84 = .ok (.iconst (-1), 1) := DX9_goes_74.2.2.2.2.2.2.1
theorem dX9_goes_85 : decode cX9_goes 85 = .ok (.iastore, 1) := DX9_goes_74.2.2.2.2.2.2.2.1
theorem dX9_goes_86 : decode cX9_goes 86 = .ok (.aload_n 0, 1) := DX9_goes_74.2.2.2.2.2.2.2.2.1
theorem dX9_goes_87 : decode cX9_goes 87 = .ok (.iload_n 1, 1) := DX9_goes_74.2.2.2.2.2.2.2.2.2.1
theorem dX9_goes_88 : decode cX9_goes 88 = .ok (.aload_n 0, 1) := DX9_goes_74.2.2.2.2.2.2.2.2.2.2.1
theorem dX9_goes_89 : decode cX9_goes 89 = .ok (.iload_n 1, 1) := DX9_goes_74.2.2.2.2.2.2.2.2.2.2.2.1
theorem dX9_goes_90 : decode cX9_goes 90 = .ok (.invokevirtual 265, 3) := DX9_goes_74.2.2.2.2.2.2.2.2.2.2.2.2.1
theorem dX9_goes_93 : decode cX9_goes 93 = .ok (.iload_n 3, 1) := DX9_goes_74.2.2.2.2.2.2.2.2.2.2.2.2.2.1
theorem dX9_goes_94 : decode cX9_goes 94 = .ok (.iconst 1, 1) := DX9_goes_74.2.2.2.2.2.2.2.2.2.2.2.2.2.2.1
theorem dX9_goes_95 : decode cX9_goes 95 = .ok (.iadd, 1) := DX9_goes_74.2.2.2.2.2.2.2.2.2.2.2.2.2.2.2.1
theorem DX9_goes_96 : dAre cX9_goes [(96, .invokevirtual 268, 3), (99, .istore_n 2, 1), (100, .goto 12, 3), (103, .aload_n 0, 1), (104, .iload_n 1, 1), (105, .iload 4, 2), (107, .iload_n 3, 1), (108, .invokevirtual 268, 3), (111, .istore_n 2, 1), (112, .goto (-93), 3), (115, .return_, 1)] := dAre0 (by decide +kernel)
theorem dX9_goes_96 : decode cX9_goes 96 = .ok (.invokevirtual 268, 3) := DX9_goes_96.1
theorem dX9_goes_99 : decode cX9_goes 99 = .ok (.istore_n 2, 1) := DX9_goes_96.2.1
theorem dX9_goes_100 : decode cX9_goes 100 = .ok (.goto 12, 3) := DX9_goes_96.2.2.1
theorem dX9_goes_103 : decode cX9_goes 103 = .ok (.aload_n 0, 1) := DX9_goes_96.2.2.2.1
theorem dX9_goes_104 : decode cX9_goes 104 = .ok (.iload_n 1, 1) := DX9_goes_96.2.2.2.2.1
theorem dX9_goes_105 : decode cX9_goes 105 = .ok (.iload 4, 2) := DX9_goes_96.2.2.2.2.2.1
theorem dX9_goes_107 : decode cX9_goes 107 = .ok (.iload_n 3, 1) := DX9_goes_96.2.2.2.2.2.2.1
theorem dX9_goes_108 : decode cX9_goes 108 = .ok (.invokevirtual 268, 3) := DX9_goes_96.2.2.2.2.2.2.2.1
theorem dX9_goes_111 : decode cX9_goes 111 = .ok (.istore_n 2, 1) := DX9_goes_96.2.2.2.2.2.2.2.2.1
theorem dX9_goes_112 : decode cX9_goes 112 = .ok (.goto (-93), 3) := DX9_goes_96.2.2.2.2.2.2.2.2.2.1
theorem dX9_goes_115 : decode cX9_goes 115 = .ok (.return_, 1) := DX9_goes_96.2.2.2.2.2.2.2.2.2.2.1
theorem mX9_goes : gMv yX9_goes cX9_goes 5 none RX9 1 := ⟨q1068, q1421, q10, q1069, rfl, by decide, by decide, by decide +kernel⟩
noncomputable def bX9_goes_112 (rec : Int32 → gM → Option gM) (v2 : Int32) (I : gM) : Option ((Int32 × gM) ⊕ (gM)) :=
  some (.inl (v2, I))
set_option maxRecDepth 100000 in
set_option maxHeartbeats 4000000 in
theorem wbX9_goes_112 {z : gZ} {E : gE} {bk : Nat} {hh : Nat} (F : Fx z sh E "LeapJoinModel" cX9_goes (gR (hh + 1)) 5) (B : bZ z bk) (hE : gDist sh E) (hhc : 4 ≤ hh) {rec : Int32 → gM → Option gM} (hrec : ∀ (d : Int32) (I : gM) (J : gN) (r : gM), rec d I = some r → Cu (zl z) sh E bk yX9_goes cX9_goes 5 none (gR hh) [.ref (E.2.1 62), .int d] I J (fun r1 I1 J1 => r1 = none ∧ I1 = r ∧ J1 = J)) (v1 : Int32) (v2 : Int32) (I : gM) (J : gN) {y : (Int32 × gM) ⊕ (gM)} (h : bX9_goes_112 rec v2 I = some y) (hl : ∀ s' : Int32 × gM, y = .inl s' → G z 19 [(0, .ref (E.2.1 62)), (1, .int v1), (2, .int (s'.1))] [] s'.2 J) (K19_0 : ∀ x : gM, y = .inr x → G z 115 [] [] x J) : G z 112 [(0, .ref (E.2.1 62)), (1, .int v1), (2, .int v2)] [] I J := by
  unfold bX9_goes_112 at h
  refine g_goto (tgt := 19) F dX9_goes_112 (by decide) ?_
  obtain rfl := Option.some.inj h
  refine g_sub (Ln := [(0, .ref (E.2.1 62)), (1, .int v1), (2, .int v2)]) [0, 1, 2] rfl ?_
  exact hl (v2, I) rfl
noncomputable def lX9_goes_19 (rec : Int32 → gM → Option gM) (v1 : Int32) : (Int32 × gM) → Option (gM) :=
  itO fun s =>
    if s.1 = 0 then
      some (.inr s.2)
    else
      (fX9_greatestKey v1 s.2).bind fun r3 =>
      (fX9_firstBehind v1 r3 s.2).bind fun r4 =>
      if r4 = (-1) then
        (rI 4 (s.2 74) v1).bind fun u5 =>
        (wI s.2 75 4 u5 r3).bind fun I6 =>
        (rI 5 (I6 79) (v1 + 1)).bind fun u7 =>
        (wI I6 79 5 (v1 + 1) (u7 + 1)).bind fun I8 =>
        (rec (v1 + 1) I8).bind fun r9 =>
        (rI 4 (r9 74) v1).bind fun u10 =>
        (wI r9 75 4 u10 (-1)).bind fun I11 =>
        (fX9_firstIn v1 I11).bind fun r12 =>
        (fX9_leaps v1 r12 (r3 + 1) I11).bind fun r13 =>
        bX9_goes_112 rec r13.1 r13.2
      else
        (fX9_leaps v1 r4 r3 s.2).bind fun r14 =>
        bX9_goes_112 rec r14.1 r14.2
set_option maxRecDepth 100000 in
set_option maxHeartbeats 4000000 in
theorem wlX9_goes_19 {z : gZ} {E : gE} {bk : Nat} {hh : Nat} (F : Fx z sh E "LeapJoinModel" cX9_goes (gR (hh + 1)) 5) (B : bZ z bk) (hE : gDist sh E) (hhc : 4 ≤ hh) {rec : Int32 → gM → Option gM} (hrec : ∀ (d : Int32) (I : gM) (J : gN) (r : gM), rec d I = some r → Cu (zl z) sh E bk yX9_goes cX9_goes 5 none (gR hh) [.ref (E.2.1 62), .int d] I J (fun r1 I1 J1 => r1 = none ∧ I1 = r ∧ J1 = J)) (v1 : Int32) (J : gN) {r : gM} : ∀ s : Int32 × gM, lX9_goes_19 rec v1 s = some r → (G z 115 [] [] r J) → G z 19 [(0, .ref (E.2.1 62)), (1, .int v1), (2, .int s.1)] [] s.2 J := by
  intro s h X0
  unfold lX9_goes_19 at h
  revert s
  refine itO_ind (P := fun s : Int32 × gM => G z 19 [(0, .ref (E.2.1 62)), (1, .int v1), (2, .int s.1)] [] s.2 J) (fun s y h hl hr => ?_)
  have K19_0 : ∀ x : gM, y = .inr x → (G z 115 [] [] x J) := fun x q => by have q2 := hr _ q; subst q2; exact X0
  refine g_iload_n F 2 dX9_goes_19 rfl rfl ?_
  refine u_if_eq (tgt := 115) F dX9_goes_20 (by decide) h (fun h => ?_) (fun h => ?_)
  · obtain rfl := Option.some.inj h
    refine g_sub (Ln := []) [] rfl ?_
    exact K19_0 s.2 rfl
  · refine g_aload_n F 0 dX9_goes_23 rfl rfl ?_
    refine g_iload_n F 1 dX9_goes_24 rfl rfl ?_
    refine u_callV (k := 62) (As := [.int v1]) (rest := []) (sn := fun r3 => [.int r3]) F B (fun _ => wX9_greatestKey (zl z) E hE bk v1 s.2 J) mX9_greatestKey q1088 (gRok_of (by omega) (by decide)) s62 rfl rfl rfl (Nat.le_of_ble_eq_true rfl) dX9_goes_25 (fun _ => rfl) h (fun r3 h => ?_)
    refine g_istore_n (Ln := [(3, .int r3), (0, .ref (E.2.1 62)), (1, .int v1), (2, .int s.1)]) F dX9_goes_28 rfl (by decide) rfl ?_
    refine g_aload_n F 1 dX9_goes_29 rfl rfl ?_
    refine g_iload_n F 2 dX9_goes_30 rfl rfl ?_
    refine g_iload_n F 0 dX9_goes_31 rfl rfl ?_
    refine u_callV (k := 62) (As := [.int v1, .int r3]) (rest := []) (sn := fun r4 => [.int r4]) F B (fun _ => wX9_firstBehind (zl z) E hE bk v1 r3 s.2 J) mX9_firstBehind q1095 (gRok_of (by omega) (by decide)) s62 rfl rfl rfl (Nat.le_of_ble_eq_true rfl) dX9_goes_32 (fun _ => rfl) h (fun r4 h => ?_)
    refine g_istore (Ln := [(4, .int r4), (3, .int r3), (0, .ref (E.2.1 62)), (1, .int v1), (2, .int s.1)]) F dX9_goes_35 (by decide) rfl ?_
    refine g_iload F 0 dX9_goes_37 rfl ?_
    refine g_iconst (v := (-1)) F dX9_goes_39 (by decide) ?_
    refine u_icmp_ne (tgt := 103) F dX9_goes_40 (by decide) h (fun h => ?_) (fun h => ?_)
    · refine g_aload_n F 2 dX9_goes_43 rfl rfl ?_
      refine g_getr (j := 20) (nn := 75) F s62 rfl rfl uX9 (by decide) q841 dX9_goes_44 ?_
      refine g_aload_n F 2 dX9_goes_47 rfl rfl ?_
      refine g_getr (j := 18) (nn := 74) F s62 rfl rfl uX9 (by decide) q839 dX9_goes_48 ?_
      refine g_iload_n F 3 dX9_goes_51 rfl rfl ?_
      refine u_rI F s74 (by decide) dX9_goes_52 h (fun u5 h => ?_)
      refine g_iload_n F 1 dX9_goes_53 rfl rfl ?_
      refine u_wI F s75 (by decide) dX9_goes_54 h (fun I6 h => ?_)
      refine g_aload_n F 2 dX9_goes_55 rfl rfl ?_
      refine g_getr (j := 24) (nn := 79) F s62 rfl rfl uX9 (by decide) q845 dX9_goes_56 ?_
      refine g_iload_n F 3 dX9_goes_59 rfl rfl ?_
      refine g_iconst (v := 1) F dX9_goes_60 (by decide) ?_
      refine g_iadd (v := v1 + 1) F dX9_goes_61 rfl ?_
      refine g_dup2 F dX9_goes_62 rfl rfl ?_
      refine u_rI F s79 (by decide) dX9_goes_63 h (fun u7 h => ?_)
      refine g_iconst (v := 1) F dX9_goes_64 (by decide) ?_
      refine g_iadd (v := u7 + 1) F dX9_goes_65 rfl ?_
      refine u_wI F s79 (by decide) dX9_goes_66 h (fun I8 h => ?_)
      refine g_aload_n F 2 dX9_goes_67 rfl rfl ?_
      refine g_iload_n F 3 dX9_goes_68 rfl rfl ?_
      refine g_iconst (v := 1) F dX9_goes_69 (by decide) ?_
      refine g_iadd (v := v1 + 1) F dX9_goes_70 rfl ?_
      refine u_callV (k := 62) (As := [.int (v1 + 1)]) (rest := []) (sn := fun _ => []) F B (fun _ => hrec (v1 + 1) _ _ _) mX9_goes q1067 (gRok_of (by omega) (by decide)) s62 rfl rfl rfl (Nat.le_of_ble_eq_true rfl) dX9_goes_71 (fun _ => rfl) h (fun r9 h => ?_)
      refine g_aload_n F 2 dX9_goes_74 rfl rfl ?_
      refine g_getr (j := 20) (nn := 75) F s62 rfl rfl uX9 (by decide) q841 dX9_goes_75 ?_
      refine g_aload_n F 2 dX9_goes_78 rfl rfl ?_
      refine g_getr (j := 18) (nn := 74) F s62 rfl rfl uX9 (by decide) q839 dX9_goes_79 ?_
      refine g_iload_n F 3 dX9_goes_82 rfl rfl ?_
      refine u_rI F s74 (by decide) dX9_goes_83 h (fun u10 h => ?_)
      refine g_iconst (v := (-1)) F dX9_goes_84 (by decide) ?_
      refine u_wI F s75 (by decide) dX9_goes_85 h (fun I11 h => ?_)
      refine g_aload_n F 2 dX9_goes_86 rfl rfl ?_
      refine g_iload_n F 3 dX9_goes_87 rfl rfl ?_
      refine g_aload_n F 2 dX9_goes_88 rfl rfl ?_
      refine g_iload_n F 3 dX9_goes_89 rfl rfl ?_
      refine u_callV (k := 62) (As := [.int v1]) (rest := [.int v1, .ref (E.2.1 62)]) (sn := fun r12 => [.int r12, .int v1, .ref (E.2.1 62)]) F B (fun _ => wX9_firstIn (zl z) E hE bk v1 I11 J) mX9_firstIn q1098 (gRok_of (by omega) (by decide)) s62 rfl rfl rfl (Nat.le_of_ble_eq_true rfl) dX9_goes_90 (fun _ => rfl) h (fun r12 h => ?_)
      refine g_iload_n F 1 dX9_goes_93 rfl rfl ?_
      refine g_iconst (v := 1) F dX9_goes_94 (by decide) ?_
      refine g_iadd (v := r3 + 1) F dX9_goes_95 rfl ?_
      refine u_callV (k := 62) (As := [.int v1, .int r12, .int (r3 + 1)]) (rest := []) (sn := fun r13 => [.int r13.1]) F B (fun _ => wX9_leaps (zl z) E hE bk v1 r12 (r3 + 1) I11 J) mX9_leaps q1101 (gRok_of (by omega) (by decide)) s62 rfl rfl rfl (Nat.le_of_ble_eq_true rfl) dX9_goes_96 (fun _ => rfl) h (fun r13 h => ?_)
      refine g_istore_n (Ln := [(2, .int r13.1), (4, .int r4), (3, .int r3), (0, .ref (E.2.1 62)), (1, .int v1)]) F dX9_goes_99 rfl (by decide) rfl ?_
      refine g_goto (tgt := 112) F dX9_goes_100 (by decide) ?_
      refine g_sub (Ln := [(0, .ref (E.2.1 62)), (1, .int v1), (2, .int r13.1)]) [3, 4, 0] rfl ?_
      exact wbX9_goes_112 F B hE hhc hrec v1 r13.1 r13.2 J h hl K19_0
    · refine g_aload_n F 2 dX9_goes_103 rfl rfl ?_
      refine g_iload_n F 3 dX9_goes_104 rfl rfl ?_
      refine g_iload F 0 dX9_goes_105 rfl ?_
      refine g_iload_n F 1 dX9_goes_107 rfl rfl ?_
      refine u_callV (k := 62) (As := [.int v1, .int r4, .int r3]) (rest := []) (sn := fun r14 => [.int r14.1]) F B (fun _ => wX9_leaps (zl z) E hE bk v1 r4 r3 s.2 J) mX9_leaps q1101 (gRok_of (by omega) (by decide)) s62 rfl rfl rfl (Nat.le_of_ble_eq_true rfl) dX9_goes_108 (fun _ => rfl) h (fun r14 h => ?_)
      refine g_istore_n (Ln := [(2, .int r14.1), (4, .int r4), (3, .int r3), (0, .ref (E.2.1 62)), (1, .int v1)]) F dX9_goes_111 rfl (by decide) rfl ?_
      refine g_sub (Ln := [(0, .ref (E.2.1 62)), (1, .int v1), (2, .int r14.1)]) [3, 4, 0] rfl ?_
      exact wbX9_goes_112 F B hE hhc hrec v1 r14.1 r14.2 J h hl K19_0
noncomputable def fX9_goesB (rec : Int32 → gM → Option gM) (v1 : Int32) (I : gM) : Option (gM) :=
  if v1 = (I 62 19) then
    (fX9_takesRow I).bind fun r1 =>
    some r1
  else
    (fX9_laysKeys v1 I).bind fun r2 =>
    (lX9_goes_19 rec v1 (r2.1, r2.2)).bind fun w15 =>
    some w15
set_option maxRecDepth 100000 in
set_option maxHeartbeats 4000000 in
theorem wX9_goesB (l : Launch) (E : gE) (hE : gDist sh E) (bk : Nat) {hh : Nat} (hhc : 4 ≤ hh) {rec : Int32 → gM → Option gM} (hrec : ∀ (d : Int32) (I : gM) (J : gN) (r : gM), rec d I = some r → Cu l sh E bk yX9_goes cX9_goes 5 none (gR hh) [.ref (E.2.1 62), .int d] I J (fun r1 I1 J1 => r1 = none ∧ I1 = r ∧ J1 = J)) (v1 : Int32) (I : gM) (J : gN) {r : gM} (h : fX9_goesB rec v1 I = some r) : Cu l sh E bk yX9_goes cX9_goes 5 none (gR (hh + 1)) [.ref (E.2.1 62), .int v1] I J (fun r1 I1 J1 => r1 = none ∧ I1 = r ∧ J1 = J) := by
  refine Cu.of "LeapJoinModel" rfl hE (by decide) (Nat.le_of_ble_eq_true rfl) (fun z F B e hl => ?_)
  subst hl
  unfold fX9_goesB at h
  refine g_iload_n F 1 dX9_goes_0 rfl rfl ?_
  refine g_aload_n F 0 dX9_goes_1 rfl rfl ?_
  refine g_geti (j := 19) (v := I 62 19) F s62 rfl rfl uX9 (by decide) q840 rfl dX9_goes_2 ?_
  refine u_icmp_ne (tgt := 13) F dX9_goes_5 (by decide) h (fun h => ?_) (fun h => ?_)
  · refine g_aload_n F 0 dX9_goes_8 rfl rfl ?_
    refine u_callV (k := 62) (As := []) (rest := []) (sn := fun _ => []) F B (fun _ => wX9_takesRow (zl z) E hE bk  I J) mX9_takesRow q1070 (gRok_of (by omega) (by decide)) s62 rfl rfl rfl (Nat.le_of_ble_eq_true rfl) dX9_goes_9 (fun _ => rfl) h (fun r1 h => ?_)
    obtain rfl := Option.some.inj h
    exact g_vret F e dX9_goes_12 ⟨rfl, rfl, rfl⟩
  · refine g_aload_n F 0 dX9_goes_13 rfl rfl ?_
    refine g_iload_n F 1 dX9_goes_14 rfl rfl ?_
    refine u_callV (k := 62) (As := [.int v1]) (rest := []) (sn := fun r2 => [.int r2.1]) F B (fun _ => wX9_laysKeys (zl z) E hE bk v1 I J) mX9_laysKeys q1073 (gRok_of (by omega) (by decide)) s62 rfl rfl rfl (Nat.le_of_ble_eq_true rfl) dX9_goes_15 (fun _ => rfl) h (fun r2 h => ?_)
    refine g_istore_n (Ln := [(2, .int r2.1), (0, .ref (E.2.1 62)), (1, .int v1)]) F dX9_goes_18 rfl (by decide) rfl ?_
    obtain ⟨w15, ew15, h⟩ := ob h
    refine g_sub (Ln := [(0, .ref (E.2.1 62)), (1, .int v1), (2, .int r2.1)]) [1, 2, 0] rfl ?_
    refine wlX9_goes_19 F B hE hhc hrec v1 J _ ew15 ?_
    obtain rfl := Option.some.inj h
    exact g_vret F e dX9_goes_115 ⟨rfl, rfl, rfl⟩
noncomputable def fX9_goes : Nat → Int32 → gM → Option gM
  | 0, _, _ => none
  | n + 1, d, I => fX9_goesB (fun d I => fX9_goes n d I) d I
theorem wX9_goes (l : Launch) (E : gE) (hE : gDist sh E) (bk n : Nat) : ∀ (d : Int32) (I : gM) (J : gN) {r : gM} (_ : fX9_goes n d I = some r), Cu l sh E bk yX9_goes cX9_goes 5 none (gR (4 + n)) [.ref (E.2.1 62), .int d] I J (fun r1 I1 J1 => r1 = none ∧ I1 = r ∧ J1 = J) := by
  induction n with
  | zero => intro d I J r h; cases h
  | succ n ih => intro d I J r h; exact wX9_goesB l E hE bk (hh := 4 + n) (Nat.le_add_right _ _) (fun d I J r h => ih d I J h) d I J h
theorem DX9_joins_0 : dAre cX9_joins [(0, .aload_n 0, 1), (1, .iload_n 1, 1), (2, .invokevirtual 271, 3), (5, .aload_n 0, 1), (6, .iconst 0, 1), (7, .putfield 247, 3), (10, .aload_n 0, 1), (11, .iconst 0, 1), (12, .putfield 244, 3), (15, .iconst 0, 1), (16, .istore_n 2, 1), (17, .iload_n 2, 1), (18, .iconst 4, 1), (19, .if_icmp .ge 25, 3), (22, .aload_n 0, 1), (23, .getfield 46, 3)] := dAre0 (by decide +kernel)
theorem dX9_joins_0 : decode cX9_joins 0 = .ok (.aload_n 0, 1) := DX9_joins_0.1
theorem dX9_joins_1 : decode cX9_joins 1 = .ok (.iload_n 1, 1) := DX9_joins_0.2.1
theorem dX9_joins_2 : decode cX9_joins 2 = .ok (.invokevirtual 271, 3) := DX9_joins_0.2.2.1
theorem dX9_joins_5 : decode cX9_joins 5 = .ok (.aload_n 0, 1) := DX9_joins_0.2.2.2.1
theorem dX9_joins_6 : decode cX9_joins 6 = .ok (.iconst 0, 1) := DX9_joins_0.2.2.2.2.1
theorem dX9_joins_7 : decode cX9_joins 7 = .ok (.putfield 247, 3) := DX9_joins_0.2.2.2.2.2.1
theorem dX9_joins_10 : decode cX9_joins 10 = .ok (.aload_n 0, 1) := DX9_joins_0.2.2.2.2.2.2.1
theorem dX9_joins_11 : decode cX9_joins 11 = .ok (.iconst 0, 1) := DX9_joins_0.2.2.2.2.2.2.2.1
theorem dX9_joins_12 : decode cX9_joins 12 = .ok (.putfield 244, 3) := DX9_joins_0.2.2.2.2.2.2.2.2.1
theorem dX9_joins_15 : decode cX9_joins 15 = .ok (.iconst 0, 1) := DX9_joins_0.2.2.2.2.2.2.2.2.2.1
theorem dX9_joins_16 : decode cX9_joins 16 = .ok (.istore_n 2, 1) := DX9_joins_0.2.2.2.2.2.2.2.2.2.2.1
theorem dX9_joins_17 : decode cX9_joins 17 = .ok (.iload_n 2, 1) := DX9_joins_0.2.2.2.2.2.2.2.2.2.2.2.1
theorem dX9_joins_18 : decode cX9_joins 18 = .ok (.iconst 4, 1) := DX9_joins_0.2.2.2.2.2.2.2.2.2.2.2.2.1
theorem dX9_joins_19 : decode cX9_joins 19 = .ok (.if_icmp .ge 25, 3) := DX9_joins_0.2.2.2.2.2.2.2.2.2.2.2.2.2.1
theorem dX9_joins_22 : decode cX9_joins 22 = .ok (.aload_n 0, 1) := DX9_joins_0.2.2.2.2.2.2.2.2.2.2.2.2.2.2.1
theorem dX9_joins_23 : decode cX9_joins 23 = .ok (.getfield 46, 3) := DX9_joins_0.2.2.2.2.2.2.2.2.2.2.2.2.2.2.2.1
theorem DX9_joins_26 : dAre cX9_joins [(26, .iload_n 2, 1), (27, .iconst (-1), 1), (28, .iastore, 1), (29, .aload_n 0, 1), (30, .getfield 58, 3), (33, .iload_n 2, 1), (34, .iconst 1, 1), (35, .iadd, 1), (36, .iconst 0, 1), (37, .iastore, 1), (38, .iinc 2 1, 3), (41, .goto (-24), 3), (44, .aload_n 0, 1), (45, .iconst 0, 1), (46, .invokevirtual 262, 3), (49, .return_, 1)] := dAre0 (by decide +kernel)
theorem dX9_joins_26 : decode cX9_joins 26 = .ok (.iload_n 2, 1) := DX9_joins_26.1
theorem dX9_joins_27 : decode cX9_joins 27 = .ok (.iconst (-1), 1) := DX9_joins_26.2.1
theorem dX9_joins_28 : decode cX9_joins 28 = .ok (.iastore, 1) := DX9_joins_26.2.2.1
theorem dX9_joins_29 : decode cX9_joins 29 = .ok (.aload_n 0, 1) := DX9_joins_26.2.2.2.1
theorem dX9_joins_30 : decode cX9_joins 30 = .ok (.getfield 58, 3) := DX9_joins_26.2.2.2.2.1
theorem dX9_joins_33 : decode cX9_joins 33 = .ok (.iload_n 2, 1) := DX9_joins_26.2.2.2.2.2.1
theorem dX9_joins_34 : decode cX9_joins 34 = .ok (.iconst 1, 1) := DX9_joins_26.2.2.2.2.2.2.1
theorem dX9_joins_35 : decode cX9_joins 35 = .ok (.iadd, 1) := DX9_joins_26.2.2.2.2.2.2.2.1
theorem dX9_joins_36 : decode cX9_joins 36 = .ok (.iconst 0, 1) := DX9_joins_26.2.2.2.2.2.2.2.2.1
theorem dX9_joins_37 : decode cX9_joins 37 = .ok (.iastore, 1) := DX9_joins_26.2.2.2.2.2.2.2.2.2.1
theorem dX9_joins_38 : decode cX9_joins 38 = .ok (.iinc 2 1, 3) := DX9_joins_26.2.2.2.2.2.2.2.2.2.2.1
theorem dX9_joins_41 : decode cX9_joins 41 = .ok (.goto (-24), 3) := DX9_joins_26.2.2.2.2.2.2.2.2.2.2.2.1
theorem dX9_joins_44 : decode cX9_joins 44 = .ok (.aload_n 0, 1) := DX9_joins_26.2.2.2.2.2.2.2.2.2.2.2.2.1
theorem dX9_joins_45 : decode cX9_joins 45 = .ok (.iconst 0, 1) := DX9_joins_26.2.2.2.2.2.2.2.2.2.2.2.2.2.1
theorem dX9_joins_46 : decode cX9_joins 46 = .ok (.invokevirtual 262, 3) := DX9_joins_26.2.2.2.2.2.2.2.2.2.2.2.2.2.2.1
theorem dX9_joins_49 : decode cX9_joins 49 = .ok (.return_, 1) := DX9_joins_26.2.2.2.2.2.2.2.2.2.2.2.2.2.2.2.1
theorem mX9_joins : gMv yX9_joins cX9_joins 3 none RX9 1 := ⟨q1056, q1417, q10, q1057, rfl, by decide, by decide, by decide +kernel⟩
noncomputable def lX9_joins_17 : (Int32 × gM) → Option (gM) :=
  itO fun s =>
    if (4 : Int32) ≤ s.1 then
      some (.inr s.2)
    else
      (wI s.2 75 4 s.1 (-1)).bind fun I4 =>
      (wI I4 79 5 (s.1 + 1) 0).bind fun I5 =>
      some (.inl (s.1 + 1, I5))
set_option maxRecDepth 100000 in
set_option maxHeartbeats 4000000 in
theorem wlX9_joins_17 {z : gZ} {E : gE} {bk : Nat} (F : Fx z sh E "LeapJoinModel" cX9_joins (gR 11) 3) (B : bZ z bk) (hE : gDist sh E) (J : gN) {r : gM} : ∀ s : Int32 × gM, lX9_joins_17 s = some r → (G z 44 [(0, .ref (E.2.1 62))] [] r J) → G z 17 [(0, .ref (E.2.1 62)), (2, .int s.1)] [] s.2 J := by
  intro s h X0
  unfold lX9_joins_17 at h
  revert s
  refine itO_ind (P := fun s : Int32 × gM => G z 17 [(0, .ref (E.2.1 62)), (2, .int s.1)] [] s.2 J) (fun s y h hl hr => ?_)
  have K17_0 : ∀ x : gM, y = .inr x → (G z 44 [(0, .ref (E.2.1 62))] [] x J) := fun x q => by have q2 := hr _ q; subst q2; exact X0
  refine g_iload_n F 1 dX9_joins_17 rfl rfl ?_
  refine g_iconst (v := 4) F dX9_joins_18 (by decide) ?_
  refine u_icmp_ge (tgt := 44) F dX9_joins_19 (by decide) h (fun h => ?_) (fun h => ?_)
  · obtain rfl := Option.some.inj h
    refine g_sub (Ln := [(0, .ref (E.2.1 62))]) [0] rfl ?_
    exact K17_0 s.2 rfl
  · refine g_aload_n F 0 dX9_joins_22 rfl rfl ?_
    refine g_getr (j := 20) (nn := 75) F s62 rfl rfl uX9 (by decide) q841 dX9_joins_23 ?_
    refine g_iload_n F 1 dX9_joins_26 rfl rfl ?_
    refine g_iconst (v := (-1)) F dX9_joins_27 (by decide) ?_
    refine u_wI F s75 (by decide) dX9_joins_28 h (fun I4 h => ?_)
    refine g_aload_n F 0 dX9_joins_29 rfl rfl ?_
    refine g_getr (j := 24) (nn := 79) F s62 rfl rfl uX9 (by decide) q845 dX9_joins_30 ?_
    refine g_iload_n F 1 dX9_joins_33 rfl rfl ?_
    refine g_iconst (v := 1) F dX9_joins_34 (by decide) ?_
    refine g_iadd (v := s.1 + 1) F dX9_joins_35 rfl ?_
    refine g_iconst (v := 0) F dX9_joins_36 (by decide) ?_
    refine u_wI F s79 (by decide) dX9_joins_37 h (fun I5 h => ?_)
    refine g_iinc (v := s.1 + 1) (Ln := [(2, .int (s.1 + 1)), (0, .ref (E.2.1 62))]) F 1 dX9_joins_38 rfl (add_c (by decide)) (by decide) rfl ?_
    refine g_goto (tgt := 17) F dX9_joins_41 (by decide) ?_
    obtain rfl := Option.some.inj h
    refine g_sub (Ln := [(0, .ref (E.2.1 62)), (2, .int (s.1 + 1))]) [1, 0] rfl ?_
    exact hl (s.1 + 1, I5) rfl
noncomputable def fX9_joins (v1 : Int32) (I : gM) : Option (gM) :=
  (fX9_laysOrder v1 I).bind fun r1 =>
  (pU r1 62 26 (0 : Int32)).bind fun I2 =>
  (pU I2 62 27 (0 : Int32)).bind fun I3 =>
  (lX9_joins_17 ((0 : Int32), I3)).bind fun w6 =>
  (fX9_goes 6 (0 : Int32) w6).bind fun r7 =>
  some r7
set_option maxRecDepth 100000 in
set_option maxHeartbeats 4000000 in
theorem wX9_joins (l : Launch) (E : gE) (hE : gDist sh E) (bk : Nat) (v1 : Int32) (I : gM) (J : gN) {r : gM} (h : fX9_joins v1 I = some r) : Cu l sh E bk yX9_joins cX9_joins 3 none (gR 11) [.ref (E.2.1 62), .int v1] I J (fun r1 I1 J1 => r1 = none ∧ I1 = r ∧ J1 = J) := by
  refine Cu.of "LeapJoinModel" rfl hE (by decide) (Nat.le_of_ble_eq_true rfl) (fun z F B e hl => ?_)
  subst hl
  unfold fX9_joins at h
  refine g_aload_n F 0 dX9_joins_0 rfl rfl ?_
  refine g_iload_n F 1 dX9_joins_1 rfl rfl ?_
  refine u_callV (k := 62) (As := [.int v1]) (rest := []) (sn := fun _ => []) F B (fun _ => wX9_laysOrder (zl z) E hE bk v1 I J) mX9_laysOrder q1058 rfl s62 rfl rfl rfl (Nat.le_of_ble_eq_true rfl) dX9_joins_2 (fun _ => rfl) h (fun r1 h => ?_)
  refine g_aload_n F 0 dX9_joins_5 rfl rfl ?_
  refine g_iconst (v := 0) F dX9_joins_6 (by decide) ?_
  refine u_puti (j := 26) F s62 rfl rfl uX9 (by decide) q847 tyX9_ok nmX9 rfl rfl rfl dX9_joins_7 h (fun I2 h => ?_)
  refine g_aload_n F 0 dX9_joins_10 rfl rfl ?_
  refine g_iconst (v := 0) F dX9_joins_11 (by decide) ?_
  refine u_puti (j := 27) F s62 rfl rfl uX9 (by decide) q848 tyX9_ok nmX9 rfl rfl rfl dX9_joins_12 h (fun I3 h => ?_)
  refine g_iconst (v := 0) F dX9_joins_15 (by decide) ?_
  refine g_istore_n (Ln := [(2, .int 0), (0, .ref (E.2.1 62)), (1, .int v1)]) F dX9_joins_16 rfl (by decide) rfl ?_
  obtain ⟨w6, ew6, h⟩ := ob h
  refine g_sub (Ln := [(0, .ref (E.2.1 62)), (2, .int 0)]) [1, 0] rfl ?_
  refine wlX9_joins_17 F B hE J _ ew6 ?_
  refine g_aload_n F 0 dX9_joins_44 rfl rfl ?_
  refine g_iconst (v := 0) F dX9_joins_45 (by decide) ?_
  refine u_callV (k := 62) (As := [.int 0]) (rest := []) (sn := fun _ => []) F B (fun _ => wX9_goes (zl z) E hE bk 6 (0 : Int32) w6 J) mX9_goes q1067 rfl s62 rfl rfl rfl (Nat.le_of_ble_eq_true rfl) dX9_joins_46 (fun _ => rfl) h (fun r7 h => ?_)
  obtain rfl := Option.some.inj h
  exact g_vret F e dX9_joins_49 ⟨rfl, rfl, rfl⟩
theorem DX9_joinsNow_0 : dAre cX9_joinsNow [(0, .aload_n 0, 1), (1, .aload_n 0, 1), (2, .getfield 31, 3), (5, .iconst 1, 1), (6, .iaload, 1), (7, .invokevirtual 274, 3), (10, .return_, 1)] := dAre0 (by decide +kernel)
theorem dX9_joinsNow_0 : decode cX9_joinsNow 0 = .ok (.aload_n 0, 1) := DX9_joinsNow_0.1
theorem dX9_joinsNow_1 : decode cX9_joinsNow 1 = .ok (.aload_n 0, 1) := DX9_joinsNow_0.2.1
theorem dX9_joinsNow_2 : decode cX9_joinsNow 2 = .ok (.getfield 31, 3) := DX9_joinsNow_0.2.2.1
theorem dX9_joinsNow_5 : decode cX9_joinsNow 5 = .ok (.iconst 1, 1) := DX9_joinsNow_0.2.2.2.1
theorem dX9_joinsNow_6 : decode cX9_joinsNow 6 = .ok (.iaload, 1) := DX9_joinsNow_0.2.2.2.2.1
theorem dX9_joinsNow_7 : decode cX9_joinsNow 7 = .ok (.invokevirtual 274, 3) := DX9_joinsNow_0.2.2.2.2.2.1
theorem dX9_joinsNow_10 : decode cX9_joinsNow 10 = .ok (.return_, 1) := DX9_joinsNow_0.2.2.2.2.2.2.1
theorem mX9_joinsNow : gMv yX9_joinsNow cX9_joinsNow 1 none RX9 0 := ⟨q1053, q1416, q10, q1054, rfl, by decide, by decide, by decide +kernel⟩
noncomputable def fX9_joinsNow (I : gM) : Option (gM) :=
  (rI 331 (I 70) (1 : Int32)).bind fun u1 =>
  (fX9_joins u1 I).bind fun r2 =>
  some r2
set_option maxRecDepth 100000 in
set_option maxHeartbeats 4000000 in
theorem wX9_joinsNow (l : Launch) (E : gE) (hE : gDist sh E) (bk : Nat) (I : gM) (J : gN) {r : gM} (h : fX9_joinsNow I = some r) : Cu l sh E bk yX9_joinsNow cX9_joinsNow 1 none (gR 12) [.ref (E.2.1 62)] I J (fun r1 I1 J1 => r1 = none ∧ I1 = r ∧ J1 = J) := by
  refine Cu.of "LeapJoinModel" rfl hE (by decide) (Nat.le_of_ble_eq_true rfl) (fun z F B e hl => ?_)
  subst hl
  unfold fX9_joinsNow at h
  refine g_aload_n F 0 dX9_joinsNow_0 rfl rfl ?_
  refine g_aload_n F 0 dX9_joinsNow_1 rfl rfl ?_
  refine g_getr (j := 13) (nn := 70) F s62 rfl rfl uX9 (by decide) q834 dX9_joinsNow_2 ?_
  refine g_iconst (v := 1) F dX9_joinsNow_5 (by decide) ?_
  refine u_rI F s70 (by decide) dX9_joinsNow_6 h (fun u1 h => ?_)
  refine u_callV (k := 62) (As := [.int u1]) (rest := []) (sn := fun _ => []) F B (fun _ => wX9_joins (zl z) E hE bk u1 I J) mX9_joins q1055 rfl s62 rfl rfl rfl (Nat.le_of_ble_eq_true rfl) dX9_joinsNow_7 (fun _ => rfl) h (fun r2 h => ?_)
  obtain rfl := Option.some.inj h
  exact g_vret F e dX9_joinsNow_10 ⟨rfl, rfl, rfl⟩
theorem DX9_numberOf_0 : dAre cX9_numberOf [(0, .aload_n 0, 1), (1, .getfield 62, 3), (4, .iconst 4, 1), (5, .iload_n 1, 1), (6, .imul, 1), (7, .iload_n 2, 1), (8, .iadd, 1), (9, .iaload, 1), (10, .ireturn, 1)] := dAre0 (by decide +kernel)
theorem dX9_numberOf_0 : decode cX9_numberOf 0 = .ok (.aload_n 0, 1) := DX9_numberOf_0.1
theorem dX9_numberOf_1 : decode cX9_numberOf 1 = .ok (.getfield 62, 3) := DX9_numberOf_0.2.1
theorem dX9_numberOf_4 : decode cX9_numberOf 4 = .ok (.iconst 4, 1) := DX9_numberOf_0.2.2.1
theorem dX9_numberOf_5 : decode cX9_numberOf 5 = .ok (.iload_n 1, 1) := DX9_numberOf_0.2.2.2.1
theorem dX9_numberOf_6 : decode cX9_numberOf 6 = .ok (.imul, 1) := DX9_numberOf_0.2.2.2.2.1
theorem dX9_numberOf_7 : decode cX9_numberOf 7 = .ok (.iload_n 2, 1) := DX9_numberOf_0.2.2.2.2.2.1
theorem dX9_numberOf_8 : decode cX9_numberOf 8 = .ok (.iadd, 1) := DX9_numberOf_0.2.2.2.2.2.2.1
theorem dX9_numberOf_9 : decode cX9_numberOf 9 = .ok (.iaload, 1) := DX9_numberOf_0.2.2.2.2.2.2.2.1
theorem dX9_numberOf_10 : decode cX9_numberOf 10 = .ok (.ireturn, 1) := DX9_numberOf_0.2.2.2.2.2.2.2.2.1
theorem mX9_numberOf : gMv yX9_numberOf cX9_numberOf 3 (some .int) RX9 2 := ⟨q1171, q1438, q10, q1172, rfl, by decide, by decide, by decide +kernel⟩
noncomputable def fX9_numberOf (v1 : Int32) (v2 : Int32) (I : gM) : Option (Int32) :=
  (rI 82944 (I 80) (((4 : Int32) * v1) + v2)).bind fun u1 =>
  some u1
set_option maxRecDepth 100000 in
set_option maxHeartbeats 4000000 in
theorem wX9_numberOf (l : Launch) (E : gE) (hE : gDist sh E) (bk : Nat) (v1 : Int32) (v2 : Int32) (I : gM) (J : gN) {r : Int32} (h : fX9_numberOf v1 v2 I = some r) : Cu l sh E bk yX9_numberOf cX9_numberOf 3 (some .int) (gR 0) [.ref (E.2.1 62), .int v1, .int v2] I J (fun r1 I1 J1 => r1 = some (.int r) ∧ I1 = I ∧ J1 = J) := by
  refine Cu.of "LeapJoinModel" rfl hE (by decide) (Nat.le_of_ble_eq_true rfl) (fun z F B e hl => ?_)
  subst hl
  unfold fX9_numberOf at h
  refine g_aload_n F 0 dX9_numberOf_0 rfl rfl ?_
  refine g_getr (j := 25) (nn := 80) F s62 rfl rfl uX9 (by decide) q846 dX9_numberOf_1 ?_
  refine g_iconst (v := 4) F dX9_numberOf_4 (by decide) ?_
  refine g_iload_n F 1 dX9_numberOf_5 rfl rfl ?_
  refine g_imul (v := (4 : Int32) * v1) F dX9_numberOf_6 rfl ?_
  refine g_iload_n F 2 dX9_numberOf_7 rfl rfl ?_
  refine g_iadd (v := ((4 : Int32) * v1) + v2) F dX9_numberOf_8 rfl ?_
  refine u_rI F s80 (by decide) dX9_numberOf_9 h (fun u1 h => ?_)
  obtain rfl := Option.some.inj h
  exact g_iret F e dX9_numberOf_10 ⟨rfl, rfl, rfl⟩
theorem DX9_isAsked_0 : dAre cX9_isAsked [(0, .aload_n 0, 1), (1, .invokevirtual 277, 3), (4, .ifCond .eq 27, 3), (7, .iload_n 1, 1), (8, .iconst 0, 1), (9, .iconst 3, 1), (10, .invokestatic 104, 3), (13, .ifCond .eq 18, 3), (16, .aload_n 0, 1), (17, .invokevirtual 220, 3), (20, .iload_n 1, 1), (21, .invokestatic 131, 3), (24, .ifCond .eq 7, 3), (27, .iconst 1, 1), (28, .goto 4, 3), (31, .iconst 0, 1)] := dAre0 (by decide +kernel)
theorem dX9_isAsked_0 : decode cX9_isAsked 0 = .ok (.aload_n 0, 1) := DX9_isAsked_0.1
theorem dX9_isAsked_1 : decode cX9_isAsked 1 = .ok (.invokevirtual 277, 3) := DX9_isAsked_0.2.1
theorem dX9_isAsked_4 : decode cX9_isAsked 4 = .ok (.ifCond .eq 27, 3) := DX9_isAsked_0.2.2.1
theorem dX9_isAsked_7 : decode cX9_isAsked 7 = .ok (.iload_n 1, 1) := DX9_isAsked_0.2.2.2.1
theorem dX9_isAsked_8 : decode cX9_isAsked 8 = .ok (.iconst 0, 1) := DX9_isAsked_0.2.2.2.2.1
theorem dX9_isAsked_9 : decode cX9_isAsked 9 = .ok (.iconst 3, 1) := DX9_isAsked_0.2.2.2.2.2.1
theorem dX9_isAsked_10 : decode cX9_isAsked 10 = .ok (.invokestatic 104, 3) := DX9_isAsked_0.2.2.2.2.2.2.1
theorem dX9_isAsked_13 : decode cX9_isAsked 13 = .ok (.ifCond .eq 18, 3) := DX9_isAsked_0.2.2.2.2.2.2.2.1
theorem dX9_isAsked_16 : decode cX9_isAsked 16 = .ok (.aload_n 0, 1) := DX9_isAsked_0.2.2.2.2.2.2.2.2.1
theorem dX9_isAsked_17 : decode cX9_isAsked 17 = .ok (.invokevirtual 220, 3) := DX9_isAsked_0.2.2.2.2.2.2.2.2.2.1
theorem dX9_isAsked_20 : decode cX9_isAsked 20 = .ok (.iload_n 1, 1) := DX9_isAsked_0.2.2.2.2.2.2.2.2.2.2.1
theorem dX9_isAsked_21 : decode cX9_isAsked 21 = .ok (.invokestatic 131, 3) := DX9_isAsked_0.2.2.2.2.2.2.2.2.2.2.2.1
theorem dX9_isAsked_24 : decode cX9_isAsked 24 = .ok (.ifCond .eq 7, 3) := DX9_isAsked_0.2.2.2.2.2.2.2.2.2.2.2.2.1
theorem dX9_isAsked_27 : decode cX9_isAsked 27 = .ok (.iconst 1, 1) := DX9_isAsked_0.2.2.2.2.2.2.2.2.2.2.2.2.2.1
theorem dX9_isAsked_28 : decode cX9_isAsked 28 = .ok (.goto 4, 3) := DX9_isAsked_0.2.2.2.2.2.2.2.2.2.2.2.2.2.2.1
theorem dX9_isAsked_31 : decode cX9_isAsked 31 = .ok (.iconst 0, 1) := DX9_isAsked_0.2.2.2.2.2.2.2.2.2.2.2.2.2.2.2.1
theorem dX9_isAsked_32 : decode cX9_isAsked 32 = .ok (.ireturn, 1) := by decide +kernel
theorem mX9_isAsked : gMv yX9_isAsked cX9_isAsked 2 (some .boolean) RX9 1 := ⟨q1168, q1437, q10, q1169, rfl, by decide, by decide, by decide +kernel⟩
noncomputable def fX9_isAsked (v1 : Int32) (I : gM) : Option (Int32) :=
  (fX9_areTables I).bind fun r1 =>
  if r1 = 0 then
    some (0 : Int32)
  else
    (fX9_in v1 (0 : Int32) (3 : Int32)).bind fun r2 =>
    if r2 = 0 then
      some (0 : Int32)
    else
      (fX9_asked I).bind fun r3 =>
      (fX9_has r3 v1).bind fun r4 =>
      if r4 = 0 then
        some (0 : Int32)
      else
        some (1 : Int32)
set_option maxRecDepth 100000 in
set_option maxHeartbeats 4000000 in
theorem wX9_isAsked (l : Launch) (E : gE) (hE : gDist sh E) (bk : Nat) (v1 : Int32) (I : gM) (J : gN) {r : Int32} (h : fX9_isAsked v1 I = some r) : Cu l sh E bk yX9_isAsked cX9_isAsked 2 (some .boolean) (gR 3) [.ref (E.2.1 62), .int v1] I J (fun r1 I1 J1 => r1 = some (.int r) ∧ I1 = I ∧ J1 = J) := by
  refine Cu.of "LeapJoinModel" rfl hE (by decide) (Nat.le_of_ble_eq_true rfl) (fun z F B e hl => ?_)
  subst hl
  unfold fX9_isAsked at h
  refine g_aload_n F 0 dX9_isAsked_0 rfl rfl ?_
  refine u_callV (k := 62) (As := []) (rest := []) (sn := fun r1 => [.int r1]) F B (fun _ => wX9_areTables (zl z) E hE bk  I J) mX9_areTables q1028 rfl s62 rfl rfl rfl (Nat.le_of_ble_eq_true rfl) dX9_isAsked_1 (fun _ => rfl) h (fun r1 h => ?_)
  refine u_if_eq (tgt := 31) F dX9_isAsked_4 (by decide) h (fun h => ?_) (fun h => ?_)
  · refine g_iconst (v := 0) F dX9_isAsked_31 (by decide) ?_
    obtain rfl := Option.some.inj h
    exact g_zret F rfl e dX9_isAsked_32 ⟨rfl, rfl, rfl⟩
  · refine g_iload_n F 1 dX9_isAsked_7 rfl rfl ?_
    refine g_iconst (v := 0) F dX9_isAsked_8 (by decide) ?_
    refine g_iconst (v := 3) F dX9_isAsked_9 (by decide) ?_
    refine u_callS (As := [.int v1, .int 0, .int 3]) (rest := []) (sn := fun r2 => [.int r2]) F B (fun _ => wX9_in (zl z) E hE bk v1 (0 : Int32) (3 : Int32) I J) mX9_in q923 rfl rfl rfl (Nat.le_of_ble_eq_true rfl) dX9_isAsked_10 (fun _ => rfl) h (fun r2 h => ?_)
    refine u_if_eq (tgt := 31) F dX9_isAsked_13 (by decide) h (fun h => ?_) (fun h => ?_)
    · refine g_iconst (v := 0) F dX9_isAsked_31 (by decide) ?_
      obtain rfl := Option.some.inj h
      exact g_zret F rfl e dX9_isAsked_32 ⟨rfl, rfl, rfl⟩
    · refine g_aload_n F 0 dX9_isAsked_16 rfl rfl ?_
      refine u_callV (k := 62) (As := []) (rest := []) (sn := fun r3 => [.int r3]) F B (fun _ => wX9_asked (zl z) E hE bk  I J) mX9_asked q1061 rfl s62 rfl rfl rfl (Nat.le_of_ble_eq_true rfl) dX9_isAsked_17 (fun _ => rfl) h (fun r3 h => ?_)
      refine g_iload_n F 1 dX9_isAsked_20 rfl rfl ?_
      refine u_callS (As := [.int r3, .int v1]) (rest := []) (sn := fun r4 => [.int r4]) F B (fun _ => wX9_has (zl z) E hE bk r3 v1 I J) mX9_has q954 rfl rfl rfl (Nat.le_of_ble_eq_true rfl) dX9_isAsked_21 (fun _ => rfl) h (fun r4 h => ?_)
      refine u_if_eq (tgt := 31) F dX9_isAsked_24 (by decide) h (fun h => ?_) (fun h => ?_)
      · refine g_iconst (v := 0) F dX9_isAsked_31 (by decide) ?_
        obtain rfl := Option.some.inj h
        exact g_zret F rfl e dX9_isAsked_32 ⟨rfl, rfl, rfl⟩
      · refine g_iconst (v := 1) F dX9_isAsked_27 (by decide) ?_
        refine g_goto (tgt := 32) F dX9_isAsked_28 (by decide) ?_
        obtain rfl := Option.some.inj h
        exact g_zret F rfl e dX9_isAsked_32 ⟨rfl, rfl, rfl⟩
theorem DX9_isRow_0 : dAre cX9_isRow [(0, .iload_n 2, 1), (1, .iconst 0, 1), (2, .bipush 99, 2), (4, .invokestatic 104, 3), (7, .istore 5, 2), (9, .iload 5, 2), (11, .ifCond .eq 35, 3), (14, .aload_n 0, 1), (15, .getfield 37, 3), (18, .iload_n 1, 1), (19, .iaload, 1), (20, .iconst 1, 1), (21, .if_icmp .le 16, 3), (24, .iload_n 3, 1), (25, .iconst 0, 1), (26, .bipush 99, 2)] := dAre0 (by decide +kernel)
theorem dX9_isRow_0 : decode cX9_isRow 0 = .ok (.iload_n 2, 1) := DX9_isRow_0.1
theorem dX9_isRow_1 : decode cX9_isRow 1 = .ok (.iconst 0, 1) := DX9_isRow_0.2.1
theorem dX9_isRow_2 : decode cX9_isRow 2 = .ok (.bipush 99, 2) := DX9_isRow_0.2.2.1
theorem dX9_isRow_4 : decode cX9_isRow 4 = .ok (.invokestatic 104, 3) := DX9_isRow_0.2.2.2.1
theorem dX9_isRow_7 : decode cX9_isRow 7 = .ok (.istore 5, 2) := DX9_isRow_0.2.2.2.2.1
theorem dX9_isRow_9 : decode cX9_isRow 9 = .ok (.iload 5, 2) := DX9_isRow_0.2.2.2.2.2.1
theorem dX9_isRow_11 : decode cX9_isRow 11 = .ok (.ifCond .eq 35, 3) := DX9_isRow_0.2.2.2.2.2.2.1
theorem dX9_isRow_14 : decode cX9_isRow 14 = .ok (.aload_n 0, 1) := DX9_isRow_0.2.2.2.2.2.2.2.1
theorem dX9_isRow_15 : decode cX9_isRow 15 = .ok (.getfield 37, 3) := DX9_isRow_0.2.2.2.2.2.2.2.2.1
theorem dX9_isRow_18 : decode cX9_isRow 18 = .ok (.iload_n 1, 1) := DX9_isRow_0.2.2.2.2.2.2.2.2.2.1
theorem dX9_isRow_19 : decode cX9_isRow 19 = .ok (.iaload, 1) := DX9_isRow_0.2.2.2.2.2.2.2.2.2.2.1
theorem dX9_isRow_20 : decode cX9_isRow 20 = .ok (.iconst 1, 1) := DX9_isRow_0.2.2.2.2.2.2.2.2.2.2.2.1
theorem dX9_isRow_21 : decode cX9_isRow 21 = .ok (.if_icmp .le 16, 3) := DX9_isRow_0.2.2.2.2.2.2.2.2.2.2.2.2.1
theorem dX9_isRow_24 : decode cX9_isRow 24 = .ok (.iload_n 3, 1) := DX9_isRow_0.2.2.2.2.2.2.2.2.2.2.2.2.2.1
theorem dX9_isRow_25 : decode cX9_isRow 25 = .ok (.iconst 0, 1) := DX9_isRow_0.2.2.2.2.2.2.2.2.2.2.2.2.2.2.1
theorem dX9_isRow_26 : decode cX9_isRow 26 = .ok (.bipush 99, 2) := DX9_isRow_0.2.2.2.2.2.2.2.2.2.2.2.2.2.2.2.1
theorem DX9_isRow_28 : dAre cX9_isRow [(28, .invokestatic 104, 3), (31, .ifCond .eq 15, 3), (34, .goto 8, 3), (37, .iload_n 3, 1), (38, .iconst (-1), 1), (39, .if_icmp .ne 7, 3), (42, .iconst 1, 1), (43, .goto 4, 3), (46, .iconst 0, 1), (47, .istore 5, 2), (49, .iload 5, 2), (51, .ifCond .eq 37, 3), (54, .aload_n 0, 1), (55, .getfield 37, 3), (58, .iload_n 1, 1), (59, .iaload, 1)] := dAre0 (by decide +kernel)
theorem dX9_isRow_28 : decode cX9_isRow 28 = .ok (.invokestatic 104, 3) := DX9_isRow_28.1
theorem dX9_isRow_31 : decode cX9_isRow 31 = .ok (.ifCond .eq 15, 3) := DX9_isRow_28.2.1
theorem dX9_isRow_34 : decode cX9_isRow 34 = .ok (.goto 8, 3) := DX9_isRow_28.2.2.1
theorem dX9_isRow_37 : decode cX9_isRow 37 = .ok (.iload_n 3, 1) := DX9_isRow_28.2.2.2.1
theorem dX9_isRow_38 : decode cX9_isRow 38 = .ok (.iconst (-1), 1) := DX9_isRow_28.2.2.2.2.1
theorem dX9_isRow_39 : decode cX9_isRow 39 = .ok (.if_icmp .ne 7, 3) := DX9_isRow_28.2.2.2.2.2.1
theorem dX9_isRow_42 : decode cX9_isRow 42 = .ok (.iconst 1, 1) := DX9_isRow_28.2.2.2.2.2.2.1
theorem dX9_isRow_43 : decode cX9_isRow 43 = .ok (.goto 4, 3) := DX9_isRow_28.2.2.2.2.2.2.2.1
theorem dX9_isRow_46 : decode cX9_isRow 46 = .ok (.iconst 0, 1) := DX9_isRow_28.2.2.2.2.2.2.2.2.1
theorem dX9_isRow_47 : decode cX9_isRow 47 = .ok (.istore 5, 2) := DX9_isRow_28.2.2.2.2.2.2.2.2.2.1
theorem dX9_isRow_49 : decode cX9_isRow 49 = .ok (.iload 5, 2) := DX9_isRow_28.2.2.2.2.2.2.2.2.2.2.1
theorem dX9_isRow_51 : decode cX9_isRow 51 = .ok (.ifCond .eq 37, 3) := DX9_isRow_28.2.2.2.2.2.2.2.2.2.2.2.1
theorem dX9_isRow_54 : decode cX9_isRow 54 = .ok (.aload_n 0, 1) := DX9_isRow_28.2.2.2.2.2.2.2.2.2.2.2.2.1
theorem dX9_isRow_55 : decode cX9_isRow 55 = .ok (.getfield 37, 3) := DX9_isRow_28.2.2.2.2.2.2.2.2.2.2.2.2.2.1
theorem dX9_isRow_58 : decode cX9_isRow 58 = .ok (.iload_n 1, 1) := DX9_isRow_28.2.2.2.2.2.2.2.2.2.2.2.2.2.2.1
theorem dX9_isRow_59 : decode cX9_isRow 59 = .ok (.iaload, 1) := DX9_isRow_28.2.2.2.2.2.2.2.2.2.2.2.2.2.2.2.1
theorem DX9_isRow_60 : dAre cX9_isRow [(60, .iconst 2, 1), (61, .if_icmp .le 17, 3), (64, .iload 4, 2), (66, .iconst 0, 1), (67, .bipush 99, 2), (69, .invokestatic 104, 3), (72, .ifCond .eq 16, 3), (75, .goto 9, 3), (78, .iload 4, 2), (80, .iconst (-1), 1), (81, .if_icmp .ne 7, 3), (84, .iconst 1, 1), (85, .goto 4, 3), (88, .iconst 0, 1), (89, .ireturn, 1)] := dAre0 (by decide +kernel)
theorem dX9_isRow_60 : decode cX9_isRow 60 = .ok (.iconst 2, 1) := DX9_isRow_60.1
theorem dX9_isRow_61 : decode cX9_isRow 61 = .ok (.if_icmp .le 17, 3) := DX9_isRow_60.2.1
theorem dX9_isRow_64 : decode cX9_isRow 64 = .ok (.iload 4, 2) := DX9_isRow_60.2.2.1
theorem dX9_isRow_66 : decode cX9_isRow 66 = .ok (.iconst 0, 1) := DX9_isRow_60.2.2.2.1
theorem dX9_isRow_67 : decode cX9_isRow 67 = .ok (.bipush 99, 2) := DX9_isRow_60.2.2.2.2.1
theorem dX9_isRow_69 : decode cX9_isRow 69 = .ok (.invokestatic 104, 3) := DX9_isRow_60.2.2.2.2.2.1
theorem dX9_isRow_72 : decode cX9_isRow 72 = .ok (.ifCond .eq 16, 3) := DX9_isRow_60.2.2.2.2.2.2.1
theorem dX9_isRow_75 : decode cX9_isRow 75 = .ok (.goto 9, 3) := DX9_isRow_60.2.2.2.2.2.2.2.1
theorem dX9_isRow_78 : decode cX9_isRow 78 = .ok (.iload 4, 2) := DX9_isRow_60.2.2.2.2.2.2.2.2.1
theorem dX9_isRow_80 : decode cX9_isRow 80 = .ok (.iconst (-1), 1) := DX9_isRow_60.2.2.2.2.2.2.2.2.2.1
theorem dX9_isRow_81 : decode cX9_isRow 81 = .ok (.if_icmp .ne 7, 3) := DX9_isRow_60.2.2.2.2.2.2.2.2.2.2.1
theorem dX9_isRow_84 : decode cX9_isRow 84 = .ok (.iconst 1, 1) := DX9_isRow_60.2.2.2.2.2.2.2.2.2.2.2.1
theorem dX9_isRow_85 : decode cX9_isRow 85 = .ok (.goto 4, 3) := DX9_isRow_60.2.2.2.2.2.2.2.2.2.2.2.2.1
theorem dX9_isRow_88 : decode cX9_isRow 88 = .ok (.iconst 0, 1) := DX9_isRow_60.2.2.2.2.2.2.2.2.2.2.2.2.2.1
theorem dX9_isRow_89 : decode cX9_isRow 89 = .ok (.ireturn, 1) := DX9_isRow_60.2.2.2.2.2.2.2.2.2.2.2.2.2.2.1
theorem mX9_isRow : gMv yX9_isRow cX9_isRow 6 (some .boolean) RX9 4 := ⟨q1023, q1406, q10, q1024, rfl, by decide, by decide, by decide +kernel⟩
noncomputable def bX9_isRow_84 : Option (Int32) :=
  some (1 : Int32)
set_option maxRecDepth 100000 in
set_option maxHeartbeats 4000000 in
theorem wbX9_isRow_84 {z : gZ} {E : gE} {bk : Nat} (F : Fx z sh E "LeapJoinModel" cX9_isRow (gR 1) 6) (B : bZ z bk) (hE : gDist sh E) (I : gM) (J : gN) {y : Int32} (h : bX9_isRow_84 = some y) (e : Fe z sh E (some .boolean) (fun r1 I1 J1 => r1 = some (.int y) ∧ I1 = I ∧ J1 = J)) : G z 84 [] [] I J := by
  unfold bX9_isRow_84 at h
  refine g_iconst (v := 1) F dX9_isRow_84 (by decide) ?_
  refine g_goto (tgt := 89) F dX9_isRow_85 (by decide) ?_
  obtain rfl := Option.some.inj h
  exact g_zret F rfl e dX9_isRow_89 ⟨rfl, rfl, rfl⟩
noncomputable def bX9_isRow_47 (v1 : Int32) (v4 : Int32) (t0 : Int32) (I : gM) : Option (Int32) :=
  if t0 = 0 then
    some (0 : Int32)
  else
    (rI 4 (I 72) v1).bind fun u2 =>
    if u2 ≤ 2 then
      if v4 = (-1) then
        bX9_isRow_84
      else
        some (0 : Int32)
    else
      (fX9_in v4 (0 : Int32) (99 : Int32)).bind fun r3 =>
      if r3 = 0 then
        some (0 : Int32)
      else
        bX9_isRow_84
set_option maxRecDepth 100000 in
set_option maxHeartbeats 4000000 in
theorem wbX9_isRow_47 {z : gZ} {E : gE} {bk : Nat} (F : Fx z sh E "LeapJoinModel" cX9_isRow (gR 1) 6) (B : bZ z bk) (hE : gDist sh E) (v1 : Int32) (v4 : Int32) (t0 : Int32) (I : gM) (J : gN) {y : Int32} (h : bX9_isRow_47 v1 v4 t0 I = some y) (e : Fe z sh E (some .boolean) (fun r1 I1 J1 => r1 = some (.int y) ∧ I1 = I ∧ J1 = J)) : G z 47 [(0, .ref (E.2.1 62)), (1, .int v1), (4, .int v4)] [.int t0] I J := by
  unfold bX9_isRow_47 at h
  refine g_istore (Ln := [(5, .int t0), (0, .ref (E.2.1 62)), (1, .int v1), (4, .int v4)]) F dX9_isRow_47 (by decide) rfl ?_
  refine g_iload F 0 dX9_isRow_49 rfl ?_
  refine u_if_eq (tgt := 88) F dX9_isRow_51 (by decide) h (fun h => ?_) (fun h => ?_)
  · refine g_iconst (v := 0) F dX9_isRow_88 (by decide) ?_
    obtain rfl := Option.some.inj h
    exact g_zret F rfl e dX9_isRow_89 ⟨rfl, rfl, rfl⟩
  · refine g_aload_n F 1 dX9_isRow_54 rfl rfl ?_
    refine g_getr (j := 15) (nn := 72) F s62 rfl rfl uX9 (by decide) q836 dX9_isRow_55 ?_
    refine g_iload_n F 2 dX9_isRow_58 rfl rfl ?_
    refine u_rI F s72 (by decide) dX9_isRow_59 h (fun u2 h => ?_)
    refine g_iconst (v := 2) F dX9_isRow_60 (by decide) ?_
    refine u_icmp_le (tgt := 78) F dX9_isRow_61 (by decide) h (fun h => ?_) (fun h => ?_)
    · refine g_iload F 3 dX9_isRow_78 rfl ?_
      refine g_iconst (v := (-1)) F dX9_isRow_80 (by decide) ?_
      refine u_icmp_ne (tgt := 88) F dX9_isRow_81 (by decide) h (fun h => ?_) (fun h => ?_)
      · refine g_sub (Ln := []) [] rfl ?_
        exact wbX9_isRow_84 F B hE I J h e
      · refine g_iconst (v := 0) F dX9_isRow_88 (by decide) ?_
        obtain rfl := Option.some.inj h
        exact g_zret F rfl e dX9_isRow_89 ⟨rfl, rfl, rfl⟩
    · refine g_iload F 3 dX9_isRow_64 rfl ?_
      refine g_iconst (v := 0) F dX9_isRow_66 (by decide) ?_
      refine g_bipush (v := 99) F dX9_isRow_67 (by decide) ?_
      refine u_callS (As := [.int v4, .int 0, .int 99]) (rest := []) (sn := fun r3 => [.int r3]) F B (fun _ => wX9_in (zl z) E hE bk v4 (0 : Int32) (99 : Int32) I J) mX9_in q923 rfl rfl rfl (Nat.le_of_ble_eq_true rfl) dX9_isRow_69 (fun _ => rfl) h (fun r3 h => ?_)
      refine u_if_eq (tgt := 88) F dX9_isRow_72 (by decide) h (fun h => ?_) (fun h => ?_)
      · refine g_iconst (v := 0) F dX9_isRow_88 (by decide) ?_
        obtain rfl := Option.some.inj h
        exact g_zret F rfl e dX9_isRow_89 ⟨rfl, rfl, rfl⟩
      · refine g_goto (tgt := 84) F dX9_isRow_75 (by decide) ?_
        refine g_sub (Ln := []) [] rfl ?_
        exact wbX9_isRow_84 F B hE I J h e
noncomputable def bX9_isRow_46 (v1 : Int32) (v4 : Int32) (I : gM) : Option (Int32) :=
  bX9_isRow_47 v1 v4 (0 : Int32) I
set_option maxRecDepth 100000 in
set_option maxHeartbeats 4000000 in
theorem wbX9_isRow_46 {z : gZ} {E : gE} {bk : Nat} (F : Fx z sh E "LeapJoinModel" cX9_isRow (gR 1) 6) (B : bZ z bk) (hE : gDist sh E) (v1 : Int32) (v4 : Int32) (I : gM) (J : gN) {y : Int32} (h : bX9_isRow_46 v1 v4 I = some y) (e : Fe z sh E (some .boolean) (fun r1 I1 J1 => r1 = some (.int y) ∧ I1 = I ∧ J1 = J)) : G z 46 [(0, .ref (E.2.1 62)), (1, .int v1), (4, .int v4)] [] I J := by
  unfold bX9_isRow_46 at h
  refine g_iconst (v := 0) F dX9_isRow_46 (by decide) ?_
  refine g_sub (Ln := [(0, .ref (E.2.1 62)), (1, .int v1), (4, .int v4)]) [0, 1, 2] rfl ?_
  exact wbX9_isRow_47 F B hE v1 v4 (0 : Int32) I J h e
noncomputable def bX9_isRow_42 (v1 : Int32) (v4 : Int32) (I : gM) : Option (Int32) :=
  bX9_isRow_47 v1 v4 (1 : Int32) I
set_option maxRecDepth 100000 in
set_option maxHeartbeats 4000000 in
theorem wbX9_isRow_42 {z : gZ} {E : gE} {bk : Nat} (F : Fx z sh E "LeapJoinModel" cX9_isRow (gR 1) 6) (B : bZ z bk) (hE : gDist sh E) (v1 : Int32) (v4 : Int32) (I : gM) (J : gN) {y : Int32} (h : bX9_isRow_42 v1 v4 I = some y) (e : Fe z sh E (some .boolean) (fun r1 I1 J1 => r1 = some (.int y) ∧ I1 = I ∧ J1 = J)) : G z 42 [(0, .ref (E.2.1 62)), (1, .int v1), (4, .int v4)] [] I J := by
  unfold bX9_isRow_42 at h
  refine g_iconst (v := 1) F dX9_isRow_42 (by decide) ?_
  refine g_goto (tgt := 47) F dX9_isRow_43 (by decide) ?_
  refine g_sub (Ln := [(0, .ref (E.2.1 62)), (1, .int v1), (4, .int v4)]) [0, 1, 2] rfl ?_
  exact wbX9_isRow_47 F B hE v1 v4 (1 : Int32) I J h e
noncomputable def fX9_isRow (v1 : Int32) (v2 : Int32) (v3 : Int32) (v4 : Int32) (I : gM) : Option (Int32) :=
  (fX9_in v2 (0 : Int32) (99 : Int32)).bind fun r1 =>
  if r1 = 0 then
    bX9_isRow_46 v1 v4 I
  else
    (rI 4 (I 72) v1).bind fun u4 =>
    if u4 ≤ 1 then
      if v3 = (-1) then
        bX9_isRow_42 v1 v4 I
      else
        bX9_isRow_46 v1 v4 I
    else
      (fX9_in v3 (0 : Int32) (99 : Int32)).bind fun r5 =>
      if r5 = 0 then
        bX9_isRow_46 v1 v4 I
      else
        bX9_isRow_42 v1 v4 I
set_option maxRecDepth 100000 in
set_option maxHeartbeats 4000000 in
theorem wX9_isRow (l : Launch) (E : gE) (hE : gDist sh E) (bk : Nat) (v1 : Int32) (v2 : Int32) (v3 : Int32) (v4 : Int32) (I : gM) (J : gN) {r : Int32} (h : fX9_isRow v1 v2 v3 v4 I = some r) : Cu l sh E bk yX9_isRow cX9_isRow 6 (some .boolean) (gR 1) [.ref (E.2.1 62), .int v1, .int v2, .int v3, .int v4] I J (fun r1 I1 J1 => r1 = some (.int r) ∧ I1 = I ∧ J1 = J) := by
  refine Cu.of "LeapJoinModel" rfl hE (by decide) (Nat.le_of_ble_eq_true rfl) (fun z F B e hl => ?_)
  subst hl
  unfold fX9_isRow at h
  refine g_iload_n F 2 dX9_isRow_0 rfl rfl ?_
  refine g_iconst (v := 0) F dX9_isRow_1 (by decide) ?_
  refine g_bipush (v := 99) F dX9_isRow_2 (by decide) ?_
  refine u_callS (As := [.int v2, .int 0, .int 99]) (rest := []) (sn := fun r1 => [.int r1]) F B (fun _ => wX9_in (zl z) E hE bk v2 (0 : Int32) (99 : Int32) I J) mX9_in q923 rfl rfl rfl (Nat.le_of_ble_eq_true rfl) dX9_isRow_4 (fun _ => rfl) h (fun r1 h => ?_)
  refine g_istore (Ln := [(5, .int r1), (0, .ref (E.2.1 62)), (1, .int v1), (2, .int v2), (3, .int v3), (4, .int v4)]) F dX9_isRow_7 (by decide) rfl ?_
  refine g_iload F 0 dX9_isRow_9 rfl ?_
  refine u_if_eq (tgt := 46) F dX9_isRow_11 (by decide) h (fun h => ?_) (fun h => ?_)
  · refine g_sub (Ln := [(0, .ref (E.2.1 62)), (1, .int v1), (4, .int v4)]) [1, 2, 5] rfl ?_
    exact wbX9_isRow_46 F B hE v1 v4 I J h e
  · refine g_aload_n F 1 dX9_isRow_14 rfl rfl ?_
    refine g_getr (j := 15) (nn := 72) F s62 rfl rfl uX9 (by decide) q836 dX9_isRow_15 ?_
    refine g_iload_n F 2 dX9_isRow_18 rfl rfl ?_
    refine u_rI F s72 (by decide) dX9_isRow_19 h (fun u4 h => ?_)
    refine g_iconst (v := 1) F dX9_isRow_20 (by decide) ?_
    refine u_icmp_le (tgt := 37) F dX9_isRow_21 (by decide) h (fun h => ?_) (fun h => ?_)
    · refine g_iload_n F 4 dX9_isRow_37 rfl rfl ?_
      refine g_iconst (v := (-1)) F dX9_isRow_38 (by decide) ?_
      refine u_icmp_ne (tgt := 46) F dX9_isRow_39 (by decide) h (fun h => ?_) (fun h => ?_)
      · refine g_sub (Ln := [(0, .ref (E.2.1 62)), (1, .int v1), (4, .int v4)]) [1, 2, 5] rfl ?_
        exact wbX9_isRow_42 F B hE v1 v4 I J h e
      · refine g_sub (Ln := [(0, .ref (E.2.1 62)), (1, .int v1), (4, .int v4)]) [1, 2, 5] rfl ?_
        exact wbX9_isRow_46 F B hE v1 v4 I J h e
    · refine g_iload_n F 4 dX9_isRow_24 rfl rfl ?_
      refine g_iconst (v := 0) F dX9_isRow_25 (by decide) ?_
      refine g_bipush (v := 99) F dX9_isRow_26 (by decide) ?_
      refine u_callS (As := [.int v3, .int 0, .int 99]) (rest := []) (sn := fun r5 => [.int r5]) F B (fun _ => wX9_in (zl z) E hE bk v3 (0 : Int32) (99 : Int32) I J) mX9_in q923 rfl rfl rfl (Nat.le_of_ble_eq_true rfl) dX9_isRow_28 (fun _ => rfl) h (fun r5 h => ?_)
      refine u_if_eq (tgt := 46) F dX9_isRow_31 (by decide) h (fun h => ?_) (fun h => ?_)
      · refine g_sub (Ln := [(0, .ref (E.2.1 62)), (1, .int v1), (4, .int v4)]) [1, 2, 5] rfl ?_
        exact wbX9_isRow_46 F B hE v1 v4 I J h e
      · refine g_goto (tgt := 42) F dX9_isRow_34 (by decide) ?_
        refine g_sub (Ln := [(0, .ref (E.2.1 62)), (1, .int v1), (4, .int v4)]) [1, 2, 5] rfl ?_
        exact wbX9_isRow_42 F B hE v1 v4 I J h e
theorem DX9_whyPut_0 : dAre cX9_whyPut [(0, .aload_n 0, 1), (1, .iload_n 1, 1), (2, .invokevirtual 281, 3), (5, .ifCond .ne 5, 3), (8, .iconst 0, 1), (9, .ireturn, 1), (10, .aload_n 0, 1), (11, .iload_n 1, 1), (12, .iload_n 2, 1), (13, .iload_n 3, 1), (14, .iload 4, 2), (16, .invokevirtual 284, 3), (19, .ifCond .ne 7, 3), (22, .iconst 1, 1), (23, .goto 34, 3), (26, .aload_n 0, 1)] := dAre0 (by decide +kernel)
theorem dX9_whyPut_0 : decode cX9_whyPut 0 = .ok (.aload_n 0, 1) := DX9_whyPut_0.1
theorem dX9_whyPut_1 : decode cX9_whyPut 1 = .ok (.iload_n 1, 1) := DX9_whyPut_0.2.1
theorem dX9_whyPut_2 : decode cX9_whyPut 2 = .ok (.invokevirtual 281, 3) := DX9_whyPut_0.2.2.1
theorem dX9_whyPut_5 : decode cX9_whyPut 5 = .ok (.ifCond .ne 5, 3) := DX9_whyPut_0.2.2.2.1
theorem dX9_whyPut_8 : decode cX9_whyPut 8 = .ok (.iconst 0, 1) := DX9_whyPut_0.2.2.2.2.1
theorem dX9_whyPut_9 : decode cX9_whyPut 9 = .ok (.ireturn, 1) := DX9_whyPut_0.2.2.2.2.2.1
theorem dX9_whyPut_10 : decode cX9_whyPut 10 = .ok (.aload_n 0, 1) := DX9_whyPut_0.2.2.2.2.2.2.1
theorem dX9_whyPut_11 : decode cX9_whyPut 11 = .ok (.iload_n 1, 1) := DX9_whyPut_0.2.2.2.2.2.2.2.1
theorem dX9_whyPut_12 : decode cX9_whyPut 12 = .ok (.iload_n 2, 1) := DX9_whyPut_0.2.2.2.2.2.2.2.2.1
theorem dX9_whyPut_13 : decode cX9_whyPut 13 = .ok (.iload_n 3, 1) := DX9_whyPut_0.2.2.2.2.2.2.2.2.2.1
theorem dX9_whyPut_14 : decode cX9_whyPut 14 = .ok (.iload 4, 2) := DX9_whyPut_0.2.2.2.2.2.2.2.2.2.2.1
theorem dX9_whyPut_16 : decode cX9_whyPut 16 = .ok (.invokevirtual 284, 3) := DX9_whyPut_0.2.2.2.2.2.2.2.2.2.2.2.1
theorem dX9_whyPut_19 : decode cX9_whyPut 19 = .ok (.ifCond .ne 7, 3) := DX9_whyPut_0.2.2.2.2.2.2.2.2.2.2.2.2.1
theorem dX9_whyPut_22 : decode cX9_whyPut 22 = .ok (.iconst 1, 1) := DX9_whyPut_0.2.2.2.2.2.2.2.2.2.2.2.2.2.1
theorem dX9_whyPut_23 : decode cX9_whyPut 23 = .ok (.goto 34, 3) := DX9_whyPut_0.2.2.2.2.2.2.2.2.2.2.2.2.2.2.1
theorem dX9_whyPut_26 : decode cX9_whyPut 26 = .ok (.aload_n 0, 1) := DX9_whyPut_0.2.2.2.2.2.2.2.2.2.2.2.2.2.2.2.1
theorem DX9_whyPut_27 : dAre cX9_whyPut [(27, .iload_n 1, 1), (28, .iload_n 2, 1), (29, .iload_n 3, 1), (30, .iload 4, 2), (32, .invokevirtual 197, 3), (35, .ifCond .eq 7, 3), (38, .iconst 2, 1), (39, .goto 18, 3), (42, .aload_n 0, 1), (43, .iload_n 1, 1), (44, .invokevirtual 186, 3), (47, .bipush 12, 2), (49, .if_icmp .ne 7, 3), (52, .iconst 3, 1), (53, .goto 4, 3), (56, .iconst (-1), 1)] := dAre0 (by decide +kernel)
theorem dX9_whyPut_27 : decode cX9_whyPut 27 = .ok (.iload_n 1, 1) := DX9_whyPut_27.1
theorem dX9_whyPut_28 : decode cX9_whyPut 28 = .ok (.iload_n 2, 1) := DX9_whyPut_27.2.1
theorem dX9_whyPut_29 : decode cX9_whyPut 29 = .ok (.iload_n 3, 1) := DX9_whyPut_27.2.2.1
theorem dX9_whyPut_30 : decode cX9_whyPut 30 = .ok (.iload 4, 2) := DX9_whyPut_27.2.2.2.1
theorem dX9_whyPut_32 : decode cX9_whyPut 32 = .ok (.invokevirtual 197, 3) := DX9_whyPut_27.2.2.2.2.1
theorem dX9_whyPut_35 : decode cX9_whyPut 35 = .ok (.ifCond .eq 7, 3) := DX9_whyPut_27.2.2.2.2.2.1
theorem dX9_whyPut_38 : decode cX9_whyPut 38 = .ok (.iconst 2, 1) := DX9_whyPut_27.2.2.2.2.2.2.1
theorem dX9_whyPut_39 : decode cX9_whyPut 39 = .ok (.goto 18, 3) := DX9_whyPut_27.2.2.2.2.2.2.2.1
theorem dX9_whyPut_42 : decode cX9_whyPut 42 = .ok (.aload_n 0, 1) := DX9_whyPut_27.2.2.2.2.2.2.2.2.1
theorem dX9_whyPut_43 : decode cX9_whyPut 43 = .ok (.iload_n 1, 1) := DX9_whyPut_27.2.2.2.2.2.2.2.2.2.1
theorem dX9_whyPut_44 : decode cX9_whyPut 44 = .ok (.invokevirtual 186, 3) := DX9_whyPut_27.2.2.2.2.2.2.2.2.2.2.1
theorem dX9_whyPut_47 : decode cX9_whyPut 47 = .ok (.bipush 12, 2) := DX9_whyPut_27.2.2.2.2.2.2.2.2.2.2.2.1
theorem dX9_whyPut_49 : decode cX9_whyPut 49 = .ok (.if_icmp .ne 7, 3) := DX9_whyPut_27.2.2.2.2.2.2.2.2.2.2.2.2.1
theorem dX9_whyPut_52 : decode cX9_whyPut 52 = .ok (.iconst 3, 1) := DX9_whyPut_27.2.2.2.2.2.2.2.2.2.2.2.2.2.1
theorem dX9_whyPut_53 : decode cX9_whyPut 53 = .ok (.goto 4, 3) := DX9_whyPut_27.2.2.2.2.2.2.2.2.2.2.2.2.2.2.1
theorem dX9_whyPut_56 : decode cX9_whyPut 56 = .ok (.iconst (-1), 1) := DX9_whyPut_27.2.2.2.2.2.2.2.2.2.2.2.2.2.2.2.1
theorem dX9_whyPut_57 : decode cX9_whyPut 57 = .ok (.ireturn, 1) := by decide +kernel
theorem mX9_whyPut : gMv yX9_whyPut cX9_whyPut 5 (some .int) RX9 4 := ⟨q1017, q1404, q10, q1018, rfl, by decide, by decide, by decide +kernel⟩
noncomputable def fX9_whyPut (v1 : Int32) (v2 : Int32) (v3 : Int32) (v4 : Int32) (I : gM) : Option (Int32) :=
  (fX9_isTable v1 I).bind fun r1 =>
  if r1 = 0 then
    some (0 : Int32)
  else
    (fX9_isRow v1 v2 v3 v4 I).bind fun r2 =>
    if r2 = 0 then
      some (1 : Int32)
    else
      (fX9_hasRow v1 v2 v3 v4 I).bind fun r3 =>
      if r3 = 0 then
        (fX9_many v1 I).bind fun r4 =>
        if r4 = 12 then
          some (3 : Int32)
        else
          some ((-1) : Int32)
      else
        some (2 : Int32)
set_option maxRecDepth 100000 in
set_option maxHeartbeats 4000000 in
theorem wX9_whyPut (l : Launch) (E : gE) (hE : gDist sh E) (bk : Nat) (v1 : Int32) (v2 : Int32) (v3 : Int32) (v4 : Int32) (I : gM) (J : gN) {r : Int32} (h : fX9_whyPut v1 v2 v3 v4 I = some r) : Cu l sh E bk yX9_whyPut cX9_whyPut 5 (some .int) (gR 4) [.ref (E.2.1 62), .int v1, .int v2, .int v3, .int v4] I J (fun r1 I1 J1 => r1 = some (.int r) ∧ I1 = I ∧ J1 = J) := by
  refine Cu.of "LeapJoinModel" rfl hE (by decide) (Nat.le_of_ble_eq_true rfl) (fun z F B e hl => ?_)
  subst hl
  unfold fX9_whyPut at h
  refine g_aload_n F 0 dX9_whyPut_0 rfl rfl ?_
  refine g_iload_n F 1 dX9_whyPut_1 rfl rfl ?_
  refine u_callV (k := 62) (As := [.int v1]) (rest := []) (sn := fun r1 => [.int r1]) F B (fun _ => wX9_isTable (zl z) E hE bk v1 I J) mX9_isTable q1019 rfl s62 rfl rfl rfl (Nat.le_of_ble_eq_true rfl) dX9_whyPut_2 (fun _ => rfl) h (fun r1 h => ?_)
  refine u_if_ne (tgt := 10) F dX9_whyPut_5 (by decide) h (fun h => ?_) (fun h => ?_)
  · refine g_iconst (v := 0) F dX9_whyPut_8 (by decide) ?_
    obtain rfl := Option.some.inj h
    exact g_iret F e dX9_whyPut_9 ⟨rfl, rfl, rfl⟩
  · refine g_aload_n F 0 dX9_whyPut_10 rfl rfl ?_
    refine g_iload_n F 1 dX9_whyPut_11 rfl rfl ?_
    refine g_iload_n F 2 dX9_whyPut_12 rfl rfl ?_
    refine g_iload_n F 3 dX9_whyPut_13 rfl rfl ?_
    refine g_iload F 4 dX9_whyPut_14 rfl ?_
    refine u_callV (k := 62) (As := [.int v1, .int v2, .int v3, .int v4]) (rest := []) (sn := fun r2 => [.int r2]) F B (fun _ => wX9_isRow (zl z) E hE bk v1 v2 v3 v4 I J) mX9_isRow q1022 rfl s62 rfl rfl rfl (Nat.le_of_ble_eq_true rfl) dX9_whyPut_16 (fun _ => rfl) h (fun r2 h => ?_)
    refine u_if_ne (tgt := 26) F dX9_whyPut_19 (by decide) h (fun h => ?_) (fun h => ?_)
    · refine g_iconst (v := 1) F dX9_whyPut_22 (by decide) ?_
      refine g_goto (tgt := 57) F dX9_whyPut_23 (by decide) ?_
      obtain rfl := Option.some.inj h
      exact g_iret F e dX9_whyPut_57 ⟨rfl, rfl, rfl⟩
    · refine g_aload_n F 0 dX9_whyPut_26 rfl rfl ?_
      refine g_iload_n F 1 dX9_whyPut_27 rfl rfl ?_
      refine g_iload_n F 2 dX9_whyPut_28 rfl rfl ?_
      refine g_iload_n F 3 dX9_whyPut_29 rfl rfl ?_
      refine g_iload F 4 dX9_whyPut_30 rfl ?_
      refine u_callV (k := 62) (As := [.int v1, .int v2, .int v3, .int v4]) (rest := []) (sn := fun r3 => [.int r3]) F B (fun _ => wX9_hasRow (zl z) E hE bk v1 v2 v3 v4 I J) mX9_hasRow q988 rfl s62 rfl rfl rfl (Nat.le_of_ble_eq_true rfl) dX9_whyPut_32 (fun _ => rfl) h (fun r3 h => ?_)
      refine u_if_eq (tgt := 42) F dX9_whyPut_35 (by decide) h (fun h => ?_) (fun h => ?_)
      · refine g_aload_n F 0 dX9_whyPut_42 rfl rfl ?_
        refine g_iload_n F 1 dX9_whyPut_43 rfl rfl ?_
        refine u_callV (k := 62) (As := [.int v1]) (rest := []) (sn := fun r4 => [.int r4]) F B (fun _ => wX9_many (zl z) E hE bk v1 I J) mX9_many q994 rfl s62 rfl rfl rfl (Nat.le_of_ble_eq_true rfl) dX9_whyPut_44 (fun _ => rfl) h (fun r4 h => ?_)
        refine g_bipush (v := 12) F dX9_whyPut_47 (by decide) ?_
        refine u_icmp_ne (tgt := 56) F dX9_whyPut_49 (by decide) h (fun h => ?_) (fun h => ?_)
        · refine g_iconst (v := 3) F dX9_whyPut_52 (by decide) ?_
          refine g_goto (tgt := 57) F dX9_whyPut_53 (by decide) ?_
          obtain rfl := Option.some.inj h
          exact g_iret F e dX9_whyPut_57 ⟨rfl, rfl, rfl⟩
        · refine g_iconst (v := (-1)) F dX9_whyPut_56 (by decide) ?_
          obtain rfl := Option.some.inj h
          exact g_iret F e dX9_whyPut_57 ⟨rfl, rfl, rfl⟩
      · refine g_iconst (v := 2) F dX9_whyPut_38 (by decide) ?_
        refine g_goto (tgt := 57) F dX9_whyPut_39 (by decide) ?_
        obtain rfl := Option.some.inj h
        exact g_iret F e dX9_whyPut_57 ⟨rfl, rfl, rfl⟩
theorem DX9_whyTake_0 : dAre cX9_whyTake [(0, .aload_n 0, 1), (1, .iload_n 1, 1), (2, .invokevirtual 281, 3), (5, .ifCond .ne 5, 3), (8, .iconst 0, 1), (9, .ireturn, 1), (10, .aload_n 0, 1), (11, .iload_n 1, 1), (12, .iload_n 2, 1), (13, .iload_n 3, 1), (14, .iload 4, 2), (16, .invokevirtual 284, 3), (19, .ifCond .ne 7, 3), (22, .iconst 1, 1), (23, .goto 20, 3), (26, .aload_n 0, 1)] := dAre0 (by decide +kernel)
theorem dX9_whyTake_0 : decode cX9_whyTake 0 = .ok (.aload_n 0, 1) := DX9_whyTake_0.1
theorem dX9_whyTake_1 : decode cX9_whyTake 1 = .ok (.iload_n 1, 1) := DX9_whyTake_0.2.1
theorem dX9_whyTake_2 : decode cX9_whyTake 2 = .ok (.invokevirtual 281, 3) := DX9_whyTake_0.2.2.1
theorem dX9_whyTake_5 : decode cX9_whyTake 5 = .ok (.ifCond .ne 5, 3) := DX9_whyTake_0.2.2.2.1
theorem dX9_whyTake_8 : decode cX9_whyTake 8 = .ok (.iconst 0, 1) := DX9_whyTake_0.2.2.2.2.1
theorem dX9_whyTake_9 : decode cX9_whyTake 9 = .ok (.ireturn, 1) := DX9_whyTake_0.2.2.2.2.2.1
theorem dX9_whyTake_10 : decode cX9_whyTake 10 = .ok (.aload_n 0, 1) := DX9_whyTake_0.2.2.2.2.2.2.1
theorem dX9_whyTake_11 : decode cX9_whyTake 11 = .ok (.iload_n 1, 1) := DX9_whyTake_0.2.2.2.2.2.2.2.1
theorem dX9_whyTake_12 : decode cX9_whyTake 12 = .ok (.iload_n 2, 1) := DX9_whyTake_0.2.2.2.2.2.2.2.2.1
theorem dX9_whyTake_13 : decode cX9_whyTake 13 = .ok (.iload_n 3, 1) := DX9_whyTake_0.2.2.2.2.2.2.2.2.2.1
theorem dX9_whyTake_14 : decode cX9_whyTake 14 = .ok (.iload 4, 2) := DX9_whyTake_0.2.2.2.2.2.2.2.2.2.2.1
theorem dX9_whyTake_16 : decode cX9_whyTake 16 = .ok (.invokevirtual 284, 3) := DX9_whyTake_0.2.2.2.2.2.2.2.2.2.2.2.1
theorem dX9_whyTake_19 : decode cX9_whyTake 19 = .ok (.ifCond .ne 7, 3) := DX9_whyTake_0.2.2.2.2.2.2.2.2.2.2.2.2.1
theorem dX9_whyTake_22 : decode cX9_whyTake 22 = .ok (.iconst 1, 1) := DX9_whyTake_0.2.2.2.2.2.2.2.2.2.2.2.2.2.1
theorem dX9_whyTake_23 : decode cX9_whyTake 23 = .ok (.goto 20, 3) := DX9_whyTake_0.2.2.2.2.2.2.2.2.2.2.2.2.2.2.1
theorem dX9_whyTake_26 : decode cX9_whyTake 26 = .ok (.aload_n 0, 1) := DX9_whyTake_0.2.2.2.2.2.2.2.2.2.2.2.2.2.2.2.1
theorem DX9_whyTake_27 : dAre cX9_whyTake [(27, .iload_n 1, 1), (28, .iload_n 2, 1), (29, .iload_n 3, 1), (30, .iload 4, 2), (32, .invokevirtual 197, 3), (35, .ifCond .eq 7, 3), (38, .iconst (-1), 1), (39, .goto 4, 3), (42, .iconst 2, 1), (43, .ireturn, 1)] := dAre0 (by decide +kernel)
theorem dX9_whyTake_27 : decode cX9_whyTake 27 = .ok (.iload_n 1, 1) := DX9_whyTake_27.1
theorem dX9_whyTake_28 : decode cX9_whyTake 28 = .ok (.iload_n 2, 1) := DX9_whyTake_27.2.1
theorem dX9_whyTake_29 : decode cX9_whyTake 29 = .ok (.iload_n 3, 1) := DX9_whyTake_27.2.2.1
theorem dX9_whyTake_30 : decode cX9_whyTake 30 = .ok (.iload 4, 2) := DX9_whyTake_27.2.2.2.1
theorem dX9_whyTake_32 : decode cX9_whyTake 32 = .ok (.invokevirtual 197, 3) := DX9_whyTake_27.2.2.2.2.1
theorem dX9_whyTake_35 : decode cX9_whyTake 35 = .ok (.ifCond .eq 7, 3) := DX9_whyTake_27.2.2.2.2.2.1
theorem dX9_whyTake_38 : decode cX9_whyTake 38 = .ok (.iconst (-1), 1) := DX9_whyTake_27.2.2.2.2.2.2.1
theorem dX9_whyTake_39 : decode cX9_whyTake 39 = .ok (.goto 4, 3) := DX9_whyTake_27.2.2.2.2.2.2.2.1
theorem dX9_whyTake_42 : decode cX9_whyTake 42 = .ok (.iconst 2, 1) := DX9_whyTake_27.2.2.2.2.2.2.2.2.1
theorem dX9_whyTake_43 : decode cX9_whyTake 43 = .ok (.ireturn, 1) := DX9_whyTake_27.2.2.2.2.2.2.2.2.2.1
theorem mX9_whyTake : gMv yX9_whyTake cX9_whyTake 5 (some .int) RX9 4 := ⟨q1026, q1407, q10, q1027, rfl, by decide, by decide, by decide +kernel⟩
noncomputable def fX9_whyTake (v1 : Int32) (v2 : Int32) (v3 : Int32) (v4 : Int32) (I : gM) : Option (Int32) :=
  (fX9_isTable v1 I).bind fun r1 =>
  if r1 = 0 then
    some (0 : Int32)
  else
    (fX9_isRow v1 v2 v3 v4 I).bind fun r2 =>
    if r2 = 0 then
      some (1 : Int32)
    else
      (fX9_hasRow v1 v2 v3 v4 I).bind fun r3 =>
      if r3 = 0 then
        some (2 : Int32)
      else
        some ((-1) : Int32)
set_option maxRecDepth 100000 in
set_option maxHeartbeats 4000000 in
theorem wX9_whyTake (l : Launch) (E : gE) (hE : gDist sh E) (bk : Nat) (v1 : Int32) (v2 : Int32) (v3 : Int32) (v4 : Int32) (I : gM) (J : gN) {r : Int32} (h : fX9_whyTake v1 v2 v3 v4 I = some r) : Cu l sh E bk yX9_whyTake cX9_whyTake 5 (some .int) (gR 4) [.ref (E.2.1 62), .int v1, .int v2, .int v3, .int v4] I J (fun r1 I1 J1 => r1 = some (.int r) ∧ I1 = I ∧ J1 = J) := by
  refine Cu.of "LeapJoinModel" rfl hE (by decide) (Nat.le_of_ble_eq_true rfl) (fun z F B e hl => ?_)
  subst hl
  unfold fX9_whyTake at h
  refine g_aload_n F 0 dX9_whyTake_0 rfl rfl ?_
  refine g_iload_n F 1 dX9_whyTake_1 rfl rfl ?_
  refine u_callV (k := 62) (As := [.int v1]) (rest := []) (sn := fun r1 => [.int r1]) F B (fun _ => wX9_isTable (zl z) E hE bk v1 I J) mX9_isTable q1019 rfl s62 rfl rfl rfl (Nat.le_of_ble_eq_true rfl) dX9_whyTake_2 (fun _ => rfl) h (fun r1 h => ?_)
  refine u_if_ne (tgt := 10) F dX9_whyTake_5 (by decide) h (fun h => ?_) (fun h => ?_)
  · refine g_iconst (v := 0) F dX9_whyTake_8 (by decide) ?_
    obtain rfl := Option.some.inj h
    exact g_iret F e dX9_whyTake_9 ⟨rfl, rfl, rfl⟩
  · refine g_aload_n F 0 dX9_whyTake_10 rfl rfl ?_
    refine g_iload_n F 1 dX9_whyTake_11 rfl rfl ?_
    refine g_iload_n F 2 dX9_whyTake_12 rfl rfl ?_
    refine g_iload_n F 3 dX9_whyTake_13 rfl rfl ?_
    refine g_iload F 4 dX9_whyTake_14 rfl ?_
    refine u_callV (k := 62) (As := [.int v1, .int v2, .int v3, .int v4]) (rest := []) (sn := fun r2 => [.int r2]) F B (fun _ => wX9_isRow (zl z) E hE bk v1 v2 v3 v4 I J) mX9_isRow q1022 rfl s62 rfl rfl rfl (Nat.le_of_ble_eq_true rfl) dX9_whyTake_16 (fun _ => rfl) h (fun r2 h => ?_)
    refine u_if_ne (tgt := 26) F dX9_whyTake_19 (by decide) h (fun h => ?_) (fun h => ?_)
    · refine g_iconst (v := 1) F dX9_whyTake_22 (by decide) ?_
      refine g_goto (tgt := 43) F dX9_whyTake_23 (by decide) ?_
      obtain rfl := Option.some.inj h
      exact g_iret F e dX9_whyTake_43 ⟨rfl, rfl, rfl⟩
    · refine g_aload_n F 0 dX9_whyTake_26 rfl rfl ?_
      refine g_iload_n F 1 dX9_whyTake_27 rfl rfl ?_
      refine g_iload_n F 2 dX9_whyTake_28 rfl rfl ?_
      refine g_iload_n F 3 dX9_whyTake_29 rfl rfl ?_
      refine g_iload F 4 dX9_whyTake_30 rfl ?_
      refine u_callV (k := 62) (As := [.int v1, .int v2, .int v3, .int v4]) (rest := []) (sn := fun r3 => [.int r3]) F B (fun _ => wX9_hasRow (zl z) E hE bk v1 v2 v3 v4 I J) mX9_hasRow q988 rfl s62 rfl rfl rfl (Nat.le_of_ble_eq_true rfl) dX9_whyTake_32 (fun _ => rfl) h (fun r3 h => ?_)
      refine u_if_eq (tgt := 42) F dX9_whyTake_35 (by decide) h (fun h => ?_) (fun h => ?_)
      · refine g_iconst (v := 2) F dX9_whyTake_42 (by decide) ?_
        obtain rfl := Option.some.inj h
        exact g_iret F e dX9_whyTake_43 ⟨rfl, rfl, rfl⟩
      · refine g_iconst (v := (-1)) F dX9_whyTake_38 (by decide) ?_
        refine g_goto (tgt := 43) F dX9_whyTake_39 (by decide) ?_
        obtain rfl := Option.some.inj h
        exact g_iret F e dX9_whyTake_43 ⟨rfl, rfl, rfl⟩
theorem dX9_whyNot_1 : decode cX9_whyNot 1 = .ok (.tableswitch 79 0 2 #[27, 38, 49], 27) := by decide +kernel
theorem DX9_whyNot_0 : dAre cX9_whyNot [(0, .iload_n 1, 1), (28, .aload_n 0, 1), (29, .iload_n 2, 1), (30, .iload_n 3, 1), (31, .iload 4, 2), (33, .iload 5, 2), (35, .invokevirtual 287, 3), (38, .ireturn, 1), (39, .aload_n 0, 1), (40, .iload_n 2, 1), (41, .iload_n 3, 1), (42, .iload 4, 2), (44, .iload 5, 2), (46, .invokevirtual 290, 3), (49, .ireturn, 1), (50, .aload_n 0, 1)] := dAre0 (by decide +kernel)
theorem dX9_whyNot_0 : decode cX9_whyNot 0 = .ok (.iload_n 1, 1) := DX9_whyNot_0.1
theorem dX9_whyNot_28 : decode cX9_whyNot 28 = .ok (.aload_n 0, 1) := DX9_whyNot_0.2.1
theorem dX9_whyNot_29 : decode cX9_whyNot 29 = .ok (.iload_n 2, 1) := DX9_whyNot_0.2.2.1
theorem dX9_whyNot_30 : decode cX9_whyNot 30 = .ok (.iload_n 3, 1) := DX9_whyNot_0.2.2.2.1
theorem dX9_whyNot_31 : decode cX9_whyNot 31 = .ok (.iload 4, 2) := DX9_whyNot_0.2.2.2.2.1
theorem dX9_whyNot_33 : decode cX9_whyNot 33 = .ok (.iload 5, 2) := DX9_whyNot_0.2.2.2.2.2.1
theorem dX9_whyNot_35 : decode cX9_whyNot 35 = .ok (.invokevirtual 287, 3) := DX9_whyNot_0.2.2.2.2.2.2.1
theorem dX9_whyNot_38 : decode cX9_whyNot 38 = .ok (.ireturn, 1) := DX9_whyNot_0.2.2.2.2.2.2.2.1
theorem dX9_whyNot_39 : decode cX9_whyNot 39 = .ok (.aload_n 0, 1) := DX9_whyNot_0.2.2.2.2.2.2.2.2.1
theorem dX9_whyNot_40 : decode cX9_whyNot 40 = .ok (.iload_n 2, 1) := DX9_whyNot_0.2.2.2.2.2.2.2.2.2.1
theorem dX9_whyNot_41 : decode cX9_whyNot 41 = .ok (.iload_n 3, 1) := DX9_whyNot_0.2.2.2.2.2.2.2.2.2.2.1
theorem dX9_whyNot_42 : decode cX9_whyNot 42 = .ok (.iload 4, 2) := DX9_whyNot_0.2.2.2.2.2.2.2.2.2.2.2.1
theorem dX9_whyNot_44 : decode cX9_whyNot 44 = .ok (.iload 5, 2) := DX9_whyNot_0.2.2.2.2.2.2.2.2.2.2.2.2.1
theorem dX9_whyNot_46 : decode cX9_whyNot 46 = .ok (.invokevirtual 290, 3) := DX9_whyNot_0.2.2.2.2.2.2.2.2.2.2.2.2.2.1
theorem dX9_whyNot_49 : decode cX9_whyNot 49 = .ok (.ireturn, 1) := DX9_whyNot_0.2.2.2.2.2.2.2.2.2.2.2.2.2.2.1
theorem dX9_whyNot_50 : decode cX9_whyNot 50 = .ok (.aload_n 0, 1) := DX9_whyNot_0.2.2.2.2.2.2.2.2.2.2.2.2.2.2.2.1
theorem DX9_whyNot_51 : dAre cX9_whyNot [(51, .iload_n 2, 1), (52, .invokevirtual 281, 3), (55, .ifCond .ne 7, 3), (58, .iconst 0, 1), (59, .goto 20, 3), (62, .aload_n 0, 1), (63, .getfield 31, 3), (66, .iconst 0, 1), (67, .iaload, 1), (68, .iconst 1, 1), (69, .iload_n 2, 1), (70, .ishl, 1), (71, .if_icmp .ne 7, 3), (74, .iconst 2, 1), (75, .goto 4, 3), (78, .iconst (-1), 1)] := dAre0 (by decide +kernel)
theorem dX9_whyNot_51 : decode cX9_whyNot 51 = .ok (.iload_n 2, 1) := DX9_whyNot_51.1
theorem dX9_whyNot_52 : decode cX9_whyNot 52 = .ok (.invokevirtual 281, 3) := DX9_whyNot_51.2.1
theorem dX9_whyNot_55 : decode cX9_whyNot 55 = .ok (.ifCond .ne 7, 3) := DX9_whyNot_51.2.2.1
theorem dX9_whyNot_58 : decode cX9_whyNot 58 = .ok (.iconst 0, 1) := DX9_whyNot_51.2.2.2.1
theorem dX9_whyNot_59 : decode cX9_whyNot 59 = .ok (.goto 20, 3) := DX9_whyNot_51.2.2.2.2.1
theorem dX9_whyNot_62 : decode cX9_whyNot 62 = .ok (.aload_n 0, 1) := DX9_whyNot_51.2.2.2.2.2.1
theorem dX9_whyNot_63 : decode cX9_whyNot 63 = .ok (.getfield 31, 3) := DX9_whyNot_51.2.2.2.2.2.2.1
theorem dX9_whyNot_66 : decode cX9_whyNot 66 = .ok (.iconst 0, 1) := DX9_whyNot_51.2.2.2.2.2.2.2.1
theorem dX9_whyNot_67 : decode cX9_whyNot 67 = .ok (.iaload, 1) := DX9_whyNot_51.2.2.2.2.2.2.2.2.1
theorem dX9_whyNot_68 : decode cX9_whyNot 68 = .ok (.iconst 1, 1) := DX9_whyNot_51.2.2.2.2.2.2.2.2.2.1
theorem dX9_whyNot_69 : decode cX9_whyNot 69 = .ok (.iload_n 2, 1) := DX9_whyNot_51.2.2.2.2.2.2.2.2.2.2.1
theorem dX9_whyNot_70 : decode cX9_whyNot 70 = .ok (.ishl, 1) := DX9_whyNot_51.2.2.2.2.2.2.2.2.2.2.2.1
theorem dX9_whyNot_71 : decode cX9_whyNot 71 = .ok (.if_icmp .ne 7, 3) := DX9_whyNot_51.2.2.2.2.2.2.2.2.2.2.2.2.1
theorem dX9_whyNot_74 : decode cX9_whyNot 74 = .ok (.iconst 2, 1) := DX9_whyNot_51.2.2.2.2.2.2.2.2.2.2.2.2.2.1
theorem dX9_whyNot_75 : decode cX9_whyNot 75 = .ok (.goto 4, 3) := DX9_whyNot_51.2.2.2.2.2.2.2.2.2.2.2.2.2.2.1
theorem dX9_whyNot_78 : decode cX9_whyNot 78 = .ok (.iconst (-1), 1) := DX9_whyNot_51.2.2.2.2.2.2.2.2.2.2.2.2.2.2.2.1
theorem DX9_whyNot_79 : dAre cX9_whyNot [(79, .ireturn, 1), (80, .aload_n 0, 1), (81, .invokevirtual 277, 3), (84, .ifCond .ne 7, 3), (87, .iconst 0, 1), (88, .goto 32, 3), (91, .iload_n 2, 1), (92, .iconst 0, 1), (93, .bipush 23, 2), (95, .invokestatic 104, 3), (98, .ifCond .ne 7, 3), (101, .iconst 1, 1), (102, .goto 18, 3), (105, .aload_n 0, 1), (106, .getfield 31, 3), (109, .iconst 1, 1)] := dAre0 (by decide +kernel)
theorem dX9_whyNot_79 : decode cX9_whyNot 79 = .ok (.ireturn, 1) := DX9_whyNot_79.1
theorem dX9_whyNot_80 : decode cX9_whyNot 80 = .ok (.aload_n 0, 1) := DX9_whyNot_79.2.1
theorem dX9_whyNot_81 : decode cX9_whyNot 81 = .ok (.invokevirtual 277, 3) := DX9_whyNot_79.2.2.1
theorem dX9_whyNot_84 : decode cX9_whyNot 84 = .ok (.ifCond .ne 7, 3) := DX9_whyNot_79.2.2.2.1
theorem dX9_whyNot_87 : decode cX9_whyNot 87 = .ok (.iconst 0, 1) := DX9_whyNot_79.2.2.2.2.1
theorem dX9_whyNot_88 : decode cX9_whyNot 88 = .ok (.goto 32, 3) := DX9_whyNot_79.2.2.2.2.2.1
theorem dX9_whyNot_91 : decode cX9_whyNot 91 = .ok (.iload_n 2, 1) := DX9_whyNot_79.2.2.2.2.2.2.1
theorem dX9_whyNot_92 : decode cX9_whyNot 92 = .ok (.iconst 0, 1) := DX9_whyNot_79.2.2.2.2.2.2.2.1
theorem dX9_whyNot_93 : decode cX9_whyNot 93 = .ok (.bipush 23, 2) := DX9_whyNot_79.2.2.2.2.2.2.2.2.1
theorem dX9_whyNot_95 : decode cX9_whyNot 95 = .ok (.invokestatic 104, 3) := DX9_whyNot_79.2.2.2.2.2.2.2.2.2.1
theorem dX9_whyNot_98 : decode cX9_whyNot 98 = .ok (.ifCond .ne 7, 3) := DX9_whyNot_79.2.2.2.2.2.2.2.2.2.2.1
theorem dX9_whyNot_101 : decode cX9_whyNot 101 = .ok (.iconst 1, 1) := DX9_whyNot_79.2.2.2.2.2.2.2.2.2.2.2.1
theorem dX9_whyNot_102 : decode cX9_whyNot 102 = .ok (.goto 18, 3) := DX9_whyNot_79.2.2.2.2.2.2.2.2.2.2.2.2.1
theorem dX9_whyNot_105 : decode cX9_whyNot 105 = .ok (.aload_n 0, 1) := DX9_whyNot_79.2.2.2.2.2.2.2.2.2.2.2.2.2.1
theorem dX9_whyNot_106 : decode cX9_whyNot 106 = .ok (.getfield 31, 3) := DX9_whyNot_79.2.2.2.2.2.2.2.2.2.2.2.2.2.2.1
theorem dX9_whyNot_109 : decode cX9_whyNot 109 = .ok (.iconst 1, 1) := DX9_whyNot_79.2.2.2.2.2.2.2.2.2.2.2.2.2.2.2.1
theorem DX9_whyNot_110 : dAre cX9_whyNot [(110, .iaload, 1), (111, .iload_n 2, 1), (112, .if_icmp .ne 7, 3), (115, .iconst 2, 1), (116, .goto 4, 3), (119, .iconst (-1), 1), (120, .ireturn, 1)] := dAre0 (by decide +kernel)
theorem dX9_whyNot_110 : decode cX9_whyNot 110 = .ok (.iaload, 1) := DX9_whyNot_110.1
theorem dX9_whyNot_111 : decode cX9_whyNot 111 = .ok (.iload_n 2, 1) := DX9_whyNot_110.2.1
theorem dX9_whyNot_112 : decode cX9_whyNot 112 = .ok (.if_icmp .ne 7, 3) := DX9_whyNot_110.2.2.1
theorem dX9_whyNot_115 : decode cX9_whyNot 115 = .ok (.iconst 2, 1) := DX9_whyNot_110.2.2.2.1
theorem dX9_whyNot_116 : decode cX9_whyNot 116 = .ok (.goto 4, 3) := DX9_whyNot_110.2.2.2.2.1
theorem dX9_whyNot_119 : decode cX9_whyNot 119 = .ok (.iconst (-1), 1) := DX9_whyNot_110.2.2.2.2.2.1
theorem dX9_whyNot_120 : decode cX9_whyNot 120 = .ok (.ireturn, 1) := DX9_whyNot_110.2.2.2.2.2.2.1
theorem mX9_whyNot : gMv yX9_whyNot cX9_whyNot 6 (some .int) RX9 5 := ⟨q1014, q1403, q10, q1015, rfl, by decide, by decide, by decide +kernel⟩
noncomputable def fX9_whyNot (v1 : Int32) (v2 : Int32) (v3 : Int32) (v4 : Int32) (v5 : Int32) (I : gM) : Option (Int32) :=
  if v1 = 0 then
    (fX9_whyPut v2 v3 v4 v5 I).bind fun r1 =>
    some r1
  else
  if v1 = 1 then
    (fX9_whyTake v2 v3 v4 v5 I).bind fun r2 =>
    some r2
  else
  if v1 = 2 then
    (fX9_isTable v2 I).bind fun r3 =>
    if r3 = 0 then
      some (0 : Int32)
    else
      (rI 331 (I 70) (0 : Int32)).bind fun u4 =>
      if u4 = ((1 : Int32) <<< (v2 &&& 31)) then
        some (2 : Int32)
      else
        some ((-1) : Int32)
  else
  (fX9_areTables I).bind fun r5 =>
  if r5 = 0 then
    some (0 : Int32)
  else
    (fX9_in v2 (0 : Int32) (23 : Int32)).bind fun r6 =>
    if r6 = 0 then
      some (1 : Int32)
    else
      (rI 331 (I 70) (1 : Int32)).bind fun u7 =>
      if u7 = v2 then
        some (2 : Int32)
      else
        some ((-1) : Int32)
set_option maxRecDepth 100000 in
set_option maxHeartbeats 4000000 in
theorem wX9_whyNot (l : Launch) (E : gE) (hE : gDist sh E) (bk : Nat) (v1 : Int32) (v2 : Int32) (v3 : Int32) (v4 : Int32) (v5 : Int32) (I : gM) (J : gN) {r : Int32} (h : fX9_whyNot v1 v2 v3 v4 v5 I = some r) : Cu l sh E bk yX9_whyNot cX9_whyNot 6 (some .int) (gR 5) [.ref (E.2.1 62), .int v1, .int v2, .int v3, .int v4, .int v5] I J (fun r1 I1 J1 => r1 = some (.int r) ∧ I1 = I ∧ J1 = J) := by
  refine Cu.of "LeapJoinModel" rfl hE (by decide) (Nat.le_of_ble_eq_true rfl) (fun z F B e hl => ?_)
  subst hl
  unfold fX9_whyNot at h
  refine g_iload_n F 1 dX9_whyNot_0 rfl rfl ?_
  rcases oi h with ⟨c1_0, h⟩ | ⟨c1_0, h⟩
  · refine g_tableIn (tgt := 28) F dX9_whyNot_1 (by rw [c1_0]; decide) (by rw [c1_0]; decide) (by rw [c1_0]; rfl) (by decide) ?_
    refine g_aload_n F 0 dX9_whyNot_28 rfl rfl ?_
    refine g_iload_n F 2 dX9_whyNot_29 rfl rfl ?_
    refine g_iload_n F 3 dX9_whyNot_30 rfl rfl ?_
    refine g_iload F 4 dX9_whyNot_31 rfl ?_
    refine g_iload F 5 dX9_whyNot_33 rfl ?_
    refine u_callV (k := 62) (As := [.int v2, .int v3, .int v4, .int v5]) (rest := []) (sn := fun r1 => [.int r1]) F B (fun _ => wX9_whyPut (zl z) E hE bk v2 v3 v4 v5 I J) mX9_whyPut q1016 rfl s62 rfl rfl rfl (Nat.le_of_ble_eq_true rfl) dX9_whyNot_35 (fun _ => rfl) h (fun r1 h => ?_)
    obtain rfl := Option.some.inj h
    exact g_iret F e dX9_whyNot_38 ⟨rfl, rfl, rfl⟩
  rcases oi h with ⟨c1_1, h⟩ | ⟨c1_1, h⟩
  · refine g_tableIn (tgt := 39) F dX9_whyNot_1 (by rw [c1_1]; decide) (by rw [c1_1]; decide) (by rw [c1_1]; rfl) (by decide) ?_
    refine g_aload_n F 0 dX9_whyNot_39 rfl rfl ?_
    refine g_iload_n F 2 dX9_whyNot_40 rfl rfl ?_
    refine g_iload_n F 3 dX9_whyNot_41 rfl rfl ?_
    refine g_iload F 4 dX9_whyNot_42 rfl ?_
    refine g_iload F 5 dX9_whyNot_44 rfl ?_
    refine u_callV (k := 62) (As := [.int v2, .int v3, .int v4, .int v5]) (rest := []) (sn := fun r2 => [.int r2]) F B (fun _ => wX9_whyTake (zl z) E hE bk v2 v3 v4 v5 I J) mX9_whyTake q1025 rfl s62 rfl rfl rfl (Nat.le_of_ble_eq_true rfl) dX9_whyNot_46 (fun _ => rfl) h (fun r2 h => ?_)
    obtain rfl := Option.some.inj h
    exact g_iret F e dX9_whyNot_49 ⟨rfl, rfl, rfl⟩
  rcases oi h with ⟨c1_2, h⟩ | ⟨c1_2, h⟩
  · refine g_tableIn (tgt := 50) F dX9_whyNot_1 (by rw [c1_2]; decide) (by rw [c1_2]; decide) (by rw [c1_2]; rfl) (by decide) ?_
    refine g_aload_n F 0 dX9_whyNot_50 rfl rfl ?_
    refine g_iload_n F 2 dX9_whyNot_51 rfl rfl ?_
    refine u_callV (k := 62) (As := [.int v2]) (rest := []) (sn := fun r3 => [.int r3]) F B (fun _ => wX9_isTable (zl z) E hE bk v2 I J) mX9_isTable q1019 rfl s62 rfl rfl rfl (Nat.le_of_ble_eq_true rfl) dX9_whyNot_52 (fun _ => rfl) h (fun r3 h => ?_)
    refine u_if_ne (tgt := 62) F dX9_whyNot_55 (by decide) h (fun h => ?_) (fun h => ?_)
    · refine g_iconst (v := 0) F dX9_whyNot_58 (by decide) ?_
      refine g_goto (tgt := 79) F dX9_whyNot_59 (by decide) ?_
      obtain rfl := Option.some.inj h
      exact g_iret F e dX9_whyNot_79 ⟨rfl, rfl, rfl⟩
    · refine g_aload_n F 0 dX9_whyNot_62 rfl rfl ?_
      refine g_getr (j := 13) (nn := 70) F s62 rfl rfl uX9 (by decide) q834 dX9_whyNot_63 ?_
      refine g_iconst (v := 0) F dX9_whyNot_66 (by decide) ?_
      refine u_rI F s70 (by decide) dX9_whyNot_67 h (fun u4 h => ?_)
      refine g_iconst (v := 1) F dX9_whyNot_68 (by decide) ?_
      refine g_iload_n F 2 dX9_whyNot_69 rfl rfl ?_
      refine g_ishl (v := (1 : Int32) <<< (v2 &&& 31)) F dX9_whyNot_70 rfl ?_
      refine u_icmp_ne (tgt := 78) F dX9_whyNot_71 (by decide) h (fun h => ?_) (fun h => ?_)
      · refine g_iconst (v := 2) F dX9_whyNot_74 (by decide) ?_
        refine g_goto (tgt := 79) F dX9_whyNot_75 (by decide) ?_
        obtain rfl := Option.some.inj h
        exact g_iret F e dX9_whyNot_79 ⟨rfl, rfl, rfl⟩
      · refine g_iconst (v := (-1)) F dX9_whyNot_78 (by decide) ?_
        obtain rfl := Option.some.inj h
        exact g_iret F e dX9_whyNot_79 ⟨rfl, rfl, rfl⟩
  refine g_tableOut (tgt := 80) F dX9_whyNot_1 (by have q0 : ¬ (v1).toInt = 0 := fun q => c1_0 (Int32.toInt_inj.mp (q.trans (by decide))); have q1 : ¬ (v1).toInt = 1 := fun q => c1_1 (Int32.toInt_inj.mp (q.trans (by decide))); have q2 : ¬ (v1).toInt = 2 := fun q => c1_2 (Int32.toInt_inj.mp (q.trans (by decide))); omega) (by decide) ?_
  refine g_aload_n F 0 dX9_whyNot_80 rfl rfl ?_
  refine u_callV (k := 62) (As := []) (rest := []) (sn := fun r5 => [.int r5]) F B (fun _ => wX9_areTables (zl z) E hE bk  I J) mX9_areTables q1028 rfl s62 rfl rfl rfl (Nat.le_of_ble_eq_true rfl) dX9_whyNot_81 (fun _ => rfl) h (fun r5 h => ?_)
  refine u_if_ne (tgt := 91) F dX9_whyNot_84 (by decide) h (fun h => ?_) (fun h => ?_)
  · refine g_iconst (v := 0) F dX9_whyNot_87 (by decide) ?_
    refine g_goto (tgt := 120) F dX9_whyNot_88 (by decide) ?_
    obtain rfl := Option.some.inj h
    exact g_iret F e dX9_whyNot_120 ⟨rfl, rfl, rfl⟩
  · refine g_iload_n F 2 dX9_whyNot_91 rfl rfl ?_
    refine g_iconst (v := 0) F dX9_whyNot_92 (by decide) ?_
    refine g_bipush (v := 23) F dX9_whyNot_93 (by decide) ?_
    refine u_callS (As := [.int v2, .int 0, .int 23]) (rest := []) (sn := fun r6 => [.int r6]) F B (fun _ => wX9_in (zl z) E hE bk v2 (0 : Int32) (23 : Int32) I J) mX9_in q923 rfl rfl rfl (Nat.le_of_ble_eq_true rfl) dX9_whyNot_95 (fun _ => rfl) h (fun r6 h => ?_)
    refine u_if_ne (tgt := 105) F dX9_whyNot_98 (by decide) h (fun h => ?_) (fun h => ?_)
    · refine g_iconst (v := 1) F dX9_whyNot_101 (by decide) ?_
      refine g_goto (tgt := 120) F dX9_whyNot_102 (by decide) ?_
      obtain rfl := Option.some.inj h
      exact g_iret F e dX9_whyNot_120 ⟨rfl, rfl, rfl⟩
    · refine g_aload_n F 0 dX9_whyNot_105 rfl rfl ?_
      refine g_getr (j := 13) (nn := 70) F s62 rfl rfl uX9 (by decide) q834 dX9_whyNot_106 ?_
      refine g_iconst (v := 1) F dX9_whyNot_109 (by decide) ?_
      refine u_rI F s70 (by decide) dX9_whyNot_110 h (fun u7 h => ?_)
      refine g_iload_n F 2 dX9_whyNot_111 rfl rfl ?_
      refine u_icmp_ne (tgt := 119) F dX9_whyNot_112 (by decide) h (fun h => ?_) (fun h => ?_)
      · refine g_iconst (v := 2) F dX9_whyNot_115 (by decide) ?_
        refine g_goto (tgt := 120) F dX9_whyNot_116 (by decide) ?_
        obtain rfl := Option.some.inj h
        exact g_iret F e dX9_whyNot_120 ⟨rfl, rfl, rfl⟩
      · refine g_iconst (v := (-1)) F dX9_whyNot_119 (by decide) ?_
        obtain rfl := Option.some.inj h
        exact g_iret F e dX9_whyNot_120 ⟨rfl, rfl, rfl⟩
theorem dX9_doNow_1 : decode cX9_doNow 1 = .ok (.tableswitch 75 0 2 #[27, 38, 49], 27) := by decide +kernel
theorem DX9_doNow_0 : dAre cX9_doNow [(0, .iload_n 1, 1), (28, .aload_n 0, 1), (29, .iload_n 2, 1), (30, .iload_n 3, 1), (31, .iload 4, 2), (33, .iload 5, 2), (35, .invokevirtual 201, 3), (38, .ireturn, 1), (39, .aload_n 0, 1), (40, .iload_n 2, 1), (41, .iload_n 3, 1), (42, .iload 4, 2), (44, .iload 5, 2), (46, .invokevirtual 293, 3), (49, .ireturn, 1), (50, .aload_n 0, 1)] := dAre0 (by decide +kernel)
theorem dX9_doNow_0 : decode cX9_doNow 0 = .ok (.iload_n 1, 1) := DX9_doNow_0.1
theorem dX9_doNow_28 : decode cX9_doNow 28 = .ok (.aload_n 0, 1) := DX9_doNow_0.2.1
theorem dX9_doNow_29 : decode cX9_doNow 29 = .ok (.iload_n 2, 1) := DX9_doNow_0.2.2.1
theorem dX9_doNow_30 : decode cX9_doNow 30 = .ok (.iload_n 3, 1) := DX9_doNow_0.2.2.2.1
theorem dX9_doNow_31 : decode cX9_doNow 31 = .ok (.iload 4, 2) := DX9_doNow_0.2.2.2.2.1
theorem dX9_doNow_33 : decode cX9_doNow 33 = .ok (.iload 5, 2) := DX9_doNow_0.2.2.2.2.2.1
theorem dX9_doNow_35 : decode cX9_doNow 35 = .ok (.invokevirtual 201, 3) := DX9_doNow_0.2.2.2.2.2.2.1
theorem dX9_doNow_38 : decode cX9_doNow 38 = .ok (.ireturn, 1) := DX9_doNow_0.2.2.2.2.2.2.2.1
theorem dX9_doNow_39 : decode cX9_doNow 39 = .ok (.aload_n 0, 1) := DX9_doNow_0.2.2.2.2.2.2.2.2.1
theorem dX9_doNow_40 : decode cX9_doNow 40 = .ok (.iload_n 2, 1) := DX9_doNow_0.2.2.2.2.2.2.2.2.2.1
theorem dX9_doNow_41 : decode cX9_doNow 41 = .ok (.iload_n 3, 1) := DX9_doNow_0.2.2.2.2.2.2.2.2.2.2.1
theorem dX9_doNow_42 : decode cX9_doNow 42 = .ok (.iload 4, 2) := DX9_doNow_0.2.2.2.2.2.2.2.2.2.2.2.1
theorem dX9_doNow_44 : decode cX9_doNow 44 = .ok (.iload 5, 2) := DX9_doNow_0.2.2.2.2.2.2.2.2.2.2.2.2.1
theorem dX9_doNow_46 : decode cX9_doNow 46 = .ok (.invokevirtual 293, 3) := DX9_doNow_0.2.2.2.2.2.2.2.2.2.2.2.2.2.1
theorem dX9_doNow_49 : decode cX9_doNow 49 = .ok (.ireturn, 1) := DX9_doNow_0.2.2.2.2.2.2.2.2.2.2.2.2.2.2.1
theorem dX9_doNow_50 : decode cX9_doNow 50 = .ok (.aload_n 0, 1) := DX9_doNow_0.2.2.2.2.2.2.2.2.2.2.2.2.2.2.2.1
theorem DX9_doNow_51 : dAre cX9_doNow [(51, .getfield 31, 3), (54, .iconst 0, 1), (55, .dup2, 1), (56, .iaload, 1), (57, .iconst 1, 1), (58, .iload_n 2, 1), (59, .ishl, 1), (60, .ixor, 1), (61, .iastore, 1), (62, .aload_n 0, 1), (63, .iload_n 2, 1), (64, .invokevirtual 176, 3), (67, .ifCond .eq 7, 3), (70, .iconst 1, 1), (71, .goto 4, 3), (74, .iconst 0, 1)] := dAre0 (by decide +kernel)
theorem dX9_doNow_51 : decode cX9_doNow 51 = .ok (.getfield 31, 3) := DX9_doNow_51.1
theorem dX9_doNow_54 : decode cX9_doNow 54 = .ok (.iconst 0, 1) := DX9_doNow_51.2.1
theorem dX9_doNow_55 : decode cX9_doNow 55 = .ok (.dup2, 1) := DX9_doNow_51.2.2.1
theorem dX9_doNow_56 : decode cX9_doNow 56 = .ok (.iaload, 1) := DX9_doNow_51.2.2.2.1
theorem dX9_doNow_57 : decode cX9_doNow 57 = .ok (.iconst 1, 1) := DX9_doNow_51.2.2.2.2.1
theorem dX9_doNow_58 : decode cX9_doNow 58 = .ok (.iload_n 2, 1) := DX9_doNow_51.2.2.2.2.2.1
theorem dX9_doNow_59 : decode cX9_doNow 59 = .ok (.ishl, 1) := DX9_doNow_51.2.2.2.2.2.2.1
theorem dX9_doNow_60 : decode cX9_doNow 60 = .ok (.ixor, 1) := DX9_doNow_51.2.2.2.2.2.2.2.1
theorem dX9_doNow_61 : decode cX9_doNow 61 = .ok (.iastore, 1) := DX9_doNow_51.2.2.2.2.2.2.2.2.1
theorem dX9_doNow_62 : decode cX9_doNow 62 = .ok (.aload_n 0, 1) := DX9_doNow_51.2.2.2.2.2.2.2.2.2.1
theorem dX9_doNow_63 : decode cX9_doNow 63 = .ok (.iload_n 2, 1) := DX9_doNow_51.2.2.2.2.2.2.2.2.2.2.1
theorem dX9_doNow_64 : decode cX9_doNow 64 = .ok (.invokevirtual 176, 3) := DX9_doNow_51.2.2.2.2.2.2.2.2.2.2.2.1
theorem dX9_doNow_67 : decode cX9_doNow 67 = .ok (.ifCond .eq 7, 3) := DX9_doNow_51.2.2.2.2.2.2.2.2.2.2.2.2.1
theorem dX9_doNow_70 : decode cX9_doNow 70 = .ok (.iconst 1, 1) := DX9_doNow_51.2.2.2.2.2.2.2.2.2.2.2.2.2.1
theorem dX9_doNow_71 : decode cX9_doNow 71 = .ok (.goto 4, 3) := DX9_doNow_51.2.2.2.2.2.2.2.2.2.2.2.2.2.2.1
theorem dX9_doNow_74 : decode cX9_doNow 74 = .ok (.iconst 0, 1) := DX9_doNow_51.2.2.2.2.2.2.2.2.2.2.2.2.2.2.2.1
theorem DX9_doNow_75 : dAre cX9_doNow [(75, .ireturn, 1), (76, .aload_n 0, 1), (77, .getfield 31, 3), (80, .iconst 1, 1), (81, .iaload, 1), (82, .istore 6, 2), (84, .aload_n 0, 1), (85, .getfield 31, 3), (88, .iconst 1, 1), (89, .iload_n 2, 1), (90, .iastore, 1), (91, .iload 6, 2), (93, .ireturn, 1)] := dAre0 (by decide +kernel)
theorem dX9_doNow_75 : decode cX9_doNow 75 = .ok (.ireturn, 1) := DX9_doNow_75.1
theorem dX9_doNow_76 : decode cX9_doNow 76 = .ok (.aload_n 0, 1) := DX9_doNow_75.2.1
theorem dX9_doNow_77 : decode cX9_doNow 77 = .ok (.getfield 31, 3) := DX9_doNow_75.2.2.1
theorem dX9_doNow_80 : decode cX9_doNow 80 = .ok (.iconst 1, 1) := DX9_doNow_75.2.2.2.1
theorem dX9_doNow_81 : decode cX9_doNow 81 = .ok (.iaload, 1) := DX9_doNow_75.2.2.2.2.1
theorem dX9_doNow_82 : decode cX9_doNow 82 = .ok (.istore 6, 2) := DX9_doNow_75.2.2.2.2.2.1
theorem dX9_doNow_84 : decode cX9_doNow 84 = .ok (.aload_n 0, 1) := DX9_doNow_75.2.2.2.2.2.2.1
theorem dX9_doNow_85 : decode cX9_doNow 85 = .ok (.getfield 31, 3) := DX9_doNow_75.2.2.2.2.2.2.2.1
theorem dX9_doNow_88 : decode cX9_doNow 88 = .ok (.iconst 1, 1) := DX9_doNow_75.2.2.2.2.2.2.2.2.1
theorem dX9_doNow_89 : decode cX9_doNow 89 = .ok (.iload_n 2, 1) := DX9_doNow_75.2.2.2.2.2.2.2.2.2.1
theorem dX9_doNow_90 : decode cX9_doNow 90 = .ok (.iastore, 1) := DX9_doNow_75.2.2.2.2.2.2.2.2.2.2.1
theorem dX9_doNow_91 : decode cX9_doNow 91 = .ok (.iload 6, 2) := DX9_doNow_75.2.2.2.2.2.2.2.2.2.2.2.1
theorem dX9_doNow_93 : decode cX9_doNow 93 = .ok (.ireturn, 1) := DX9_doNow_75.2.2.2.2.2.2.2.2.2.2.2.2.1
theorem mX9_doNow : gMv yX9_doNow cX9_doNow 7 (some .int) RX9 5 := ⟨q1038, q1411, q10, q1039, rfl, by decide, by decide, by decide +kernel⟩
noncomputable def fX9_doNow (v1 : Int32) (v2 : Int32) (v3 : Int32) (v4 : Int32) (v5 : Int32) (I : gM) : Option (Int32 × gM) :=
  if v1 = 0 then
    (fX9_putsNow v2 v3 v4 v5 I).bind fun r1 =>
    some (r1.1, r1.2)
  else
  if v1 = 1 then
    (fX9_takesNow v2 v3 v4 v5 I).bind fun r2 =>
    some (r2.1, r2.2)
  else
  if v1 = 2 then
    (rI 331 (I 70) (0 : Int32)).bind fun u3 =>
    (wI I 70 331 0 (u3 ^^^ ((1 : Int32) <<< (v2 &&& 31)))).bind fun I4 =>
    (fX9_isUsed v2 I4).bind fun r5 =>
    if r5 = 0 then
      some ((0 : Int32), I4)
    else
      some ((1 : Int32), I4)
  else
  (rI 331 (I 70) (1 : Int32)).bind fun u6 =>
  (wI I 70 331 1 v2).bind fun I7 =>
  some (u6, I7)
set_option maxRecDepth 100000 in
set_option maxHeartbeats 4000000 in
theorem wX9_doNow (l : Launch) (E : gE) (hE : gDist sh E) (bk : Nat) (v1 : Int32) (v2 : Int32) (v3 : Int32) (v4 : Int32) (v5 : Int32) (I : gM) (J : gN) {r : Int32 × gM} (h : fX9_doNow v1 v2 v3 v4 v5 I = some r) : Cu l sh E bk yX9_doNow cX9_doNow 7 (some .int) (gR 4) [.ref (E.2.1 62), .int v1, .int v2, .int v3, .int v4, .int v5] I J (fun r1 I1 J1 => r1 = some (.int r.1) ∧ I1 = r.2 ∧ J1 = J) := by
  refine Cu.of "LeapJoinModel" rfl hE (by decide) (Nat.le_of_ble_eq_true rfl) (fun z F B e hl => ?_)
  subst hl
  unfold fX9_doNow at h
  refine g_iload_n F 1 dX9_doNow_0 rfl rfl ?_
  rcases oi h with ⟨c1_0, h⟩ | ⟨c1_0, h⟩
  · refine g_tableIn (tgt := 28) F dX9_doNow_1 (by rw [c1_0]; decide) (by rw [c1_0]; decide) (by rw [c1_0]; rfl) (by decide) ?_
    refine g_aload_n F 0 dX9_doNow_28 rfl rfl ?_
    refine g_iload_n F 2 dX9_doNow_29 rfl rfl ?_
    refine g_iload_n F 3 dX9_doNow_30 rfl rfl ?_
    refine g_iload F 4 dX9_doNow_31 rfl ?_
    refine g_iload F 5 dX9_doNow_33 rfl ?_
    refine u_callV (k := 62) (As := [.int v2, .int v3, .int v4, .int v5]) (rest := []) (sn := fun r1 => [.int r1.1]) F B (fun _ => wX9_putsNow (zl z) E hE bk v2 v3 v4 v5 I J) mX9_putsNow q1003 rfl s62 rfl rfl rfl (Nat.le_of_ble_eq_true rfl) dX9_doNow_35 (fun _ => rfl) h (fun r1 h => ?_)
    obtain rfl := Option.some.inj h
    exact g_iret F e dX9_doNow_38 ⟨rfl, rfl, rfl⟩
  rcases oi h with ⟨c1_1, h⟩ | ⟨c1_1, h⟩
  · refine g_tableIn (tgt := 39) F dX9_doNow_1 (by rw [c1_1]; decide) (by rw [c1_1]; decide) (by rw [c1_1]; rfl) (by decide) ?_
    refine g_aload_n F 0 dX9_doNow_39 rfl rfl ?_
    refine g_iload_n F 2 dX9_doNow_40 rfl rfl ?_
    refine g_iload_n F 3 dX9_doNow_41 rfl rfl ?_
    refine g_iload F 4 dX9_doNow_42 rfl ?_
    refine g_iload F 5 dX9_doNow_44 rfl ?_
    refine u_callV (k := 62) (As := [.int v2, .int v3, .int v4, .int v5]) (rest := []) (sn := fun r2 => [.int r2.1]) F B (fun _ => wX9_takesNow (zl z) E hE bk v2 v3 v4 v5 I J) mX9_takesNow q1040 rfl s62 rfl rfl rfl (Nat.le_of_ble_eq_true rfl) dX9_doNow_46 (fun _ => rfl) h (fun r2 h => ?_)
    obtain rfl := Option.some.inj h
    exact g_iret F e dX9_doNow_49 ⟨rfl, rfl, rfl⟩
  rcases oi h with ⟨c1_2, h⟩ | ⟨c1_2, h⟩
  · refine g_tableIn (tgt := 50) F dX9_doNow_1 (by rw [c1_2]; decide) (by rw [c1_2]; decide) (by rw [c1_2]; rfl) (by decide) ?_
    refine g_aload_n F 0 dX9_doNow_50 rfl rfl ?_
    refine g_getr (j := 13) (nn := 70) F s62 rfl rfl uX9 (by decide) q834 dX9_doNow_51 ?_
    refine g_iconst (v := 0) F dX9_doNow_54 (by decide) ?_
    refine g_dup2 F dX9_doNow_55 rfl rfl ?_
    refine u_rI F s70 (by decide) dX9_doNow_56 h (fun u3 h => ?_)
    refine g_iconst (v := 1) F dX9_doNow_57 (by decide) ?_
    refine g_iload_n F 2 dX9_doNow_58 rfl rfl ?_
    refine g_ishl (v := (1 : Int32) <<< (v2 &&& 31)) F dX9_doNow_59 rfl ?_
    refine g_ixor (v := u3 ^^^ ((1 : Int32) <<< (v2 &&& 31))) F dX9_doNow_60 rfl ?_
    refine u_wI F s70 (by decide) dX9_doNow_61 h (fun I4 h => ?_)
    refine g_aload_n F 0 dX9_doNow_62 rfl rfl ?_
    refine g_iload_n F 2 dX9_doNow_63 rfl rfl ?_
    refine u_callV (k := 62) (As := [.int v2]) (rest := []) (sn := fun r5 => [.int r5]) F B (fun _ => wX9_isUsed (zl z) E hE bk v2 I4 J) mX9_isUsed q1043 rfl s62 rfl rfl rfl (Nat.le_of_ble_eq_true rfl) dX9_doNow_64 (fun _ => rfl) h (fun r5 h => ?_)
    refine u_if_eq (tgt := 74) F dX9_doNow_67 (by decide) h (fun h => ?_) (fun h => ?_)
    · refine g_iconst (v := 0) F dX9_doNow_74 (by decide) ?_
      obtain rfl := Option.some.inj h
      exact g_iret F e dX9_doNow_75 ⟨rfl, rfl, rfl⟩
    · refine g_iconst (v := 1) F dX9_doNow_70 (by decide) ?_
      refine g_goto (tgt := 75) F dX9_doNow_71 (by decide) ?_
      obtain rfl := Option.some.inj h
      exact g_iret F e dX9_doNow_75 ⟨rfl, rfl, rfl⟩
  refine g_tableOut (tgt := 76) F dX9_doNow_1 (by have q0 : ¬ (v1).toInt = 0 := fun q => c1_0 (Int32.toInt_inj.mp (q.trans (by decide))); have q1 : ¬ (v1).toInt = 1 := fun q => c1_1 (Int32.toInt_inj.mp (q.trans (by decide))); have q2 : ¬ (v1).toInt = 2 := fun q => c1_2 (Int32.toInt_inj.mp (q.trans (by decide))); omega) (by decide) ?_
  refine g_aload_n F 0 dX9_doNow_76 rfl rfl ?_
  refine g_getr (j := 13) (nn := 70) F s62 rfl rfl uX9 (by decide) q834 dX9_doNow_77 ?_
  refine g_iconst (v := 1) F dX9_doNow_80 (by decide) ?_
  refine u_rI F s70 (by decide) dX9_doNow_81 h (fun u6 h => ?_)
  refine g_istore (Ln := [(6, .int u6), (0, .ref (E.2.1 62)), (1, .int v1), (2, .int v2), (3, .int v3), (4, .int v4), (5, .int v5)]) F dX9_doNow_82 (by decide) rfl ?_
  refine g_aload_n F 1 dX9_doNow_84 rfl rfl ?_
  refine g_getr (j := 13) (nn := 70) F s62 rfl rfl uX9 (by decide) q834 dX9_doNow_85 ?_
  refine g_iconst (v := 1) F dX9_doNow_88 (by decide) ?_
  refine g_iload_n F 3 dX9_doNow_89 rfl rfl ?_
  refine u_wI F s70 (by decide) dX9_doNow_90 h (fun I7 h => ?_)
  refine g_iload F 0 dX9_doNow_91 rfl ?_
  obtain rfl := Option.some.inj h
  exact g_iret F e dX9_doNow_93 ⟨rfl, rfl, rfl⟩
theorem DX9_keep_0 : dAre cX9_keep [(0, .aload_n 0, 1), (1, .getfield 204, 3), (4, .bipush 40, 2), (6, .if_icmp .ne 46, 3), (9, .sipush 331, 3), (12, .istore_n 1, 1), (13, .iload_n 1, 1), (14, .sipush 13240, 3), (17, .if_icmp .ge 25, 3), (20, .aload_n 0, 1), (21, .getfield 65, 3), (24, .iload_n 1, 1), (25, .sipush 331, 3), (28, .isub, 1), (29, .aload_n 0, 1), (30, .getfield 65, 3)] := dAre0 (by decide +kernel)
theorem dX9_keep_0 : decode cX9_keep 0 = .ok (.aload_n 0, 1) := DX9_keep_0.1
theorem dX9_keep_1 : decode cX9_keep 1 = .ok (.getfield 204, 3) := DX9_keep_0.2.1
theorem dX9_keep_4 : decode cX9_keep 4 = .ok (.bipush 40, 2) := DX9_keep_0.2.2.1
theorem dX9_keep_6 : decode cX9_keep 6 = .ok (.if_icmp .ne 46, 3) := DX9_keep_0.2.2.2.1
theorem dX9_keep_9 : decode cX9_keep 9 = .ok (.sipush 331, 3) := DX9_keep_0.2.2.2.2.1
theorem dX9_keep_12 : decode cX9_keep 12 = .ok (.istore_n 1, 1) := DX9_keep_0.2.2.2.2.2.1
theorem dX9_keep_13 : decode cX9_keep 13 = .ok (.iload_n 1, 1) := DX9_keep_0.2.2.2.2.2.2.1
theorem dX9_keep_14 : decode cX9_keep 14 = .ok (.sipush 13240, 3) := DX9_keep_0.2.2.2.2.2.2.2.1
theorem dX9_keep_17 : decode cX9_keep 17 = .ok (.if_icmp .ge 25, 3) := DX9_keep_0.2.2.2.2.2.2.2.2.1
theorem dX9_keep_20 : decode cX9_keep 20 = .ok (.aload_n 0, 1) := DX9_keep_0.2.2.2.2.2.2.2.2.2.1
theorem dX9_keep_21 : decode cX9_keep 21 = .ok (.getfield 65, 3) := DX9_keep_0.2.2.2.2.2.2.2.2.2.2.1
theorem dX9_keep_24 : decode cX9_keep 24 = .ok (.iload_n 1, 1) := DX9_keep_0.2.2.2.2.2.2.2.2.2.2.2.1
theorem dX9_keep_25 : decode cX9_keep 25 = .ok (.sipush 331, 3) := DX9_keep_0.2.2.2.2.2.2.2.2.2.2.2.2.1
theorem dX9_keep_28 : decode cX9_keep 28 = .ok (.isub, 1) := DX9_keep_0.2.2.2.2.2.2.2.2.2.2.2.2.2.1
theorem dX9_keep_29 : decode cX9_keep 29 = .ok (.aload_n 0, 1) := DX9_keep_0.2.2.2.2.2.2.2.2.2.2.2.2.2.2.1
theorem dX9_keep_30 : decode cX9_keep 30 = .ok (.getfield 65, 3) := DX9_keep_0.2.2.2.2.2.2.2.2.2.2.2.2.2.2.2.1
theorem DX9_keep_33 : dAre cX9_keep [(33, .iload_n 1, 1), (34, .iaload, 1), (35, .iastore, 1), (36, .iinc 1 1, 3), (39, .goto (-26), 3), (42, .aload_n 0, 1), (43, .dup, 1), (44, .getfield 204, 3), (47, .iconst 1, 1), (48, .isub, 1), (49, .putfield 204, 3), (52, .iconst 0, 1), (53, .istore_n 1, 1), (54, .iload_n 1, 1), (55, .sipush 331, 3), (58, .if_icmp .ge 30, 3)] := dAre0 (by decide +kernel)
theorem dX9_keep_33 : decode cX9_keep 33 = .ok (.iload_n 1, 1) := DX9_keep_33.1
theorem dX9_keep_34 : decode cX9_keep 34 = .ok (.iaload, 1) := DX9_keep_33.2.1
theorem dX9_keep_35 : decode cX9_keep 35 = .ok (.iastore, 1) := DX9_keep_33.2.2.1
theorem dX9_keep_36 : decode cX9_keep 36 = .ok (.iinc 1 1, 3) := DX9_keep_33.2.2.2.1
theorem dX9_keep_39 : decode cX9_keep 39 = .ok (.goto (-26), 3) := DX9_keep_33.2.2.2.2.1
theorem dX9_keep_42 : decode cX9_keep 42 = .ok (.aload_n 0, 1) := DX9_keep_33.2.2.2.2.2.1
theorem dX9_keep_43 : decode cX9_keep 43 = .ok (.dup, 1) := DX9_keep_33.2.2.2.2.2.2.1
theorem dX9_keep_44 : decode cX9_keep 44 = .ok (.getfield 204, 3) := DX9_keep_33.2.2.2.2.2.2.2.1
theorem dX9_keep_47 : decode cX9_keep 47 = .ok (.iconst 1, 1) := DX9_keep_33.2.2.2.2.2.2.2.2.1
theorem dX9_keep_48 : decode cX9_keep 48 = .ok (.isub, 1) := DX9_keep_33.2.2.2.2.2.2.2.2.2.1
theorem dX9_keep_49 : decode cX9_keep 49 = .ok (.putfield 204, 3) := DX9_keep_33.2.2.2.2.2.2.2.2.2.2.1
theorem dX9_keep_52 : decode cX9_keep 52 = .ok (.iconst 0, 1) := DX9_keep_33.2.2.2.2.2.2.2.2.2.2.2.1
theorem dX9_keep_53 : decode cX9_keep 53 = .ok (.istore_n 1, 1) := DX9_keep_33.2.2.2.2.2.2.2.2.2.2.2.2.1
theorem dX9_keep_54 : decode cX9_keep 54 = .ok (.iload_n 1, 1) := DX9_keep_33.2.2.2.2.2.2.2.2.2.2.2.2.2.1
theorem dX9_keep_55 : decode cX9_keep 55 = .ok (.sipush 331, 3) := DX9_keep_33.2.2.2.2.2.2.2.2.2.2.2.2.2.2.1
theorem dX9_keep_58 : decode cX9_keep 58 = .ok (.if_icmp .ge 30, 3) := DX9_keep_33.2.2.2.2.2.2.2.2.2.2.2.2.2.2.2.1
theorem DX9_keep_61 : dAre cX9_keep [(61, .aload_n 0, 1), (62, .getfield 65, 3), (65, .sipush 331, 3), (68, .aload_n 0, 1), (69, .getfield 204, 3), (72, .imul, 1), (73, .iload_n 1, 1), (74, .iadd, 1), (75, .aload_n 0, 1), (76, .getfield 31, 3), (79, .iload_n 1, 1), (80, .iaload, 1), (81, .iastore, 1), (82, .iinc 1 1, 3), (85, .goto (-31), 3), (88, .aload_n 0, 1)] := dAre0 (by decide +kernel)
theorem dX9_keep_61 : decode cX9_keep 61 = .ok (.aload_n 0, 1) := DX9_keep_61.1
theorem dX9_keep_62 : decode cX9_keep 62 = .ok (.getfield 65, 3) := DX9_keep_61.2.1
theorem dX9_keep_65 : decode cX9_keep 65 = .ok (.sipush 331, 3) := DX9_keep_61.2.2.1
theorem dX9_keep_68 : decode cX9_keep 68 = .ok (.aload_n 0, 1) := DX9_keep_61.2.2.2.1
theorem dX9_keep_69 : decode cX9_keep 69 = .ok (.getfield 204, 3) := DX9_keep_61.2.2.2.2.1
theorem dX9_keep_72 : decode cX9_keep 72 = .ok (.imul, 1) := DX9_keep_61.2.2.2.2.2.1
theorem dX9_keep_73 : decode cX9_keep 73 = .ok (.iload_n 1, 1) := DX9_keep_61.2.2.2.2.2.2.1
theorem dX9_keep_74 : decode cX9_keep 74 = .ok (.iadd, 1) := DX9_keep_61.2.2.2.2.2.2.2.1
theorem dX9_keep_75 : decode cX9_keep 75 = .ok (.aload_n 0, 1) := DX9_keep_61.2.2.2.2.2.2.2.2.1
theorem dX9_keep_76 : decode cX9_keep 76 = .ok (.getfield 31, 3) := DX9_keep_61.2.2.2.2.2.2.2.2.2.1
theorem dX9_keep_79 : decode cX9_keep 79 = .ok (.iload_n 1, 1) := DX9_keep_61.2.2.2.2.2.2.2.2.2.2.1
theorem dX9_keep_80 : decode cX9_keep 80 = .ok (.iaload, 1) := DX9_keep_61.2.2.2.2.2.2.2.2.2.2.2.1
theorem dX9_keep_81 : decode cX9_keep 81 = .ok (.iastore, 1) := DX9_keep_61.2.2.2.2.2.2.2.2.2.2.2.2.1
theorem dX9_keep_82 : decode cX9_keep 82 = .ok (.iinc 1 1, 3) := DX9_keep_61.2.2.2.2.2.2.2.2.2.2.2.2.2.1
theorem dX9_keep_85 : decode cX9_keep 85 = .ok (.goto (-31), 3) := DX9_keep_61.2.2.2.2.2.2.2.2.2.2.2.2.2.2.1
theorem dX9_keep_88 : decode cX9_keep 88 = .ok (.aload_n 0, 1) := DX9_keep_61.2.2.2.2.2.2.2.2.2.2.2.2.2.2.2.1
theorem DX9_keep_89 : dAre cX9_keep [(89, .dup, 1), (90, .getfield 204, 3), (93, .iconst 1, 1), (94, .iadd, 1), (95, .putfield 204, 3), (98, .return_, 1)] := dAre0 (by decide +kernel)
theorem dX9_keep_89 : decode cX9_keep 89 = .ok (.dup, 1) := DX9_keep_89.1
theorem dX9_keep_90 : decode cX9_keep 90 = .ok (.getfield 204, 3) := DX9_keep_89.2.1
theorem dX9_keep_93 : decode cX9_keep 93 = .ok (.iconst 1, 1) := DX9_keep_89.2.2.1
theorem dX9_keep_94 : decode cX9_keep 94 = .ok (.iadd, 1) := DX9_keep_89.2.2.2.1
theorem dX9_keep_95 : decode cX9_keep 95 = .ok (.putfield 204, 3) := DX9_keep_89.2.2.2.2.1
theorem dX9_keep_98 : decode cX9_keep 98 = .ok (.return_, 1) := DX9_keep_89.2.2.2.2.2.1
theorem mX9_keep : gMv yX9_keep cX9_keep 2 none RX9 0 := ⟨q1035, q1410, q10, q1036, rfl, by decide, by decide, by decide +kernel⟩
noncomputable def lX9_keep_13 : (Int32 × gM) → Option (gM) :=
  itO fun s =>
    if (13240 : Int32) ≤ s.1 then
      some (.inr s.2)
    else
      (rI 13240 (s.2 81) s.1).bind fun u1 =>
      (wI s.2 81 13240 (s.1 - 331) u1).bind fun I2 =>
      some (.inl (s.1 + 1, I2))
set_option maxRecDepth 100000 in
set_option maxHeartbeats 4000000 in
theorem wlX9_keep_13 {z : gZ} {E : gE} {bk : Nat} (F : Fx z sh E "LeapJoinModel" cX9_keep (gR 0) 2) (B : bZ z bk) (hE : gDist sh E) (J : gN) {r : gM} : ∀ s : Int32 × gM, lX9_keep_13 s = some r → (G z 42 [(0, .ref (E.2.1 62))] [] r J) → G z 13 [(0, .ref (E.2.1 62)), (1, .int s.1)] [] s.2 J := by
  intro s h X0
  unfold lX9_keep_13 at h
  revert s
  refine itO_ind (P := fun s : Int32 × gM => G z 13 [(0, .ref (E.2.1 62)), (1, .int s.1)] [] s.2 J) (fun s y h hl hr => ?_)
  have K13_0 : ∀ x : gM, y = .inr x → (G z 42 [(0, .ref (E.2.1 62))] [] x J) := fun x q => by have q2 := hr _ q; subst q2; exact X0
  refine g_iload_n F 1 dX9_keep_13 rfl rfl ?_
  refine g_sipush (v := 13240) F dX9_keep_14 (by decide) ?_
  refine u_icmp_ge (tgt := 42) F dX9_keep_17 (by decide) h (fun h => ?_) (fun h => ?_)
  · obtain rfl := Option.some.inj h
    refine g_sub (Ln := [(0, .ref (E.2.1 62))]) [0] rfl ?_
    exact K13_0 s.2 rfl
  · refine g_aload_n F 0 dX9_keep_20 rfl rfl ?_
    refine g_getr (j := 28) (nn := 81) F s62 rfl rfl uX9 (by decide) q849 dX9_keep_21 ?_
    refine g_iload_n F 1 dX9_keep_24 rfl rfl ?_
    refine g_sipush (v := 331) F dX9_keep_25 (by decide) ?_
    refine g_isub (v := s.1 - 331) F dX9_keep_28 rfl ?_
    refine g_aload_n F 0 dX9_keep_29 rfl rfl ?_
    refine g_getr (j := 28) (nn := 81) F s62 rfl rfl uX9 (by decide) q849 dX9_keep_30 ?_
    refine g_iload_n F 1 dX9_keep_33 rfl rfl ?_
    refine u_rI F s81 (by decide) dX9_keep_34 h (fun u1 h => ?_)
    refine u_wI F s81 (by decide) dX9_keep_35 h (fun I2 h => ?_)
    refine g_iinc (v := s.1 + 1) (Ln := [(1, .int (s.1 + 1)), (0, .ref (E.2.1 62))]) F 1 dX9_keep_36 rfl (add_c (by decide)) (by decide) rfl ?_
    refine g_goto (tgt := 13) F dX9_keep_39 (by decide) ?_
    obtain rfl := Option.some.inj h
    refine g_sub (Ln := [(0, .ref (E.2.1 62)), (1, .int (s.1 + 1))]) [1, 0] rfl ?_
    exact hl (s.1 + 1, I2) rfl
noncomputable def lX9_keep_54 : (Int32 × gM) → Option (gM) :=
  itO fun s =>
    if (331 : Int32) ≤ s.1 then
      some (.inr s.2)
    else
      (rI 331 (s.2 70) s.1).bind fun u5 =>
      (wI s.2 81 13240 (((331 : Int32) * (s.2 62 29)) + s.1) u5).bind fun I6 =>
      some (.inl (s.1 + 1, I6))
set_option maxRecDepth 100000 in
set_option maxHeartbeats 4000000 in
theorem wlX9_keep_54 {z : gZ} {E : gE} {bk : Nat} (F : Fx z sh E "LeapJoinModel" cX9_keep (gR 0) 2) (B : bZ z bk) (hE : gDist sh E) (J : gN) {r : gM} : ∀ s : Int32 × gM, lX9_keep_54 s = some r → (G z 88 [(0, .ref (E.2.1 62))] [] r J) → G z 54 [(0, .ref (E.2.1 62)), (1, .int s.1)] [] s.2 J := by
  intro s h X0
  unfold lX9_keep_54 at h
  revert s
  refine itO_ind (P := fun s : Int32 × gM => G z 54 [(0, .ref (E.2.1 62)), (1, .int s.1)] [] s.2 J) (fun s y h hl hr => ?_)
  have K54_0 : ∀ x : gM, y = .inr x → (G z 88 [(0, .ref (E.2.1 62))] [] x J) := fun x q => by have q2 := hr _ q; subst q2; exact X0
  refine g_iload_n F 1 dX9_keep_54 rfl rfl ?_
  refine g_sipush (v := 331) F dX9_keep_55 (by decide) ?_
  refine u_icmp_ge (tgt := 88) F dX9_keep_58 (by decide) h (fun h => ?_) (fun h => ?_)
  · obtain rfl := Option.some.inj h
    refine g_sub (Ln := [(0, .ref (E.2.1 62))]) [0] rfl ?_
    exact K54_0 s.2 rfl
  · refine g_aload_n F 0 dX9_keep_61 rfl rfl ?_
    refine g_getr (j := 28) (nn := 81) F s62 rfl rfl uX9 (by decide) q849 dX9_keep_62 ?_
    refine g_sipush (v := 331) F dX9_keep_65 (by decide) ?_
    refine g_aload_n F 0 dX9_keep_68 rfl rfl ?_
    refine g_geti (j := 29) (v := s.2 62 29) F s62 rfl rfl uX9 (by decide) q850 rfl dX9_keep_69 ?_
    refine g_imul (v := (331 : Int32) * (s.2 62 29)) F dX9_keep_72 rfl ?_
    refine g_iload_n F 1 dX9_keep_73 rfl rfl ?_
    refine g_iadd (v := ((331 : Int32) * (s.2 62 29)) + s.1) F dX9_keep_74 rfl ?_
    refine g_aload_n F 0 dX9_keep_75 rfl rfl ?_
    refine g_getr (j := 13) (nn := 70) F s62 rfl rfl uX9 (by decide) q834 dX9_keep_76 ?_
    refine g_iload_n F 1 dX9_keep_79 rfl rfl ?_
    refine u_rI F s70 (by decide) dX9_keep_80 h (fun u5 h => ?_)
    refine u_wI F s81 (by decide) dX9_keep_81 h (fun I6 h => ?_)
    refine g_iinc (v := s.1 + 1) (Ln := [(1, .int (s.1 + 1)), (0, .ref (E.2.1 62))]) F 1 dX9_keep_82 rfl (add_c (by decide)) (by decide) rfl ?_
    refine g_goto (tgt := 54) F dX9_keep_85 (by decide) ?_
    obtain rfl := Option.some.inj h
    refine g_sub (Ln := [(0, .ref (E.2.1 62)), (1, .int (s.1 + 1))]) [1, 0] rfl ?_
    exact hl (s.1 + 1, I6) rfl
noncomputable def bX9_keep_52 (I : gM) : Option (gM) :=
  (lX9_keep_54 ((0 : Int32), I)).bind fun w7 =>
  (pU w7 62 29 ((w7 62 29) + 1)).bind fun I8 =>
  some I8
set_option maxRecDepth 100000 in
set_option maxHeartbeats 4000000 in
theorem wbX9_keep_52 {z : gZ} {E : gE} {bk : Nat} (F : Fx z sh E "LeapJoinModel" cX9_keep (gR 0) 2) (B : bZ z bk) (hE : gDist sh E) (I : gM) (J : gN) {y : gM} (h : bX9_keep_52 I = some y) (e : Fe z sh E none (fun r1 I1 J1 => r1 = none ∧ I1 = y ∧ J1 = J)) : G z 52 [(0, .ref (E.2.1 62))] [] I J := by
  unfold bX9_keep_52 at h
  refine g_iconst (v := 0) F dX9_keep_52 (by decide) ?_
  refine g_istore_n (Ln := [(1, .int 0), (0, .ref (E.2.1 62))]) F dX9_keep_53 rfl (by decide) rfl ?_
  obtain ⟨w7, ew7, h⟩ := ob h
  refine g_sub (Ln := [(0, .ref (E.2.1 62)), (1, .int 0)]) [1, 0] rfl ?_
  refine wlX9_keep_54 F B hE J _ ew7 ?_
  refine g_aload_n F 0 dX9_keep_88 rfl rfl ?_
  refine g_dup F dX9_keep_89 rfl ?_
  refine g_geti (j := 29) (v := w7 62 29) F s62 rfl rfl uX9 (by decide) q850 rfl dX9_keep_90 ?_
  refine g_iconst (v := 1) F dX9_keep_93 (by decide) ?_
  refine g_iadd (v := (w7 62 29) + 1) F dX9_keep_94 rfl ?_
  refine u_puti (j := 29) F s62 rfl rfl uX9 (by decide) q850 tyX9_ok nmX9 rfl rfl rfl dX9_keep_95 h (fun I8 h => ?_)
  obtain rfl := Option.some.inj h
  exact g_vret F e dX9_keep_98 ⟨rfl, rfl, rfl⟩
noncomputable def fX9_keep (I : gM) : Option (gM) :=
  if (I 62 29) = 40 then
    (lX9_keep_13 ((331 : Int32), I)).bind fun w3 =>
    (pU w3 62 29 ((w3 62 29) - 1)).bind fun I4 =>
    bX9_keep_52 I4
  else
    bX9_keep_52 I
set_option maxRecDepth 100000 in
set_option maxHeartbeats 4000000 in
theorem wX9_keep (l : Launch) (E : gE) (hE : gDist sh E) (bk : Nat) (I : gM) (J : gN) {r : gM} (h : fX9_keep I = some r) : Cu l sh E bk yX9_keep cX9_keep 2 none (gR 0) [.ref (E.2.1 62)] I J (fun r1 I1 J1 => r1 = none ∧ I1 = r ∧ J1 = J) := by
  refine Cu.of "LeapJoinModel" rfl hE (by decide) (Nat.le_of_ble_eq_true rfl) (fun z F B e hl => ?_)
  subst hl
  unfold fX9_keep at h
  refine g_aload_n F 0 dX9_keep_0 rfl rfl ?_
  refine g_geti (j := 29) (v := I 62 29) F s62 rfl rfl uX9 (by decide) q850 rfl dX9_keep_1 ?_
  refine g_bipush (v := 40) F dX9_keep_4 (by decide) ?_
  refine u_icmp_ne (tgt := 52) F dX9_keep_6 (by decide) h (fun h => ?_) (fun h => ?_)
  · refine g_sipush (v := 331) F dX9_keep_9 (by decide) ?_
    refine g_istore_n (Ln := [(1, .int 331), (0, .ref (E.2.1 62))]) F dX9_keep_12 rfl (by decide) rfl ?_
    obtain ⟨w3, ew3, h⟩ := ob h
    refine g_sub (Ln := [(0, .ref (E.2.1 62)), (1, .int 331)]) [1, 0] rfl ?_
    refine wlX9_keep_13 F B hE J _ ew3 ?_
    refine g_aload_n F 0 dX9_keep_42 rfl rfl ?_
    refine g_dup F dX9_keep_43 rfl ?_
    refine g_geti (j := 29) (v := w3 62 29) F s62 rfl rfl uX9 (by decide) q850 rfl dX9_keep_44 ?_
    refine g_iconst (v := 1) F dX9_keep_47 (by decide) ?_
    refine g_isub (v := (w3 62 29) - 1) F dX9_keep_48 rfl ?_
    refine u_puti (j := 29) F s62 rfl rfl uX9 (by decide) q850 tyX9_ok nmX9 rfl rfl rfl dX9_keep_49 h (fun I4 h => ?_)
    refine g_sub (Ln := [(0, .ref (E.2.1 62))]) [0] rfl ?_
    exact wbX9_keep_52 F B hE I4 J h e
  · refine g_sub (Ln := [(0, .ref (E.2.1 62))]) [0] rfl ?_
    exact wbX9_keep_52 F B hE I J h e
theorem DX9_rowsNow_0 : dAre cX9_rowsNow [(0, .aload_n 0, 1), (1, .invokevirtual 296, 3), (4, .aload_n 0, 1), (5, .getfield 247, 3), (8, .ireturn, 1)] := dAre0 (by decide +kernel)
theorem dX9_rowsNow_0 : decode cX9_rowsNow 0 = .ok (.aload_n 0, 1) := DX9_rowsNow_0.1
theorem dX9_rowsNow_1 : decode cX9_rowsNow 1 = .ok (.invokevirtual 296, 3) := DX9_rowsNow_0.2.1
theorem dX9_rowsNow_4 : decode cX9_rowsNow 4 = .ok (.aload_n 0, 1) := DX9_rowsNow_0.2.2.1
theorem dX9_rowsNow_5 : decode cX9_rowsNow 5 = .ok (.getfield 247, 3) := DX9_rowsNow_0.2.2.2.1
theorem dX9_rowsNow_8 : decode cX9_rowsNow 8 = .ok (.ireturn, 1) := DX9_rowsNow_0.2.2.2.2.1
theorem mX9_rowsNow : gMv yX9_rowsNow cX9_rowsNow 1 (some .int) RX9 0 := ⟨q1050, q1415, q10, q1051, rfl, by decide, by decide, by decide +kernel⟩
noncomputable def fX9_rowsNow (I : gM) : Option (Int32 × gM) :=
  (fX9_joinsNow I).bind fun r1 =>
  some (r1 62 26, r1)
set_option maxRecDepth 100000 in
set_option maxHeartbeats 4000000 in
theorem wX9_rowsNow (l : Launch) (E : gE) (hE : gDist sh E) (bk : Nat) (I : gM) (J : gN) {r : Int32 × gM} (h : fX9_rowsNow I = some r) : Cu l sh E bk yX9_rowsNow cX9_rowsNow 1 (some .int) (gR 13) [.ref (E.2.1 62)] I J (fun r1 I1 J1 => r1 = some (.int r.1) ∧ I1 = r.2 ∧ J1 = J) := by
  refine Cu.of "LeapJoinModel" rfl hE (by decide) (Nat.le_of_ble_eq_true rfl) (fun z F B e hl => ?_)
  subst hl
  unfold fX9_rowsNow at h
  refine g_aload_n F 0 dX9_rowsNow_0 rfl rfl ?_
  refine u_callV (k := 62) (As := []) (rest := []) (sn := fun _ => []) F B (fun _ => wX9_joinsNow (zl z) E hE bk  I J) mX9_joinsNow q1052 rfl s62 rfl rfl rfl (Nat.le_of_ble_eq_true rfl) dX9_rowsNow_1 (fun _ => rfl) h (fun r1 h => ?_)
  refine g_aload_n F 0 dX9_rowsNow_4 rfl rfl ?_
  refine g_geti (j := 26) (v := r1 62 26) F s62 rfl rfl uX9 (by decide) q847 rfl dX9_rowsNow_5 ?_
  obtain rfl := Option.some.inj h
  exact g_iret F e dX9_rowsNow_8 ⟨rfl, rfl, rfl⟩
theorem DX9_note_0 : dAre cX9_note [(0, .aload_n 0, 1), (1, .getfield 31, 3), (4, .sipush 150, 3), (7, .iaload, 1), (8, .bipush 60, 2), (10, .if_icmp .ne 52, 3), (13, .iconst 3, 1), (14, .istore_n 3, 1), (15, .iload_n 3, 1), (16, .sipush 180, 3), (19, .if_icmp .ge 31, 3), (22, .aload_n 0, 1), (23, .getfield 31, 3), (26, .sipush 151, 3), (29, .iload_n 3, 1), (30, .iadd, 1)] := dAre0 (by decide +kernel)
theorem dX9_note_0 : decode cX9_note 0 = .ok (.aload_n 0, 1) := DX9_note_0.1
theorem dX9_note_1 : decode cX9_note 1 = .ok (.getfield 31, 3) := DX9_note_0.2.1
theorem dX9_note_4 : decode cX9_note 4 = .ok (.sipush 150, 3) := DX9_note_0.2.2.1
theorem dX9_note_7 : decode cX9_note 7 = .ok (.iaload, 1) := DX9_note_0.2.2.2.1
theorem dX9_note_8 : decode cX9_note 8 = .ok (.bipush 60, 2) := DX9_note_0.2.2.2.2.1
theorem dX9_note_10 : decode cX9_note 10 = .ok (.if_icmp .ne 52, 3) := DX9_note_0.2.2.2.2.2.1
theorem dX9_note_13 : decode cX9_note 13 = .ok (.iconst 3, 1) := DX9_note_0.2.2.2.2.2.2.1
theorem dX9_note_14 : decode cX9_note 14 = .ok (.istore_n 3, 1) := DX9_note_0.2.2.2.2.2.2.2.1
theorem dX9_note_15 : decode cX9_note 15 = .ok (.iload_n 3, 1) := DX9_note_0.2.2.2.2.2.2.2.2.1
theorem dX9_note_16 : decode cX9_note 16 = .ok (.sipush 180, 3) := DX9_note_0.2.2.2.2.2.2.2.2.2.1
theorem dX9_note_19 : decode cX9_note 19 = .ok (.if_icmp .ge 31, 3) := DX9_note_0.2.2.2.2.2.2.2.2.2.2.1
theorem dX9_note_22 : decode cX9_note 22 = .ok (.aload_n 0, 1) := DX9_note_0.2.2.2.2.2.2.2.2.2.2.2.1
theorem dX9_note_23 : decode cX9_note 23 = .ok (.getfield 31, 3) := DX9_note_0.2.2.2.2.2.2.2.2.2.2.2.2.1
theorem dX9_note_26 : decode cX9_note 26 = .ok (.sipush 151, 3) := DX9_note_0.2.2.2.2.2.2.2.2.2.2.2.2.2.1
theorem dX9_note_29 : decode cX9_note 29 = .ok (.iload_n 3, 1) := DX9_note_0.2.2.2.2.2.2.2.2.2.2.2.2.2.2.1
theorem dX9_note_30 : decode cX9_note 30 = .ok (.iadd, 1) := DX9_note_0.2.2.2.2.2.2.2.2.2.2.2.2.2.2.2.1
theorem DX9_note_31 : dAre cX9_note [(31, .iconst 3, 1), (32, .isub, 1), (33, .aload_n 0, 1), (34, .getfield 31, 3), (37, .sipush 151, 3), (40, .iload_n 3, 1), (41, .iadd, 1), (42, .iaload, 1), (43, .iastore, 1), (44, .iinc 3 1, 3), (47, .goto (-32), 3), (50, .aload_n 0, 1), (51, .getfield 31, 3), (54, .sipush 150, 3), (57, .dup2, 1), (58, .iaload, 1)] := dAre0 (by decide +kernel)
theorem dX9_note_31 : decode cX9_note 31 = .ok (.iconst 3, 1) := DX9_note_31.1
theorem dX9_note_32 : decode cX9_note 32 = .ok (.isub, 1) := DX9_note_31.2.1
theorem dX9_note_33 : decode cX9_note 33 = .ok (.aload_n 0, 1) := DX9_note_31.2.2.1
theorem dX9_note_34 : decode cX9_note 34 = .ok (.getfield 31, 3) := DX9_note_31.2.2.2.1
theorem dX9_note_37 : decode cX9_note 37 = .ok (.sipush 151, 3) := DX9_note_31.2.2.2.2.1
theorem dX9_note_40 : decode cX9_note 40 = .ok (.iload_n 3, 1) := DX9_note_31.2.2.2.2.2.1
theorem dX9_note_41 : decode cX9_note 41 = .ok (.iadd, 1) := DX9_note_31.2.2.2.2.2.2.1
theorem dX9_note_42 : decode cX9_note 42 = .ok (.iaload, 1) := DX9_note_31.2.2.2.2.2.2.2.1
theorem dX9_note_43 : decode cX9_note 43 = .ok (.iastore, 1) := DX9_note_31.2.2.2.2.2.2.2.2.1
theorem dX9_note_44 : decode cX9_note 44 = .ok (.iinc 3 1, 3) := DX9_note_31.2.2.2.2.2.2.2.2.2.1
theorem dX9_note_47 : decode cX9_note 47 = .ok (.goto (-32), 3) := DX9_note_31.2.2.2.2.2.2.2.2.2.2.1
theorem dX9_note_50 : decode cX9_note 50 = .ok (.aload_n 0, 1) := DX9_note_31.2.2.2.2.2.2.2.2.2.2.2.1
theorem dX9_note_51 : decode cX9_note 51 = .ok (.getfield 31, 3) := DX9_note_31.2.2.2.2.2.2.2.2.2.2.2.2.1
theorem dX9_note_54 : decode cX9_note 54 = .ok (.sipush 150, 3) := DX9_note_31.2.2.2.2.2.2.2.2.2.2.2.2.2.1
theorem dX9_note_57 : decode cX9_note 57 = .ok (.dup2, 1) := DX9_note_31.2.2.2.2.2.2.2.2.2.2.2.2.2.2.1
theorem dX9_note_58 : decode cX9_note 58 = .ok (.iaload, 1) := DX9_note_31.2.2.2.2.2.2.2.2.2.2.2.2.2.2.2.1
theorem DX9_note_59 : dAre cX9_note [(59, .iconst 1, 1), (60, .isub, 1), (61, .iastore, 1), (62, .sipush 151, 3), (65, .iconst 3, 1), (66, .aload_n 0, 1), (67, .getfield 31, 3), (70, .sipush 150, 3), (73, .iaload, 1), (74, .imul, 1), (75, .iadd, 1), (76, .istore_n 3, 1), (77, .aload_n 0, 1), (78, .getfield 31, 3), (81, .iload_n 3, 1), (82, .iload_n 1, 1)] := dAre0 (by decide +kernel)
theorem dX9_note_59 : decode cX9_note 59 = .ok (.iconst 1, 1) := DX9_note_59.1
theorem dX9_note_60 : decode cX9_note 60 = .ok (.isub, 1) := DX9_note_59.2.1
theorem dX9_note_61 : decode cX9_note 61 = .ok (.iastore, 1) := DX9_note_59.2.2.1
theorem dX9_note_62 : decode cX9_note 62 = .ok (.sipush 151, 3) := DX9_note_59.2.2.2.1
theorem dX9_note_65 : decode cX9_note 65 = .ok (.iconst 3, 1) := DX9_note_59.2.2.2.2.1
theorem dX9_note_66 : decode cX9_note 66 = .ok (.aload_n 0, 1) := DX9_note_59.2.2.2.2.2.1
theorem dX9_note_67 : decode cX9_note 67 = .ok (.getfield 31, 3) := DX9_note_59.2.2.2.2.2.2.1
theorem dX9_note_70 : decode cX9_note 70 = .ok (.sipush 150, 3) := DX9_note_59.2.2.2.2.2.2.2.1
theorem dX9_note_73 : decode cX9_note 73 = .ok (.iaload, 1) := DX9_note_59.2.2.2.2.2.2.2.2.1
theorem dX9_note_74 : decode cX9_note 74 = .ok (.imul, 1) := DX9_note_59.2.2.2.2.2.2.2.2.2.1
theorem dX9_note_75 : decode cX9_note 75 = .ok (.iadd, 1) := DX9_note_59.2.2.2.2.2.2.2.2.2.2.1
theorem dX9_note_76 : decode cX9_note 76 = .ok (.istore_n 3, 1) := DX9_note_59.2.2.2.2.2.2.2.2.2.2.2.1
theorem dX9_note_77 : decode cX9_note 77 = .ok (.aload_n 0, 1) := DX9_note_59.2.2.2.2.2.2.2.2.2.2.2.2.1
theorem dX9_note_78 : decode cX9_note 78 = .ok (.getfield 31, 3) := DX9_note_59.2.2.2.2.2.2.2.2.2.2.2.2.2.1
theorem dX9_note_81 : decode cX9_note 81 = .ok (.iload_n 3, 1) := DX9_note_59.2.2.2.2.2.2.2.2.2.2.2.2.2.2.1
theorem dX9_note_82 : decode cX9_note 82 = .ok (.iload_n 1, 1) := DX9_note_59.2.2.2.2.2.2.2.2.2.2.2.2.2.2.2.1
theorem DX9_note_83 : dAre cX9_note [(83, .iastore, 1), (84, .aload_n 0, 1), (85, .getfield 31, 3), (88, .iload_n 3, 1), (89, .iconst 1, 1), (90, .iadd, 1), (91, .iload_n 2, 1), (92, .iastore, 1), (93, .aload_n 0, 1), (94, .getfield 31, 3), (97, .iload_n 3, 1), (98, .iconst 2, 1), (99, .iadd, 1), (100, .aload_n 0, 1), (101, .invokevirtual 299, 3), (104, .iastore, 1)] := dAre0 (by decide +kernel)
theorem dX9_note_83 : decode cX9_note 83 = .ok (.iastore, 1) := DX9_note_83.1
theorem dX9_note_84 : decode cX9_note 84 = .ok (.aload_n 0, 1) := DX9_note_83.2.1
theorem dX9_note_85 : decode cX9_note 85 = .ok (.getfield 31, 3) := DX9_note_83.2.2.1
theorem dX9_note_88 : decode cX9_note 88 = .ok (.iload_n 3, 1) := DX9_note_83.2.2.2.1
theorem dX9_note_89 : decode cX9_note 89 = .ok (.iconst 1, 1) := DX9_note_83.2.2.2.2.1
theorem dX9_note_90 : decode cX9_note 90 = .ok (.iadd, 1) := DX9_note_83.2.2.2.2.2.1
theorem dX9_note_91 : decode cX9_note 91 = .ok (.iload_n 2, 1) := DX9_note_83.2.2.2.2.2.2.1
theorem dX9_note_92 : decode cX9_note 92 = .ok (.iastore, 1) := DX9_note_83.2.2.2.2.2.2.2.1
theorem dX9_note_93 : decode cX9_note 93 = .ok (.aload_n 0, 1) := DX9_note_83.2.2.2.2.2.2.2.2.1
theorem dX9_note_94 : decode cX9_note 94 = .ok (.getfield 31, 3) := DX9_note_83.2.2.2.2.2.2.2.2.2.1
theorem dX9_note_97 : decode cX9_note 97 = .ok (.iload_n 3, 1) := DX9_note_83.2.2.2.2.2.2.2.2.2.2.1
theorem dX9_note_98 : decode cX9_note 98 = .ok (.iconst 2, 1) := DX9_note_83.2.2.2.2.2.2.2.2.2.2.2.1
theorem dX9_note_99 : decode cX9_note 99 = .ok (.iadd, 1) := DX9_note_83.2.2.2.2.2.2.2.2.2.2.2.2.1
theorem dX9_note_100 : decode cX9_note 100 = .ok (.aload_n 0, 1) := DX9_note_83.2.2.2.2.2.2.2.2.2.2.2.2.2.1
theorem dX9_note_101 : decode cX9_note 101 = .ok (.invokevirtual 299, 3) := DX9_note_83.2.2.2.2.2.2.2.2.2.2.2.2.2.2.1
theorem dX9_note_104 : decode cX9_note 104 = .ok (.iastore, 1) := DX9_note_83.2.2.2.2.2.2.2.2.2.2.2.2.2.2.2.1
theorem DX9_note_105 : dAre cX9_note [(105, .aload_n 0, 1), (106, .getfield 31, 3), (109, .sipush 150, 3), (112, .dup2, 1), (113, .iaload, 1), (114, .iconst 1, 1), (115, .iadd, 1), (116, .iastore, 1), (117, .return_, 1)] := dAre0 (by decide +kernel)
theorem dX9_note_105 : decode cX9_note 105 = .ok (.aload_n 0, 1) := DX9_note_105.1
theorem dX9_note_106 : decode cX9_note 106 = .ok (.getfield 31, 3) := DX9_note_105.2.1
theorem dX9_note_109 : decode cX9_note 109 = .ok (.sipush 150, 3) := DX9_note_105.2.2.1
theorem dX9_note_112 : decode cX9_note 112 = .ok (.dup2, 1) := DX9_note_105.2.2.2.1
theorem dX9_note_113 : decode cX9_note 113 = .ok (.iaload, 1) := DX9_note_105.2.2.2.2.1
theorem dX9_note_114 : decode cX9_note 114 = .ok (.iconst 1, 1) := DX9_note_105.2.2.2.2.2.1
theorem dX9_note_115 : decode cX9_note 115 = .ok (.iadd, 1) := DX9_note_105.2.2.2.2.2.2.1
theorem dX9_note_116 : decode cX9_note 116 = .ok (.iastore, 1) := DX9_note_105.2.2.2.2.2.2.2.1
theorem dX9_note_117 : decode cX9_note 117 = .ok (.return_, 1) := DX9_note_105.2.2.2.2.2.2.2.2.1
theorem mX9_note : gMv yX9_note cX9_note 4 none RX9 2 := ⟨q1047, q1414, q10, q1048, rfl, by decide, by decide, by decide +kernel⟩
noncomputable def lX9_note_15 : (Int32 × gM) → Option (gM) :=
  itO fun s =>
    if (180 : Int32) ≤ s.1 then
      some (.inr s.2)
    else
      (rI 331 (s.2 70) ((151 : Int32) + s.1)).bind fun u2 =>
      (wI s.2 70 331 (((151 : Int32) + s.1) - 3) u2).bind fun I3 =>
      some (.inl (s.1 + 1, I3))
set_option maxRecDepth 100000 in
set_option maxHeartbeats 4000000 in
theorem wlX9_note_15 {z : gZ} {E : gE} {bk : Nat} (F : Fx z sh E "LeapJoinModel" cX9_note (gR 14) 4) (B : bZ z bk) (hE : gDist sh E) (v1 : Int32) (v2 : Int32) (J : gN) {r : gM} : ∀ s : Int32 × gM, lX9_note_15 s = some r → (G z 50 [(0, .ref (E.2.1 62)), (1, .int v1), (2, .int v2)] [] r J) → G z 15 [(0, .ref (E.2.1 62)), (1, .int v1), (2, .int v2), (3, .int s.1)] [] s.2 J := by
  intro s h X0
  unfold lX9_note_15 at h
  revert s
  refine itO_ind (P := fun s : Int32 × gM => G z 15 [(0, .ref (E.2.1 62)), (1, .int v1), (2, .int v2), (3, .int s.1)] [] s.2 J) (fun s y h hl hr => ?_)
  have K15_0 : ∀ x : gM, y = .inr x → (G z 50 [(0, .ref (E.2.1 62)), (1, .int v1), (2, .int v2)] [] x J) := fun x q => by have q2 := hr _ q; subst q2; exact X0
  refine g_iload_n F 3 dX9_note_15 rfl rfl ?_
  refine g_sipush (v := 180) F dX9_note_16 (by decide) ?_
  refine u_icmp_ge (tgt := 50) F dX9_note_19 (by decide) h (fun h => ?_) (fun h => ?_)
  · obtain rfl := Option.some.inj h
    refine g_sub (Ln := [(0, .ref (E.2.1 62)), (1, .int v1), (2, .int v2)]) [0, 1, 2] rfl ?_
    exact K15_0 s.2 rfl
  · refine g_aload_n F 0 dX9_note_22 rfl rfl ?_
    refine g_getr (j := 13) (nn := 70) F s62 rfl rfl uX9 (by decide) q834 dX9_note_23 ?_
    refine g_sipush (v := 151) F dX9_note_26 (by decide) ?_
    refine g_iload_n F 3 dX9_note_29 rfl rfl ?_
    refine g_iadd (v := (151 : Int32) + s.1) F dX9_note_30 rfl ?_
    refine g_iconst (v := 3) F dX9_note_31 (by decide) ?_
    refine g_isub (v := ((151 : Int32) + s.1) - 3) F dX9_note_32 rfl ?_
    refine g_aload_n F 0 dX9_note_33 rfl rfl ?_
    refine g_getr (j := 13) (nn := 70) F s62 rfl rfl uX9 (by decide) q834 dX9_note_34 ?_
    refine g_sipush (v := 151) F dX9_note_37 (by decide) ?_
    refine g_iload_n F 3 dX9_note_40 rfl rfl ?_
    refine g_iadd (v := (151 : Int32) + s.1) F dX9_note_41 rfl ?_
    refine u_rI F s70 (by decide) dX9_note_42 h (fun u2 h => ?_)
    refine u_wI F s70 (by decide) dX9_note_43 h (fun I3 h => ?_)
    refine g_iinc (v := s.1 + 1) (Ln := [(3, .int (s.1 + 1)), (0, .ref (E.2.1 62)), (1, .int v1), (2, .int v2)]) F 3 dX9_note_44 rfl (add_c (by decide)) (by decide) rfl ?_
    refine g_goto (tgt := 15) F dX9_note_47 (by decide) ?_
    obtain rfl := Option.some.inj h
    refine g_sub (Ln := [(0, .ref (E.2.1 62)), (1, .int v1), (2, .int v2), (3, .int (s.1 + 1))]) [1, 2, 3, 0] rfl ?_
    exact hl (s.1 + 1, I3) rfl
noncomputable def bX9_note_62 (v1 : Int32) (v2 : Int32) (I : gM) : Option (gM) :=
  (rI 331 (I 70) (150 : Int32)).bind fun u7 =>
  (wI I 70 331 ((151 : Int32) + ((3 : Int32) * u7)) v1).bind fun I8 =>
  (wI I8 70 331 (((151 : Int32) + ((3 : Int32) * u7)) + 1) v2).bind fun I9 =>
  (fX9_rowsNow I9).bind fun r10 =>
  (wI r10.2 70 331 (((151 : Int32) + ((3 : Int32) * u7)) + 2) r10.1).bind fun I11 =>
  (rI 331 (I11 70) (150 : Int32)).bind fun u12 =>
  (wI I11 70 331 150 (u12 + 1)).bind fun I13 =>
  some I13
set_option maxRecDepth 100000 in
set_option maxHeartbeats 4000000 in
theorem wbX9_note_62 {z : gZ} {E : gE} {bk : Nat} (F : Fx z sh E "LeapJoinModel" cX9_note (gR 14) 4) (B : bZ z bk) (hE : gDist sh E) (v1 : Int32) (v2 : Int32) (I : gM) (J : gN) {y : gM} (h : bX9_note_62 v1 v2 I = some y) (e : Fe z sh E none (fun r1 I1 J1 => r1 = none ∧ I1 = y ∧ J1 = J)) : G z 62 [(0, .ref (E.2.1 62)), (1, .int v1), (2, .int v2)] [] I J := by
  unfold bX9_note_62 at h
  refine g_sipush (v := 151) F dX9_note_62 (by decide) ?_
  refine g_iconst (v := 3) F dX9_note_65 (by decide) ?_
  refine g_aload_n F 0 dX9_note_66 rfl rfl ?_
  refine g_getr (j := 13) (nn := 70) F s62 rfl rfl uX9 (by decide) q834 dX9_note_67 ?_
  refine g_sipush (v := 150) F dX9_note_70 (by decide) ?_
  refine u_rI F s70 (by decide) dX9_note_73 h (fun u7 h => ?_)
  refine g_imul (v := (3 : Int32) * u7) F dX9_note_74 rfl ?_
  refine g_iadd (v := (151 : Int32) + ((3 : Int32) * u7)) F dX9_note_75 rfl ?_
  refine g_istore_n (Ln := [(3, .int ((151 : Int32) + ((3 : Int32) * u7))), (0, .ref (E.2.1 62)), (1, .int v1), (2, .int v2)]) F dX9_note_76 rfl (by decide) rfl ?_
  refine g_aload_n F 1 dX9_note_77 rfl rfl ?_
  refine g_getr (j := 13) (nn := 70) F s62 rfl rfl uX9 (by decide) q834 dX9_note_78 ?_
  refine g_iload_n F 0 dX9_note_81 rfl rfl ?_
  refine g_iload_n F 2 dX9_note_82 rfl rfl ?_
  refine u_wI F s70 (by decide) dX9_note_83 h (fun I8 h => ?_)
  refine g_aload_n F 1 dX9_note_84 rfl rfl ?_
  refine g_getr (j := 13) (nn := 70) F s62 rfl rfl uX9 (by decide) q834 dX9_note_85 ?_
  refine g_iload_n F 0 dX9_note_88 rfl rfl ?_
  refine g_iconst (v := 1) F dX9_note_89 (by decide) ?_
  refine g_iadd (v := ((151 : Int32) + ((3 : Int32) * u7)) + 1) F dX9_note_90 rfl ?_
  refine g_iload_n F 3 dX9_note_91 rfl rfl ?_
  refine u_wI F s70 (by decide) dX9_note_92 h (fun I9 h => ?_)
  refine g_aload_n F 1 dX9_note_93 rfl rfl ?_
  refine g_getr (j := 13) (nn := 70) F s62 rfl rfl uX9 (by decide) q834 dX9_note_94 ?_
  refine g_iload_n F 0 dX9_note_97 rfl rfl ?_
  refine g_iconst (v := 2) F dX9_note_98 (by decide) ?_
  refine g_iadd (v := ((151 : Int32) + ((3 : Int32) * u7)) + 2) F dX9_note_99 rfl ?_
  refine g_aload_n F 1 dX9_note_100 rfl rfl ?_
  refine u_callV (k := 62) (As := []) (rest := [.int (((151 : Int32) + ((3 : Int32) * u7)) + 2), .ref (E.2.1 70)]) (sn := fun r10 => [.int r10.1, .int (((151 : Int32) + ((3 : Int32) * u7)) + 2), .ref (E.2.1 70)]) F B (fun _ => wX9_rowsNow (zl z) E hE bk  I9 J) mX9_rowsNow q1049 rfl s62 rfl rfl rfl (Nat.le_of_ble_eq_true rfl) dX9_note_101 (fun _ => rfl) h (fun r10 h => ?_)
  refine u_wI F s70 (by decide) dX9_note_104 h (fun I11 h => ?_)
  refine g_aload_n F 1 dX9_note_105 rfl rfl ?_
  refine g_getr (j := 13) (nn := 70) F s62 rfl rfl uX9 (by decide) q834 dX9_note_106 ?_
  refine g_sipush (v := 150) F dX9_note_109 (by decide) ?_
  refine g_dup2 F dX9_note_112 rfl rfl ?_
  refine u_rI F s70 (by decide) dX9_note_113 h (fun u12 h => ?_)
  refine g_iconst (v := 1) F dX9_note_114 (by decide) ?_
  refine g_iadd (v := u12 + 1) F dX9_note_115 rfl ?_
  refine u_wI F s70 (by decide) dX9_note_116 h (fun I13 h => ?_)
  obtain rfl := Option.some.inj h
  exact g_vret F e dX9_note_117 ⟨rfl, rfl, rfl⟩
noncomputable def fX9_note (v1 : Int32) (v2 : Int32) (I : gM) : Option (gM) :=
  (rI 331 (I 70) (150 : Int32)).bind fun u1 =>
  if u1 = 60 then
    (lX9_note_15 ((3 : Int32), I)).bind fun w4 =>
    (rI 331 (w4 70) (150 : Int32)).bind fun u5 =>
    (wI w4 70 331 150 (u5 - 1)).bind fun I6 =>
    bX9_note_62 v1 v2 I6
  else
    bX9_note_62 v1 v2 I
set_option maxRecDepth 100000 in
set_option maxHeartbeats 4000000 in
theorem wX9_note (l : Launch) (E : gE) (hE : gDist sh E) (bk : Nat) (v1 : Int32) (v2 : Int32) (I : gM) (J : gN) {r : gM} (h : fX9_note v1 v2 I = some r) : Cu l sh E bk yX9_note cX9_note 4 none (gR 14) [.ref (E.2.1 62), .int v1, .int v2] I J (fun r1 I1 J1 => r1 = none ∧ I1 = r ∧ J1 = J) := by
  refine Cu.of "LeapJoinModel" rfl hE (by decide) (Nat.le_of_ble_eq_true rfl) (fun z F B e hl => ?_)
  subst hl
  unfold fX9_note at h
  refine g_aload_n F 0 dX9_note_0 rfl rfl ?_
  refine g_getr (j := 13) (nn := 70) F s62 rfl rfl uX9 (by decide) q834 dX9_note_1 ?_
  refine g_sipush (v := 150) F dX9_note_4 (by decide) ?_
  refine u_rI F s70 (by decide) dX9_note_7 h (fun u1 h => ?_)
  refine g_bipush (v := 60) F dX9_note_8 (by decide) ?_
  refine u_icmp_ne (tgt := 62) F dX9_note_10 (by decide) h (fun h => ?_) (fun h => ?_)
  · refine g_iconst (v := 3) F dX9_note_13 (by decide) ?_
    refine g_istore_n (Ln := [(3, .int 3), (0, .ref (E.2.1 62)), (1, .int v1), (2, .int v2)]) F dX9_note_14 rfl (by decide) rfl ?_
    obtain ⟨w4, ew4, h⟩ := ob h
    refine g_sub (Ln := [(0, .ref (E.2.1 62)), (1, .int v1), (2, .int v2), (3, .int 3)]) [1, 2, 3, 0] rfl ?_
    refine wlX9_note_15 F B hE v1 v2 J _ ew4 ?_
    refine g_aload_n F 0 dX9_note_50 rfl rfl ?_
    refine g_getr (j := 13) (nn := 70) F s62 rfl rfl uX9 (by decide) q834 dX9_note_51 ?_
    refine g_sipush (v := 150) F dX9_note_54 (by decide) ?_
    refine g_dup2 F dX9_note_57 rfl rfl ?_
    refine u_rI F s70 (by decide) dX9_note_58 h (fun u5 h => ?_)
    refine g_iconst (v := 1) F dX9_note_59 (by decide) ?_
    refine g_isub (v := u5 - 1) F dX9_note_60 rfl ?_
    refine u_wI F s70 (by decide) dX9_note_61 h (fun I6 h => ?_)
    refine g_sub (Ln := [(0, .ref (E.2.1 62)), (1, .int v1), (2, .int v2)]) [0, 1, 2] rfl ?_
    exact wbX9_note_62 F B hE v1 v2 I6 J h e
  · refine g_sub (Ln := [(0, .ref (E.2.1 62)), (1, .int v1), (2, .int v2)]) [0, 1, 2] rfl ?_
    exact wbX9_note_62 F B hE v1 v2 I J h e
theorem DX9_act_0 : dAre cX9_act [(0, .aload_n 0, 1), (1, .invokevirtual 302, 3), (4, .aload_n 0, 1), (5, .iload_n 1, 1), (6, .iload_n 2, 1), (7, .iload_n 3, 1), (8, .iload 4, 2), (10, .iload 5, 2), (12, .invokevirtual 305, 3), (15, .istore 6, 2), (17, .aload_n 0, 1), (18, .iload_n 1, 1), (19, .iload_n 2, 1), (20, .invokevirtual 308, 3), (23, .iload 6, 2), (25, .ireturn, 1)] := dAre0 (by decide +kernel)
theorem dX9_act_0 : decode cX9_act 0 = .ok (.aload_n 0, 1) := DX9_act_0.1
theorem dX9_act_1 : decode cX9_act 1 = .ok (.invokevirtual 302, 3) := DX9_act_0.2.1
theorem dX9_act_4 : decode cX9_act 4 = .ok (.aload_n 0, 1) := DX9_act_0.2.2.1
theorem dX9_act_5 : decode cX9_act 5 = .ok (.iload_n 1, 1) := DX9_act_0.2.2.2.1
theorem dX9_act_6 : decode cX9_act 6 = .ok (.iload_n 2, 1) := DX9_act_0.2.2.2.2.1
theorem dX9_act_7 : decode cX9_act 7 = .ok (.iload_n 3, 1) := DX9_act_0.2.2.2.2.2.1
theorem dX9_act_8 : decode cX9_act 8 = .ok (.iload 4, 2) := DX9_act_0.2.2.2.2.2.2.1
theorem dX9_act_10 : decode cX9_act 10 = .ok (.iload 5, 2) := DX9_act_0.2.2.2.2.2.2.2.1
theorem dX9_act_12 : decode cX9_act 12 = .ok (.invokevirtual 305, 3) := DX9_act_0.2.2.2.2.2.2.2.2.1
theorem dX9_act_15 : decode cX9_act 15 = .ok (.istore 6, 2) := DX9_act_0.2.2.2.2.2.2.2.2.2.1
theorem dX9_act_17 : decode cX9_act 17 = .ok (.aload_n 0, 1) := DX9_act_0.2.2.2.2.2.2.2.2.2.2.1
theorem dX9_act_18 : decode cX9_act 18 = .ok (.iload_n 1, 1) := DX9_act_0.2.2.2.2.2.2.2.2.2.2.2.1
theorem dX9_act_19 : decode cX9_act 19 = .ok (.iload_n 2, 1) := DX9_act_0.2.2.2.2.2.2.2.2.2.2.2.2.1
theorem dX9_act_20 : decode cX9_act 20 = .ok (.invokevirtual 308, 3) := DX9_act_0.2.2.2.2.2.2.2.2.2.2.2.2.2.1
theorem dX9_act_23 : decode cX9_act 23 = .ok (.iload 6, 2) := DX9_act_0.2.2.2.2.2.2.2.2.2.2.2.2.2.2.1
theorem dX9_act_25 : decode cX9_act 25 = .ok (.ireturn, 1) := DX9_act_0.2.2.2.2.2.2.2.2.2.2.2.2.2.2.2.1
theorem mX9_act : gMv yX9_act cX9_act 7 (some .int) RX9 5 := ⟨q1032, q1409, q10, q1033, rfl, by decide, by decide, by decide +kernel⟩
noncomputable def fX9_act (v1 : Int32) (v2 : Int32) (v3 : Int32) (v4 : Int32) (v5 : Int32) (I : gM) : Option (Int32 × gM) :=
  (fX9_keep I).bind fun r1 =>
  (fX9_doNow v1 v2 v3 v4 v5 r1).bind fun r2 =>
  (fX9_note v1 v2 r2.2).bind fun r3 =>
  some (r2.1, r3)
set_option maxRecDepth 100000 in
set_option maxHeartbeats 4000000 in
theorem wX9_act (l : Launch) (E : gE) (hE : gDist sh E) (bk : Nat) (v1 : Int32) (v2 : Int32) (v3 : Int32) (v4 : Int32) (v5 : Int32) (I : gM) (J : gN) {r : Int32 × gM} (h : fX9_act v1 v2 v3 v4 v5 I = some r) : Cu l sh E bk yX9_act cX9_act 7 (some .int) (gR 15) [.ref (E.2.1 62), .int v1, .int v2, .int v3, .int v4, .int v5] I J (fun r1 I1 J1 => r1 = some (.int r.1) ∧ I1 = r.2 ∧ J1 = J) := by
  refine Cu.of "LeapJoinModel" rfl hE (by decide) (Nat.le_of_ble_eq_true rfl) (fun z F B e hl => ?_)
  subst hl
  unfold fX9_act at h
  refine g_aload_n F 0 dX9_act_0 rfl rfl ?_
  refine u_callV (k := 62) (As := []) (rest := []) (sn := fun _ => []) F B (fun _ => wX9_keep (zl z) E hE bk  I J) mX9_keep q1034 rfl s62 rfl rfl rfl (Nat.le_of_ble_eq_true rfl) dX9_act_1 (fun _ => rfl) h (fun r1 h => ?_)
  refine g_aload_n F 0 dX9_act_4 rfl rfl ?_
  refine g_iload_n F 1 dX9_act_5 rfl rfl ?_
  refine g_iload_n F 2 dX9_act_6 rfl rfl ?_
  refine g_iload_n F 3 dX9_act_7 rfl rfl ?_
  refine g_iload F 4 dX9_act_8 rfl ?_
  refine g_iload F 5 dX9_act_10 rfl ?_
  refine u_callV (k := 62) (As := [.int v1, .int v2, .int v3, .int v4, .int v5]) (rest := []) (sn := fun r2 => [.int r2.1]) F B (fun _ => wX9_doNow (zl z) E hE bk v1 v2 v3 v4 v5 r1 J) mX9_doNow q1037 rfl s62 rfl rfl rfl (Nat.le_of_ble_eq_true rfl) dX9_act_12 (fun _ => rfl) h (fun r2 h => ?_)
  refine g_istore (Ln := [(6, .int r2.1), (0, .ref (E.2.1 62)), (1, .int v1), (2, .int v2), (3, .int v3), (4, .int v4), (5, .int v5)]) F dX9_act_15 (by decide) rfl ?_
  refine g_aload_n F 1 dX9_act_17 rfl rfl ?_
  refine g_iload_n F 2 dX9_act_18 rfl rfl ?_
  refine g_iload_n F 3 dX9_act_19 rfl rfl ?_
  refine u_callV (k := 62) (As := [.int v1, .int v2]) (rest := []) (sn := fun _ => []) F B (fun _ => wX9_note (zl z) E hE bk v1 v2 r2.2 J) mX9_note q1046 rfl s62 rfl rfl rfl (Nat.le_of_ble_eq_true rfl) dX9_act_20 (fun _ => rfl) h (fun r3 h => ?_)
  refine g_iload F 0 dX9_act_23 rfl ?_
  obtain rfl := Option.some.inj h
  exact g_iret F e dX9_act_25 ⟨rfl, rfl, rfl⟩
theorem DX9_hand_0 : dAre cX9_hand [(0, .aload_n 0, 1), (1, .iload_n 1, 1), (2, .iload_n 2, 1), (3, .iload_n 3, 1), (4, .iload 4, 2), (6, .iload 5, 2), (8, .invokevirtual 311, 3), (11, .istore 6, 2), (13, .iload 6, 2), (15, .iconst (-1), 1), (16, .if_icmp .eq 16, 3), (19, .aload_n 0, 1), (20, .getfield 34, 3), (23, .iload 6, 2), (25, .dup2, 1), (26, .iaload, 1)] := dAre0 (by decide +kernel)
theorem dX9_hand_0 : decode cX9_hand 0 = .ok (.aload_n 0, 1) := DX9_hand_0.1
theorem dX9_hand_1 : decode cX9_hand 1 = .ok (.iload_n 1, 1) := DX9_hand_0.2.1
theorem dX9_hand_2 : decode cX9_hand 2 = .ok (.iload_n 2, 1) := DX9_hand_0.2.2.1
theorem dX9_hand_3 : decode cX9_hand 3 = .ok (.iload_n 3, 1) := DX9_hand_0.2.2.2.1
theorem dX9_hand_4 : decode cX9_hand 4 = .ok (.iload 4, 2) := DX9_hand_0.2.2.2.2.1
theorem dX9_hand_6 : decode cX9_hand 6 = .ok (.iload 5, 2) := DX9_hand_0.2.2.2.2.2.1
theorem dX9_hand_8 : decode cX9_hand 8 = .ok (.invokevirtual 311, 3) := DX9_hand_0.2.2.2.2.2.2.1
theorem dX9_hand_11 : decode cX9_hand 11 = .ok (.istore 6, 2) := DX9_hand_0.2.2.2.2.2.2.2.1
theorem dX9_hand_13 : decode cX9_hand 13 = .ok (.iload 6, 2) := DX9_hand_0.2.2.2.2.2.2.2.2.1
theorem dX9_hand_15 : decode cX9_hand 15 = .ok (.iconst (-1), 1) := DX9_hand_0.2.2.2.2.2.2.2.2.2.1
theorem dX9_hand_16 : decode cX9_hand 16 = .ok (.if_icmp .eq 16, 3) := DX9_hand_0.2.2.2.2.2.2.2.2.2.2.1
theorem dX9_hand_19 : decode cX9_hand 19 = .ok (.aload_n 0, 1) := DX9_hand_0.2.2.2.2.2.2.2.2.2.2.2.1
theorem dX9_hand_20 : decode cX9_hand 20 = .ok (.getfield 34, 3) := DX9_hand_0.2.2.2.2.2.2.2.2.2.2.2.2.1
theorem dX9_hand_23 : decode cX9_hand 23 = .ok (.iload 6, 2) := DX9_hand_0.2.2.2.2.2.2.2.2.2.2.2.2.2.1
theorem dX9_hand_25 : decode cX9_hand 25 = .ok (.dup2, 1) := DX9_hand_0.2.2.2.2.2.2.2.2.2.2.2.2.2.2.1
theorem dX9_hand_26 : decode cX9_hand 26 = .ok (.iaload, 1) := DX9_hand_0.2.2.2.2.2.2.2.2.2.2.2.2.2.2.2.1
theorem DX9_hand_27 : dAre cX9_hand [(27, .iconst 1, 1), (28, .iadd, 1), (29, .iastore, 1), (30, .iconst (-1), 1), (31, .ireturn, 1), (32, .aload_n 0, 1), (33, .iload_n 1, 1), (34, .iload_n 2, 1), (35, .iload_n 3, 1), (36, .iload 4, 2), (38, .iload 5, 2), (40, .invokevirtual 314, 3), (43, .ireturn, 1)] := dAre0 (by decide +kernel)
theorem dX9_hand_27 : decode cX9_hand 27 = .ok (.iconst 1, 1) := DX9_hand_27.1
theorem dX9_hand_28 : decode cX9_hand 28 = .ok (.iadd, 1) := DX9_hand_27.2.1
theorem dX9_hand_29 : decode cX9_hand 29 = .ok (.iastore, 1) := DX9_hand_27.2.2.1
theorem dX9_hand_30 : decode cX9_hand 30 = .ok (.iconst (-1), 1) := DX9_hand_27.2.2.2.1
theorem dX9_hand_31 : decode cX9_hand 31 = .ok (.ireturn, 1) := DX9_hand_27.2.2.2.2.1
theorem dX9_hand_32 : decode cX9_hand 32 = .ok (.aload_n 0, 1) := DX9_hand_27.2.2.2.2.2.1
theorem dX9_hand_33 : decode cX9_hand 33 = .ok (.iload_n 1, 1) := DX9_hand_27.2.2.2.2.2.2.1
theorem dX9_hand_34 : decode cX9_hand 34 = .ok (.iload_n 2, 1) := DX9_hand_27.2.2.2.2.2.2.2.1
theorem dX9_hand_35 : decode cX9_hand 35 = .ok (.iload_n 3, 1) := DX9_hand_27.2.2.2.2.2.2.2.2.1
theorem dX9_hand_36 : decode cX9_hand 36 = .ok (.iload 4, 2) := DX9_hand_27.2.2.2.2.2.2.2.2.2.1
theorem dX9_hand_38 : decode cX9_hand 38 = .ok (.iload 5, 2) := DX9_hand_27.2.2.2.2.2.2.2.2.2.2.1
theorem dX9_hand_40 : decode cX9_hand 40 = .ok (.invokevirtual 314, 3) := DX9_hand_27.2.2.2.2.2.2.2.2.2.2.2.1
theorem dX9_hand_43 : decode cX9_hand 43 = .ok (.ireturn, 1) := DX9_hand_27.2.2.2.2.2.2.2.2.2.2.2.2.1
theorem mX9_hand : gMv yX9_hand cX9_hand 7 (some .int) RX9 5 := ⟨q1011, q1402, q10, q1012, rfl, by decide, by decide, by decide +kernel⟩
noncomputable def fX9_hand (v1 : Int32) (v2 : Int32) (v3 : Int32) (v4 : Int32) (v5 : Int32) (I : gM) : Option (Int32 × gM) :=
  (fX9_whyNot v1 v2 v3 v4 v5 I).bind fun r1 =>
  if r1 = (-1) then
    (fX9_act v1 v2 v3 v4 v5 I).bind fun r2 =>
    some (r2.1, r2.2)
  else
    (rI 4 (I 71) r1).bind fun u3 =>
    (wI I 71 4 r1 (u3 + 1)).bind fun I4 =>
    some (((-1) : Int32), I4)
set_option maxRecDepth 100000 in
set_option maxHeartbeats 4000000 in
theorem wX9_hand (l : Launch) (E : gE) (hE : gDist sh E) (bk : Nat) (v1 : Int32) (v2 : Int32) (v3 : Int32) (v4 : Int32) (v5 : Int32) (I : gM) (J : gN) {r : Int32 × gM} (h : fX9_hand v1 v2 v3 v4 v5 I = some r) : Cu l sh E bk yX9_hand cX9_hand 7 (some .int) (gR 16) [.ref (E.2.1 62), .int v1, .int v2, .int v3, .int v4, .int v5] I J (fun r1 I1 J1 => r1 = some (.int r.1) ∧ I1 = r.2 ∧ J1 = J) := by
  refine Cu.of "LeapJoinModel" rfl hE (by decide) (Nat.le_of_ble_eq_true rfl) (fun z F B e hl => ?_)
  subst hl
  unfold fX9_hand at h
  refine g_aload_n F 0 dX9_hand_0 rfl rfl ?_
  refine g_iload_n F 1 dX9_hand_1 rfl rfl ?_
  refine g_iload_n F 2 dX9_hand_2 rfl rfl ?_
  refine g_iload_n F 3 dX9_hand_3 rfl rfl ?_
  refine g_iload F 4 dX9_hand_4 rfl ?_
  refine g_iload F 5 dX9_hand_6 rfl ?_
  refine u_callV (k := 62) (As := [.int v1, .int v2, .int v3, .int v4, .int v5]) (rest := []) (sn := fun r1 => [.int r1]) F B (fun _ => wX9_whyNot (zl z) E hE bk v1 v2 v3 v4 v5 I J) mX9_whyNot q1013 rfl s62 rfl rfl rfl (Nat.le_of_ble_eq_true rfl) dX9_hand_8 (fun _ => rfl) h (fun r1 h => ?_)
  refine g_istore (Ln := [(6, .int r1), (0, .ref (E.2.1 62)), (1, .int v1), (2, .int v2), (3, .int v3), (4, .int v4), (5, .int v5)]) F dX9_hand_11 (by decide) rfl ?_
  refine g_iload F 0 dX9_hand_13 rfl ?_
  refine g_iconst (v := (-1)) F dX9_hand_15 (by decide) ?_
  refine u_icmp_eq (tgt := 32) F dX9_hand_16 (by decide) h (fun h => ?_) (fun h => ?_)
  · refine g_aload_n F 1 dX9_hand_32 rfl rfl ?_
    refine g_iload_n F 2 dX9_hand_33 rfl rfl ?_
    refine g_iload_n F 3 dX9_hand_34 rfl rfl ?_
    refine g_iload_n F 4 dX9_hand_35 rfl rfl ?_
    refine g_iload F 5 dX9_hand_36 rfl ?_
    refine g_iload F 6 dX9_hand_38 rfl ?_
    refine u_callV (k := 62) (As := [.int v1, .int v2, .int v3, .int v4, .int v5]) (rest := []) (sn := fun r2 => [.int r2.1]) F B (fun _ => wX9_act (zl z) E hE bk v1 v2 v3 v4 v5 I J) mX9_act q1031 rfl s62 rfl rfl rfl (Nat.le_of_ble_eq_true rfl) dX9_hand_40 (fun _ => rfl) h (fun r2 h => ?_)
    obtain rfl := Option.some.inj h
    exact g_iret F e dX9_hand_43 ⟨rfl, rfl, rfl⟩
  · refine g_aload_n F 1 dX9_hand_19 rfl rfl ?_
    refine g_getr (j := 14) (nn := 71) F s62 rfl rfl uX9 (by decide) q835 dX9_hand_20 ?_
    refine g_iload F 0 dX9_hand_23 rfl ?_
    refine g_dup2 F dX9_hand_25 rfl rfl ?_
    refine u_rI F s71 (by decide) dX9_hand_26 h (fun u3 h => ?_)
    refine g_iconst (v := 1) F dX9_hand_27 (by decide) ?_
    refine g_iadd (v := u3 + 1) F dX9_hand_28 rfl ?_
    refine u_wI F s71 (by decide) dX9_hand_29 h (fun I4 h => ?_)
    refine g_iconst (v := (-1)) F dX9_hand_30 (by decide) ?_
    obtain rfl := Option.some.inj h
    exact g_iret F e dX9_hand_31 ⟨rfl, rfl, rfl⟩
theorem DX9_put_0 : dAre cX9_put [(0, .aload_n 0, 1), (1, .iconst 0, 1), (2, .iload_n 1, 1), (3, .iload_n 2, 1), (4, .iload_n 3, 1), (5, .iload 4, 2), (7, .invokevirtual 317, 3), (10, .ireturn, 1)] := dAre0 (by decide +kernel)
theorem dX9_put_0 : decode cX9_put 0 = .ok (.aload_n 0, 1) := DX9_put_0.1
theorem dX9_put_1 : decode cX9_put 1 = .ok (.iconst 0, 1) := DX9_put_0.2.1
theorem dX9_put_2 : decode cX9_put 2 = .ok (.iload_n 1, 1) := DX9_put_0.2.2.1
theorem dX9_put_3 : decode cX9_put 3 = .ok (.iload_n 2, 1) := DX9_put_0.2.2.2.1
theorem dX9_put_4 : decode cX9_put 4 = .ok (.iload_n 3, 1) := DX9_put_0.2.2.2.2.1
theorem dX9_put_5 : decode cX9_put 5 = .ok (.iload 4, 2) := DX9_put_0.2.2.2.2.2.1
theorem dX9_put_7 : decode cX9_put 7 = .ok (.invokevirtual 317, 3) := DX9_put_0.2.2.2.2.2.2.1
theorem dX9_put_10 : decode cX9_put 10 = .ok (.ireturn, 1) := DX9_put_0.2.2.2.2.2.2.2.1
theorem mX9_put : gMv yX9_put cX9_put 5 (some .int) RX9 4 := ⟨q1007, q1008, q10, q1009, rfl, by decide, by decide, by decide +kernel⟩
noncomputable def fX9_put (v1 : Int32) (v2 : Int32) (v3 : Int32) (v4 : Int32) (I : gM) : Option (Int32 × gM) :=
  (fX9_hand (0 : Int32) v1 v2 v3 v4 I).bind fun r1 =>
  some (r1.1, r1.2)
set_option maxRecDepth 100000 in
set_option maxHeartbeats 4000000 in
theorem wX9_put (l : Launch) (E : gE) (hE : gDist sh E) (bk : Nat) (v1 : Int32) (v2 : Int32) (v3 : Int32) (v4 : Int32) (I : gM) (J : gN) {r : Int32 × gM} (h : fX9_put v1 v2 v3 v4 I = some r) : Cu l sh E bk yX9_put cX9_put 5 (some .int) (gR 17) [.ref (E.2.1 62), .int v1, .int v2, .int v3, .int v4] I J (fun r1 I1 J1 => r1 = some (.int r.1) ∧ I1 = r.2 ∧ J1 = J) := by
  refine Cu.of "LeapJoinModel" rfl hE (by decide) (Nat.le_of_ble_eq_true rfl) (fun z F B e hl => ?_)
  subst hl
  unfold fX9_put at h
  refine g_aload_n F 0 dX9_put_0 rfl rfl ?_
  refine g_iconst (v := 0) F dX9_put_1 (by decide) ?_
  refine g_iload_n F 1 dX9_put_2 rfl rfl ?_
  refine g_iload_n F 2 dX9_put_3 rfl rfl ?_
  refine g_iload_n F 3 dX9_put_4 rfl rfl ?_
  refine g_iload F 4 dX9_put_5 rfl ?_
  refine u_callV (k := 62) (As := [.int 0, .int v1, .int v2, .int v3, .int v4]) (rest := []) (sn := fun r1 => [.int r1.1]) F B (fun _ => wX9_hand (zl z) E hE bk (0 : Int32) v1 v2 v3 v4 I J) mX9_hand q1010 rfl s62 rfl rfl rfl (Nat.le_of_ble_eq_true rfl) dX9_put_7 (fun _ => rfl) h (fun r1 h => ?_)
  obtain rfl := Option.some.inj h
  exact g_iret F e dX9_put_10 ⟨rfl, rfl, rfl⟩
theorem DX9_take_0 : dAre cX9_take [(0, .aload_n 0, 1), (1, .iconst 1, 1), (2, .iload_n 1, 1), (3, .iload_n 2, 1), (4, .iload_n 3, 1), (5, .iload 4, 2), (7, .invokevirtual 317, 3), (10, .ireturn, 1)] := dAre0 (by decide +kernel)
theorem dX9_take_0 : decode cX9_take 0 = .ok (.aload_n 0, 1) := DX9_take_0.1
theorem dX9_take_1 : decode cX9_take 1 = .ok (.iconst 1, 1) := DX9_take_0.2.1
theorem dX9_take_2 : decode cX9_take 2 = .ok (.iload_n 1, 1) := DX9_take_0.2.2.1
theorem dX9_take_3 : decode cX9_take 3 = .ok (.iload_n 2, 1) := DX9_take_0.2.2.2.1
theorem dX9_take_4 : decode cX9_take 4 = .ok (.iload_n 3, 1) := DX9_take_0.2.2.2.2.1
theorem dX9_take_5 : decode cX9_take 5 = .ok (.iload 4, 2) := DX9_take_0.2.2.2.2.2.1
theorem dX9_take_7 : decode cX9_take 7 = .ok (.invokevirtual 317, 3) := DX9_take_0.2.2.2.2.2.2.1
theorem dX9_take_10 : decode cX9_take 10 = .ok (.ireturn, 1) := DX9_take_0.2.2.2.2.2.2.2.1
theorem mX9_take : gMv yX9_take cX9_take 5 (some .int) RX9 4 := ⟨q1105, q1106, q10, q1107, rfl, by decide, by decide, by decide +kernel⟩
noncomputable def fX9_take (v1 : Int32) (v2 : Int32) (v3 : Int32) (v4 : Int32) (I : gM) : Option (Int32 × gM) :=
  (fX9_hand (1 : Int32) v1 v2 v3 v4 I).bind fun r1 =>
  some (r1.1, r1.2)
set_option maxRecDepth 100000 in
set_option maxHeartbeats 4000000 in
theorem wX9_take (l : Launch) (E : gE) (hE : gDist sh E) (bk : Nat) (v1 : Int32) (v2 : Int32) (v3 : Int32) (v4 : Int32) (I : gM) (J : gN) {r : Int32 × gM} (h : fX9_take v1 v2 v3 v4 I = some r) : Cu l sh E bk yX9_take cX9_take 5 (some .int) (gR 17) [.ref (E.2.1 62), .int v1, .int v2, .int v3, .int v4] I J (fun r1 I1 J1 => r1 = some (.int r.1) ∧ I1 = r.2 ∧ J1 = J) := by
  refine Cu.of "LeapJoinModel" rfl hE (by decide) (Nat.le_of_ble_eq_true rfl) (fun z F B e hl => ?_)
  subst hl
  unfold fX9_take at h
  refine g_aload_n F 0 dX9_take_0 rfl rfl ?_
  refine g_iconst (v := 1) F dX9_take_1 (by decide) ?_
  refine g_iload_n F 1 dX9_take_2 rfl rfl ?_
  refine g_iload_n F 2 dX9_take_3 rfl rfl ?_
  refine g_iload_n F 3 dX9_take_4 rfl rfl ?_
  refine g_iload F 4 dX9_take_5 rfl ?_
  refine u_callV (k := 62) (As := [.int 1, .int v1, .int v2, .int v3, .int v4]) (rest := []) (sn := fun r1 => [.int r1.1]) F B (fun _ => wX9_hand (zl z) E hE bk (1 : Int32) v1 v2 v3 v4 I J) mX9_hand q1010 rfl s62 rfl rfl rfl (Nat.le_of_ble_eq_true rfl) dX9_take_7 (fun _ => rfl) h (fun r1 h => ?_)
  obtain rfl := Option.some.inj h
  exact g_iret F e dX9_take_10 ⟨rfl, rfl, rfl⟩
theorem DX9_use_0 : dAre cX9_use [(0, .aload_n 0, 1), (1, .iconst 2, 1), (2, .iload_n 1, 1), (3, .iconst 0, 1), (4, .iconst 0, 1), (5, .iconst 0, 1), (6, .invokevirtual 317, 3), (9, .ireturn, 1)] := dAre0 (by decide +kernel)
theorem dX9_use_0 : decode cX9_use 0 = .ok (.aload_n 0, 1) := DX9_use_0.1
theorem dX9_use_1 : decode cX9_use 1 = .ok (.iconst 2, 1) := DX9_use_0.2.1
theorem dX9_use_2 : decode cX9_use 2 = .ok (.iload_n 1, 1) := DX9_use_0.2.2.1
theorem dX9_use_3 : decode cX9_use 3 = .ok (.iconst 0, 1) := DX9_use_0.2.2.2.1
theorem dX9_use_4 : decode cX9_use 4 = .ok (.iconst 0, 1) := DX9_use_0.2.2.2.2.1
theorem dX9_use_5 : decode cX9_use 5 = .ok (.iconst 0, 1) := DX9_use_0.2.2.2.2.2.1
theorem dX9_use_6 : decode cX9_use 6 = .ok (.invokevirtual 317, 3) := DX9_use_0.2.2.2.2.2.2.1
theorem dX9_use_9 : decode cX9_use 9 = .ok (.ireturn, 1) := DX9_use_0.2.2.2.2.2.2.2.1
theorem mX9_use : gMv yX9_use cX9_use 2 (some .int) RX9 1 := ⟨q1109, q1110, q10, q1111, rfl, by decide, by decide, by decide +kernel⟩
noncomputable def fX9_use (v1 : Int32) (I : gM) : Option (Int32 × gM) :=
  (fX9_hand (2 : Int32) v1 (0 : Int32) (0 : Int32) (0 : Int32) I).bind fun r1 =>
  some (r1.1, r1.2)
set_option maxRecDepth 100000 in
set_option maxHeartbeats 4000000 in
theorem wX9_use (l : Launch) (E : gE) (hE : gDist sh E) (bk : Nat) (v1 : Int32) (I : gM) (J : gN) {r : Int32 × gM} (h : fX9_use v1 I = some r) : Cu l sh E bk yX9_use cX9_use 2 (some .int) (gR 17) [.ref (E.2.1 62), .int v1] I J (fun r1 I1 J1 => r1 = some (.int r.1) ∧ I1 = r.2 ∧ J1 = J) := by
  refine Cu.of "LeapJoinModel" rfl hE (by decide) (Nat.le_of_ble_eq_true rfl) (fun z F B e hl => ?_)
  subst hl
  unfold fX9_use at h
  refine g_aload_n F 0 dX9_use_0 rfl rfl ?_
  refine g_iconst (v := 2) F dX9_use_1 (by decide) ?_
  refine g_iload_n F 1 dX9_use_2 rfl rfl ?_
  refine g_iconst (v := 0) F dX9_use_3 (by decide) ?_
  refine g_iconst (v := 0) F dX9_use_4 (by decide) ?_
  refine g_iconst (v := 0) F dX9_use_5 (by decide) ?_
  refine u_callV (k := 62) (As := [.int 2, .int v1, .int 0, .int 0, .int 0]) (rest := []) (sn := fun r1 => [.int r1.1]) F B (fun _ => wX9_hand (zl z) E hE bk (2 : Int32) v1 (0 : Int32) (0 : Int32) (0 : Int32) I J) mX9_hand q1010 rfl s62 rfl rfl rfl (Nat.le_of_ble_eq_true rfl) dX9_use_6 (fun _ => rfl) h (fun r1 h => ?_)
  obtain rfl := Option.some.inj h
  exact g_iret F e dX9_use_9 ⟨rfl, rfl, rfl⟩
theorem DX9_order_0 : dAre cX9_order [(0, .aload_n 0, 1), (1, .iconst 3, 1), (2, .iload_n 1, 1), (3, .iconst 0, 1), (4, .iconst 0, 1), (5, .iconst 0, 1), (6, .invokevirtual 317, 3), (9, .ireturn, 1)] := dAre0 (by decide +kernel)
theorem dX9_order_0 : decode cX9_order 0 = .ok (.aload_n 0, 1) := DX9_order_0.1
theorem dX9_order_1 : decode cX9_order 1 = .ok (.iconst 3, 1) := DX9_order_0.2.1
theorem dX9_order_2 : decode cX9_order 2 = .ok (.iload_n 1, 1) := DX9_order_0.2.2.1
theorem dX9_order_3 : decode cX9_order 3 = .ok (.iconst 0, 1) := DX9_order_0.2.2.2.1
theorem dX9_order_4 : decode cX9_order 4 = .ok (.iconst 0, 1) := DX9_order_0.2.2.2.2.1
theorem dX9_order_5 : decode cX9_order 5 = .ok (.iconst 0, 1) := DX9_order_0.2.2.2.2.2.1
theorem dX9_order_6 : decode cX9_order 6 = .ok (.invokevirtual 317, 3) := DX9_order_0.2.2.2.2.2.2.1
theorem dX9_order_9 : decode cX9_order 9 = .ok (.ireturn, 1) := DX9_order_0.2.2.2.2.2.2.2.1
theorem mX9_order : gMv yX9_order cX9_order 2 (some .int) RX9 1 := ⟨q1113, q1114, q10, q1115, rfl, by decide, by decide, by decide +kernel⟩
noncomputable def fX9_order (v1 : Int32) (I : gM) : Option (Int32 × gM) :=
  (fX9_hand (3 : Int32) v1 (0 : Int32) (0 : Int32) (0 : Int32) I).bind fun r1 =>
  some (r1.1, r1.2)
set_option maxRecDepth 100000 in
set_option maxHeartbeats 4000000 in
theorem wX9_order (l : Launch) (E : gE) (hE : gDist sh E) (bk : Nat) (v1 : Int32) (I : gM) (J : gN) {r : Int32 × gM} (h : fX9_order v1 I = some r) : Cu l sh E bk yX9_order cX9_order 2 (some .int) (gR 17) [.ref (E.2.1 62), .int v1] I J (fun r1 I1 J1 => r1 = some (.int r.1) ∧ I1 = r.2 ∧ J1 = J) := by
  refine Cu.of "LeapJoinModel" rfl hE (by decide) (Nat.le_of_ble_eq_true rfl) (fun z F B e hl => ?_)
  subst hl
  unfold fX9_order at h
  refine g_aload_n F 0 dX9_order_0 rfl rfl ?_
  refine g_iconst (v := 3) F dX9_order_1 (by decide) ?_
  refine g_iload_n F 1 dX9_order_2 rfl rfl ?_
  refine g_iconst (v := 0) F dX9_order_3 (by decide) ?_
  refine g_iconst (v := 0) F dX9_order_4 (by decide) ?_
  refine g_iconst (v := 0) F dX9_order_5 (by decide) ?_
  refine u_callV (k := 62) (As := [.int 3, .int v1, .int 0, .int 0, .int 0]) (rest := []) (sn := fun r1 => [.int r1.1]) F B (fun _ => wX9_hand (zl z) E hE bk (3 : Int32) v1 (0 : Int32) (0 : Int32) (0 : Int32) I J) mX9_hand q1010 rfl s62 rfl rfl rfl (Nat.le_of_ble_eq_true rfl) dX9_order_6 (fun _ => rfl) h (fun r1 h => ?_)
  obtain rfl := Option.some.inj h
  exact g_iret F e dX9_order_9 ⟨rfl, rfl, rfl⟩
theorem DX9_draw_0 : dAre cX9_draw [(0, .aload_n 0, 1), (1, .aload_n 0, 1), (2, .getfield 320, 3), (5, .ldc2_w 324, 3), (8, .lmul, 1), (9, .ldc2_w 326, 3), (12, .ladd, 1), (13, .putfield 320, 3), (16, .aload_n 0, 1), (17, .getfield 320, 3), (20, .bipush 33, 2), (22, .lushr, 1), (23, .iload_n 1, 1), (24, .i2l, 1), (25, .lrem, 1), (26, .l2i, 1)] := dAre0 (by decide +kernel)
theorem dX9_draw_0 : decode cX9_draw 0 = .ok (.aload_n 0, 1) := DX9_draw_0.1
theorem dX9_draw_1 : decode cX9_draw 1 = .ok (.aload_n 0, 1) := DX9_draw_0.2.1
theorem dX9_draw_2 : decode cX9_draw 2 = .ok (.getfield 320, 3) := DX9_draw_0.2.2.1
theorem dX9_draw_5 : decode cX9_draw 5 = .ok (.ldc2_w 324, 3) := DX9_draw_0.2.2.2.1
theorem dX9_draw_8 : decode cX9_draw 8 = .ok (.lmul, 1) := DX9_draw_0.2.2.2.2.1
theorem dX9_draw_9 : decode cX9_draw 9 = .ok (.ldc2_w 326, 3) := DX9_draw_0.2.2.2.2.2.1
theorem dX9_draw_12 : decode cX9_draw 12 = .ok (.ladd, 1) := DX9_draw_0.2.2.2.2.2.2.1
theorem dX9_draw_13 : decode cX9_draw 13 = .ok (.putfield 320, 3) := DX9_draw_0.2.2.2.2.2.2.2.1
theorem dX9_draw_16 : decode cX9_draw 16 = .ok (.aload_n 0, 1) := DX9_draw_0.2.2.2.2.2.2.2.2.1
theorem dX9_draw_17 : decode cX9_draw 17 = .ok (.getfield 320, 3) := DX9_draw_0.2.2.2.2.2.2.2.2.2.1
theorem dX9_draw_20 : decode cX9_draw 20 = .ok (.bipush 33, 2) := DX9_draw_0.2.2.2.2.2.2.2.2.2.2.1
theorem dX9_draw_22 : decode cX9_draw 22 = .ok (.lushr, 1) := DX9_draw_0.2.2.2.2.2.2.2.2.2.2.2.1
theorem dX9_draw_23 : decode cX9_draw 23 = .ok (.iload_n 1, 1) := DX9_draw_0.2.2.2.2.2.2.2.2.2.2.2.2.1
theorem dX9_draw_24 : decode cX9_draw 24 = .ok (.i2l, 1) := DX9_draw_0.2.2.2.2.2.2.2.2.2.2.2.2.2.1
theorem dX9_draw_25 : decode cX9_draw 25 = .ok (.lrem, 1) := DX9_draw_0.2.2.2.2.2.2.2.2.2.2.2.2.2.2.1
theorem dX9_draw_26 : decode cX9_draw 26 = .ok (.l2i, 1) := DX9_draw_0.2.2.2.2.2.2.2.2.2.2.2.2.2.2.2.1
theorem dX9_draw_27 : decode cX9_draw 27 = .ok (.ireturn, 1) := by decide +kernel
theorem mX9_draw : gMv yX9_draw cX9_draw 2 (some .int) RX9 1 := ⟨q1124, q1434, q10, q1125, rfl, by decide, by decide, by decide +kernel⟩
noncomputable def fX9_draw (v1 : Int32) (J : gN) : Option (Int32 × gN) :=
  (pU J 62 30 (((J 62 30) * 6364136223846793005) + 1442695040888963407)).bind fun J1 =>
  (lM (lU (J1 62 30) 33) v1.toInt64).bind fun u2 =>
  some (u2.toInt32, J1)
set_option maxRecDepth 100000 in
set_option maxHeartbeats 4000000 in
theorem wX9_draw (l : Launch) (E : gE) (hE : gDist sh E) (bk : Nat) (v1 : Int32) (I : gM) (J : gN) {r : Int32 × gN} (h : fX9_draw v1 J = some r) : Cu l sh E bk yX9_draw cX9_draw 2 (some .int) (gR 0) [.ref (E.2.1 62), .int v1] I J (fun r1 I1 J1 => r1 = some (.int r.1) ∧ I1 = I ∧ J1 = r.2) := by
  refine Cu.of "LeapJoinModel" rfl hE (by decide) (Nat.le_of_ble_eq_true rfl) (fun z F B e hl => ?_)
  subst hl
  unfold fX9_draw at h
  refine g_aload_n F 0 dX9_draw_0 rfl rfl ?_
  refine g_aload_n F 0 dX9_draw_1 rfl rfl ?_
  refine g_getl (j := 30) (v := J 62 30) F s62 rfl rfl uX9 (by decide) q851 rfl dX9_draw_2 ?_
  refine g_ldc2_w F dX9_draw_5 q1126 ?_
  refine g_lmul (v := (J 62 30) * 6364136223846793005) F dX9_draw_8 rfl ?_
  refine g_ldc2_w F dX9_draw_9 q1127 ?_
  refine g_ladd (v := ((J 62 30) * 6364136223846793005) + 1442695040888963407) F dX9_draw_12 rfl ?_
  refine u_putl (j := 30) F s62 rfl rfl uX9 (by decide) q851 tyX9_ok nmX9 rfl rfl rfl dX9_draw_13 h (fun J1 h => ?_)
  refine g_aload_n F 0 dX9_draw_16 rfl rfl ?_
  refine g_getl (j := 30) (v := J1 62 30) F s62 rfl rfl uX9 (by decide) q851 rfl dX9_draw_17 ?_
  refine g_bipush (v := 33) F dX9_draw_20 (by decide) ?_
  refine g_lushr (v := lU (J1 62 30) 33) F dX9_draw_22 rfl ?_
  refine g_iload_n F 1 dX9_draw_23 rfl rfl ?_
  refine g_i2l (v := v1.toInt64) F dX9_draw_24 rfl ?_
  refine u_lrem F dX9_draw_25 h (fun u2 h => ?_)
  refine g_l2i (v := u2.toInt32) F dX9_draw_26 rfl ?_
  obtain rfl := Option.some.inj h
  exact g_iret F e dX9_draw_27 ⟨rfl, rfl, rfl⟩
theorem DX9_tryOne_0 : dAre cX9_tryOne [(0, .aload_n 0, 1), (1, .iload_n 1, 1), (2, .iload_n 2, 1), (3, .iload_n 3, 1), (4, .iload 4, 2), (6, .iload 5, 2), (8, .invokevirtual 311, 3), (11, .iconst (-1), 1), (12, .if_icmp .ne 15, 3), (15, .aload_n 0, 1), (16, .iload_n 1, 1), (17, .iload_n 2, 1), (18, .iload_n 3, 1), (19, .iload 4, 2), (21, .iload 5, 2), (23, .invokevirtual 314, 3)] := dAre0 (by decide +kernel)
theorem dX9_tryOne_0 : decode cX9_tryOne 0 = .ok (.aload_n 0, 1) := DX9_tryOne_0.1
theorem dX9_tryOne_1 : decode cX9_tryOne 1 = .ok (.iload_n 1, 1) := DX9_tryOne_0.2.1
theorem dX9_tryOne_2 : decode cX9_tryOne 2 = .ok (.iload_n 2, 1) := DX9_tryOne_0.2.2.1
theorem dX9_tryOne_3 : decode cX9_tryOne 3 = .ok (.iload_n 3, 1) := DX9_tryOne_0.2.2.2.1
theorem dX9_tryOne_4 : decode cX9_tryOne 4 = .ok (.iload 4, 2) := DX9_tryOne_0.2.2.2.2.1
theorem dX9_tryOne_6 : decode cX9_tryOne 6 = .ok (.iload 5, 2) := DX9_tryOne_0.2.2.2.2.2.1
theorem dX9_tryOne_8 : decode cX9_tryOne 8 = .ok (.invokevirtual 311, 3) := DX9_tryOne_0.2.2.2.2.2.2.1
theorem dX9_tryOne_11 : decode cX9_tryOne 11 = .ok (.iconst (-1), 1) := DX9_tryOne_0.2.2.2.2.2.2.2.1
theorem dX9_tryOne_12 : decode cX9_tryOne 12 = .ok (.if_icmp .ne 15, 3) := DX9_tryOne_0.2.2.2.2.2.2.2.2.1
theorem dX9_tryOne_15 : decode cX9_tryOne 15 = .ok (.aload_n 0, 1) := DX9_tryOne_0.2.2.2.2.2.2.2.2.2.1
theorem dX9_tryOne_16 : decode cX9_tryOne 16 = .ok (.iload_n 1, 1) := DX9_tryOne_0.2.2.2.2.2.2.2.2.2.2.1
theorem dX9_tryOne_17 : decode cX9_tryOne 17 = .ok (.iload_n 2, 1) := DX9_tryOne_0.2.2.2.2.2.2.2.2.2.2.2.1
theorem dX9_tryOne_18 : decode cX9_tryOne 18 = .ok (.iload_n 3, 1) := DX9_tryOne_0.2.2.2.2.2.2.2.2.2.2.2.2.1
theorem dX9_tryOne_19 : decode cX9_tryOne 19 = .ok (.iload 4, 2) := DX9_tryOne_0.2.2.2.2.2.2.2.2.2.2.2.2.2.1
theorem dX9_tryOne_21 : decode cX9_tryOne 21 = .ok (.iload 5, 2) := DX9_tryOne_0.2.2.2.2.2.2.2.2.2.2.2.2.2.2.1
theorem dX9_tryOne_23 : decode cX9_tryOne 23 = .ok (.invokevirtual 314, 3) := DX9_tryOne_0.2.2.2.2.2.2.2.2.2.2.2.2.2.2.2.1
theorem dX9_tryOne_26 : decode cX9_tryOne 26 = .ok (.pop, 1) := by decide +kernel
theorem dX9_tryOne_27 : decode cX9_tryOne 27 = .ok (.return_, 1) := by decide +kernel
theorem mX9_tryOne : gMv yX9_tryOne cX9_tryOne 6 none RX9 5 := ⟨q1129, q1435, q10, q1130, rfl, by decide, by decide, by decide +kernel⟩
noncomputable def fX9_tryOne (v1 : Int32) (v2 : Int32) (v3 : Int32) (v4 : Int32) (v5 : Int32) (I : gM) : Option (gM) :=
  (fX9_whyNot v1 v2 v3 v4 v5 I).bind fun r1 =>
  if r1 = (-1) then
    (fX9_act v1 v2 v3 v4 v5 I).bind fun r2 =>
    some r2.2
  else
    some I
set_option maxRecDepth 100000 in
set_option maxHeartbeats 4000000 in
theorem wX9_tryOne (l : Launch) (E : gE) (hE : gDist sh E) (bk : Nat) (v1 : Int32) (v2 : Int32) (v3 : Int32) (v4 : Int32) (v5 : Int32) (I : gM) (J : gN) {r : gM} (h : fX9_tryOne v1 v2 v3 v4 v5 I = some r) : Cu l sh E bk yX9_tryOne cX9_tryOne 6 none (gR 16) [.ref (E.2.1 62), .int v1, .int v2, .int v3, .int v4, .int v5] I J (fun r1 I1 J1 => r1 = none ∧ I1 = r ∧ J1 = J) := by
  refine Cu.of "LeapJoinModel" rfl hE (by decide) (Nat.le_of_ble_eq_true rfl) (fun z F B e hl => ?_)
  subst hl
  unfold fX9_tryOne at h
  refine g_aload_n F 0 dX9_tryOne_0 rfl rfl ?_
  refine g_iload_n F 1 dX9_tryOne_1 rfl rfl ?_
  refine g_iload_n F 2 dX9_tryOne_2 rfl rfl ?_
  refine g_iload_n F 3 dX9_tryOne_3 rfl rfl ?_
  refine g_iload F 4 dX9_tryOne_4 rfl ?_
  refine g_iload F 5 dX9_tryOne_6 rfl ?_
  refine u_callV (k := 62) (As := [.int v1, .int v2, .int v3, .int v4, .int v5]) (rest := []) (sn := fun r1 => [.int r1]) F B (fun _ => wX9_whyNot (zl z) E hE bk v1 v2 v3 v4 v5 I J) mX9_whyNot q1013 rfl s62 rfl rfl rfl (Nat.le_of_ble_eq_true rfl) dX9_tryOne_8 (fun _ => rfl) h (fun r1 h => ?_)
  refine g_iconst (v := (-1)) F dX9_tryOne_11 (by decide) ?_
  refine u_icmp_ne (tgt := 27) F dX9_tryOne_12 (by decide) h (fun h => ?_) (fun h => ?_)
  · refine g_aload_n F 0 dX9_tryOne_15 rfl rfl ?_
    refine g_iload_n F 1 dX9_tryOne_16 rfl rfl ?_
    refine g_iload_n F 2 dX9_tryOne_17 rfl rfl ?_
    refine g_iload_n F 3 dX9_tryOne_18 rfl rfl ?_
    refine g_iload F 4 dX9_tryOne_19 rfl ?_
    refine g_iload F 5 dX9_tryOne_21 rfl ?_
    refine u_callV (k := 62) (As := [.int v1, .int v2, .int v3, .int v4, .int v5]) (rest := []) (sn := fun r2 => [.int r2.1]) F B (fun _ => wX9_act (zl z) E hE bk v1 v2 v3 v4 v5 I J) mX9_act q1031 rfl s62 rfl rfl rfl (Nat.le_of_ble_eq_true rfl) dX9_tryOne_23 (fun _ => rfl) h (fun r2 h => ?_)
    refine g_pop F dX9_tryOne_26 rfl ?_
    obtain rfl := Option.some.inj h
    exact g_vret F e dX9_tryOne_27 ⟨rfl, rfl, rfl⟩
  · obtain rfl := Option.some.inj h
    exact g_vret F e dX9_tryOne_27 ⟨rfl, rfl, rfl⟩
