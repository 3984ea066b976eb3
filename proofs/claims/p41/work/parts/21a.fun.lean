theorem DJ7_fill_53178_0 : dAre cJ7_fill_53178 [(0, .iconst 0, 1), (1, .istore_n 2, 1), (2, .aload_n 0, 1), (3, .arraylength, 1), (4, .istore_n 3, 1), (5, .iload_n 2, 1), (6, .iload_n 3, 1), (7, .if_icmp .ge 13, 3), (10, .aload_n 0, 1), (11, .iload_n 2, 1), (12, .iload_n 1, 1), (13, .iastore, 1), (14, .iinc 2 1, 3), (17, .goto (-12), 3), (20, .return_, 1)] := dAre0 (by decide +kernel)
theorem dJ7_fill_53178_0 : decode cJ7_fill_53178 0 = .ok (.iconst 0, 1) := DJ7_fill_53178_0.1
theorem dJ7_fill_53178_1 : decode cJ7_fill_53178 1 = .ok (.istore_n 2, 1) := DJ7_fill_53178_0.2.1
theorem dJ7_fill_53178_2 : decode cJ7_fill_53178 2 = .ok (.aload_n 0, 1) := DJ7_fill_53178_0.2.2.1
theorem dJ7_fill_53178_3 : decode cJ7_fill_53178 3 = .ok (.arraylength, 1) := DJ7_fill_53178_0.2.2.2.1
theorem dJ7_fill_53178_4 : decode cJ7_fill_53178 4 = .ok (.istore_n 3, 1) := DJ7_fill_53178_0.2.2.2.2.1
theorem dJ7_fill_53178_5 : decode cJ7_fill_53178 5 = .ok (.iload_n 2, 1) := DJ7_fill_53178_0.2.2.2.2.2.1
theorem dJ7_fill_53178_6 : decode cJ7_fill_53178 6 = .ok (.iload_n 3, 1) := DJ7_fill_53178_0.2.2.2.2.2.2.1
theorem dJ7_fill_53178_7 : decode cJ7_fill_53178 7 = .ok (.if_icmp .ge 13, 3) := DJ7_fill_53178_0.2.2.2.2.2.2.2.1
theorem dJ7_fill_53178_10 : decode cJ7_fill_53178 10 = .ok (.aload_n 0, 1) := DJ7_fill_53178_0.2.2.2.2.2.2.2.2.1
theorem dJ7_fill_53178_11 : decode cJ7_fill_53178 11 = .ok (.iload_n 2, 1) := DJ7_fill_53178_0.2.2.2.2.2.2.2.2.2.1
theorem dJ7_fill_53178_12 : decode cJ7_fill_53178 12 = .ok (.iload_n 1, 1) := DJ7_fill_53178_0.2.2.2.2.2.2.2.2.2.2.1
theorem dJ7_fill_53178_13 : decode cJ7_fill_53178 13 = .ok (.iastore, 1) := DJ7_fill_53178_0.2.2.2.2.2.2.2.2.2.2.2.1
theorem dJ7_fill_53178_14 : decode cJ7_fill_53178 14 = .ok (.iinc 2 1, 3) := DJ7_fill_53178_0.2.2.2.2.2.2.2.2.2.2.2.2.1
theorem dJ7_fill_53178_17 : decode cJ7_fill_53178 17 = .ok (.goto (-12), 3) := DJ7_fill_53178_0.2.2.2.2.2.2.2.2.2.2.2.2.2.1
theorem dJ7_fill_53178_20 : decode cJ7_fill_53178 20 = .ok (.return_, 1) := DJ7_fill_53178_0.2.2.2.2.2.2.2.2.2.2.2.2.2.2.1
theorem mJ7_fill_53178 : gMs yJ7_fill_53178 cJ7_fill_53178 4 none 2 := ⟨q231, q11, q232, by decide, by decide, by decide +kernel⟩
noncomputable def lJ7_fill_53178_5 (k0 : Nat) (n0 : Nat) (v1 : Int32) (v3 : Int32) : (Int32 × gM) → Option (gM) :=
  itO fun s =>
    if v3 ≤ s.1 then
      some (.inr s.2)
    else
      (wI s.2 k0 n0 s.1 v1).bind fun I1 =>
      some (.inl (s.1 + 1, I1))
set_option maxRecDepth 100000 in
set_option maxHeartbeats 4000000 in
theorem wlJ7_fill_53178_5 {z : gZ} {E : gE} {bk : Nat} (F : Fx z sh E "java/util/Arrays" cJ7_fill_53178 (gR 0) 4) (B : bZ z bk) (hE : gDist sh E) (k0 : Nat) (n0 : Nat) (v1 : Int32) (v3 : Int32) (hk0 : shA k0 n0) (J : gN) {r : gM} : ∀ s : Int32 × gM, lJ7_fill_53178_5 k0 n0 v1 v3 s = some r → (G z 20 [] [] r J) → G z 5 [(0, .ref (E.2.1 k0)), (1, .int v1), (2, .int s.1), (3, .int v3)] [] s.2 J := by
  intro s h X0
  unfold lJ7_fill_53178_5 at h
  revert s
  refine itO_ind (P := fun s : Int32 × gM => G z 5 [(0, .ref (E.2.1 k0)), (1, .int v1), (2, .int s.1), (3, .int v3)] [] s.2 J) (fun s y h hl hr => ?_)
  have K5_0 : ∀ x : gM, y = .inr x → (G z 20 [] [] x J) := fun x q => by have q2 := hr _ q; subst q2; exact X0
  refine g_iload_n F 2 dJ7_fill_53178_5 rfl rfl ?_
  refine g_iload_n F 3 dJ7_fill_53178_6 rfl rfl ?_
  refine u_icmp_ge (tgt := 20) F dJ7_fill_53178_7 (by decide) h (fun h => ?_) (fun h => ?_)
  · obtain rfl := Option.some.inj h
    refine g_sub (Ln := []) [] rfl ?_
    exact K5_0 s.2 rfl
  · refine g_aload_n F 0 dJ7_fill_53178_10 rfl rfl ?_
    refine g_iload_n F 2 dJ7_fill_53178_11 rfl rfl ?_
    refine g_iload_n F 1 dJ7_fill_53178_12 rfl rfl ?_
    refine u_wI F hk0.1 hk0.2 dJ7_fill_53178_13 h (fun I1 h => ?_)
    refine g_iinc (v := s.1 + 1) (Ln := [(2, .int (s.1 + 1)), (0, .ref (E.2.1 k0)), (1, .int v1), (3, .int v3)]) F 2 dJ7_fill_53178_14 rfl (add_c (by decide)) (by decide) rfl ?_
    refine g_goto (tgt := 5) F dJ7_fill_53178_17 (by decide) ?_
    obtain rfl := Option.some.inj h
    refine g_sub (Ln := [(0, .ref (E.2.1 k0)), (1, .int v1), (2, .int (s.1 + 1)), (3, .int v3)]) [1, 2, 0, 3] rfl ?_
    exact hl (s.1 + 1, I1) rfl
noncomputable def fJ7_fill_53178 (k0 : Nat) (n0 : Nat) (v1 : Int32) (I : gM) : Option (gM) :=
  (lJ7_fill_53178_5 k0 n0 v1 (nI n0) ((0 : Int32), I)).bind fun w2 =>
  some w2
set_option maxRecDepth 100000 in
set_option maxHeartbeats 4000000 in
theorem wJ7_fill_53178 (l : Launch) (E : gE) (hE : gDist sh E) (bk : Nat) (k0 : Nat) (n0 : Nat) (v1 : Int32) (hk0 : shA k0 n0) (I : gM) (J : gN) {r : gM} (h : fJ7_fill_53178 k0 n0 v1 I = some r) : Cu l sh E bk yJ7_fill_53178 cJ7_fill_53178 4 none (gR 0) [.ref (E.2.1 k0), .int v1] I J (fun r1 I1 J1 => r1 = none ∧ I1 = r ∧ J1 = J) := by
  refine Cu.of "java/util/Arrays" rfl hE (by decide) (Nat.le_of_ble_eq_true rfl) (fun z F B e hl => ?_)
  subst hl
  unfold fJ7_fill_53178 at h
  refine g_iconst (v := 0) F dJ7_fill_53178_0 (by decide) ?_
  refine g_istore_n (Ln := [(2, .int 0), (0, .ref (E.2.1 k0)), (1, .int v1)]) F dJ7_fill_53178_1 rfl (by decide) rfl ?_
  refine g_aload_n F 1 dJ7_fill_53178_2 rfl rfl ?_
  refine g_alen (v := nI n0) F hk0.1 rfl rfl dJ7_fill_53178_3 ?_
  refine g_istore_n (Ln := [(3, .int (nI n0)), (2, .int 0), (0, .ref (E.2.1 k0)), (1, .int v1)]) F dJ7_fill_53178_4 rfl (by decide) rfl ?_
  obtain ⟨w2, ew2, h⟩ := ob h
  refine g_sub (Ln := [(0, .ref (E.2.1 k0)), (1, .int v1), (2, .int 0), (3, .int (nI n0))]) [2, 3, 1, 0] rfl ?_
  refine wlJ7_fill_53178_5 F B hE k0 n0 v1 (nI n0) hk0 J _ ew2 ?_
  obtain rfl := Option.some.inj h
  exact g_vret F e dJ7_fill_53178_20 ⟨rfl, rfl, rfl⟩
theorem DX1_rowAt_0 : dAre cX1_rowAt [(0, .iload_n 1, 1), (1, .ifCond .lt 20, 3), (4, .iload_n 1, 1), (5, .aload_n 0, 1), (6, .getfield 9, 3), (9, .if_icmp .ge 12, 3), (12, .aload_n 0, 1), (13, .getfield 28, 3), (16, .iload_n 1, 1), (17, .iaload, 1), (18, .goto 4, 3), (21, .iconst 0, 1), (22, .ireturn, 1)] := dAre0 (by decide +kernel)
theorem dX1_rowAt_0 : decode cX1_rowAt 0 = .ok (.iload_n 1, 1) := DX1_rowAt_0.1
theorem dX1_rowAt_1 : decode cX1_rowAt 1 = .ok (.ifCond .lt 20, 3) := DX1_rowAt_0.2.1
theorem dX1_rowAt_4 : decode cX1_rowAt 4 = .ok (.iload_n 1, 1) := DX1_rowAt_0.2.2.1
theorem dX1_rowAt_5 : decode cX1_rowAt 5 = .ok (.aload_n 0, 1) := DX1_rowAt_0.2.2.2.1
theorem dX1_rowAt_6 : decode cX1_rowAt 6 = .ok (.getfield 9, 3) := DX1_rowAt_0.2.2.2.2.1
theorem dX1_rowAt_9 : decode cX1_rowAt 9 = .ok (.if_icmp .ge 12, 3) := DX1_rowAt_0.2.2.2.2.2.1
theorem dX1_rowAt_12 : decode cX1_rowAt 12 = .ok (.aload_n 0, 1) := DX1_rowAt_0.2.2.2.2.2.2.1
theorem dX1_rowAt_13 : decode cX1_rowAt 13 = .ok (.getfield 28, 3) := DX1_rowAt_0.2.2.2.2.2.2.2.1
theorem dX1_rowAt_16 : decode cX1_rowAt 16 = .ok (.iload_n 1, 1) := DX1_rowAt_0.2.2.2.2.2.2.2.2.1
theorem dX1_rowAt_17 : decode cX1_rowAt 17 = .ok (.iaload, 1) := DX1_rowAt_0.2.2.2.2.2.2.2.2.2.1
theorem dX1_rowAt_18 : decode cX1_rowAt 18 = .ok (.goto 4, 3) := DX1_rowAt_0.2.2.2.2.2.2.2.2.2.2.1
theorem dX1_rowAt_21 : decode cX1_rowAt 21 = .ok (.iconst 0, 1) := DX1_rowAt_0.2.2.2.2.2.2.2.2.2.2.2.1
theorem dX1_rowAt_22 : decode cX1_rowAt 22 = .ok (.ireturn, 1) := DX1_rowAt_0.2.2.2.2.2.2.2.2.2.2.2.2.1
theorem mX1_rowAt : gMv yX1_rowAt cX1_rowAt 2 (some .int) RX1 1 := ⟨q430, q431, q4, q432, rfl, by decide, by decide, by decide +kernel⟩
noncomputable def fX1_rowAt (k : Nat) (v1 : Int32) (I : gM) : Option (Int32) :=
  if v1 < 0 then
    some (0 : Int32)
  else
    if (I k 0) ≤ v1 then
      some (0 : Int32)
    else
      (rI 20736 (I (k + 3)) v1).bind fun u1 =>
      some u1
set_option maxRecDepth 100000 in
set_option maxHeartbeats 4000000 in
theorem wX1_rowAt (l : Launch) (E : gE) (hE : gDist sh E) (bk : Nat) (k : Nat) (v1 : Int32) (hk : shX1 k) (I : gM) (J : gN) {r : Int32} (h : fX1_rowAt k v1 I = some r) : Cu l sh E bk yX1_rowAt cX1_rowAt 2 (some .int) (gR 0) [.ref (E.2.1 k), .int v1] I J (fun r1 I1 J1 => r1 = some (.int r) ∧ I1 = I ∧ J1 = J) := by
  refine Cu.of "LeapJoin$Join" rfl hE (by decide) (Nat.le_of_ble_eq_true rfl) (fun z F B e hl => ?_)
  subst hl
  unfold fX1_rowAt at h
  refine g_iload_n F 1 dX1_rowAt_0 rfl rfl ?_
  refine u_if_lt (tgt := 21) F dX1_rowAt_1 (by decide) h (fun h => ?_) (fun h => ?_)
  · refine g_iconst (v := 0) F dX1_rowAt_21 (by decide) ?_
    obtain rfl := Option.some.inj h
    exact g_iret F e dX1_rowAt_22 ⟨rfl, rfl, rfl⟩
  · refine g_iload_n F 1 dX1_rowAt_4 rfl rfl ?_
    refine g_aload_n F 0 dX1_rowAt_5 rfl rfl ?_
    refine g_geti (j := 0) (v := I k 0) F hk.1 rfl rfl uX1 (by decide) q77 rfl dX1_rowAt_6 ?_
    refine u_icmp_ge (tgt := 21) F dX1_rowAt_9 (by decide) h (fun h => ?_) (fun h => ?_)
    · refine g_iconst (v := 0) F dX1_rowAt_21 (by decide) ?_
      obtain rfl := Option.some.inj h
      exact g_iret F e dX1_rowAt_22 ⟨rfl, rfl, rfl⟩
    · refine g_aload_n F 0 dX1_rowAt_12 rfl rfl ?_
      refine g_getr (j := 5) (nn := (k + 3)) F hk.1 rfl rfl uX1 (by decide) q88 dX1_rowAt_13 ?_
      refine g_iload_n F 1 dX1_rowAt_16 rfl rfl ?_
      refine u_rI F hk.2.2.2.1 (by decide) dX1_rowAt_17 h (fun u1 h => ?_)
      refine g_goto (tgt := 22) F dX1_rowAt_18 (by decide) ?_
      obtain rfl := Option.some.inj h
      exact g_iret F e dX1_rowAt_22 ⟨rfl, rfl, rfl⟩
theorem DX1_numberAt_0 : dAre cX1_numberAt [(0, .aload_n 0, 1), (1, .iload_n 1, 1), (2, .invokevirtual 128, 3), (5, .bipush 21, 2), (7, .bipush 7, 2), (9, .iload_n 2, 1), (10, .imul, 1), (11, .isub, 1), (12, .ishr, 1), (13, .bipush 127, 2), (15, .iand, 1), (16, .ireturn, 1)] := dAre0 (by decide +kernel)
theorem dX1_numberAt_0 : decode cX1_numberAt 0 = .ok (.aload_n 0, 1) := DX1_numberAt_0.1
theorem dX1_numberAt_1 : decode cX1_numberAt 1 = .ok (.iload_n 1, 1) := DX1_numberAt_0.2.1
theorem dX1_numberAt_2 : decode cX1_numberAt 2 = .ok (.invokevirtual 128, 3) := DX1_numberAt_0.2.2.1
theorem dX1_numberAt_5 : decode cX1_numberAt 5 = .ok (.bipush 21, 2) := DX1_numberAt_0.2.2.2.1
theorem dX1_numberAt_7 : decode cX1_numberAt 7 = .ok (.bipush 7, 2) := DX1_numberAt_0.2.2.2.2.1
theorem dX1_numberAt_9 : decode cX1_numberAt 9 = .ok (.iload_n 2, 1) := DX1_numberAt_0.2.2.2.2.2.1
theorem dX1_numberAt_10 : decode cX1_numberAt 10 = .ok (.imul, 1) := DX1_numberAt_0.2.2.2.2.2.2.1
theorem dX1_numberAt_11 : decode cX1_numberAt 11 = .ok (.isub, 1) := DX1_numberAt_0.2.2.2.2.2.2.2.1
theorem dX1_numberAt_12 : decode cX1_numberAt 12 = .ok (.ishr, 1) := DX1_numberAt_0.2.2.2.2.2.2.2.2.1
theorem dX1_numberAt_13 : decode cX1_numberAt 13 = .ok (.bipush 127, 2) := DX1_numberAt_0.2.2.2.2.2.2.2.2.2.1
theorem dX1_numberAt_15 : decode cX1_numberAt 15 = .ok (.iand, 1) := DX1_numberAt_0.2.2.2.2.2.2.2.2.2.2.1
theorem dX1_numberAt_16 : decode cX1_numberAt 16 = .ok (.ireturn, 1) := DX1_numberAt_0.2.2.2.2.2.2.2.2.2.2.2.1
theorem mX1_numberAt : gMv yX1_numberAt cX1_numberAt 3 (some .int) RX1 2 := ⟨q426, q427, q4, q428, rfl, by decide, by decide, by decide +kernel⟩
noncomputable def fX1_numberAt (k : Nat) (v1 : Int32) (v2 : Int32) (I : gM) : Option (Int32) :=
  (fX1_rowAt k v1 I).bind fun r1 =>
  some ((r1 >>> (((21 : Int32) - ((7 : Int32) * v2)) &&& 31)) &&& 127)
set_option maxRecDepth 100000 in
set_option maxHeartbeats 4000000 in
theorem wX1_numberAt (l : Launch) (E : gE) (hE : gDist sh E) (bk : Nat) (k : Nat) (v1 : Int32) (v2 : Int32) (hk : shX1 k) (I : gM) (J : gN) {r : Int32} (h : fX1_numberAt k v1 v2 I = some r) : Cu l sh E bk yX1_numberAt cX1_numberAt 3 (some .int) (gR 1) [.ref (E.2.1 k), .int v1, .int v2] I J (fun r1 I1 J1 => r1 = some (.int r) ∧ I1 = I ∧ J1 = J) := by
  refine Cu.of "LeapJoin$Join" rfl hE (by decide) (Nat.le_of_ble_eq_true rfl) (fun z F B e hl => ?_)
  subst hl
  unfold fX1_numberAt at h
  refine g_aload_n F 0 dX1_numberAt_0 rfl rfl ?_
  refine g_iload_n F 1 dX1_numberAt_1 rfl rfl ?_
  refine u_callV (k := k) (As := [.int v1]) (rest := []) (sn := fun r1 => [.int r1]) F B (fun _ => wX1_rowAt (zl z) E hE bk k v1 hk I J) mX1_rowAt q429 rfl hk.1 rfl rfl rfl (Nat.le_of_ble_eq_true rfl) dX1_numberAt_2 (fun _ => rfl) h (fun r1 h => ?_)
  refine g_bipush (v := 21) F dX1_numberAt_5 (by decide) ?_
  refine g_bipush (v := 7) F dX1_numberAt_7 (by decide) ?_
  refine g_iload_n F 2 dX1_numberAt_9 rfl rfl ?_
  refine g_imul (v := (7 : Int32) * v2) F dX1_numberAt_10 rfl ?_
  refine g_isub (v := (21 : Int32) - ((7 : Int32) * v2)) F dX1_numberAt_11 rfl ?_
  refine g_ishr (v := r1 >>> (((21 : Int32) - ((7 : Int32) * v2)) &&& 31)) F dX1_numberAt_12 rfl ?_
  refine g_bipush (v := 127) F dX1_numberAt_13 (by decide) ?_
  refine g_iand (v := (r1 >>> (((21 : Int32) - ((7 : Int32) * v2)) &&& 31)) &&& 127) F dX1_numberAt_15 rfl ?_
  obtain rfl := Option.some.inj h
  exact g_iret F e dX1_numberAt_16 ⟨rfl, rfl, rfl⟩
theorem DX0_tallyUp_0 : dAre cX0_tallyUp [(0, .aload_n 0, 1), (1, .getfield 9, 3), (4, .iconst 0, 1), (5, .invokestatic 18, 3), (8, .iconst 0, 1), (9, .istore_n 3, 1), (10, .iload_n 3, 1), (11, .aload_n 1, 1), (12, .getfield 24, 3), (15, .if_icmp .ge 35, 3), (18, .aload_n 1, 1), (19, .iload_n 3, 1), (20, .iload_n 2, 1), (21, .invokevirtual 30, 3), (24, .istore 4, 2), (26, .iload 4, 2)] := dAre0 (by decide +kernel)
theorem dX0_tallyUp_0 : decode cX0_tallyUp 0 = .ok (.aload_n 0, 1) := DX0_tallyUp_0.1
theorem dX0_tallyUp_1 : decode cX0_tallyUp 1 = .ok (.getfield 9, 3) := DX0_tallyUp_0.2.1
theorem dX0_tallyUp_4 : decode cX0_tallyUp 4 = .ok (.iconst 0, 1) := DX0_tallyUp_0.2.2.1
theorem dX0_tallyUp_5 : decode cX0_tallyUp 5 = .ok (.invokestatic 18, 3) := DX0_tallyUp_0.2.2.2.1
theorem dX0_tallyUp_8 : decode cX0_tallyUp 8 = .ok (.iconst 0, 1) := DX0_tallyUp_0.2.2.2.2.1
theorem dX0_tallyUp_9 : decode cX0_tallyUp 9 = .ok (.istore_n 3, 1) := DX0_tallyUp_0.2.2.2.2.2.1
theorem dX0_tallyUp_10 : decode cX0_tallyUp 10 = .ok (.iload_n 3, 1) := DX0_tallyUp_0.2.2.2.2.2.2.1
theorem dX0_tallyUp_11 : decode cX0_tallyUp 11 = .ok (.aload_n 1, 1) := DX0_tallyUp_0.2.2.2.2.2.2.2.1
theorem dX0_tallyUp_12 : decode cX0_tallyUp 12 = .ok (.getfield 24, 3) := DX0_tallyUp_0.2.2.2.2.2.2.2.2.1
theorem dX0_tallyUp_15 : decode cX0_tallyUp 15 = .ok (.if_icmp .ge 35, 3) := DX0_tallyUp_0.2.2.2.2.2.2.2.2.2.1
theorem dX0_tallyUp_18 : decode cX0_tallyUp 18 = .ok (.aload_n 1, 1) := DX0_tallyUp_0.2.2.2.2.2.2.2.2.2.2.1
theorem dX0_tallyUp_19 : decode cX0_tallyUp 19 = .ok (.iload_n 3, 1) := DX0_tallyUp_0.2.2.2.2.2.2.2.2.2.2.2.1
theorem dX0_tallyUp_20 : decode cX0_tallyUp 20 = .ok (.iload_n 2, 1) := DX0_tallyUp_0.2.2.2.2.2.2.2.2.2.2.2.2.1
theorem dX0_tallyUp_21 : decode cX0_tallyUp 21 = .ok (.invokevirtual 30, 3) := DX0_tallyUp_0.2.2.2.2.2.2.2.2.2.2.2.2.2.1
theorem dX0_tallyUp_24 : decode cX0_tallyUp 24 = .ok (.istore 4, 2) := DX0_tallyUp_0.2.2.2.2.2.2.2.2.2.2.2.2.2.2.1
theorem dX0_tallyUp_26 : decode cX0_tallyUp 26 = .ok (.iload 4, 2) := DX0_tallyUp_0.2.2.2.2.2.2.2.2.2.2.2.2.2.2.2.1
theorem DX0_tallyUp_28 : dAre cX0_tallyUp [(28, .bipush 100, 2), (30, .if_icmp .ge 14, 3), (33, .aload_n 0, 1), (34, .getfield 9, 3), (37, .iload 4, 2), (39, .dup2, 1), (40, .iaload, 1), (41, .iconst 1, 1), (42, .iadd, 1), (43, .iastore, 1), (44, .iinc 3 1, 3), (47, .goto (-37), 3), (50, .return_, 1)] := dAre0 (by decide +kernel)
theorem dX0_tallyUp_28 : decode cX0_tallyUp 28 = .ok (.bipush 100, 2) := DX0_tallyUp_28.1
theorem dX0_tallyUp_30 : decode cX0_tallyUp 30 = .ok (.if_icmp .ge 14, 3) := DX0_tallyUp_28.2.1
theorem dX0_tallyUp_33 : decode cX0_tallyUp 33 = .ok (.aload_n 0, 1) := DX0_tallyUp_28.2.2.1
theorem dX0_tallyUp_34 : decode cX0_tallyUp 34 = .ok (.getfield 9, 3) := DX0_tallyUp_28.2.2.2.1
theorem dX0_tallyUp_37 : decode cX0_tallyUp 37 = .ok (.iload 4, 2) := DX0_tallyUp_28.2.2.2.2.1
theorem dX0_tallyUp_39 : decode cX0_tallyUp 39 = .ok (.dup2, 1) := DX0_tallyUp_28.2.2.2.2.2.1
theorem dX0_tallyUp_40 : decode cX0_tallyUp 40 = .ok (.iaload, 1) := DX0_tallyUp_28.2.2.2.2.2.2.1
theorem dX0_tallyUp_41 : decode cX0_tallyUp 41 = .ok (.iconst 1, 1) := DX0_tallyUp_28.2.2.2.2.2.2.2.1
theorem dX0_tallyUp_42 : decode cX0_tallyUp 42 = .ok (.iadd, 1) := DX0_tallyUp_28.2.2.2.2.2.2.2.2.1
theorem dX0_tallyUp_43 : decode cX0_tallyUp 43 = .ok (.iastore, 1) := DX0_tallyUp_28.2.2.2.2.2.2.2.2.2.1
theorem dX0_tallyUp_44 : decode cX0_tallyUp 44 = .ok (.iinc 3 1, 3) := DX0_tallyUp_28.2.2.2.2.2.2.2.2.2.2.1
theorem dX0_tallyUp_47 : decode cX0_tallyUp 47 = .ok (.goto (-37), 3) := DX0_tallyUp_28.2.2.2.2.2.2.2.2.2.2.2.1
theorem dX0_tallyUp_50 : decode cX0_tallyUp 50 = .ok (.return_, 1) := DX0_tallyUp_28.2.2.2.2.2.2.2.2.2.2.2.2.1
theorem mX0_tallyUp : gMv yX0_tallyUp cX0_tallyUp 5 none RX0 2 := ⟨q491, q492, q5, q493, rfl, by decide, by decide, by decide +kernel⟩
noncomputable def bX0_tallyUp_44 (v3 : Int32) (I : gM) : Option ((Int32 × gM) ⊕ (gM)) :=
  some (.inl (v3 + 1, I))
set_option maxRecDepth 100000 in
set_option maxHeartbeats 4000000 in
theorem wbX0_tallyUp_44 {z : gZ} {E : gE} {bk : Nat} (F : Fx z sh E "LeapJoin$Figures" cX0_tallyUp (gR 2) 5) (B : bZ z bk) (hE : gDist sh E) (k1 : Nat) (v2 : Int32) (v3 : Int32) (hk1 : shX1 k1) (I : gM) (J : gN) {y : (Int32 × gM) ⊕ (gM)} (h : bX0_tallyUp_44 v3 I = some y) (hl : ∀ s' : Int32 × gM, y = .inl s' → G z 10 [(0, .ref (E.2.1 40)), (1, .ref (E.2.1 k1)), (2, .int v2), (3, .int (s'.1))] [] s'.2 J) (K10_0 : ∀ x : gM, y = .inr x → G z 50 [] [] x J) : G z 44 [(0, .ref (E.2.1 40)), (1, .ref (E.2.1 k1)), (2, .int v2), (3, .int v3)] [] I J := by
  unfold bX0_tallyUp_44 at h
  refine g_iinc (v := v3 + 1) (Ln := [(3, .int (v3 + 1)), (0, .ref (E.2.1 40)), (1, .ref (E.2.1 k1)), (2, .int v2)]) F 3 dX0_tallyUp_44 rfl (add_c (by decide)) (by decide) rfl ?_
  refine g_goto (tgt := 10) F dX0_tallyUp_47 (by decide) ?_
  obtain rfl := Option.some.inj h
  refine g_sub (Ln := [(0, .ref (E.2.1 40)), (1, .ref (E.2.1 k1)), (2, .int v2), (3, .int (v3 + 1))]) [1, 2, 3, 0] rfl ?_
  exact hl (v3 + 1, I) rfl
noncomputable def lX0_tallyUp_10 (k1 : Nat) (v2 : Int32) : (Int32 × gM) → Option (gM) :=
  itO fun s =>
    if (s.2 k1 0) ≤ s.1 then
      some (.inr s.2)
    else
      (fX1_numberAt k1 s.1 v2 s.2).bind fun r2 =>
      if (100 : Int32) ≤ r2 then
        bX0_tallyUp_44 s.1 s.2
      else
        (rI 100 (s.2 41) r2).bind fun u3 =>
        (wI s.2 41 100 r2 (u3 + 1)).bind fun I4 =>
        bX0_tallyUp_44 s.1 I4
set_option maxRecDepth 100000 in
set_option maxHeartbeats 4000000 in
theorem wlX0_tallyUp_10 {z : gZ} {E : gE} {bk : Nat} (F : Fx z sh E "LeapJoin$Figures" cX0_tallyUp (gR 2) 5) (B : bZ z bk) (hE : gDist sh E) (k1 : Nat) (v2 : Int32) (hk1 : shX1 k1) (J : gN) {r : gM} : ∀ s : Int32 × gM, lX0_tallyUp_10 k1 v2 s = some r → (G z 50 [] [] r J) → G z 10 [(0, .ref (E.2.1 40)), (1, .ref (E.2.1 k1)), (2, .int v2), (3, .int s.1)] [] s.2 J := by
  intro s h X0
  unfold lX0_tallyUp_10 at h
  revert s
  refine itO_ind (P := fun s : Int32 × gM => G z 10 [(0, .ref (E.2.1 40)), (1, .ref (E.2.1 k1)), (2, .int v2), (3, .int s.1)] [] s.2 J) (fun s y h hl hr => ?_)
  have K10_0 : ∀ x : gM, y = .inr x → (G z 50 [] [] x J) := fun x q => by have q2 := hr _ q; subst q2; exact X0
  refine g_iload_n F 3 dX0_tallyUp_10 rfl rfl ?_
  refine g_aload_n F 1 dX0_tallyUp_11 rfl rfl ?_
  refine g_geti (j := 0) (v := s.2 k1 0) F hk1.1 rfl rfl uX1 (by decide) q78 rfl dX0_tallyUp_12 ?_
  refine u_icmp_ge (tgt := 50) F dX0_tallyUp_15 (by decide) h (fun h => ?_) (fun h => ?_)
  · obtain rfl := Option.some.inj h
    refine g_sub (Ln := []) [] rfl ?_
    exact K10_0 s.2 rfl
  · refine g_aload_n F 1 dX0_tallyUp_18 rfl rfl ?_
    refine g_iload_n F 3 dX0_tallyUp_19 rfl rfl ?_
    refine g_iload_n F 2 dX0_tallyUp_20 rfl rfl ?_
    refine u_callV (k := k1) (As := [.int s.1, .int v2]) (rest := []) (sn := fun r2 => [.int r2]) F B (fun _ => wX1_numberAt (zl z) E hE bk k1 s.1 v2 hk1 s.2 J) mX1_numberAt q495 rfl hk1.1 rfl rfl rfl (Nat.le_of_ble_eq_true rfl) dX0_tallyUp_21 (fun _ => rfl) h (fun r2 h => ?_)
    refine g_istore (Ln := [(4, .int r2), (0, .ref (E.2.1 40)), (1, .ref (E.2.1 k1)), (2, .int v2), (3, .int s.1)]) F dX0_tallyUp_24 (by decide) rfl ?_
    refine g_iload F 0 dX0_tallyUp_26 rfl ?_
    refine g_bipush (v := 100) F dX0_tallyUp_28 (by decide) ?_
    refine u_icmp_ge (tgt := 44) F dX0_tallyUp_30 (by decide) h (fun h => ?_) (fun h => ?_)
    · refine g_sub (Ln := [(0, .ref (E.2.1 40)), (1, .ref (E.2.1 k1)), (2, .int v2), (3, .int s.1)]) [1, 2, 3, 4] rfl ?_
      exact wbX0_tallyUp_44 F B hE k1 v2 s.1 hk1 s.2 J h hl K10_0
    · refine g_aload_n F 1 dX0_tallyUp_33 rfl rfl ?_
      refine g_getr (j := 0) (nn := 41) F s40 rfl rfl uX0 (by decide) q114 dX0_tallyUp_34 ?_
      refine g_iload F 0 dX0_tallyUp_37 rfl ?_
      refine g_dup2 F dX0_tallyUp_39 rfl rfl ?_
      refine u_rI F s41 (by decide) dX0_tallyUp_40 h (fun u3 h => ?_)
      refine g_iconst (v := 1) F dX0_tallyUp_41 (by decide) ?_
      refine g_iadd (v := u3 + 1) F dX0_tallyUp_42 rfl ?_
      refine u_wI F s41 (by decide) dX0_tallyUp_43 h (fun I4 h => ?_)
      refine g_sub (Ln := [(0, .ref (E.2.1 40)), (1, .ref (E.2.1 k1)), (2, .int v2), (3, .int s.1)]) [1, 2, 3, 4] rfl ?_
      exact wbX0_tallyUp_44 F B hE k1 v2 s.1 hk1 I4 J h hl K10_0
noncomputable def fX0_tallyUp (k1 : Nat) (v2 : Int32) (I : gM) : Option (gM) :=
  (fJ7_fill_53178 41 100 (0 : Int32) I).bind fun r1 =>
  (lX0_tallyUp_10 k1 v2 ((0 : Int32), r1)).bind fun w5 =>
  some w5
set_option maxRecDepth 100000 in
set_option maxHeartbeats 4000000 in
theorem wX0_tallyUp (l : Launch) (E : gE) (hE : gDist sh E) (bk : Nat) (k1 : Nat) (v2 : Int32) (hk1 : shX1 k1) (I : gM) (J : gN) {r : gM} (h : fX0_tallyUp k1 v2 I = some r) : Cu l sh E bk yX0_tallyUp cX0_tallyUp 5 none (gR 2) [.ref (E.2.1 40), .ref (E.2.1 k1), .int v2] I J (fun r1 I1 J1 => r1 = none ∧ I1 = r ∧ J1 = J) := by
  refine Cu.of "LeapJoin$Figures" rfl hE (by decide) (Nat.le_of_ble_eq_true rfl) (fun z F B e hl => ?_)
  subst hl
  unfold fX0_tallyUp at h
  refine g_aload_n F 0 dX0_tallyUp_0 rfl rfl ?_
  refine g_getr (j := 0) (nn := 41) F s40 rfl rfl uX0 (by decide) q114 dX0_tallyUp_1 ?_
  refine g_iconst (v := 0) F dX0_tallyUp_4 (by decide) ?_
  refine u_callS (As := [.ref (E.2.1 41), .int 0]) (rest := []) (sn := fun _ => []) F B (fun _ => wJ7_fill_53178 (zl z) E hE bk 41 100 (0 : Int32) ⟨s41, by decide⟩ I J) mJ7_fill_53178 q494 rfl rfl rfl (Nat.le_of_ble_eq_true rfl) dX0_tallyUp_5 (fun _ => rfl) h (fun r1 h => ?_)
  refine g_iconst (v := 0) F dX0_tallyUp_8 (by decide) ?_
  refine g_istore_n (Ln := [(3, .int 0), (0, .ref (E.2.1 40)), (1, .ref (E.2.1 k1)), (2, .int v2)]) F dX0_tallyUp_9 rfl (by decide) rfl ?_
  obtain ⟨w5, ew5, h⟩ := ob h
  refine g_sub (Ln := [(0, .ref (E.2.1 40)), (1, .ref (E.2.1 k1)), (2, .int v2), (3, .int 0)]) [1, 2, 3, 0] rfl ?_
  refine wlX0_tallyUp_10 F B hE k1 v2 hk1 J _ ew5 ?_
  obtain rfl := Option.some.inj h
  exact g_vret F e dX0_tallyUp_50 ⟨rfl, rfl, rfl⟩
theorem DX0_numbers_0 : dAre cX0_numbers [(0, .iconst 0, 1), (1, .istore_n 1, 1), (2, .iconst 0, 1), (3, .istore_n 2, 1), (4, .iload_n 2, 1), (5, .bipush 100, 2), (7, .if_icmp .ge 21, 3), (10, .aload_n 0, 1), (11, .getfield 9, 3), (14, .iload_n 2, 1), (15, .iaload, 1), (16, .ifCond .le 6, 3), (19, .iinc 1 1, 3), (22, .iinc 2 1, 3), (25, .goto (-21), 3), (28, .iload_n 1, 1)] := dAre0 (by decide +kernel)
theorem dX0_numbers_0 : decode cX0_numbers 0 = .ok (.iconst 0, 1) := DX0_numbers_0.1
theorem dX0_numbers_1 : decode cX0_numbers 1 = .ok (.istore_n 1, 1) := DX0_numbers_0.2.1
theorem dX0_numbers_2 : decode cX0_numbers 2 = .ok (.iconst 0, 1) := DX0_numbers_0.2.2.1
theorem dX0_numbers_3 : decode cX0_numbers 3 = .ok (.istore_n 2, 1) := DX0_numbers_0.2.2.2.1
theorem dX0_numbers_4 : decode cX0_numbers 4 = .ok (.iload_n 2, 1) := DX0_numbers_0.2.2.2.2.1
theorem dX0_numbers_5 : decode cX0_numbers 5 = .ok (.bipush 100, 2) := DX0_numbers_0.2.2.2.2.2.1
theorem dX0_numbers_7 : decode cX0_numbers 7 = .ok (.if_icmp .ge 21, 3) := DX0_numbers_0.2.2.2.2.2.2.1
theorem dX0_numbers_10 : decode cX0_numbers 10 = .ok (.aload_n 0, 1) := DX0_numbers_0.2.2.2.2.2.2.2.1
theorem dX0_numbers_11 : decode cX0_numbers 11 = .ok (.getfield 9, 3) := DX0_numbers_0.2.2.2.2.2.2.2.2.1
theorem dX0_numbers_14 : decode cX0_numbers 14 = .ok (.iload_n 2, 1) := DX0_numbers_0.2.2.2.2.2.2.2.2.2.1
theorem dX0_numbers_15 : decode cX0_numbers 15 = .ok (.iaload, 1) := DX0_numbers_0.2.2.2.2.2.2.2.2.2.2.1
theorem dX0_numbers_16 : decode cX0_numbers 16 = .ok (.ifCond .le 6, 3) := DX0_numbers_0.2.2.2.2.2.2.2.2.2.2.2.1
theorem dX0_numbers_19 : decode cX0_numbers 19 = .ok (.iinc 1 1, 3) := DX0_numbers_0.2.2.2.2.2.2.2.2.2.2.2.2.1
theorem dX0_numbers_22 : decode cX0_numbers 22 = .ok (.iinc 2 1, 3) := DX0_numbers_0.2.2.2.2.2.2.2.2.2.2.2.2.2.1
theorem dX0_numbers_25 : decode cX0_numbers 25 = .ok (.goto (-21), 3) := DX0_numbers_0.2.2.2.2.2.2.2.2.2.2.2.2.2.2.1
theorem dX0_numbers_28 : decode cX0_numbers 28 = .ok (.iload_n 1, 1) := DX0_numbers_0.2.2.2.2.2.2.2.2.2.2.2.2.2.2.2.1
theorem dX0_numbers_29 : decode cX0_numbers 29 = .ok (.ireturn, 1) := by decide +kernel
theorem mX0_numbers : gMv yX0_numbers cX0_numbers 3 (some .int) RX0 0 := ⟨q501, q502, q5, q503, rfl, by decide, by decide, by decide +kernel⟩
noncomputable def bX0_numbers_22 (v1 : Int32) (v2 : Int32) : Option ((Int32 × Int32) ⊕ (Int32)) :=
  some (.inl (v1, v2 + 1))
set_option maxRecDepth 100000 in
set_option maxHeartbeats 4000000 in
theorem wbX0_numbers_22 {z : gZ} {E : gE} {bk : Nat} (F : Fx z sh E "LeapJoin$Figures" cX0_numbers (gR 0) 3) (B : bZ z bk) (hE : gDist sh E) (v1 : Int32) (v2 : Int32) (I : gM) (J : gN) {y : (Int32 × Int32) ⊕ (Int32)} (h : bX0_numbers_22 v1 v2 = some y) (hl : ∀ s' : Int32 × Int32, y = .inl s' → G z 4 [(0, .ref (E.2.1 40)), (1, .int (s'.1)), (2, .int (s'.2))] [] I J) (K4_0 : ∀ x : Int32, y = .inr x → G z 28 [(1, .int x)] [] I J) : G z 22 [(0, .ref (E.2.1 40)), (1, .int v1), (2, .int v2)] [] I J := by
  unfold bX0_numbers_22 at h
  refine g_iinc (v := v2 + 1) (Ln := [(2, .int (v2 + 1)), (0, .ref (E.2.1 40)), (1, .int v1)]) F 2 dX0_numbers_22 rfl (add_c (by decide)) (by decide) rfl ?_
  refine g_goto (tgt := 4) F dX0_numbers_25 (by decide) ?_
  obtain rfl := Option.some.inj h
  refine g_sub (Ln := [(0, .ref (E.2.1 40)), (1, .int v1), (2, .int (v2 + 1))]) [1, 2, 0] rfl ?_
  exact hl (v1, v2 + 1) rfl
noncomputable def lX0_numbers_4 (I : gM) : (Int32 × Int32) → Option (Int32) :=
  itO fun s =>
    if (100 : Int32) ≤ s.2 then
      some (.inr s.1)
    else
      (rI 100 (I 41) s.2).bind fun u1 =>
      if u1 ≤ 0 then
        bX0_numbers_22 s.1 s.2
      else
        bX0_numbers_22 (s.1 + 1) s.2
set_option maxRecDepth 100000 in
set_option maxHeartbeats 4000000 in
theorem wlX0_numbers_4 {z : gZ} {E : gE} {bk : Nat} (F : Fx z sh E "LeapJoin$Figures" cX0_numbers (gR 0) 3) (B : bZ z bk) (hE : gDist sh E) (I : gM) (J : gN) {r : Int32} : ∀ s : Int32 × Int32, lX0_numbers_4 I s = some r → (G z 28 [(1, .int r)] [] I J) → G z 4 [(0, .ref (E.2.1 40)), (1, .int s.1), (2, .int s.2)] [] I J := by
  intro s h X0
  unfold lX0_numbers_4 at h
  revert s
  refine itO_ind (P := fun s : Int32 × Int32 => G z 4 [(0, .ref (E.2.1 40)), (1, .int s.1), (2, .int s.2)] [] I J) (fun s y h hl hr => ?_)
  have K4_0 : ∀ x : Int32, y = .inr x → (G z 28 [(1, .int x)] [] I J) := fun x q => by have q2 := hr _ q; subst q2; exact X0
  refine g_iload_n F 2 dX0_numbers_4 rfl rfl ?_
  refine g_bipush (v := 100) F dX0_numbers_5 (by decide) ?_
  refine u_icmp_ge (tgt := 28) F dX0_numbers_7 (by decide) h (fun h => ?_) (fun h => ?_)
  · obtain rfl := Option.some.inj h
    refine g_sub (Ln := [(1, .int s.1)]) [1] rfl ?_
    exact K4_0 s.1 rfl
  · refine g_aload_n F 0 dX0_numbers_10 rfl rfl ?_
    refine g_getr (j := 0) (nn := 41) F s40 rfl rfl uX0 (by decide) q114 dX0_numbers_11 ?_
    refine g_iload_n F 2 dX0_numbers_14 rfl rfl ?_
    refine u_rI F s41 (by decide) dX0_numbers_15 h (fun u1 h => ?_)
    refine u_if_le (tgt := 22) F dX0_numbers_16 (by decide) h (fun h => ?_) (fun h => ?_)
    · refine g_sub (Ln := [(0, .ref (E.2.1 40)), (1, .int s.1), (2, .int s.2)]) [0, 1, 2] rfl ?_
      exact wbX0_numbers_22 F B hE s.1 s.2 I J h hl K4_0
    · refine g_iinc (v := s.1 + 1) (Ln := [(1, .int (s.1 + 1)), (0, .ref (E.2.1 40)), (2, .int s.2)]) F 1 dX0_numbers_19 rfl (add_c (by decide)) (by decide) rfl ?_
      refine g_sub (Ln := [(0, .ref (E.2.1 40)), (1, .int (s.1 + 1)), (2, .int s.2)]) [1, 0, 2] rfl ?_
      exact wbX0_numbers_22 F B hE (s.1 + 1) s.2 I J h hl K4_0
noncomputable def fX0_numbers (I : gM) : Option (Int32) :=
  (lX0_numbers_4 I ((0 : Int32), (0 : Int32))).bind fun w2 =>
  some w2
set_option maxRecDepth 100000 in
set_option maxHeartbeats 4000000 in
theorem wX0_numbers (l : Launch) (E : gE) (hE : gDist sh E) (bk : Nat) (I : gM) (J : gN) {r : Int32} (h : fX0_numbers I = some r) : Cu l sh E bk yX0_numbers cX0_numbers 3 (some .int) (gR 0) [.ref (E.2.1 40)] I J (fun r1 I1 J1 => r1 = some (.int r) ∧ I1 = I ∧ J1 = J) := by
  refine Cu.of "LeapJoin$Figures" rfl hE (by decide) (Nat.le_of_ble_eq_true rfl) (fun z F B e hl => ?_)
  subst hl
  unfold fX0_numbers at h
  refine g_iconst (v := 0) F dX0_numbers_0 (by decide) ?_
  refine g_istore_n (Ln := [(1, .int 0), (0, .ref (E.2.1 40))]) F dX0_numbers_1 rfl (by decide) rfl ?_
  refine g_iconst (v := 0) F dX0_numbers_2 (by decide) ?_
  refine g_istore_n (Ln := [(2, .int 0), (1, .int 0), (0, .ref (E.2.1 40))]) F dX0_numbers_3 rfl (by decide) rfl ?_
  obtain ⟨w2, ew2, h⟩ := ob h
  refine g_sub (Ln := [(0, .ref (E.2.1 40)), (1, .int 0), (2, .int 0)]) [2, 1, 0] rfl ?_
  refine wlX0_numbers_4 F B hE I J _ ew2 ?_
  refine g_iload_n F 0 dX0_numbers_28 rfl rfl ?_
  obtain rfl := Option.some.inj h
  exact g_iret F e dX0_numbers_29 ⟨rfl, rfl, rfl⟩
theorem DX0_least_0 : dAre cX0_least [(0, .iconst 0, 1), (1, .istore_n 1, 1), (2, .iload_n 1, 1), (3, .bipush 100, 2), (5, .if_icmp .ge 20, 3), (8, .aload_n 0, 1), (9, .getfield 9, 3), (12, .iload_n 1, 1), (13, .iaload, 1), (14, .ifCond .le 5, 3), (17, .iload_n 1, 1), (18, .ireturn, 1), (19, .iinc 1 1, 3), (22, .goto (-20), 3), (25, .iconst (-1), 1), (26, .ireturn, 1)] := dAre0 (by decide +kernel)
theorem dX0_least_0 : decode cX0_least 0 = .ok (.iconst 0, 1) := DX0_least_0.1
theorem dX0_least_1 : decode cX0_least 1 = .ok (.istore_n 1, 1) := DX0_least_0.2.1
theorem dX0_least_2 : decode cX0_least 2 = .ok (.iload_n 1, 1) := DX0_least_0.2.2.1
theorem dX0_least_3 : decode cX0_least 3 = .ok (.bipush 100, 2) := DX0_least_0.2.2.2.1
theorem dX0_least_5 : decode cX0_least 5 = .ok (.if_icmp .ge 20, 3) := DX0_least_0.2.2.2.2.1
theorem dX0_least_8 : decode cX0_least 8 = .ok (.aload_n 0, 1) := DX0_least_0.2.2.2.2.2.1
theorem dX0_least_9 : decode cX0_least 9 = .ok (.getfield 9, 3) := DX0_least_0.2.2.2.2.2.2.1
theorem dX0_least_12 : decode cX0_least 12 = .ok (.iload_n 1, 1) := DX0_least_0.2.2.2.2.2.2.2.1
theorem dX0_least_13 : decode cX0_least 13 = .ok (.iaload, 1) := DX0_least_0.2.2.2.2.2.2.2.2.1
theorem dX0_least_14 : decode cX0_least 14 = .ok (.ifCond .le 5, 3) := DX0_least_0.2.2.2.2.2.2.2.2.2.1
theorem dX0_least_17 : decode cX0_least 17 = .ok (.iload_n 1, 1) := DX0_least_0.2.2.2.2.2.2.2.2.2.2.1
theorem dX0_least_18 : decode cX0_least 18 = .ok (.ireturn, 1) := DX0_least_0.2.2.2.2.2.2.2.2.2.2.2.1
theorem dX0_least_19 : decode cX0_least 19 = .ok (.iinc 1 1, 3) := DX0_least_0.2.2.2.2.2.2.2.2.2.2.2.2.1
theorem dX0_least_22 : decode cX0_least 22 = .ok (.goto (-20), 3) := DX0_least_0.2.2.2.2.2.2.2.2.2.2.2.2.2.1
theorem dX0_least_25 : decode cX0_least 25 = .ok (.iconst (-1), 1) := DX0_least_0.2.2.2.2.2.2.2.2.2.2.2.2.2.2.1
theorem dX0_least_26 : decode cX0_least 26 = .ok (.ireturn, 1) := DX0_least_0.2.2.2.2.2.2.2.2.2.2.2.2.2.2.2.1
theorem mX0_least : gMv yX0_least cX0_least 2 (some .int) RX0 0 := ⟨q505, q506, q5, q507, rfl, by decide, by decide, by decide +kernel⟩
noncomputable def lX0_least_2 (I : gM) : Int32 → Option ((Int32) ⊕ (Unit)) :=
  itO fun s =>
    if (100 : Int32) ≤ s then
      some (.inr (.inr ()))
    else
      (rI 100 (I 41) s).bind fun u1 =>
      if u1 ≤ 0 then
        some (.inl (s + 1))
      else
        some (.inr (.inl s))
set_option maxRecDepth 100000 in
set_option maxHeartbeats 4000000 in
theorem wlX0_least_2 {z : gZ} {E : gE} {bk : Nat} (F : Fx z sh E "LeapJoin$Figures" cX0_least (gR 0) 2) (B : bZ z bk) (hE : gDist sh E) (I : gM) (J : gN) {r : (Int32) ⊕ (Unit)} : ∀ s : Int32, lX0_least_2 I s = some r → (∀ x : Int32, r = .inl x → G z 17 [(1, .int x)] [] I J) → (∀ x : Unit, r = .inr x → G z 25 [] [] I J) → G z 2 [(0, .ref (E.2.1 40)), (1, .int s)] [] I J := by
  intro s h X0 X1
  unfold lX0_least_2 at h
  revert s
  refine itO_ind (P := fun s : Int32 => G z 2 [(0, .ref (E.2.1 40)), (1, .int s)] [] I J) (fun s y h hl hr => ?_)
  have K2_0 := fun (x : Int32) (q : y = .inr (.inl x)) => X0 x (hr _ q).symm
  have K2_1 := fun (x : Unit) (q : y = .inr (.inr x)) => X1 x (hr _ q).symm
  refine g_iload_n F 1 dX0_least_2 rfl rfl ?_
  refine g_bipush (v := 100) F dX0_least_3 (by decide) ?_
  refine u_icmp_ge (tgt := 25) F dX0_least_5 (by decide) h (fun h => ?_) (fun h => ?_)
  · obtain rfl := Option.some.inj h
    refine g_sub (Ln := []) [] rfl ?_
    exact K2_1 () rfl
  · refine g_aload_n F 0 dX0_least_8 rfl rfl ?_
    refine g_getr (j := 0) (nn := 41) F s40 rfl rfl uX0 (by decide) q114 dX0_least_9 ?_
    refine g_iload_n F 1 dX0_least_12 rfl rfl ?_
    refine u_rI F s41 (by decide) dX0_least_13 h (fun u1 h => ?_)
    refine u_if_le (tgt := 19) F dX0_least_14 (by decide) h (fun h => ?_) (fun h => ?_)
    · refine g_iinc (v := s + 1) (Ln := [(1, .int (s + 1)), (0, .ref (E.2.1 40))]) F 1 dX0_least_19 rfl (add_c (by decide)) (by decide) rfl ?_
      refine g_goto (tgt := 2) F dX0_least_22 (by decide) ?_
      obtain rfl := Option.some.inj h
      refine g_sub (Ln := [(0, .ref (E.2.1 40)), (1, .int (s + 1))]) [1, 0] rfl ?_
      exact hl (s + 1) rfl
    · obtain rfl := Option.some.inj h
      refine g_sub (Ln := [(1, .int s)]) [1] rfl ?_
      exact K2_0 s rfl
noncomputable def fX0_least (I : gM) : Option (Int32) :=
  (lX0_least_2 I (0 : Int32)).bind fun w2 =>
  Sum.elim (fun w2_0 =>
    some w2_0)
  (fun w2_1 =>
    some ((-1) : Int32)) w2
set_option maxRecDepth 100000 in
set_option maxHeartbeats 4000000 in
theorem wX0_least (l : Launch) (E : gE) (hE : gDist sh E) (bk : Nat) (I : gM) (J : gN) {r : Int32} (h : fX0_least I = some r) : Cu l sh E bk yX0_least cX0_least 2 (some .int) (gR 0) [.ref (E.2.1 40)] I J (fun r1 I1 J1 => r1 = some (.int r) ∧ I1 = I ∧ J1 = J) := by
  refine Cu.of "LeapJoin$Figures" rfl hE (by decide) (Nat.le_of_ble_eq_true rfl) (fun z F B e hl => ?_)
  subst hl
  unfold fX0_least at h
  refine g_iconst (v := 0) F dX0_least_0 (by decide) ?_
  refine g_istore_n (Ln := [(1, .int 0), (0, .ref (E.2.1 40))]) F dX0_least_1 rfl (by decide) rfl ?_
  obtain ⟨w2, ew2, h⟩ := ob h
  refine g_sub (Ln := [(0, .ref (E.2.1 40)), (1, .int 0)]) [1, 0] rfl ?_
  refine wlX0_least_2 F B hE I J _ ew2 (fun w2_0 q => ?_) (fun w2_1 q => ?_)
  · subst q
    replace h := oE1 h
    refine g_iload_n F 0 dX0_least_17 rfl rfl ?_
    obtain rfl := Option.some.inj h
    exact g_iret F e dX0_least_18 ⟨rfl, rfl, rfl⟩
  · subst q
    replace h := oE2 h
    refine g_iconst (v := (-1)) F dX0_least_25 (by decide) ?_
    obtain rfl := Option.some.inj h
    exact g_iret F e dX0_least_26 ⟨rfl, rfl, rfl⟩
theorem DX0_greatest_0 : dAre cX0_greatest [(0, .bipush 99, 2), (2, .istore_n 1, 1), (3, .iload_n 1, 1), (4, .ifCond .lt 20, 3), (7, .aload_n 0, 1), (8, .getfield 9, 3), (11, .iload_n 1, 1), (12, .iaload, 1), (13, .ifCond .le 5, 3), (16, .iload_n 1, 1), (17, .ireturn, 1), (18, .iinc 1 (-1), 3), (21, .goto (-18), 3), (24, .iconst (-1), 1), (25, .ireturn, 1)] := dAre0 (by decide +kernel)
theorem dX0_greatest_0 : decode cX0_greatest 0 = .ok (.bipush 99, 2) := DX0_greatest_0.1
theorem dX0_greatest_2 : decode cX0_greatest 2 = .ok (.istore_n 1, 1) := DX0_greatest_0.2.1
theorem dX0_greatest_3 : decode cX0_greatest 3 = .ok (.iload_n 1, 1) := DX0_greatest_0.2.2.1
theorem dX0_greatest_4 : decode cX0_greatest 4 = .ok (.ifCond .lt 20, 3) := DX0_greatest_0.2.2.2.1
theorem dX0_greatest_7 : decode cX0_greatest 7 = .ok (.aload_n 0, 1) := DX0_greatest_0.2.2.2.2.1
theorem dX0_greatest_8 : decode cX0_greatest 8 = .ok (.getfield 9, 3) := DX0_greatest_0.2.2.2.2.2.1
theorem dX0_greatest_11 : decode cX0_greatest 11 = .ok (.iload_n 1, 1) := DX0_greatest_0.2.2.2.2.2.2.1
theorem dX0_greatest_12 : decode cX0_greatest 12 = .ok (.iaload, 1) := DX0_greatest_0.2.2.2.2.2.2.2.1
theorem dX0_greatest_13 : decode cX0_greatest 13 = .ok (.ifCond .le 5, 3) := DX0_greatest_0.2.2.2.2.2.2.2.2.1
theorem dX0_greatest_16 : decode cX0_greatest 16 = .ok (.iload_n 1, 1) := DX0_greatest_0.2.2.2.2.2.2.2.2.2.1
theorem dX0_greatest_17 : decode cX0_greatest 17 = .ok (.ireturn, 1) := DX0_greatest_0.2.2.2.2.2.2.2.2.2.2.1
theorem dX0_greatest_18 : decode cX0_greatest 18 = .ok (.iinc 1 (-1), 3) := DX0_greatest_0.2.2.2.2.2.2.2.2.2.2.2.1
theorem dX0_greatest_21 : decode cX0_greatest 21 = .ok (.goto (-18), 3) := DX0_greatest_0.2.2.2.2.2.2.2.2.2.2.2.2.1
theorem dX0_greatest_24 : decode cX0_greatest 24 = .ok (.iconst (-1), 1) := DX0_greatest_0.2.2.2.2.2.2.2.2.2.2.2.2.2.1
theorem dX0_greatest_25 : decode cX0_greatest 25 = .ok (.ireturn, 1) := DX0_greatest_0.2.2.2.2.2.2.2.2.2.2.2.2.2.2.1
theorem mX0_greatest : gMv yX0_greatest cX0_greatest 2 (some .int) RX0 0 := ⟨q509, q510, q5, q511, rfl, by decide, by decide, by decide +kernel⟩
noncomputable def lX0_greatest_3 (I : gM) : Int32 → Option ((Int32) ⊕ (Unit)) :=
  itO fun s =>
    if s < 0 then
      some (.inr (.inr ()))
    else
      (rI 100 (I 41) s).bind fun u1 =>
      if u1 ≤ 0 then
        some (.inl (s + (-1)))
      else
        some (.inr (.inl s))
set_option maxRecDepth 100000 in
set_option maxHeartbeats 4000000 in
theorem wlX0_greatest_3 {z : gZ} {E : gE} {bk : Nat} (F : Fx z sh E "LeapJoin$Figures" cX0_greatest (gR 0) 2) (B : bZ z bk) (hE : gDist sh E) (I : gM) (J : gN) {r : (Int32) ⊕ (Unit)} : ∀ s : Int32, lX0_greatest_3 I s = some r → (∀ x : Int32, r = .inl x → G z 16 [(1, .int x)] [] I J) → (∀ x : Unit, r = .inr x → G z 24 [] [] I J) → G z 3 [(0, .ref (E.2.1 40)), (1, .int s)] [] I J := by
  intro s h X0 X1
  unfold lX0_greatest_3 at h
  revert s
  refine itO_ind (P := fun s : Int32 => G z 3 [(0, .ref (E.2.1 40)), (1, .int s)] [] I J) (fun s y h hl hr => ?_)
  have K3_0 := fun (x : Int32) (q : y = .inr (.inl x)) => X0 x (hr _ q).symm
  have K3_1 := fun (x : Unit) (q : y = .inr (.inr x)) => X1 x (hr _ q).symm
  refine g_iload_n F 1 dX0_greatest_3 rfl rfl ?_
  refine u_if_lt (tgt := 24) F dX0_greatest_4 (by decide) h (fun h => ?_) (fun h => ?_)
  · obtain rfl := Option.some.inj h
    refine g_sub (Ln := []) [] rfl ?_
    exact K3_1 () rfl
  · refine g_aload_n F 0 dX0_greatest_7 rfl rfl ?_
    refine g_getr (j := 0) (nn := 41) F s40 rfl rfl uX0 (by decide) q114 dX0_greatest_8 ?_
    refine g_iload_n F 1 dX0_greatest_11 rfl rfl ?_
    refine u_rI F s41 (by decide) dX0_greatest_12 h (fun u1 h => ?_)
    refine u_if_le (tgt := 18) F dX0_greatest_13 (by decide) h (fun h => ?_) (fun h => ?_)
    · refine g_iinc (v := s + (-1)) (Ln := [(1, .int (s + (-1))), (0, .ref (E.2.1 40))]) F 1 dX0_greatest_18 rfl (add_c (by decide)) (by decide) rfl ?_
      refine g_goto (tgt := 3) F dX0_greatest_21 (by decide) ?_
      obtain rfl := Option.some.inj h
      refine g_sub (Ln := [(0, .ref (E.2.1 40)), (1, .int (s + (-1)))]) [1, 0] rfl ?_
      exact hl (s + (-1)) rfl
    · obtain rfl := Option.some.inj h
      refine g_sub (Ln := [(1, .int s)]) [1] rfl ?_
      exact K3_0 s rfl
noncomputable def fX0_greatest (I : gM) : Option (Int32) :=
  (lX0_greatest_3 I (99 : Int32)).bind fun w2 =>
  Sum.elim (fun w2_0 =>
    some w2_0)
  (fun w2_1 =>
    some ((-1) : Int32)) w2
set_option maxRecDepth 100000 in
set_option maxHeartbeats 4000000 in
theorem wX0_greatest (l : Launch) (E : gE) (hE : gDist sh E) (bk : Nat) (I : gM) (J : gN) {r : Int32} (h : fX0_greatest I = some r) : Cu l sh E bk yX0_greatest cX0_greatest 2 (some .int) (gR 0) [.ref (E.2.1 40)] I J (fun r1 I1 J1 => r1 = some (.int r) ∧ I1 = I ∧ J1 = J) := by
  refine Cu.of "LeapJoin$Figures" rfl hE (by decide) (Nat.le_of_ble_eq_true rfl) (fun z F B e hl => ?_)
  subst hl
  unfold fX0_greatest at h
  refine g_bipush (v := 99) F dX0_greatest_0 (by decide) ?_
  refine g_istore_n (Ln := [(1, .int 99), (0, .ref (E.2.1 40))]) F dX0_greatest_2 rfl (by decide) rfl ?_
  obtain ⟨w2, ew2, h⟩ := ob h
  refine g_sub (Ln := [(0, .ref (E.2.1 40)), (1, .int 99)]) [1, 0] rfl ?_
  refine wlX0_greatest_3 F B hE I J _ ew2 (fun w2_0 q => ?_) (fun w2_1 q => ?_)
  · subst q
    replace h := oE1 h
    refine g_iload_n F 0 dX0_greatest_16 rfl rfl ?_
    obtain rfl := Option.some.inj h
    exact g_iret F e dX0_greatest_17 ⟨rfl, rfl, rfl⟩
  · subst q
    replace h := oE2 h
    refine g_iconst (v := (-1)) F dX0_greatest_24 (by decide) ?_
    obtain rfl := Option.some.inj h
    exact g_iret F e dX0_greatest_25 ⟨rfl, rfl, rfl⟩
theorem DX0_oftenest_0 : dAre cX0_oftenest [(0, .iconst (-1), 1), (1, .istore_n 1, 1), (2, .iconst 0, 1), (3, .istore_n 2, 1), (4, .iconst 0, 1), (5, .istore_n 3, 1), (6, .iload_n 3, 1), (7, .bipush 100, 2), (9, .if_icmp .ge 28, 3), (12, .aload_n 0, 1), (13, .getfield 9, 3), (16, .iload_n 3, 1), (17, .iaload, 1), (18, .iload_n 2, 1), (19, .if_icmp .le 12, 3), (22, .iload_n 3, 1)] := dAre0 (by decide +kernel)
theorem dX0_oftenest_0 : decode cX0_oftenest 0 = .ok (.iconst (-1), 1) := DX0_oftenest_0.1
theorem dX0_oftenest_1 : decode cX0_oftenest 1 = .ok (.istore_n 1, 1) := DX0_oftenest_0.2.1
theorem dX0_oftenest_2 : decode cX0_oftenest 2 = .ok (.iconst 0, 1) := DX0_oftenest_0.2.2.1
theorem dX0_oftenest_3 : decode cX0_oftenest 3 = .ok (.istore_n 2, 1) := DX0_oftenest_0.2.2.2.1
theorem dX0_oftenest_4 : decode cX0_oftenest 4 = .ok (.iconst 0, 1) := DX0_oftenest_0.2.2.2.2.1
theorem dX0_oftenest_5 : decode cX0_oftenest 5 = .ok (.istore_n 3, 1) := DX0_oftenest_0.2.2.2.2.2.1
theorem dX0_oftenest_6 : decode cX0_oftenest 6 = .ok (.iload_n 3, 1) := DX0_oftenest_0.2.2.2.2.2.2.1
theorem dX0_oftenest_7 : decode cX0_oftenest 7 = .ok (.bipush 100, 2) := DX0_oftenest_0.2.2.2.2.2.2.2.1
theorem dX0_oftenest_9 : decode cX0_oftenest 9 = .ok (.if_icmp .ge 28, 3) := DX0_oftenest_0.2.2.2.2.2.2.2.2.1
theorem dX0_oftenest_12 : decode cX0_oftenest 12 = .ok (.aload_n 0, 1) := DX0_oftenest_0.2.2.2.2.2.2.2.2.2.1
theorem dX0_oftenest_13 : decode cX0_oftenest 13 = .ok (.getfield 9, 3) := DX0_oftenest_0.2.2.2.2.2.2.2.2.2.2.1
theorem dX0_oftenest_16 : decode cX0_oftenest 16 = .ok (.iload_n 3, 1) := DX0_oftenest_0.2.2.2.2.2.2.2.2.2.2.2.1
theorem dX0_oftenest_17 : decode cX0_oftenest 17 = .ok (.iaload, 1) := DX0_oftenest_0.2.2.2.2.2.2.2.2.2.2.2.2.1
theorem dX0_oftenest_18 : decode cX0_oftenest 18 = .ok (.iload_n 2, 1) := DX0_oftenest_0.2.2.2.2.2.2.2.2.2.2.2.2.2.1
theorem dX0_oftenest_19 : decode cX0_oftenest 19 = .ok (.if_icmp .le 12, 3) := DX0_oftenest_0.2.2.2.2.2.2.2.2.2.2.2.2.2.2.1
theorem dX0_oftenest_22 : decode cX0_oftenest 22 = .ok (.iload_n 3, 1) := DX0_oftenest_0.2.2.2.2.2.2.2.2.2.2.2.2.2.2.2.1
theorem DX0_oftenest_23 : dAre cX0_oftenest [(23, .istore_n 1, 1), (24, .aload_n 0, 1), (25, .getfield 9, 3), (28, .iload_n 3, 1), (29, .iaload, 1), (30, .istore_n 2, 1), (31, .iinc 3 1, 3), (34, .goto (-28), 3), (37, .iload_n 1, 1), (38, .ireturn, 1)] := dAre0 (by decide +kernel)
theorem dX0_oftenest_23 : decode cX0_oftenest 23 = .ok (.istore_n 1, 1) := DX0_oftenest_23.1
theorem dX0_oftenest_24 : decode cX0_oftenest 24 = .ok (.aload_n 0, 1) := DX0_oftenest_23.2.1
theorem dX0_oftenest_25 : decode cX0_oftenest 25 = .ok (.getfield 9, 3) := DX0_oftenest_23.2.2.1
theorem dX0_oftenest_28 : decode cX0_oftenest 28 = .ok (.iload_n 3, 1) := DX0_oftenest_23.2.2.2.1
theorem dX0_oftenest_29 : decode cX0_oftenest 29 = .ok (.iaload, 1) := DX0_oftenest_23.2.2.2.2.1
theorem dX0_oftenest_30 : decode cX0_oftenest 30 = .ok (.istore_n 2, 1) := DX0_oftenest_23.2.2.2.2.2.1
theorem dX0_oftenest_31 : decode cX0_oftenest 31 = .ok (.iinc 3 1, 3) := DX0_oftenest_23.2.2.2.2.2.2.1
theorem dX0_oftenest_34 : decode cX0_oftenest 34 = .ok (.goto (-28), 3) := DX0_oftenest_23.2.2.2.2.2.2.2.1
theorem dX0_oftenest_37 : decode cX0_oftenest 37 = .ok (.iload_n 1, 1) := DX0_oftenest_23.2.2.2.2.2.2.2.2.1
theorem dX0_oftenest_38 : decode cX0_oftenest 38 = .ok (.ireturn, 1) := DX0_oftenest_23.2.2.2.2.2.2.2.2.2.1
theorem mX0_oftenest : gMv yX0_oftenest cX0_oftenest 4 (some .int) RX0 0 := ⟨q513, q514, q5, q515, rfl, by decide, by decide, by decide +kernel⟩
noncomputable def bX0_oftenest_31 (v1 : Int32) (v2 : Int32) (v3 : Int32) : Option ((Int32 × Int32 × Int32) ⊕ (Int32)) :=
  some (.inl (v1, v2, v3 + 1))
set_option maxRecDepth 100000 in
set_option maxHeartbeats 4000000 in
theorem wbX0_oftenest_31 {z : gZ} {E : gE} {bk : Nat} (F : Fx z sh E "LeapJoin$Figures" cX0_oftenest (gR 0) 4) (B : bZ z bk) (hE : gDist sh E) (v1 : Int32) (v2 : Int32) (v3 : Int32) (I : gM) (J : gN) {y : (Int32 × Int32 × Int32) ⊕ (Int32)} (h : bX0_oftenest_31 v1 v2 v3 = some y) (hl : ∀ s' : Int32 × Int32 × Int32, y = .inl s' → G z 6 [(0, .ref (E.2.1 40)), (1, .int (s'.1)), (2, .int (s'.2.1)), (3, .int (s'.2.2))] [] I J) (K6_0 : ∀ x : Int32, y = .inr x → G z 37 [(1, .int x)] [] I J) : G z 31 [(0, .ref (E.2.1 40)), (1, .int v1), (2, .int v2), (3, .int v3)] [] I J := by
  unfold bX0_oftenest_31 at h
  refine g_iinc (v := v3 + 1) (Ln := [(3, .int (v3 + 1)), (0, .ref (E.2.1 40)), (1, .int v1), (2, .int v2)]) F 3 dX0_oftenest_31 rfl (add_c (by decide)) (by decide) rfl ?_
  refine g_goto (tgt := 6) F dX0_oftenest_34 (by decide) ?_
  obtain rfl := Option.some.inj h
  refine g_sub (Ln := [(0, .ref (E.2.1 40)), (1, .int v1), (2, .int v2), (3, .int (v3 + 1))]) [1, 2, 3, 0] rfl ?_
  exact hl (v1, v2, v3 + 1) rfl
noncomputable def lX0_oftenest_6 (I : gM) : (Int32 × Int32 × Int32) → Option (Int32) :=
  itO fun s =>
    if (100 : Int32) ≤ s.2.2 then
      some (.inr s.1)
    else
      (rI 100 (I 41) s.2.2).bind fun u1 =>
      if u1 ≤ s.2.1 then
        bX0_oftenest_31 s.1 s.2.1 s.2.2
      else
        (rI 100 (I 41) s.2.2).bind fun u2 =>
        bX0_oftenest_31 s.2.2 u2 s.2.2
set_option maxRecDepth 100000 in
set_option maxHeartbeats 4000000 in
theorem wlX0_oftenest_6 {z : gZ} {E : gE} {bk : Nat} (F : Fx z sh E "LeapJoin$Figures" cX0_oftenest (gR 0) 4) (B : bZ z bk) (hE : gDist sh E) (I : gM) (J : gN) {r : Int32} : ∀ s : Int32 × Int32 × Int32, lX0_oftenest_6 I s = some r → (G z 37 [(1, .int r)] [] I J) → G z 6 [(0, .ref (E.2.1 40)), (1, .int s.1), (2, .int s.2.1), (3, .int s.2.2)] [] I J := by
  intro s h X0
  unfold lX0_oftenest_6 at h
  revert s
  refine itO_ind (P := fun s : Int32 × Int32 × Int32 => G z 6 [(0, .ref (E.2.1 40)), (1, .int s.1), (2, .int s.2.1), (3, .int s.2.2)] [] I J) (fun s y h hl hr => ?_)
  have K6_0 : ∀ x : Int32, y = .inr x → (G z 37 [(1, .int x)] [] I J) := fun x q => by have q2 := hr _ q; subst q2; exact X0
  refine g_iload_n F 3 dX0_oftenest_6 rfl rfl ?_
  refine g_bipush (v := 100) F dX0_oftenest_7 (by decide) ?_
  refine u_icmp_ge (tgt := 37) F dX0_oftenest_9 (by decide) h (fun h => ?_) (fun h => ?_)
  · obtain rfl := Option.some.inj h
    refine g_sub (Ln := [(1, .int s.1)]) [1] rfl ?_
    exact K6_0 s.1 rfl
  · refine g_aload_n F 0 dX0_oftenest_12 rfl rfl ?_
    refine g_getr (j := 0) (nn := 41) F s40 rfl rfl uX0 (by decide) q114 dX0_oftenest_13 ?_
    refine g_iload_n F 3 dX0_oftenest_16 rfl rfl ?_
    refine u_rI F s41 (by decide) dX0_oftenest_17 h (fun u1 h => ?_)
    refine g_iload_n F 2 dX0_oftenest_18 rfl rfl ?_
    refine u_icmp_le (tgt := 31) F dX0_oftenest_19 (by decide) h (fun h => ?_) (fun h => ?_)
    · refine g_sub (Ln := [(0, .ref (E.2.1 40)), (1, .int s.1), (2, .int s.2.1), (3, .int s.2.2)]) [0, 1, 2, 3] rfl ?_
      exact wbX0_oftenest_31 F B hE s.1 s.2.1 s.2.2 I J h hl K6_0
    · refine g_iload_n F 3 dX0_oftenest_22 rfl rfl ?_
      refine g_istore_n (Ln := [(1, .int s.2.2), (0, .ref (E.2.1 40)), (2, .int s.2.1), (3, .int s.2.2)]) F dX0_oftenest_23 rfl (by decide) rfl ?_
      refine g_aload_n F 1 dX0_oftenest_24 rfl rfl ?_
      refine g_getr (j := 0) (nn := 41) F s40 rfl rfl uX0 (by decide) q114 dX0_oftenest_25 ?_
      refine g_iload_n F 3 dX0_oftenest_28 rfl rfl ?_
      refine u_rI F s41 (by decide) dX0_oftenest_29 h (fun u2 h => ?_)
      refine g_istore_n (Ln := [(2, .int u2), (1, .int s.2.2), (0, .ref (E.2.1 40)), (3, .int s.2.2)]) F dX0_oftenest_30 rfl (by decide) rfl ?_
      refine g_sub (Ln := [(0, .ref (E.2.1 40)), (1, .int s.2.2), (2, .int u2), (3, .int s.2.2)]) [2, 1, 0, 3] rfl ?_
      exact wbX0_oftenest_31 F B hE s.2.2 u2 s.2.2 I J h hl K6_0
noncomputable def fX0_oftenest (I : gM) : Option (Int32) :=
  (lX0_oftenest_6 I (((-1) : Int32), (0 : Int32), (0 : Int32))).bind fun w3 =>
  some w3
set_option maxRecDepth 100000 in
set_option maxHeartbeats 4000000 in
theorem wX0_oftenest (l : Launch) (E : gE) (hE : gDist sh E) (bk : Nat) (I : gM) (J : gN) {r : Int32} (h : fX0_oftenest I = some r) : Cu l sh E bk yX0_oftenest cX0_oftenest 4 (some .int) (gR 0) [.ref (E.2.1 40)] I J (fun r1 I1 J1 => r1 = some (.int r) ∧ I1 = I ∧ J1 = J) := by
  refine Cu.of "LeapJoin$Figures" rfl hE (by decide) (Nat.le_of_ble_eq_true rfl) (fun z F B e hl => ?_)
  subst hl
  unfold fX0_oftenest at h
  refine g_iconst (v := (-1)) F dX0_oftenest_0 (by decide) ?_
  refine g_istore_n (Ln := [(1, .int (-1)), (0, .ref (E.2.1 40))]) F dX0_oftenest_1 rfl (by decide) rfl ?_
  refine g_iconst (v := 0) F dX0_oftenest_2 (by decide) ?_
  refine g_istore_n (Ln := [(2, .int 0), (1, .int (-1)), (0, .ref (E.2.1 40))]) F dX0_oftenest_3 rfl (by decide) rfl ?_
  refine g_iconst (v := 0) F dX0_oftenest_4 (by decide) ?_
  refine g_istore_n (Ln := [(3, .int 0), (2, .int 0), (1, .int (-1)), (0, .ref (E.2.1 40))]) F dX0_oftenest_5 rfl (by decide) rfl ?_
  obtain ⟨w3, ew3, h⟩ := ob h
  refine g_sub (Ln := [(0, .ref (E.2.1 40)), (1, .int (-1)), (2, .int 0), (3, .int 0)]) [3, 2, 1, 0] rfl ?_
  refine wlX0_oftenest_6 F B hE I J _ ew3 ?_
  refine g_iload_n F 0 dX0_oftenest_37 rfl rfl ?_
  obtain rfl := Option.some.inj h
  exact g_iret F e dX0_oftenest_38 ⟨rfl, rfl, rfl⟩
theorem DX5_isTable_0 : dAre cX5_isTable [(0, .iload_n 1, 1), (1, .ifCond .lt 15, 3), (4, .iload_n 1, 1), (5, .aload_n 0, 1), (6, .getfield 9, 3), (9, .if_icmp .ge 7, 3), (12, .iconst 1, 1), (13, .goto 4, 3), (16, .iconst 0, 1), (17, .ireturn, 1)] := dAre0 (by decide +kernel)
theorem dX5_isTable_0 : decode cX5_isTable 0 = .ok (.iload_n 1, 1) := DX5_isTable_0.1
theorem dX5_isTable_1 : decode cX5_isTable 1 = .ok (.ifCond .lt 15, 3) := DX5_isTable_0.2.1
theorem dX5_isTable_4 : decode cX5_isTable 4 = .ok (.iload_n 1, 1) := DX5_isTable_0.2.2.1
theorem dX5_isTable_5 : decode cX5_isTable 5 = .ok (.aload_n 0, 1) := DX5_isTable_0.2.2.2.1
theorem dX5_isTable_6 : decode cX5_isTable 6 = .ok (.getfield 9, 3) := DX5_isTable_0.2.2.2.2.1
theorem dX5_isTable_9 : decode cX5_isTable 9 = .ok (.if_icmp .ge 7, 3) := DX5_isTable_0.2.2.2.2.2.1
theorem dX5_isTable_12 : decode cX5_isTable 12 = .ok (.iconst 1, 1) := DX5_isTable_0.2.2.2.2.2.2.1
theorem dX5_isTable_13 : decode cX5_isTable 13 = .ok (.goto 4, 3) := DX5_isTable_0.2.2.2.2.2.2.2.1
theorem dX5_isTable_16 : decode cX5_isTable 16 = .ok (.iconst 0, 1) := DX5_isTable_0.2.2.2.2.2.2.2.2.1
theorem dX5_isTable_17 : decode cX5_isTable 17 = .ok (.ireturn, 1) := DX5_isTable_0.2.2.2.2.2.2.2.2.2.1
theorem mX5_isTable : gMv yX5_isTable cX5_isTable 2 (some .boolean) RX5 1 := ⟨q248, q249, q3, q250, rfl, by decide, by decide, by decide +kernel⟩
noncomputable def fX5_isTable (k : Nat) (v1 : Int32) (I : gM) : Option (Int32) :=
  if v1 < 0 then
    some (0 : Int32)
  else
    if (I k 0) ≤ v1 then
      some (0 : Int32)
    else
      some (1 : Int32)
set_option maxRecDepth 100000 in
set_option maxHeartbeats 4000000 in
theorem wX5_isTable (l : Launch) (E : gE) (hE : gDist sh E) (bk : Nat) (k : Nat) (v1 : Int32) (hk : shX5 k) (I : gM) (J : gN) {r : Int32} (h : fX5_isTable k v1 I = some r) : Cu l sh E bk yX5_isTable cX5_isTable 2 (some .boolean) (gR 0) [.ref (E.2.1 k), .int v1] I J (fun r1 I1 J1 => r1 = some (.int r) ∧ I1 = I ∧ J1 = J) := by
  refine Cu.of "LeapJoin$Tables" rfl hE (by decide) (Nat.le_of_ble_eq_true rfl) (fun z F B e hl => ?_)
  subst hl
  unfold fX5_isTable at h
  refine g_iload_n F 1 dX5_isTable_0 rfl rfl ?_
  refine u_if_lt (tgt := 16) F dX5_isTable_1 (by decide) h (fun h => ?_) (fun h => ?_)
  · refine g_iconst (v := 0) F dX5_isTable_16 (by decide) ?_
    obtain rfl := Option.some.inj h
    exact g_zret F rfl e dX5_isTable_17 ⟨rfl, rfl, rfl⟩
  · refine g_iload_n F 1 dX5_isTable_4 rfl rfl ?_
    refine g_aload_n F 0 dX5_isTable_5 rfl rfl ?_
    refine g_geti (j := 0) (v := I k 0) F hk.1 rfl rfl uX5 (by decide) q48 rfl dX5_isTable_6 ?_
    refine u_icmp_ge (tgt := 16) F dX5_isTable_9 (by decide) h (fun h => ?_) (fun h => ?_)
    · refine g_iconst (v := 0) F dX5_isTable_16 (by decide) ?_
      obtain rfl := Option.some.inj h
      exact g_zret F rfl e dX5_isTable_17 ⟨rfl, rfl, rfl⟩
    · refine g_iconst (v := 1) F dX5_isTable_12 (by decide) ?_
      refine g_goto (tgt := 17) F dX5_isTable_13 (by decide) ?_
      obtain rfl := Option.some.inj h
      exact g_zret F rfl e dX5_isTable_17 ⟨rfl, rfl, rfl⟩
theorem DX5_isUsed_0 : dAre cX5_isUsed [(0, .aload_n 0, 1), (1, .iload_n 1, 1), (2, .invokevirtual 52, 3), (5, .ifCond .eq 18, 3), (8, .aload_n 0, 1), (9, .getfield 15, 3), (12, .iload_n 1, 1), (13, .ishr, 1), (14, .iconst 1, 1), (15, .iand, 1), (16, .ifCond .eq 7, 3), (19, .iconst 1, 1), (20, .goto 4, 3), (23, .iconst 0, 1), (24, .ireturn, 1)] := dAre0 (by decide +kernel)
theorem dX5_isUsed_0 : decode cX5_isUsed 0 = .ok (.aload_n 0, 1) := DX5_isUsed_0.1
theorem dX5_isUsed_1 : decode cX5_isUsed 1 = .ok (.iload_n 1, 1) := DX5_isUsed_0.2.1
theorem dX5_isUsed_2 : decode cX5_isUsed 2 = .ok (.invokevirtual 52, 3) := DX5_isUsed_0.2.2.1
theorem dX5_isUsed_5 : decode cX5_isUsed 5 = .ok (.ifCond .eq 18, 3) := DX5_isUsed_0.2.2.2.1
theorem dX5_isUsed_8 : decode cX5_isUsed 8 = .ok (.aload_n 0, 1) := DX5_isUsed_0.2.2.2.2.1
theorem dX5_isUsed_9 : decode cX5_isUsed 9 = .ok (.getfield 15, 3) := DX5_isUsed_0.2.2.2.2.2.1
theorem dX5_isUsed_12 : decode cX5_isUsed 12 = .ok (.iload_n 1, 1) := DX5_isUsed_0.2.2.2.2.2.2.1
theorem dX5_isUsed_13 : decode cX5_isUsed 13 = .ok (.ishr, 1) := DX5_isUsed_0.2.2.2.2.2.2.2.1
theorem dX5_isUsed_14 : decode cX5_isUsed 14 = .ok (.iconst 1, 1) := DX5_isUsed_0.2.2.2.2.2.2.2.2.1
theorem dX5_isUsed_15 : decode cX5_isUsed 15 = .ok (.iand, 1) := DX5_isUsed_0.2.2.2.2.2.2.2.2.2.1
theorem dX5_isUsed_16 : decode cX5_isUsed 16 = .ok (.ifCond .eq 7, 3) := DX5_isUsed_0.2.2.2.2.2.2.2.2.2.2.1
theorem dX5_isUsed_19 : decode cX5_isUsed 19 = .ok (.iconst 1, 1) := DX5_isUsed_0.2.2.2.2.2.2.2.2.2.2.2.1
theorem dX5_isUsed_20 : decode cX5_isUsed 20 = .ok (.goto 4, 3) := DX5_isUsed_0.2.2.2.2.2.2.2.2.2.2.2.2.1
theorem dX5_isUsed_23 : decode cX5_isUsed 23 = .ok (.iconst 0, 1) := DX5_isUsed_0.2.2.2.2.2.2.2.2.2.2.2.2.2.1
theorem dX5_isUsed_24 : decode cX5_isUsed 24 = .ok (.ireturn, 1) := DX5_isUsed_0.2.2.2.2.2.2.2.2.2.2.2.2.2.2.1
theorem mX5_isUsed : gMv yX5_isUsed cX5_isUsed 2 (some .boolean) RX5 1 := ⟨q340, q341, q3, q342, rfl, by decide, by decide, by decide +kernel⟩
noncomputable def fX5_isUsed (k : Nat) (v1 : Int32) (I : gM) : Option (Int32) :=
  (fX5_isTable k v1 I).bind fun r1 =>
  if r1 = 0 then
    some (0 : Int32)
  else
    if (((I k 1) >>> (v1 &&& 31)) &&& 1) = 0 then
      some (0 : Int32)
    else
      some (1 : Int32)
set_option maxRecDepth 100000 in
set_option maxHeartbeats 4000000 in
theorem wX5_isUsed (l : Launch) (E : gE) (hE : gDist sh E) (bk : Nat) (k : Nat) (v1 : Int32) (hk : shX5 k) (I : gM) (J : gN) {r : Int32} (h : fX5_isUsed k v1 I = some r) : Cu l sh E bk yX5_isUsed cX5_isUsed 2 (some .boolean) (gR 1) [.ref (E.2.1 k), .int v1] I J (fun r1 I1 J1 => r1 = some (.int r) ∧ I1 = I ∧ J1 = J) := by
  refine Cu.of "LeapJoin$Tables" rfl hE (by decide) (Nat.le_of_ble_eq_true rfl) (fun z F B e hl => ?_)
  subst hl
  unfold fX5_isUsed at h
  refine g_aload_n F 0 dX5_isUsed_0 rfl rfl ?_
  refine g_iload_n F 1 dX5_isUsed_1 rfl rfl ?_
  refine u_callV (k := k) (As := [.int v1]) (rest := []) (sn := fun r1 => [.int r1]) F B (fun _ => wX5_isTable (zl z) E hE bk k v1 hk I J) mX5_isTable q247 rfl hk.1 rfl rfl rfl (Nat.le_of_ble_eq_true rfl) dX5_isUsed_2 (fun _ => rfl) h (fun r1 h => ?_)
  refine u_if_eq (tgt := 23) F dX5_isUsed_5 (by decide) h (fun h => ?_) (fun h => ?_)
  · refine g_iconst (v := 0) F dX5_isUsed_23 (by decide) ?_
    obtain rfl := Option.some.inj h
    exact g_zret F rfl e dX5_isUsed_24 ⟨rfl, rfl, rfl⟩
  · refine g_aload_n F 0 dX5_isUsed_8 rfl rfl ?_
    refine g_geti (j := 1) (v := I k 1) F hk.1 rfl rfl uX5 (by decide) q51 rfl dX5_isUsed_9 ?_
    refine g_iload_n F 1 dX5_isUsed_12 rfl rfl ?_
    refine g_ishr (v := (I k 1) >>> (v1 &&& 31)) F dX5_isUsed_13 rfl ?_
    refine g_iconst (v := 1) F dX5_isUsed_14 (by decide) ?_
    refine g_iand (v := ((I k 1) >>> (v1 &&& 31)) &&& 1) F dX5_isUsed_15 rfl ?_
    refine u_if_eq (tgt := 23) F dX5_isUsed_16 (by decide) h (fun h => ?_) (fun h => ?_)
    · refine g_iconst (v := 0) F dX5_isUsed_23 (by decide) ?_
      obtain rfl := Option.some.inj h
      exact g_zret F rfl e dX5_isUsed_24 ⟨rfl, rfl, rfl⟩
    · refine g_iconst (v := 1) F dX5_isUsed_19 (by decide) ?_
      refine g_goto (tgt := 24) F dX5_isUsed_20 (by decide) ?_
      obtain rfl := Option.some.inj h
      exact g_zret F rfl e dX5_isUsed_24 ⟨rfl, rfl, rfl⟩
theorem DX5_rowWithin_0 : dAre cX5_rowWithin [(0, .iconst 0, 1), (1, .istore_n 3, 1), (2, .iconst 0, 1), (3, .istore 4, 2), (5, .iload 4, 2), (7, .aload_n 0, 1), (8, .getfield 21, 3), (11, .iload_n 1, 1), (12, .iaload, 1), (13, .if_icmp .ge 47, 3), (16, .iload_n 2, 1), (17, .bipush 21, 2), (19, .bipush 7, 2), (21, .aload_n 0, 1), (22, .getfield 28, 3), (25, .iload_n 1, 1)] := dAre0 (by decide +kernel)
theorem dX5_rowWithin_0 : decode cX5_rowWithin 0 = .ok (.iconst 0, 1) := DX5_rowWithin_0.1
theorem dX5_rowWithin_1 : decode cX5_rowWithin 1 = .ok (.istore_n 3, 1) := DX5_rowWithin_0.2.1
theorem dX5_rowWithin_2 : decode cX5_rowWithin 2 = .ok (.iconst 0, 1) := DX5_rowWithin_0.2.2.1
theorem dX5_rowWithin_3 : decode cX5_rowWithin 3 = .ok (.istore 4, 2) := DX5_rowWithin_0.2.2.2.1
theorem dX5_rowWithin_5 : decode cX5_rowWithin 5 = .ok (.iload 4, 2) := DX5_rowWithin_0.2.2.2.2.1
theorem dX5_rowWithin_7 : decode cX5_rowWithin 7 = .ok (.aload_n 0, 1) := DX5_rowWithin_0.2.2.2.2.2.1
theorem dX5_rowWithin_8 : decode cX5_rowWithin 8 = .ok (.getfield 21, 3) := DX5_rowWithin_0.2.2.2.2.2.2.1
theorem dX5_rowWithin_11 : decode cX5_rowWithin 11 = .ok (.iload_n 1, 1) := DX5_rowWithin_0.2.2.2.2.2.2.2.1
theorem dX5_rowWithin_12 : decode cX5_rowWithin 12 = .ok (.iaload, 1) := DX5_rowWithin_0.2.2.2.2.2.2.2.2.1
theorem dX5_rowWithin_13 : decode cX5_rowWithin 13 = .ok (.if_icmp .ge 47, 3) := DX5_rowWithin_0.2.2.2.2.2.2.2.2.2.1
theorem dX5_rowWithin_16 : decode cX5_rowWithin 16 = .ok (.iload_n 2, 1) := DX5_rowWithin_0.2.2.2.2.2.2.2.2.2.2.1
theorem dX5_rowWithin_17 : decode cX5_rowWithin 17 = .ok (.bipush 21, 2) := DX5_rowWithin_0.2.2.2.2.2.2.2.2.2.2.2.1
theorem dX5_rowWithin_19 : decode cX5_rowWithin 19 = .ok (.bipush 7, 2) := DX5_rowWithin_0.2.2.2.2.2.2.2.2.2.2.2.2.1
theorem dX5_rowWithin_21 : decode cX5_rowWithin 21 = .ok (.aload_n 0, 1) := DX5_rowWithin_0.2.2.2.2.2.2.2.2.2.2.2.2.2.1
theorem dX5_rowWithin_22 : decode cX5_rowWithin 22 = .ok (.getfield 28, 3) := DX5_rowWithin_0.2.2.2.2.2.2.2.2.2.2.2.2.2.2.1
theorem dX5_rowWithin_25 : decode cX5_rowWithin 25 = .ok (.iload_n 1, 1) := DX5_rowWithin_0.2.2.2.2.2.2.2.2.2.2.2.2.2.2.2.1
theorem DX5_rowWithin_26 : dAre cX5_rowWithin [(26, .iconst 3, 1), (27, .imul, 1), (28, .iload 4, 2), (30, .iadd, 1), (31, .iaload, 1), (32, .imul, 1), (33, .isub, 1), (34, .ishr, 1), (35, .bipush 127, 2), (37, .iand, 1), (38, .istore 5, 2), (40, .iload_n 3, 1), (41, .iload 5, 2), (43, .bipush 14, 2), (45, .bipush 7, 2), (47, .iload 4, 2)] := dAre0 (by decide +kernel)
theorem dX5_rowWithin_26 : decode cX5_rowWithin 26 = .ok (.iconst 3, 1) := DX5_rowWithin_26.1
theorem dX5_rowWithin_27 : decode cX5_rowWithin 27 = .ok (.imul, 1) := DX5_rowWithin_26.2.1
theorem dX5_rowWithin_28 : decode cX5_rowWithin 28 = .ok (.iload 4, 2) := DX5_rowWithin_26.2.2.1
theorem dX5_rowWithin_30 : decode cX5_rowWithin 30 = .ok (.iadd, 1) := DX5_rowWithin_26.2.2.2.1
theorem dX5_rowWithin_31 : decode cX5_rowWithin 31 = .ok (.iaload, 1) := DX5_rowWithin_26.2.2.2.2.1
theorem dX5_rowWithin_32 : decode cX5_rowWithin 32 = .ok (.imul, 1) := DX5_rowWithin_26.2.2.2.2.2.1
theorem dX5_rowWithin_33 : decode cX5_rowWithin 33 = .ok (.isub, 1) := DX5_rowWithin_26.2.2.2.2.2.2.1
theorem dX5_rowWithin_34 : decode cX5_rowWithin 34 = .ok (.ishr, 1) := DX5_rowWithin_26.2.2.2.2.2.2.2.1
theorem dX5_rowWithin_35 : decode cX5_rowWithin 35 = .ok (.bipush 127, 2) := DX5_rowWithin_26.2.2.2.2.2.2.2.2.1
theorem dX5_rowWithin_37 : decode cX5_rowWithin 37 = .ok (.iand, 1) := DX5_rowWithin_26.2.2.2.2.2.2.2.2.2.1
theorem dX5_rowWithin_38 : decode cX5_rowWithin 38 = .ok (.istore 5, 2) := DX5_rowWithin_26.2.2.2.2.2.2.2.2.2.2.1
theorem dX5_rowWithin_40 : decode cX5_rowWithin 40 = .ok (.iload_n 3, 1) := DX5_rowWithin_26.2.2.2.2.2.2.2.2.2.2.2.1
theorem dX5_rowWithin_41 : decode cX5_rowWithin 41 = .ok (.iload 5, 2) := DX5_rowWithin_26.2.2.2.2.2.2.2.2.2.2.2.2.1
theorem dX5_rowWithin_43 : decode cX5_rowWithin 43 = .ok (.bipush 14, 2) := DX5_rowWithin_26.2.2.2.2.2.2.2.2.2.2.2.2.2.1
theorem dX5_rowWithin_45 : decode cX5_rowWithin 45 = .ok (.bipush 7, 2) := DX5_rowWithin_26.2.2.2.2.2.2.2.2.2.2.2.2.2.2.1
theorem dX5_rowWithin_47 : decode cX5_rowWithin 47 = .ok (.iload 4, 2) := DX5_rowWithin_26.2.2.2.2.2.2.2.2.2.2.2.2.2.2.2.1
theorem DX5_rowWithin_49 : dAre cX5_rowWithin [(49, .imul, 1), (50, .isub, 1), (51, .ishl, 1), (52, .ior, 1), (53, .istore_n 3, 1), (54, .iinc 4 1, 3), (57, .goto (-52), 3), (60, .iload_n 3, 1), (61, .ireturn, 1)] := dAre0 (by decide +kernel)
theorem dX5_rowWithin_49 : decode cX5_rowWithin 49 = .ok (.imul, 1) := DX5_rowWithin_49.1
theorem dX5_rowWithin_50 : decode cX5_rowWithin 50 = .ok (.isub, 1) := DX5_rowWithin_49.2.1
theorem dX5_rowWithin_51 : decode cX5_rowWithin 51 = .ok (.ishl, 1) := DX5_rowWithin_49.2.2.1
theorem dX5_rowWithin_52 : decode cX5_rowWithin 52 = .ok (.ior, 1) := DX5_rowWithin_49.2.2.2.1
theorem dX5_rowWithin_53 : decode cX5_rowWithin 53 = .ok (.istore_n 3, 1) := DX5_rowWithin_49.2.2.2.2.1
theorem dX5_rowWithin_54 : decode cX5_rowWithin 54 = .ok (.iinc 4 1, 3) := DX5_rowWithin_49.2.2.2.2.2.1
theorem dX5_rowWithin_57 : decode cX5_rowWithin 57 = .ok (.goto (-52), 3) := DX5_rowWithin_49.2.2.2.2.2.2.1
theorem dX5_rowWithin_60 : decode cX5_rowWithin 60 = .ok (.iload_n 3, 1) := DX5_rowWithin_49.2.2.2.2.2.2.2.1
theorem dX5_rowWithin_61 : decode cX5_rowWithin 61 = .ok (.ireturn, 1) := DX5_rowWithin_49.2.2.2.2.2.2.2.2.1
theorem mX5_rowWithin : gMv yX5_rowWithin cX5_rowWithin 6 (some .int) RX5 2 := ⟨q466, q467, q3, q468, rfl, by decide, by decide, by decide +kernel⟩
noncomputable def lX5_rowWithin_5 (k : Nat) (v1 : Int32) (v2 : Int32) (I : gM) : (Int32 × Int32) → Option (Int32) :=
  itO fun s =>
    (rI 4 (I (k + 1)) v1).bind fun u1 =>
    if u1 ≤ s.2 then
      some (.inr s.1)
    else
      (rI 12 (I (k + 3)) ((v1 * 3) + s.2)).bind fun u2 =>
      some (.inl (s.1 ||| (((v2 >>> (((21 : Int32) - ((7 : Int32) * u2)) &&& 31)) &&& 127) <<< (((14 : Int32) - ((7 : Int32) * s.2)) &&& 31)), s.2 + 1))
set_option maxRecDepth 100000 in
set_option maxHeartbeats 4000000 in
theorem wlX5_rowWithin_5 {z : gZ} {E : gE} {bk : Nat} (F : Fx z sh E "LeapJoin$Tables" cX5_rowWithin (gR 0) 6) (B : bZ z bk) (hE : gDist sh E) (k : Nat) (v1 : Int32) (v2 : Int32) (hk : shX5 k) (I : gM) (J : gN) {r : Int32} : ∀ s : Int32 × Int32, lX5_rowWithin_5 k v1 v2 I s = some r → (G z 60 [(3, .int r)] [] I J) → G z 5 [(0, .ref (E.2.1 k)), (1, .int v1), (2, .int v2), (3, .int s.1), (4, .int s.2)] [] I J := by
  intro s h X0
  unfold lX5_rowWithin_5 at h
  revert s
  refine itO_ind (P := fun s : Int32 × Int32 => G z 5 [(0, .ref (E.2.1 k)), (1, .int v1), (2, .int v2), (3, .int s.1), (4, .int s.2)] [] I J) (fun s y h hl hr => ?_)
  have K5_0 : ∀ x : Int32, y = .inr x → (G z 60 [(3, .int x)] [] I J) := fun x q => by have q2 := hr _ q; subst q2; exact X0
  refine g_iload F 4 dX5_rowWithin_5 rfl ?_
  refine g_aload_n F 0 dX5_rowWithin_7 rfl rfl ?_
  refine g_getr (j := 3) (nn := (k + 1)) F hk.1 rfl rfl uX5 (by decide) q55 dX5_rowWithin_8 ?_
  refine g_iload_n F 1 dX5_rowWithin_11 rfl rfl ?_
  refine u_rI F hk.2.1 (by decide) dX5_rowWithin_12 h (fun u1 h => ?_)
  refine u_icmp_ge (tgt := 60) F dX5_rowWithin_13 (by decide) h (fun h => ?_) (fun h => ?_)
  · obtain rfl := Option.some.inj h
    refine g_sub (Ln := [(3, .int s.1)]) [3] rfl ?_
    exact K5_0 s.1 rfl
  · refine g_iload_n F 2 dX5_rowWithin_16 rfl rfl ?_
    refine g_bipush (v := 21) F dX5_rowWithin_17 (by decide) ?_
    refine g_bipush (v := 7) F dX5_rowWithin_19 (by decide) ?_
    refine g_aload_n F 0 dX5_rowWithin_21 rfl rfl ?_
    refine g_getr (j := 5) (nn := (k + 3)) F hk.1 rfl rfl uX5 (by decide) q62 dX5_rowWithin_22 ?_
    refine g_iload_n F 1 dX5_rowWithin_25 rfl rfl ?_
    refine g_iconst (v := 3) F dX5_rowWithin_26 (by decide) ?_
    refine g_imul (v := v1 * 3) F dX5_rowWithin_27 rfl ?_
    refine g_iload F 4 dX5_rowWithin_28 rfl ?_
    refine g_iadd (v := (v1 * 3) + s.2) F dX5_rowWithin_30 rfl ?_
    refine u_rI F hk.2.2.2.1 (by decide) dX5_rowWithin_31 h (fun u2 h => ?_)
    refine g_imul (v := (7 : Int32) * u2) F dX5_rowWithin_32 rfl ?_
    refine g_isub (v := (21 : Int32) - ((7 : Int32) * u2)) F dX5_rowWithin_33 rfl ?_
    refine g_ishr (v := v2 >>> (((21 : Int32) - ((7 : Int32) * u2)) &&& 31)) F dX5_rowWithin_34 rfl ?_
    refine g_bipush (v := 127) F dX5_rowWithin_35 (by decide) ?_
    refine g_iand (v := (v2 >>> (((21 : Int32) - ((7 : Int32) * u2)) &&& 31)) &&& 127) F dX5_rowWithin_37 rfl ?_
    refine g_istore (Ln := [(5, .int ((v2 >>> (((21 : Int32) - ((7 : Int32) * u2)) &&& 31)) &&& 127)), (0, .ref (E.2.1 k)), (1, .int v1), (2, .int v2), (3, .int s.1), (4, .int s.2)]) F dX5_rowWithin_38 (by decide) rfl ?_
    refine g_iload_n F 4 dX5_rowWithin_40 rfl rfl ?_
    refine g_iload F 0 dX5_rowWithin_41 rfl ?_
    refine g_bipush (v := 14) F dX5_rowWithin_43 (by decide) ?_
    refine g_bipush (v := 7) F dX5_rowWithin_45 (by decide) ?_
    refine g_iload F 5 dX5_rowWithin_47 rfl ?_
    refine g_imul (v := (7 : Int32) * s.2) F dX5_rowWithin_49 rfl ?_
    refine g_isub (v := (14 : Int32) - ((7 : Int32) * s.2)) F dX5_rowWithin_50 rfl ?_
    refine g_ishl (v := ((v2 >>> (((21 : Int32) - ((7 : Int32) * u2)) &&& 31)) &&& 127) <<< (((14 : Int32) - ((7 : Int32) * s.2)) &&& 31)) F dX5_rowWithin_51 rfl ?_
    refine g_ior (v := s.1 ||| (((v2 >>> (((21 : Int32) - ((7 : Int32) * u2)) &&& 31)) &&& 127) <<< (((14 : Int32) - ((7 : Int32) * s.2)) &&& 31))) F dX5_rowWithin_52 rfl ?_
    refine g_istore_n (Ln := [(3, .int (s.1 ||| (((v2 >>> (((21 : Int32) - ((7 : Int32) * u2)) &&& 31)) &&& 127) <<< (((14 : Int32) - ((7 : Int32) * s.2)) &&& 31)))), (5, .int ((v2 >>> (((21 : Int32) - ((7 : Int32) * u2)) &&& 31)) &&& 127)), (0, .ref (E.2.1 k)), (1, .int v1), (2, .int v2), (4, .int s.2)]) F dX5_rowWithin_53 rfl (by decide) rfl ?_
    refine g_iinc (v := s.2 + 1) (Ln := [(4, .int (s.2 + 1)), (3, .int (s.1 ||| (((v2 >>> (((21 : Int32) - ((7 : Int32) * u2)) &&& 31)) &&& 127) <<< (((14 : Int32) - ((7 : Int32) * s.2)) &&& 31)))), (5, .int ((v2 >>> (((21 : Int32) - ((7 : Int32) * u2)) &&& 31)) &&& 127)), (0, .ref (E.2.1 k)), (1, .int v1), (2, .int v2)]) F 5 dX5_rowWithin_54 rfl (add_c (by decide)) (by decide) rfl ?_
    refine g_goto (tgt := 5) F dX5_rowWithin_57 (by decide) ?_
    obtain rfl := Option.some.inj h
    refine g_sub (Ln := [(0, .ref (E.2.1 k)), (1, .int v1), (2, .int v2), (3, .int (s.1 ||| (((v2 >>> (((21 : Int32) - ((7 : Int32) * u2)) &&& 31)) &&& 127) <<< (((14 : Int32) - ((7 : Int32) * s.2)) &&& 31)))), (4, .int (s.2 + 1))]) [3, 4, 5, 1, 0] rfl ?_
    exact hl (s.1 ||| (((v2 >>> (((21 : Int32) - ((7 : Int32) * u2)) &&& 31)) &&& 127) <<< (((14 : Int32) - ((7 : Int32) * s.2)) &&& 31)), s.2 + 1) rfl
noncomputable def fX5_rowWithin (k : Nat) (v1 : Int32) (v2 : Int32) (I : gM) : Option (Int32) :=
  (lX5_rowWithin_5 k v1 v2 I ((0 : Int32), (0 : Int32))).bind fun w3 =>
  some w3
set_option maxRecDepth 100000 in
set_option maxHeartbeats 4000000 in
theorem wX5_rowWithin (l : Launch) (E : gE) (hE : gDist sh E) (bk : Nat) (k : Nat) (v1 : Int32) (v2 : Int32) (hk : shX5 k) (I : gM) (J : gN) {r : Int32} (h : fX5_rowWithin k v1 v2 I = some r) : Cu l sh E bk yX5_rowWithin cX5_rowWithin 6 (some .int) (gR 0) [.ref (E.2.1 k), .int v1, .int v2] I J (fun r1 I1 J1 => r1 = some (.int r) ∧ I1 = I ∧ J1 = J) := by
  refine Cu.of "LeapJoin$Tables" rfl hE (by decide) (Nat.le_of_ble_eq_true rfl) (fun z F B e hl => ?_)
  subst hl
  unfold fX5_rowWithin at h
  refine g_iconst (v := 0) F dX5_rowWithin_0 (by decide) ?_
  refine g_istore_n (Ln := [(3, .int 0), (0, .ref (E.2.1 k)), (1, .int v1), (2, .int v2)]) F dX5_rowWithin_1 rfl (by decide) rfl ?_
  refine g_iconst (v := 0) F dX5_rowWithin_2 (by decide) ?_
  refine g_istore (Ln := [(4, .int 0), (3, .int 0), (0, .ref (E.2.1 k)), (1, .int v1), (2, .int v2)]) F dX5_rowWithin_3 (by decide) rfl ?_
  obtain ⟨w3, ew3, h⟩ := ob h
  refine g_sub (Ln := [(0, .ref (E.2.1 k)), (1, .int v1), (2, .int v2), (3, .int 0), (4, .int 0)]) [2, 3, 4, 1, 0] rfl ?_
  refine wlX5_rowWithin_5 F B hE k v1 v2 hk I J _ ew3 ?_
  refine g_iload_n F 0 dX5_rowWithin_60 rfl rfl ?_
  obtain rfl := Option.some.inj h
  exact g_iret F e dX5_rowWithin_61 ⟨rfl, rfl, rfl⟩
theorem DX5_rowAt_0 : dAre cX5_rowAt [(0, .aload_n 0, 1), (1, .getfield 31, 3), (4, .iload_n 1, 1), (5, .bipush 12, 2), (7, .imul, 1), (8, .iload_n 2, 1), (9, .iadd, 1), (10, .iaload, 1), (11, .ireturn, 1)] := dAre0 (by decide +kernel)
theorem dX5_rowAt_0 : decode cX5_rowAt 0 = .ok (.aload_n 0, 1) := DX5_rowAt_0.1
theorem dX5_rowAt_1 : decode cX5_rowAt 1 = .ok (.getfield 31, 3) := DX5_rowAt_0.2.1
theorem dX5_rowAt_4 : decode cX5_rowAt 4 = .ok (.iload_n 1, 1) := DX5_rowAt_0.2.2.1
theorem dX5_rowAt_5 : decode cX5_rowAt 5 = .ok (.bipush 12, 2) := DX5_rowAt_0.2.2.2.1
theorem dX5_rowAt_7 : decode cX5_rowAt 7 = .ok (.imul, 1) := DX5_rowAt_0.2.2.2.2.1
theorem dX5_rowAt_8 : decode cX5_rowAt 8 = .ok (.iload_n 2, 1) := DX5_rowAt_0.2.2.2.2.2.1
theorem dX5_rowAt_9 : decode cX5_rowAt 9 = .ok (.iadd, 1) := DX5_rowAt_0.2.2.2.2.2.2.1
theorem dX5_rowAt_10 : decode cX5_rowAt 10 = .ok (.iaload, 1) := DX5_rowAt_0.2.2.2.2.2.2.2.1
theorem dX5_rowAt_11 : decode cX5_rowAt 11 = .ok (.ireturn, 1) := DX5_rowAt_0.2.2.2.2.2.2.2.2.1
theorem mX5_rowAt : gMv yX5_rowAt cX5_rowAt 3 (some .int) RX5 2 := ⟨q273, q274, q3, q275, rfl, by decide, by decide, by decide +kernel⟩
noncomputable def fX5_rowAt (k : Nat) (v1 : Int32) (v2 : Int32) (I : gM) : Option (Int32) :=
  (rI 48 (I (k + 4)) ((v1 * 12) + v2)).bind fun u1 =>
  some u1
set_option maxRecDepth 100000 in
set_option maxHeartbeats 4000000 in
theorem wX5_rowAt (l : Launch) (E : gE) (hE : gDist sh E) (bk : Nat) (k : Nat) (v1 : Int32) (v2 : Int32) (hk : shX5 k) (I : gM) (J : gN) {r : Int32} (h : fX5_rowAt k v1 v2 I = some r) : Cu l sh E bk yX5_rowAt cX5_rowAt 3 (some .int) (gR 0) [.ref (E.2.1 k), .int v1, .int v2] I J (fun r1 I1 J1 => r1 = some (.int r) ∧ I1 = I ∧ J1 = J) := by
  refine Cu.of "LeapJoin$Tables" rfl hE (by decide) (Nat.le_of_ble_eq_true rfl) (fun z F B e hl => ?_)
  subst hl
  unfold fX5_rowAt at h
  refine g_aload_n F 0 dX5_rowAt_0 rfl rfl ?_
  refine g_getr (j := 6) (nn := (k + 4)) F hk.1 rfl rfl uX5 (by decide) q63 dX5_rowAt_1 ?_
  refine g_iload_n F 1 dX5_rowAt_4 rfl rfl ?_
  refine g_bipush (v := 12) F dX5_rowAt_5 (by decide) ?_
  refine g_imul (v := v1 * 12) F dX5_rowAt_7 rfl ?_
  refine g_iload_n F 2 dX5_rowAt_8 rfl rfl ?_
  refine g_iadd (v := (v1 * 12) + v2) F dX5_rowAt_9 rfl ?_
  refine u_rI F hk.2.2.2.2 (by decide) dX5_rowAt_10 h (fun u1 h => ?_)
  obtain rfl := Option.some.inj h
  exact g_iret F e dX5_rowAt_11 ⟨rfl, rfl, rfl⟩
theorem DX5_placeOf_0 : dAre cX5_placeOf [(0, .iconst 0, 1), (1, .istore_n 3, 1), (2, .iload_n 3, 1), (3, .aload_n 0, 1), (4, .getfield 25, 3), (7, .iload_n 1, 1), (8, .iaload, 1), (9, .if_icmp .ge 21, 3), (12, .aload_n 0, 1), (13, .iload_n 1, 1), (14, .iload_n 3, 1), (15, .invokevirtual 66, 3), (18, .iload_n 2, 1), (19, .if_icmp .ne 5, 3), (22, .iload_n 3, 1), (23, .ireturn, 1)] := dAre0 (by decide +kernel)
theorem dX5_placeOf_0 : decode cX5_placeOf 0 = .ok (.iconst 0, 1) := DX5_placeOf_0.1
theorem dX5_placeOf_1 : decode cX5_placeOf 1 = .ok (.istore_n 3, 1) := DX5_placeOf_0.2.1
theorem dX5_placeOf_2 : decode cX5_placeOf 2 = .ok (.iload_n 3, 1) := DX5_placeOf_0.2.2.1
theorem dX5_placeOf_3 : decode cX5_placeOf 3 = .ok (.aload_n 0, 1) := DX5_placeOf_0.2.2.2.1
theorem dX5_placeOf_4 : decode cX5_placeOf 4 = .ok (.getfield 25, 3) := DX5_placeOf_0.2.2.2.2.1
theorem dX5_placeOf_7 : decode cX5_placeOf 7 = .ok (.iload_n 1, 1) := DX5_placeOf_0.2.2.2.2.2.1
theorem dX5_placeOf_8 : decode cX5_placeOf 8 = .ok (.iaload, 1) := DX5_placeOf_0.2.2.2.2.2.2.1
theorem dX5_placeOf_9 : decode cX5_placeOf 9 = .ok (.if_icmp .ge 21, 3) := DX5_placeOf_0.2.2.2.2.2.2.2.1
theorem dX5_placeOf_12 : decode cX5_placeOf 12 = .ok (.aload_n 0, 1) := DX5_placeOf_0.2.2.2.2.2.2.2.2.1
theorem dX5_placeOf_13 : decode cX5_placeOf 13 = .ok (.iload_n 1, 1) := DX5_placeOf_0.2.2.2.2.2.2.2.2.2.1
theorem dX5_placeOf_14 : decode cX5_placeOf 14 = .ok (.iload_n 3, 1) := DX5_placeOf_0.2.2.2.2.2.2.2.2.2.2.1
theorem dX5_placeOf_15 : decode cX5_placeOf 15 = .ok (.invokevirtual 66, 3) := DX5_placeOf_0.2.2.2.2.2.2.2.2.2.2.2.1
theorem dX5_placeOf_18 : decode cX5_placeOf 18 = .ok (.iload_n 2, 1) := DX5_placeOf_0.2.2.2.2.2.2.2.2.2.2.2.2.1
theorem dX5_placeOf_19 : decode cX5_placeOf 19 = .ok (.if_icmp .ne 5, 3) := DX5_placeOf_0.2.2.2.2.2.2.2.2.2.2.2.2.2.1
theorem dX5_placeOf_22 : decode cX5_placeOf 22 = .ok (.iload_n 3, 1) := DX5_placeOf_0.2.2.2.2.2.2.2.2.2.2.2.2.2.2.1
theorem dX5_placeOf_23 : decode cX5_placeOf 23 = .ok (.ireturn, 1) := DX5_placeOf_0.2.2.2.2.2.2.2.2.2.2.2.2.2.2.2.1
theorem DX5_placeOf_24 : dAre cX5_placeOf [(24, .iinc 3 1, 3), (27, .goto (-25), 3), (30, .iconst (-1), 1), (31, .ireturn, 1)] := dAre0 (by decide +kernel)
theorem dX5_placeOf_24 : decode cX5_placeOf 24 = .ok (.iinc 3 1, 3) := DX5_placeOf_24.1
theorem dX5_placeOf_27 : decode cX5_placeOf 27 = .ok (.goto (-25), 3) := DX5_placeOf_24.2.1
theorem dX5_placeOf_30 : decode cX5_placeOf 30 = .ok (.iconst (-1), 1) := DX5_placeOf_24.2.2.1
theorem dX5_placeOf_31 : decode cX5_placeOf 31 = .ok (.ireturn, 1) := DX5_placeOf_24.2.2.2.1
theorem mX5_placeOf : gMv yX5_placeOf cX5_placeOf 4 (some .int) RX5 2 := ⟨q269, q270, q3, q271, rfl, by decide, by decide, by decide +kernel⟩
noncomputable def lX5_placeOf_2 (k : Nat) (v1 : Int32) (v2 : Int32) (I : gM) : Int32 → Option ((Int32) ⊕ (Unit)) :=
  itO fun s =>
    (rI 4 (I (k + 2)) v1).bind fun u1 =>
    if u1 ≤ s then
      some (.inr (.inr ()))
    else
      (fX5_rowAt k v1 s I).bind fun r2 =>
      if r2 = v2 then
        some (.inr (.inl s))
      else
        some (.inl (s + 1))
set_option maxRecDepth 100000 in
set_option maxHeartbeats 4000000 in
theorem wlX5_placeOf_2 {z : gZ} {E : gE} {bk : Nat} (F : Fx z sh E "LeapJoin$Tables" cX5_placeOf (gR 1) 4) (B : bZ z bk) (hE : gDist sh E) (k : Nat) (v1 : Int32) (v2 : Int32) (hk : shX5 k) (I : gM) (J : gN) {r : (Int32) ⊕ (Unit)} : ∀ s : Int32, lX5_placeOf_2 k v1 v2 I s = some r → (∀ x : Int32, r = .inl x → G z 22 [(3, .int x)] [] I J) → (∀ x : Unit, r = .inr x → G z 30 [] [] I J) → G z 2 [(0, .ref (E.2.1 k)), (1, .int v1), (2, .int v2), (3, .int s)] [] I J := by
  intro s h X0 X1
  unfold lX5_placeOf_2 at h
  revert s
  refine itO_ind (P := fun s : Int32 => G z 2 [(0, .ref (E.2.1 k)), (1, .int v1), (2, .int v2), (3, .int s)] [] I J) (fun s y h hl hr => ?_)
  have K2_0 := fun (x : Int32) (q : y = .inr (.inl x)) => X0 x (hr _ q).symm
  have K2_1 := fun (x : Unit) (q : y = .inr (.inr x)) => X1 x (hr _ q).symm
  refine g_iload_n F 3 dX5_placeOf_2 rfl rfl ?_
  refine g_aload_n F 0 dX5_placeOf_3 rfl rfl ?_
  refine g_getr (j := 4) (nn := (k + 2)) F hk.1 rfl rfl uX5 (by decide) q58 dX5_placeOf_4 ?_
  refine g_iload_n F 1 dX5_placeOf_7 rfl rfl ?_
  refine u_rI F hk.2.2.1 (by decide) dX5_placeOf_8 h (fun u1 h => ?_)
  refine u_icmp_ge (tgt := 30) F dX5_placeOf_9 (by decide) h (fun h => ?_) (fun h => ?_)
  · obtain rfl := Option.some.inj h
    refine g_sub (Ln := []) [] rfl ?_
    exact K2_1 () rfl
  · refine g_aload_n F 0 dX5_placeOf_12 rfl rfl ?_
    refine g_iload_n F 1 dX5_placeOf_13 rfl rfl ?_
    refine g_iload_n F 3 dX5_placeOf_14 rfl rfl ?_
    refine u_callV (k := k) (As := [.int v1, .int s]) (rest := []) (sn := fun r2 => [.int r2]) F B (fun _ => wX5_rowAt (zl z) E hE bk k v1 s hk I J) mX5_rowAt q272 rfl hk.1 rfl rfl rfl (Nat.le_of_ble_eq_true rfl) dX5_placeOf_15 (fun _ => rfl) h (fun r2 h => ?_)
    refine g_iload_n F 2 dX5_placeOf_18 rfl rfl ?_
    refine u_icmp_ne (tgt := 24) F dX5_placeOf_19 (by decide) h (fun h => ?_) (fun h => ?_)
    · obtain rfl := Option.some.inj h
      refine g_sub (Ln := [(3, .int s)]) [3] rfl ?_
      exact K2_0 s rfl
    · refine g_iinc (v := s + 1) (Ln := [(3, .int (s + 1)), (0, .ref (E.2.1 k)), (1, .int v1), (2, .int v2)]) F 3 dX5_placeOf_24 rfl (add_c (by decide)) (by decide) rfl ?_
      refine g_goto (tgt := 2) F dX5_placeOf_27 (by decide) ?_
      obtain rfl := Option.some.inj h
      refine g_sub (Ln := [(0, .ref (E.2.1 k)), (1, .int v1), (2, .int v2), (3, .int (s + 1))]) [1, 2, 3, 0] rfl ?_
      exact hl (s + 1) rfl
noncomputable def fX5_placeOf (k : Nat) (v1 : Int32) (v2 : Int32) (I : gM) : Option (Int32) :=
  (lX5_placeOf_2 k v1 v2 I (0 : Int32)).bind fun w3 =>
  Sum.elim (fun w3_0 =>
    some w3_0)
  (fun w3_1 =>
    some ((-1) : Int32)) w3
set_option maxRecDepth 100000 in
set_option maxHeartbeats 4000000 in
theorem wX5_placeOf (l : Launch) (E : gE) (hE : gDist sh E) (bk : Nat) (k : Nat) (v1 : Int32) (v2 : Int32) (hk : shX5 k) (I : gM) (J : gN) {r : Int32} (h : fX5_placeOf k v1 v2 I = some r) : Cu l sh E bk yX5_placeOf cX5_placeOf 4 (some .int) (gR 1) [.ref (E.2.1 k), .int v1, .int v2] I J (fun r1 I1 J1 => r1 = some (.int r) ∧ I1 = I ∧ J1 = J) := by
  refine Cu.of "LeapJoin$Tables" rfl hE (by decide) (Nat.le_of_ble_eq_true rfl) (fun z F B e hl => ?_)
  subst hl
  unfold fX5_placeOf at h
  refine g_iconst (v := 0) F dX5_placeOf_0 (by decide) ?_
  refine g_istore_n (Ln := [(3, .int 0), (0, .ref (E.2.1 k)), (1, .int v1), (2, .int v2)]) F dX5_placeOf_1 rfl (by decide) rfl ?_
  obtain ⟨w3, ew3, h⟩ := ob h
  refine g_sub (Ln := [(0, .ref (E.2.1 k)), (1, .int v1), (2, .int v2), (3, .int 0)]) [1, 2, 3, 0] rfl ?_
  refine wlX5_placeOf_2 F B hE k v1 v2 hk I J _ ew3 (fun w3_0 q => ?_) (fun w3_1 q => ?_)
  · subst q
    replace h := oE1 h
    refine g_iload_n F 0 dX5_placeOf_22 rfl rfl ?_
    obtain rfl := Option.some.inj h
    exact g_iret F e dX5_placeOf_23 ⟨rfl, rfl, rfl⟩
  · subst q
    replace h := oE2 h
    refine g_iconst (v := (-1)) F dX5_placeOf_30 (by decide) ?_
    obtain rfl := Option.some.inj h
    exact g_iret F e dX5_placeOf_31 ⟨rfl, rfl, rfl⟩
theorem DX0_givenBits_0 : dAre cX0_givenBits [(0, .aload_n 2, 1), (1, .iload_n 3, 1), (2, .invokevirtual 34, 3), (5, .ifCond .ne 5, 3), (8, .iconst 0, 1), (9, .ireturn, 1), (10, .iconst 1, 1), (11, .aload_n 2, 1), (12, .getfield 40, 3), (15, .iload_n 3, 1), (16, .iaload, 1), (17, .ishl, 1), (18, .iconst 1, 1), (19, .isub, 1), (20, .istore 4, 2), (22, .iconst 0, 1)] := dAre0 (by decide +kernel)
theorem dX0_givenBits_0 : decode cX0_givenBits 0 = .ok (.aload_n 2, 1) := DX0_givenBits_0.1
theorem dX0_givenBits_1 : decode cX0_givenBits 1 = .ok (.iload_n 3, 1) := DX0_givenBits_0.2.1
theorem dX0_givenBits_2 : decode cX0_givenBits 2 = .ok (.invokevirtual 34, 3) := DX0_givenBits_0.2.2.1
theorem dX0_givenBits_5 : decode cX0_givenBits 5 = .ok (.ifCond .ne 5, 3) := DX0_givenBits_0.2.2.2.1
theorem dX0_givenBits_8 : decode cX0_givenBits 8 = .ok (.iconst 0, 1) := DX0_givenBits_0.2.2.2.2.1
theorem dX0_givenBits_9 : decode cX0_givenBits 9 = .ok (.ireturn, 1) := DX0_givenBits_0.2.2.2.2.2.1
theorem dX0_givenBits_10 : decode cX0_givenBits 10 = .ok (.iconst 1, 1) := DX0_givenBits_0.2.2.2.2.2.2.1
theorem dX0_givenBits_11 : decode cX0_givenBits 11 = .ok (.aload_n 2, 1) := DX0_givenBits_0.2.2.2.2.2.2.2.1
theorem dX0_givenBits_12 : decode cX0_givenBits 12 = .ok (.getfield 40, 3) := DX0_givenBits_0.2.2.2.2.2.2.2.2.1
theorem dX0_givenBits_15 : decode cX0_givenBits 15 = .ok (.iload_n 3, 1) := DX0_givenBits_0.2.2.2.2.2.2.2.2.2.1
theorem dX0_givenBits_16 : decode cX0_givenBits 16 = .ok (.iaload, 1) := DX0_givenBits_0.2.2.2.2.2.2.2.2.2.2.1
theorem dX0_givenBits_17 : decode cX0_givenBits 17 = .ok (.ishl, 1) := DX0_givenBits_0.2.2.2.2.2.2.2.2.2.2.2.1
theorem dX0_givenBits_18 : decode cX0_givenBits 18 = .ok (.iconst 1, 1) := DX0_givenBits_0.2.2.2.2.2.2.2.2.2.2.2.2.1
theorem dX0_givenBits_19 : decode cX0_givenBits 19 = .ok (.isub, 1) := DX0_givenBits_0.2.2.2.2.2.2.2.2.2.2.2.2.2.1
theorem dX0_givenBits_20 : decode cX0_givenBits 20 = .ok (.istore 4, 2) := DX0_givenBits_0.2.2.2.2.2.2.2.2.2.2.2.2.2.2.1
theorem dX0_givenBits_22 : decode cX0_givenBits 22 = .ok (.iconst 0, 1) := DX0_givenBits_0.2.2.2.2.2.2.2.2.2.2.2.2.2.2.2.1
theorem DX0_givenBits_23 : dAre cX0_givenBits [(23, .istore 5, 2), (25, .iconst 0, 1), (26, .istore 6, 2), (28, .iload 6, 2), (30, .aload_n 1, 1), (31, .getfield 24, 3), (34, .if_icmp .ge 49, 3), (37, .iload 5, 2), (39, .iload 4, 2), (41, .if_icmp .eq 42, 3), (44, .aload_n 2, 1), (45, .iload_n 3, 1), (46, .aload_n 2, 1), (47, .iload_n 3, 1), (48, .aload_n 1, 1), (49, .iload 6, 2)] := dAre0 (by decide +kernel)
theorem dX0_givenBits_23 : decode cX0_givenBits 23 = .ok (.istore 5, 2) := DX0_givenBits_23.1
theorem dX0_givenBits_25 : decode cX0_givenBits 25 = .ok (.iconst 0, 1) := DX0_givenBits_23.2.1
theorem dX0_givenBits_26 : decode cX0_givenBits 26 = .ok (.istore 6, 2) := DX0_givenBits_23.2.2.1
theorem dX0_givenBits_28 : decode cX0_givenBits 28 = .ok (.iload 6, 2) := DX0_givenBits_23.2.2.2.1
theorem dX0_givenBits_30 : decode cX0_givenBits 30 = .ok (.aload_n 1, 1) := DX0_givenBits_23.2.2.2.2.1
theorem dX0_givenBits_31 : decode cX0_givenBits 31 = .ok (.getfield 24, 3) := DX0_givenBits_23.2.2.2.2.2.1
theorem dX0_givenBits_34 : decode cX0_givenBits 34 = .ok (.if_icmp .ge 49, 3) := DX0_givenBits_23.2.2.2.2.2.2.1
theorem dX0_givenBits_37 : decode cX0_givenBits 37 = .ok (.iload 5, 2) := DX0_givenBits_23.2.2.2.2.2.2.2.1
theorem dX0_givenBits_39 : decode cX0_givenBits 39 = .ok (.iload 4, 2) := DX0_givenBits_23.2.2.2.2.2.2.2.2.1
theorem dX0_givenBits_41 : decode cX0_givenBits 41 = .ok (.if_icmp .eq 42, 3) := DX0_givenBits_23.2.2.2.2.2.2.2.2.2.1
theorem dX0_givenBits_44 : decode cX0_givenBits 44 = .ok (.aload_n 2, 1) := DX0_givenBits_23.2.2.2.2.2.2.2.2.2.2.1
theorem dX0_givenBits_45 : decode cX0_givenBits 45 = .ok (.iload_n 3, 1) := DX0_givenBits_23.2.2.2.2.2.2.2.2.2.2.2.1
theorem dX0_givenBits_46 : decode cX0_givenBits 46 = .ok (.aload_n 2, 1) := DX0_givenBits_23.2.2.2.2.2.2.2.2.2.2.2.2.1
theorem dX0_givenBits_47 : decode cX0_givenBits 47 = .ok (.iload_n 3, 1) := DX0_givenBits_23.2.2.2.2.2.2.2.2.2.2.2.2.2.1
theorem dX0_givenBits_48 : decode cX0_givenBits 48 = .ok (.aload_n 1, 1) := DX0_givenBits_23.2.2.2.2.2.2.2.2.2.2.2.2.2.2.1
theorem dX0_givenBits_49 : decode cX0_givenBits 49 = .ok (.iload 6, 2) := DX0_givenBits_23.2.2.2.2.2.2.2.2.2.2.2.2.2.2.2.1
theorem DX0_givenBits_51 : dAre cX0_givenBits [(51, .invokevirtual 43, 3), (54, .invokevirtual 47, 3), (57, .invokevirtual 50, 3), (60, .istore 7, 2), (62, .iload 7, 2), (64, .iconst (-1), 1), (65, .if_icmp .eq 12, 3), (68, .iload 5, 2), (70, .iconst 1, 1), (71, .iload 7, 2), (73, .ishl, 1), (74, .ior, 1), (75, .istore 5, 2), (77, .iinc 6 1, 3), (80, .goto (-52), 3), (83, .iload 5, 2)] := dAre0 (by decide +kernel)
theorem dX0_givenBits_51 : decode cX0_givenBits 51 = .ok (.invokevirtual 43, 3) := DX0_givenBits_51.1
theorem dX0_givenBits_54 : decode cX0_givenBits 54 = .ok (.invokevirtual 47, 3) := DX0_givenBits_51.2.1
theorem dX0_givenBits_57 : decode cX0_givenBits 57 = .ok (.invokevirtual 50, 3) := DX0_givenBits_51.2.2.1
theorem dX0_givenBits_60 : decode cX0_givenBits 60 = .ok (.istore 7, 2) := DX0_givenBits_51.2.2.2.1
theorem dX0_givenBits_62 : decode cX0_givenBits 62 = .ok (.iload 7, 2) := DX0_givenBits_51.2.2.2.2.1
theorem dX0_givenBits_64 : decode cX0_givenBits 64 = .ok (.iconst (-1), 1) := DX0_givenBits_51.2.2.2.2.2.1
theorem dX0_givenBits_65 : decode cX0_givenBits 65 = .ok (.if_icmp .eq 12, 3) := DX0_givenBits_51.2.2.2.2.2.2.1
theorem dX0_givenBits_68 : decode cX0_givenBits 68 = .ok (.iload 5, 2) := DX0_givenBits_51.2.2.2.2.2.2.2.1
theorem dX0_givenBits_70 : decode cX0_givenBits 70 = .ok (.iconst 1, 1) := DX0_givenBits_51.2.2.2.2.2.2.2.2.1
theorem dX0_givenBits_71 : decode cX0_givenBits 71 = .ok (.iload 7, 2) := DX0_givenBits_51.2.2.2.2.2.2.2.2.2.1
theorem dX0_givenBits_73 : decode cX0_givenBits 73 = .ok (.ishl, 1) := DX0_givenBits_51.2.2.2.2.2.2.2.2.2.2.1
theorem dX0_givenBits_74 : decode cX0_givenBits 74 = .ok (.ior, 1) := DX0_givenBits_51.2.2.2.2.2.2.2.2.2.2.2.1
theorem dX0_givenBits_75 : decode cX0_givenBits 75 = .ok (.istore 5, 2) := DX0_givenBits_51.2.2.2.2.2.2.2.2.2.2.2.2.1
theorem dX0_givenBits_77 : decode cX0_givenBits 77 = .ok (.iinc 6 1, 3) := DX0_givenBits_51.2.2.2.2.2.2.2.2.2.2.2.2.2.1
theorem dX0_givenBits_80 : decode cX0_givenBits 80 = .ok (.goto (-52), 3) := DX0_givenBits_51.2.2.2.2.2.2.2.2.2.2.2.2.2.2.1
theorem dX0_givenBits_83 : decode cX0_givenBits 83 = .ok (.iload 5, 2) := DX0_givenBits_51.2.2.2.2.2.2.2.2.2.2.2.2.2.2.2.1
theorem dX0_givenBits_85 : decode cX0_givenBits 85 = .ok (.ireturn, 1) := by decide +kernel
theorem mX0_givenBits : gMv yX0_givenBits cX0_givenBits 8 (some .int) RX0 3 := ⟨q460, q461, q5, q462, rfl, by decide, by decide, by decide +kernel⟩
noncomputable def bX0_givenBits_77 (v5 : Int32) (v6 : Int32) : Option ((Int32 × Int32) ⊕ (Int32)) :=
  some (.inl (v5, v6 + 1))
set_option maxRecDepth 100000 in
set_option maxHeartbeats 4000000 in
theorem wbX0_givenBits_77 {z : gZ} {E : gE} {bk : Nat} (F : Fx z sh E "LeapJoin$Figures" cX0_givenBits (gR 2) 8) (B : bZ z bk) (hE : gDist sh E) (k1 : Nat) (k2 : Nat) (v3 : Int32) (v4 : Int32) (v5 : Int32) (v6 : Int32) (hk1 : shX1 k1) (hk2 : shX5 k2) (I : gM) (J : gN) {y : (Int32 × Int32) ⊕ (Int32)} (h : bX0_givenBits_77 v5 v6 = some y) (hl : ∀ s' : Int32 × Int32, y = .inl s' → G z 28 [(1, .ref (E.2.1 k1)), (2, .ref (E.2.1 k2)), (3, .int v3), (4, .int v4), (5, .int (s'.1)), (6, .int (s'.2))] [] I J) (K28_0 : ∀ x : Int32, y = .inr x → G z 83 [(5, .int x)] [] I J) : G z 77 [(1, .ref (E.2.1 k1)), (2, .ref (E.2.1 k2)), (3, .int v3), (4, .int v4), (5, .int v5), (6, .int v6)] [] I J := by
  unfold bX0_givenBits_77 at h
  refine g_iinc (v := v6 + 1) (Ln := [(6, .int (v6 + 1)), (1, .ref (E.2.1 k1)), (2, .ref (E.2.1 k2)), (3, .int v3), (4, .int v4), (5, .int v5)]) F 5 dX0_givenBits_77 rfl (add_c (by decide)) (by decide) rfl ?_
  refine g_goto (tgt := 28) F dX0_givenBits_80 (by decide) ?_
  obtain rfl := Option.some.inj h
  refine g_sub (Ln := [(1, .ref (E.2.1 k1)), (2, .ref (E.2.1 k2)), (3, .int v3), (4, .int v4), (5, .int v5), (6, .int (v6 + 1))]) [1, 2, 3, 4, 5, 0] rfl ?_
  exact hl (v5, v6 + 1) rfl
noncomputable def lX0_givenBits_28 (k1 : Nat) (k2 : Nat) (v3 : Int32) (v4 : Int32) (I : gM) : (Int32 × Int32) → Option (Int32) :=
  itO fun s =>
    if (I k1 0) ≤ s.2 then
      some (.inr s.1)
    else
      if s.1 = v4 then
        some (.inr s.1)
      else
        (fX1_rowAt k1 s.2 I).bind fun r3 =>
        (fX5_rowWithin k2 v3 r3 I).bind fun r4 =>
        (fX5_placeOf k2 v3 r4 I).bind fun r5 =>
        if r5 = (-1) then
          bX0_givenBits_77 s.1 s.2
        else
          bX0_givenBits_77 (s.1 ||| ((1 : Int32) <<< (r5 &&& 31))) s.2
set_option maxRecDepth 100000 in
set_option maxHeartbeats 4000000 in
theorem wlX0_givenBits_28 {z : gZ} {E : gE} {bk : Nat} (F : Fx z sh E "LeapJoin$Figures" cX0_givenBits (gR 2) 8) (B : bZ z bk) (hE : gDist sh E) (k1 : Nat) (k2 : Nat) (v3 : Int32) (v4 : Int32) (hk1 : shX1 k1) (hk2 : shX5 k2) (I : gM) (J : gN) {r : Int32} : ∀ s : Int32 × Int32, lX0_givenBits_28 k1 k2 v3 v4 I s = some r → (G z 83 [(5, .int r)] [] I J) → G z 28 [(1, .ref (E.2.1 k1)), (2, .ref (E.2.1 k2)), (3, .int v3), (4, .int v4), (5, .int s.1), (6, .int s.2)] [] I J := by
  intro s h X0
  unfold lX0_givenBits_28 at h
  revert s
  refine itO_ind (P := fun s : Int32 × Int32 => G z 28 [(1, .ref (E.2.1 k1)), (2, .ref (E.2.1 k2)), (3, .int v3), (4, .int v4), (5, .int s.1), (6, .int s.2)] [] I J) (fun s y h hl hr => ?_)
  have K28_0 : ∀ x : Int32, y = .inr x → (G z 83 [(5, .int x)] [] I J) := fun x q => by have q2 := hr _ q; subst q2; exact X0
  refine g_iload F 5 dX0_givenBits_28 rfl ?_
  refine g_aload_n F 0 dX0_givenBits_30 rfl rfl ?_
  refine g_geti (j := 0) (v := I k1 0) F hk1.1 rfl rfl uX1 (by decide) q78 rfl dX0_givenBits_31 ?_
  refine u_icmp_ge (tgt := 83) F dX0_givenBits_34 (by decide) h (fun h => ?_) (fun h => ?_)
  · obtain rfl := Option.some.inj h
    refine g_sub (Ln := [(5, .int s.1)]) [4] rfl ?_
    exact K28_0 s.1 rfl
  · refine g_iload F 4 dX0_givenBits_37 rfl ?_
    refine g_iload F 3 dX0_givenBits_39 rfl ?_
    refine u_icmp_eq (tgt := 83) F dX0_givenBits_41 (by decide) h (fun h => ?_) (fun h => ?_)
    · obtain rfl := Option.some.inj h
      refine g_sub (Ln := [(5, .int s.1)]) [4] rfl ?_
      exact K28_0 s.1 rfl
    · refine g_aload_n F 1 dX0_givenBits_44 rfl rfl ?_
      refine g_iload_n F 2 dX0_givenBits_45 rfl rfl ?_
      refine g_aload_n F 1 dX0_givenBits_46 rfl rfl ?_
      refine g_iload_n F 2 dX0_givenBits_47 rfl rfl ?_
      refine g_aload_n F 0 dX0_givenBits_48 rfl rfl ?_
      refine g_iload F 5 dX0_givenBits_49 rfl ?_
      refine u_callV (k := k1) (As := [.int s.2]) (rest := [.int v3, .ref (E.2.1 k2), .int v3, .ref (E.2.1 k2)]) (sn := fun r3 => [.int r3, .int v3, .ref (E.2.1 k2), .int v3, .ref (E.2.1 k2)]) F B (fun _ => wX1_rowAt (zl z) E hE bk k1 s.2 hk1 I J) mX1_rowAt q464 rfl hk1.1 rfl rfl rfl (Nat.le_of_ble_eq_true rfl) dX0_givenBits_51 (fun _ => rfl) h (fun r3 h => ?_)
      refine u_callV (k := k2) (As := [.int v3, .int r3]) (rest := [.int v3, .ref (E.2.1 k2)]) (sn := fun r4 => [.int r4, .int v3, .ref (E.2.1 k2)]) F B (fun _ => wX5_rowWithin (zl z) E hE bk k2 v3 r3 hk2 I J) mX5_rowWithin q465 rfl hk2.1 rfl rfl rfl (Nat.le_of_ble_eq_true rfl) dX0_givenBits_54 (fun _ => rfl) h (fun r4 h => ?_)
      refine u_callV (k := k2) (As := [.int v3, .int r4]) (rest := []) (sn := fun r5 => [.int r5]) F B (fun _ => wX5_placeOf (zl z) E hE bk k2 v3 r4 hk2 I J) mX5_placeOf q469 rfl hk2.1 rfl rfl rfl (Nat.le_of_ble_eq_true rfl) dX0_givenBits_57 (fun _ => rfl) h (fun r5 h => ?_)
      refine g_istore (Ln := [(7, .int r5), (1, .ref (E.2.1 k1)), (2, .ref (E.2.1 k2)), (3, .int v3), (4, .int v4), (5, .int s.1), (6, .int s.2)]) F dX0_givenBits_60 (by decide) rfl ?_
      refine g_iload F 0 dX0_givenBits_62 rfl ?_
      refine g_iconst (v := (-1)) F dX0_givenBits_64 (by decide) ?_
      refine u_icmp_eq (tgt := 77) F dX0_givenBits_65 (by decide) h (fun h => ?_) (fun h => ?_)
      · refine g_sub (Ln := [(1, .ref (E.2.1 k1)), (2, .ref (E.2.1 k2)), (3, .int v3), (4, .int v4), (5, .int s.1), (6, .int s.2)]) [1, 2, 3, 4, 5, 6] rfl ?_
        exact wbX0_givenBits_77 F B hE k1 k2 v3 v4 s.1 s.2 hk1 hk2 I J h hl K28_0
      · refine g_iload F 5 dX0_givenBits_68 rfl ?_
        refine g_iconst (v := 1) F dX0_givenBits_70 (by decide) ?_
        refine g_iload F 0 dX0_givenBits_71 rfl ?_
        refine g_ishl (v := (1 : Int32) <<< (r5 &&& 31)) F dX0_givenBits_73 rfl ?_
        refine g_ior (v := s.1 ||| ((1 : Int32) <<< (r5 &&& 31))) F dX0_givenBits_74 rfl ?_
        refine g_istore (Ln := [(5, .int (s.1 ||| ((1 : Int32) <<< (r5 &&& 31)))), (7, .int r5), (1, .ref (E.2.1 k1)), (2, .ref (E.2.1 k2)), (3, .int v3), (4, .int v4), (6, .int s.2)]) F dX0_givenBits_75 (by decide) rfl ?_
        refine g_sub (Ln := [(1, .ref (E.2.1 k1)), (2, .ref (E.2.1 k2)), (3, .int v3), (4, .int v4), (5, .int (s.1 ||| ((1 : Int32) <<< (r5 &&& 31)))), (6, .int s.2)]) [2, 3, 4, 5, 0, 6] rfl ?_
        exact wbX0_givenBits_77 F B hE k1 k2 v3 v4 (s.1 ||| ((1 : Int32) <<< (r5 &&& 31))) s.2 hk1 hk2 I J h hl K28_0
noncomputable def fX0_givenBits (k1 : Nat) (k2 : Nat) (v3 : Int32) (I : gM) : Option (Int32) :=
  (fX5_isUsed k2 v3 I).bind fun r1 =>
  if r1 = 0 then
    some (0 : Int32)
  else
    (rI 4 (I (k2 + 2)) v3).bind fun u2 =>
    (lX0_givenBits_28 k1 k2 v3 (((1 : Int32) <<< (u2 &&& 31)) - 1) I ((0 : Int32), (0 : Int32))).bind fun w6 =>
    some w6
set_option maxRecDepth 100000 in
set_option maxHeartbeats 4000000 in
theorem wX0_givenBits (l : Launch) (E : gE) (hE : gDist sh E) (bk : Nat) (k1 : Nat) (k2 : Nat) (v3 : Int32) (hk1 : shX1 k1) (hk2 : shX5 k2) (I : gM) (J : gN) {r : Int32} (h : fX0_givenBits k1 k2 v3 I = some r) : Cu l sh E bk yX0_givenBits cX0_givenBits 8 (some .int) (gR 2) [.ref (E.2.1 40), .ref (E.2.1 k1), .ref (E.2.1 k2), .int v3] I J (fun r1 I1 J1 => r1 = some (.int r) ∧ I1 = I ∧ J1 = J) := by
  refine Cu.of "LeapJoin$Figures" rfl hE (by decide) (Nat.le_of_ble_eq_true rfl) (fun z F B e hl => ?_)
  subst hl
  unfold fX0_givenBits at h
  refine g_aload_n F 2 dX0_givenBits_0 rfl rfl ?_
  refine g_iload_n F 3 dX0_givenBits_1 rfl rfl ?_
  refine u_callV (k := k2) (As := [.int v3]) (rest := []) (sn := fun r1 => [.int r1]) F B (fun _ => wX5_isUsed (zl z) E hE bk k2 v3 hk2 I J) mX5_isUsed q463 rfl hk2.1 rfl rfl rfl (Nat.le_of_ble_eq_true rfl) dX0_givenBits_2 (fun _ => rfl) h (fun r1 h => ?_)
  refine u_if_ne (tgt := 10) F dX0_givenBits_5 (by decide) h (fun h => ?_) (fun h => ?_)
  · refine g_iconst (v := 0) F dX0_givenBits_8 (by decide) ?_
    obtain rfl := Option.some.inj h
    exact g_iret F e dX0_givenBits_9 ⟨rfl, rfl, rfl⟩
  · refine g_iconst (v := 1) F dX0_givenBits_10 (by decide) ?_
    refine g_aload_n F 2 dX0_givenBits_11 rfl rfl ?_
    refine g_getr (j := 4) (nn := (k2 + 2)) F hk2.1 rfl rfl uX5 (by decide) q59 dX0_givenBits_12 ?_
    refine g_iload_n F 3 dX0_givenBits_15 rfl rfl ?_
    refine u_rI F hk2.2.2.1 (by decide) dX0_givenBits_16 h (fun u2 h => ?_)
    refine g_ishl (v := (1 : Int32) <<< (u2 &&& 31)) F dX0_givenBits_17 rfl ?_
    refine g_iconst (v := 1) F dX0_givenBits_18 (by decide) ?_
    refine g_isub (v := ((1 : Int32) <<< (u2 &&& 31)) - 1) F dX0_givenBits_19 rfl ?_
    refine g_istore (Ln := [(4, .int (((1 : Int32) <<< (u2 &&& 31)) - 1)), (0, .ref (E.2.1 40)), (1, .ref (E.2.1 k1)), (2, .ref (E.2.1 k2)), (3, .int v3)]) F dX0_givenBits_20 (by decide) rfl ?_
    refine g_iconst (v := 0) F dX0_givenBits_22 (by decide) ?_
    refine g_istore (Ln := [(5, .int 0), (4, .int (((1 : Int32) <<< (u2 &&& 31)) - 1)), (0, .ref (E.2.1 40)), (1, .ref (E.2.1 k1)), (2, .ref (E.2.1 k2)), (3, .int v3)]) F dX0_givenBits_23 (by decide) rfl ?_
    refine g_iconst (v := 0) F dX0_givenBits_25 (by decide) ?_
    refine g_istore (Ln := [(6, .int 0), (5, .int 0), (4, .int (((1 : Int32) <<< (u2 &&& 31)) - 1)), (0, .ref (E.2.1 40)), (1, .ref (E.2.1 k1)), (2, .ref (E.2.1 k2)), (3, .int v3)]) F dX0_givenBits_26 (by decide) rfl ?_
    obtain ⟨w6, ew6, h⟩ := ob h
    refine g_sub (Ln := [(1, .ref (E.2.1 k1)), (2, .ref (E.2.1 k2)), (3, .int v3), (4, .int (((1 : Int32) <<< (u2 &&& 31)) - 1)), (5, .int 0), (6, .int 0)]) [4, 5, 6, 2, 1, 0] rfl ?_
    refine wlX0_givenBits_28 F B hE k1 k2 v3 (((1 : Int32) <<< (u2 &&& 31)) - 1) hk1 hk2 I J _ ew6 ?_
    refine g_iload F 0 dX0_givenBits_83 rfl ?_
    obtain rfl := Option.some.inj h
    exact g_iret F e dX0_givenBits_85 ⟨rfl, rfl, rfl⟩
theorem DX0_unlike_0 : dAre cX0_unlike [(0, .iconst 0, 1), (1, .istore_n 3, 1), (2, .iconst 0, 1), (3, .istore 4, 2), (5, .iload 4, 2), (7, .iconst 4, 1), (8, .if_icmp .ge 32, 3), (11, .iload_n 2, 1), (12, .iload 4, 2), (14, .ishr, 1), (15, .iconst 1, 1), (16, .iand, 1), (17, .ifCond .eq 17, 3), (20, .iload_n 3, 1), (21, .bipush 127, 2), (23, .bipush 21, 2)] := dAre0 (by decide +kernel)
theorem dX0_unlike_0 : decode cX0_unlike 0 = .ok (.iconst 0, 1) := DX0_unlike_0.1
theorem dX0_unlike_1 : decode cX0_unlike 1 = .ok (.istore_n 3, 1) := DX0_unlike_0.2.1
theorem dX0_unlike_2 : decode cX0_unlike 2 = .ok (.iconst 0, 1) := DX0_unlike_0.2.2.1
theorem dX0_unlike_3 : decode cX0_unlike 3 = .ok (.istore 4, 2) := DX0_unlike_0.2.2.2.1
theorem dX0_unlike_5 : decode cX0_unlike 5 = .ok (.iload 4, 2) := DX0_unlike_0.2.2.2.2.1
theorem dX0_unlike_7 : decode cX0_unlike 7 = .ok (.iconst 4, 1) := DX0_unlike_0.2.2.2.2.2.1
theorem dX0_unlike_8 : decode cX0_unlike 8 = .ok (.if_icmp .ge 32, 3) := DX0_unlike_0.2.2.2.2.2.2.1
theorem dX0_unlike_11 : decode cX0_unlike 11 = .ok (.iload_n 2, 1) := DX0_unlike_0.2.2.2.2.2.2.2.1
theorem dX0_unlike_12 : decode cX0_unlike 12 = .ok (.iload 4, 2) := DX0_unlike_0.2.2.2.2.2.2.2.2.1
theorem dX0_unlike_14 : decode cX0_unlike 14 = .ok (.ishr, 1) := DX0_unlike_0.2.2.2.2.2.2.2.2.2.1
theorem dX0_unlike_15 : decode cX0_unlike 15 = .ok (.iconst 1, 1) := DX0_unlike_0.2.2.2.2.2.2.2.2.2.2.1
theorem dX0_unlike_16 : decode cX0_unlike 16 = .ok (.iand, 1) := DX0_unlike_0.2.2.2.2.2.2.2.2.2.2.2.1
theorem dX0_unlike_17 : decode cX0_unlike 17 = .ok (.ifCond .eq 17, 3) := DX0_unlike_0.2.2.2.2.2.2.2.2.2.2.2.2.1
theorem dX0_unlike_20 : decode cX0_unlike 20 = .ok (.iload_n 3, 1) := DX0_unlike_0.2.2.2.2.2.2.2.2.2.2.2.2.2.1
theorem dX0_unlike_21 : decode cX0_unlike 21 = .ok (.bipush 127, 2) := DX0_unlike_0.2.2.2.2.2.2.2.2.2.2.2.2.2.2.1
theorem dX0_unlike_23 : decode cX0_unlike 23 = .ok (.bipush 21, 2) := DX0_unlike_0.2.2.2.2.2.2.2.2.2.2.2.2.2.2.2.1
theorem DX0_unlike_25 : dAre cX0_unlike [(25, .bipush 7, 2), (27, .iload 4, 2), (29, .imul, 1), (30, .isub, 1), (31, .ishl, 1), (32, .ior, 1), (33, .istore_n 3, 1), (34, .iinc 4 1, 3), (37, .goto (-32), 3), (40, .iconst 0, 1), (41, .istore 4, 2), (43, .iconst 0, 1), (44, .istore 5, 2), (46, .iload 5, 2), (48, .aload_n 1, 1), (49, .getfield 24, 3)] := dAre0 (by decide +kernel)
theorem dX0_unlike_25 : decode cX0_unlike 25 = .ok (.bipush 7, 2) := DX0_unlike_25.1
theorem dX0_unlike_27 : decode cX0_unlike 27 = .ok (.iload 4, 2) := DX0_unlike_25.2.1
theorem dX0_unlike_29 : decode cX0_unlike 29 = .ok (.imul, 1) := DX0_unlike_25.2.2.1
theorem dX0_unlike_30 : decode cX0_unlike 30 = .ok (.isub, 1) := DX0_unlike_25.2.2.2.1
theorem dX0_unlike_31 : decode cX0_unlike 31 = .ok (.ishl, 1) := DX0_unlike_25.2.2.2.2.1
theorem dX0_unlike_32 : decode cX0_unlike 32 = .ok (.ior, 1) := DX0_unlike_25.2.2.2.2.2.1
theorem dX0_unlike_33 : decode cX0_unlike 33 = .ok (.istore_n 3, 1) := DX0_unlike_25.2.2.2.2.2.2.1
theorem dX0_unlike_34 : decode cX0_unlike 34 = .ok (.iinc 4 1, 3) := DX0_unlike_25.2.2.2.2.2.2.2.1
theorem dX0_unlike_37 : decode cX0_unlike 37 = .ok (.goto (-32), 3) := DX0_unlike_25.2.2.2.2.2.2.2.2.1
theorem dX0_unlike_40 : decode cX0_unlike 40 = .ok (.iconst 0, 1) := DX0_unlike_25.2.2.2.2.2.2.2.2.2.1
theorem dX0_unlike_41 : decode cX0_unlike 41 = .ok (.istore 4, 2) := DX0_unlike_25.2.2.2.2.2.2.2.2.2.2.1
theorem dX0_unlike_43 : decode cX0_unlike 43 = .ok (.iconst 0, 1) := DX0_unlike_25.2.2.2.2.2.2.2.2.2.2.2.1
theorem dX0_unlike_44 : decode cX0_unlike 44 = .ok (.istore 5, 2) := DX0_unlike_25.2.2.2.2.2.2.2.2.2.2.2.2.1
theorem dX0_unlike_46 : decode cX0_unlike 46 = .ok (.iload 5, 2) := DX0_unlike_25.2.2.2.2.2.2.2.2.2.2.2.2.2.1
theorem dX0_unlike_48 : decode cX0_unlike 48 = .ok (.aload_n 1, 1) := DX0_unlike_25.2.2.2.2.2.2.2.2.2.2.2.2.2.2.1
theorem dX0_unlike_49 : decode cX0_unlike 49 = .ok (.getfield 24, 3) := DX0_unlike_25.2.2.2.2.2.2.2.2.2.2.2.2.2.2.2.1
theorem DX0_unlike_52 : dAre cX0_unlike [(52, .if_icmp .ge 38, 3), (55, .iload 5, 2), (57, .ifCond .eq 24, 3), (60, .aload_n 1, 1), (61, .iload 5, 2), (63, .invokevirtual 43, 3), (66, .iload_n 3, 1), (67, .iand, 1), (68, .aload_n 1, 1), (69, .iload 5, 2), (71, .iconst 1, 1), (72, .isub, 1), (73, .invokevirtual 43, 3), (76, .iload_n 3, 1), (77, .iand, 1), (78, .if_icmp .eq 6, 3)] := dAre0 (by decide +kernel)
theorem dX0_unlike_52 : decode cX0_unlike 52 = .ok (.if_icmp .ge 38, 3) := DX0_unlike_52.1
theorem dX0_unlike_55 : decode cX0_unlike 55 = .ok (.iload 5, 2) := DX0_unlike_52.2.1
theorem dX0_unlike_57 : decode cX0_unlike 57 = .ok (.ifCond .eq 24, 3) := DX0_unlike_52.2.2.1
theorem dX0_unlike_60 : decode cX0_unlike 60 = .ok (.aload_n 1, 1) := DX0_unlike_52.2.2.2.1
theorem dX0_unlike_61 : decode cX0_unlike 61 = .ok (.iload 5, 2) := DX0_unlike_52.2.2.2.2.1
theorem dX0_unlike_63 : decode cX0_unlike 63 = .ok (.invokevirtual 43, 3) := DX0_unlike_52.2.2.2.2.2.1
theorem dX0_unlike_66 : decode cX0_unlike 66 = .ok (.iload_n 3, 1) := DX0_unlike_52.2.2.2.2.2.2.1
theorem dX0_unlike_67 : decode cX0_unlike 67 = .ok (.iand, 1) := DX0_unlike_52.2.2.2.2.2.2.2.1
theorem dX0_unlike_68 : decode cX0_unlike 68 = .ok (.aload_n 1, 1) := DX0_unlike_52.2.2.2.2.2.2.2.2.1
theorem dX0_unlike_69 : decode cX0_unlike 69 = .ok (.iload 5, 2) := DX0_unlike_52.2.2.2.2.2.2.2.2.2.1
theorem dX0_unlike_71 : decode cX0_unlike 71 = .ok (.iconst 1, 1) := DX0_unlike_52.2.2.2.2.2.2.2.2.2.2.1
theorem dX0_unlike_72 : decode cX0_unlike 72 = .ok (.isub, 1) := DX0_unlike_52.2.2.2.2.2.2.2.2.2.2.2.1
theorem dX0_unlike_73 : decode cX0_unlike 73 = .ok (.invokevirtual 43, 3) := DX0_unlike_52.2.2.2.2.2.2.2.2.2.2.2.2.1
theorem dX0_unlike_76 : decode cX0_unlike 76 = .ok (.iload_n 3, 1) := DX0_unlike_52.2.2.2.2.2.2.2.2.2.2.2.2.2.1
theorem dX0_unlike_77 : decode cX0_unlike 77 = .ok (.iand, 1) := DX0_unlike_52.2.2.2.2.2.2.2.2.2.2.2.2.2.2.1
theorem dX0_unlike_78 : decode cX0_unlike 78 = .ok (.if_icmp .eq 6, 3) := DX0_unlike_52.2.2.2.2.2.2.2.2.2.2.2.2.2.2.2.1
theorem DX0_unlike_81 : dAre cX0_unlike [(81, .iinc 4 1, 3), (84, .iinc 5 1, 3), (87, .goto (-41), 3), (90, .iload 4, 2), (92, .ireturn, 1)] := dAre0 (by decide +kernel)
theorem dX0_unlike_81 : decode cX0_unlike 81 = .ok (.iinc 4 1, 3) := DX0_unlike_81.1
theorem dX0_unlike_84 : decode cX0_unlike 84 = .ok (.iinc 5 1, 3) := DX0_unlike_81.2.1
theorem dX0_unlike_87 : decode cX0_unlike 87 = .ok (.goto (-41), 3) := DX0_unlike_81.2.2.1
theorem dX0_unlike_90 : decode cX0_unlike 90 = .ok (.iload 4, 2) := DX0_unlike_81.2.2.2.1
theorem dX0_unlike_92 : decode cX0_unlike 92 = .ok (.ireturn, 1) := DX0_unlike_81.2.2.2.2.1
theorem mX0_unlike : gMv yX0_unlike cX0_unlike 6 (some .int) RX0 2 := ⟨q483, q484, q5, q485, rfl, by decide, by decide, by decide +kernel⟩
noncomputable def bX0_unlike_34 (v3 : Int32) (v4 : Int32) : Option ((Int32 × Int32) ⊕ (Int32)) :=
  some (.inl (v3, v4 + 1))
set_option maxRecDepth 100000 in
set_option maxHeartbeats 4000000 in
theorem wbX0_unlike_34 {z : gZ} {E : gE} {bk : Nat} (F : Fx z sh E "LeapJoin$Figures" cX0_unlike (gR 1) 6) (B : bZ z bk) (hE : gDist sh E) (k1 : Nat) (v2 : Int32) (v3 : Int32) (v4 : Int32) (hk1 : shX1 k1) (I : gM) (J : gN) {y : (Int32 × Int32) ⊕ (Int32)} (h : bX0_unlike_34 v3 v4 = some y) (hl : ∀ s' : Int32 × Int32, y = .inl s' → G z 5 [(1, .ref (E.2.1 k1)), (2, .int v2), (3, .int (s'.1)), (4, .int (s'.2))] [] I J) (K5_0 : ∀ x : Int32, y = .inr x → G z 40 [(1, .ref (E.2.1 k1)), (3, .int x)] [] I J) : G z 34 [(1, .ref (E.2.1 k1)), (2, .int v2), (3, .int v3), (4, .int v4)] [] I J := by
  unfold bX0_unlike_34 at h
  refine g_iinc (v := v4 + 1) (Ln := [(4, .int (v4 + 1)), (1, .ref (E.2.1 k1)), (2, .int v2), (3, .int v3)]) F 3 dX0_unlike_34 rfl (add_c (by decide)) (by decide) rfl ?_
  refine g_goto (tgt := 5) F dX0_unlike_37 (by decide) ?_
  obtain rfl := Option.some.inj h
  refine g_sub (Ln := [(1, .ref (E.2.1 k1)), (2, .int v2), (3, .int v3), (4, .int (v4 + 1))]) [1, 2, 3, 0] rfl ?_
  exact hl (v3, v4 + 1) rfl
noncomputable def lX0_unlike_5 (v2 : Int32) : (Int32 × Int32) → Option (Int32) :=
  itO fun s =>
    if (4 : Int32) ≤ s.2 then
      some (.inr s.1)
    else
      if ((v2 >>> (s.2 &&& 31)) &&& 1) = 0 then
        bX0_unlike_34 s.1 s.2
      else
        bX0_unlike_34 (s.1 ||| ((127 : Int32) <<< (((21 : Int32) - ((7 : Int32) * s.2)) &&& 31))) s.2
set_option maxRecDepth 100000 in
set_option maxHeartbeats 4000000 in
theorem wlX0_unlike_5 {z : gZ} {E : gE} {bk : Nat} (F : Fx z sh E "LeapJoin$Figures" cX0_unlike (gR 1) 6) (B : bZ z bk) (hE : gDist sh E) (k1 : Nat) (v2 : Int32) (hk1 : shX1 k1) (I : gM) (J : gN) {r : Int32} : ∀ s : Int32 × Int32, lX0_unlike_5 v2 s = some r → (G z 40 [(1, .ref (E.2.1 k1)), (3, .int r)] [] I J) → G z 5 [(1, .ref (E.2.1 k1)), (2, .int v2), (3, .int s.1), (4, .int s.2)] [] I J := by
  intro s h X0
  unfold lX0_unlike_5 at h
  revert s
  refine itO_ind (P := fun s : Int32 × Int32 => G z 5 [(1, .ref (E.2.1 k1)), (2, .int v2), (3, .int s.1), (4, .int s.2)] [] I J) (fun s y h hl hr => ?_)
  have K5_0 : ∀ x : Int32, y = .inr x → (G z 40 [(1, .ref (E.2.1 k1)), (3, .int x)] [] I J) := fun x q => by have q2 := hr _ q; subst q2; exact X0
  refine g_iload F 3 dX0_unlike_5 rfl ?_
  refine g_iconst (v := 4) F dX0_unlike_7 (by decide) ?_
  refine u_icmp_ge (tgt := 40) F dX0_unlike_8 (by decide) h (fun h => ?_) (fun h => ?_)
  · obtain rfl := Option.some.inj h
    refine g_sub (Ln := [(1, .ref (E.2.1 k1)), (3, .int s.1)]) [0, 2] rfl ?_
    exact K5_0 s.1 rfl
  · refine g_iload_n F 1 dX0_unlike_11 rfl rfl ?_
    refine g_iload F 3 dX0_unlike_12 rfl ?_
    refine g_ishr (v := v2 >>> (s.2 &&& 31)) F dX0_unlike_14 rfl ?_
    refine g_iconst (v := 1) F dX0_unlike_15 (by decide) ?_
    refine g_iand (v := (v2 >>> (s.2 &&& 31)) &&& 1) F dX0_unlike_16 rfl ?_
    refine u_if_eq (tgt := 34) F dX0_unlike_17 (by decide) h (fun h => ?_) (fun h => ?_)
    · refine g_sub (Ln := [(1, .ref (E.2.1 k1)), (2, .int v2), (3, .int s.1), (4, .int s.2)]) [0, 1, 2, 3] rfl ?_
      exact wbX0_unlike_34 F B hE k1 v2 s.1 s.2 hk1 I J h hl K5_0
    · refine g_iload_n F 2 dX0_unlike_20 rfl rfl ?_
      refine g_bipush (v := 127) F dX0_unlike_21 (by decide) ?_
      refine g_bipush (v := 21) F dX0_unlike_23 (by decide) ?_
      refine g_bipush (v := 7) F dX0_unlike_25 (by decide) ?_
      refine g_iload F 3 dX0_unlike_27 rfl ?_
      refine g_imul (v := (7 : Int32) * s.2) F dX0_unlike_29 rfl ?_
      refine g_isub (v := (21 : Int32) - ((7 : Int32) * s.2)) F dX0_unlike_30 rfl ?_
      refine g_ishl (v := (127 : Int32) <<< (((21 : Int32) - ((7 : Int32) * s.2)) &&& 31)) F dX0_unlike_31 rfl ?_
      refine g_ior (v := s.1 ||| ((127 : Int32) <<< (((21 : Int32) - ((7 : Int32) * s.2)) &&& 31))) F dX0_unlike_32 rfl ?_
      refine g_istore_n (Ln := [(3, .int (s.1 ||| ((127 : Int32) <<< (((21 : Int32) - ((7 : Int32) * s.2)) &&& 31)))), (1, .ref (E.2.1 k1)), (2, .int v2), (4, .int s.2)]) F dX0_unlike_33 rfl (by decide) rfl ?_
      refine g_sub (Ln := [(1, .ref (E.2.1 k1)), (2, .int v2), (3, .int (s.1 ||| ((127 : Int32) <<< (((21 : Int32) - ((7 : Int32) * s.2)) &&& 31)))), (4, .int s.2)]) [1, 2, 0, 3] rfl ?_
      exact wbX0_unlike_34 F B hE k1 v2 (s.1 ||| ((127 : Int32) <<< (((21 : Int32) - ((7 : Int32) * s.2)) &&& 31))) s.2 hk1 I J h hl K5_0
noncomputable def bX0_unlike_84 (v4 : Int32) (v5 : Int32) : Option ((Int32 × Int32) ⊕ (Int32)) :=
  some (.inl (v4, v5 + 1))
set_option maxRecDepth 100000 in
set_option maxHeartbeats 4000000 in
theorem wbX0_unlike_84 {z : gZ} {E : gE} {bk : Nat} (F : Fx z sh E "LeapJoin$Figures" cX0_unlike (gR 1) 6) (B : bZ z bk) (hE : gDist sh E) (k1 : Nat) (v3 : Int32) (v4 : Int32) (v5 : Int32) (hk1 : shX1 k1) (I : gM) (J : gN) {y : (Int32 × Int32) ⊕ (Int32)} (h : bX0_unlike_84 v4 v5 = some y) (hl : ∀ s' : Int32 × Int32, y = .inl s' → G z 46 [(1, .ref (E.2.1 k1)), (3, .int v3), (4, .int (s'.1)), (5, .int (s'.2))] [] I J) (K46_0 : ∀ x : Int32, y = .inr x → G z 90 [(4, .int x)] [] I J) : G z 84 [(1, .ref (E.2.1 k1)), (3, .int v3), (4, .int v4), (5, .int v5)] [] I J := by
  unfold bX0_unlike_84 at h
  refine g_iinc (v := v5 + 1) (Ln := [(5, .int (v5 + 1)), (1, .ref (E.2.1 k1)), (3, .int v3), (4, .int v4)]) F 3 dX0_unlike_84 rfl (add_c (by decide)) (by decide) rfl ?_
  refine g_goto (tgt := 46) F dX0_unlike_87 (by decide) ?_
  obtain rfl := Option.some.inj h
  refine g_sub (Ln := [(1, .ref (E.2.1 k1)), (3, .int v3), (4, .int v4), (5, .int (v5 + 1))]) [1, 2, 3, 0] rfl ?_
  exact hl (v4, v5 + 1) rfl
noncomputable def bX0_unlike_81 (v4 : Int32) (v5 : Int32) : Option ((Int32 × Int32) ⊕ (Int32)) :=
  bX0_unlike_84 (v4 + 1) v5
set_option maxRecDepth 100000 in
set_option maxHeartbeats 4000000 in
theorem wbX0_unlike_81 {z : gZ} {E : gE} {bk : Nat} (F : Fx z sh E "LeapJoin$Figures" cX0_unlike (gR 1) 6) (B : bZ z bk) (hE : gDist sh E) (k1 : Nat) (v3 : Int32) (v4 : Int32) (v5 : Int32) (hk1 : shX1 k1) (I : gM) (J : gN) {y : (Int32 × Int32) ⊕ (Int32)} (h : bX0_unlike_81 v4 v5 = some y) (hl : ∀ s' : Int32 × Int32, y = .inl s' → G z 46 [(1, .ref (E.2.1 k1)), (3, .int v3), (4, .int (s'.1)), (5, .int (s'.2))] [] I J) (K46_0 : ∀ x : Int32, y = .inr x → G z 90 [(4, .int x)] [] I J) : G z 81 [(1, .ref (E.2.1 k1)), (3, .int v3), (4, .int v4), (5, .int v5)] [] I J := by
  unfold bX0_unlike_81 at h
  refine g_iinc (v := v4 + 1) (Ln := [(4, .int (v4 + 1)), (1, .ref (E.2.1 k1)), (3, .int v3), (5, .int v5)]) F 2 dX0_unlike_81 rfl (add_c (by decide)) (by decide) rfl ?_
  refine g_sub (Ln := [(1, .ref (E.2.1 k1)), (3, .int v3), (4, .int (v4 + 1)), (5, .int v5)]) [1, 2, 0, 3] rfl ?_
  exact wbX0_unlike_84 F B hE k1 v3 (v4 + 1) v5 hk1 I J h hl K46_0
noncomputable def lX0_unlike_46 (k1 : Nat) (v3 : Int32) (I : gM) : (Int32 × Int32) → Option (Int32) :=
  itO fun s =>
    if (I k1 0) ≤ s.2 then
      some (.inr s.1)
    else
      if s.2 = 0 then
        bX0_unlike_81 s.1 s.2
      else
        (fX1_rowAt k1 s.2 I).bind fun r2 =>
        (fX1_rowAt k1 (s.2 - 1) I).bind fun r3 =>
        if (r2 &&& v3) = (r3 &&& v3) then
          bX0_unlike_84 s.1 s.2
        else
          bX0_unlike_81 s.1 s.2
set_option maxRecDepth 100000 in
set_option maxHeartbeats 4000000 in
theorem wlX0_unlike_46 {z : gZ} {E : gE} {bk : Nat} (F : Fx z sh E "LeapJoin$Figures" cX0_unlike (gR 1) 6) (B : bZ z bk) (hE : gDist sh E) (k1 : Nat) (v3 : Int32) (hk1 : shX1 k1) (I : gM) (J : gN) {r : Int32} : ∀ s : Int32 × Int32, lX0_unlike_46 k1 v3 I s = some r → (G z 90 [(4, .int r)] [] I J) → G z 46 [(1, .ref (E.2.1 k1)), (3, .int v3), (4, .int s.1), (5, .int s.2)] [] I J := by
  intro s h X0
  unfold lX0_unlike_46 at h
  revert s
  refine itO_ind (P := fun s : Int32 × Int32 => G z 46 [(1, .ref (E.2.1 k1)), (3, .int v3), (4, .int s.1), (5, .int s.2)] [] I J) (fun s y h hl hr => ?_)
  have K46_0 : ∀ x : Int32, y = .inr x → (G z 90 [(4, .int x)] [] I J) := fun x q => by have q2 := hr _ q; subst q2; exact X0
  refine g_iload F 3 dX0_unlike_46 rfl ?_
  refine g_aload_n F 0 dX0_unlike_48 rfl rfl ?_
  refine g_geti (j := 0) (v := I k1 0) F hk1.1 rfl rfl uX1 (by decide) q78 rfl dX0_unlike_49 ?_
  refine u_icmp_ge (tgt := 90) F dX0_unlike_52 (by decide) h (fun h => ?_) (fun h => ?_)
  · obtain rfl := Option.some.inj h
    refine g_sub (Ln := [(4, .int s.1)]) [2] rfl ?_
    exact K46_0 s.1 rfl
  · refine g_iload F 3 dX0_unlike_55 rfl ?_
    refine u_if_eq (tgt := 81) F dX0_unlike_57 (by decide) h (fun h => ?_) (fun h => ?_)
    · refine g_sub (Ln := [(1, .ref (E.2.1 k1)), (3, .int v3), (4, .int s.1), (5, .int s.2)]) [0, 1, 2, 3] rfl ?_
      exact wbX0_unlike_81 F B hE k1 v3 s.1 s.2 hk1 I J h hl K46_0
    · refine g_aload_n F 0 dX0_unlike_60 rfl rfl ?_
      refine g_iload F 3 dX0_unlike_61 rfl ?_
      refine u_callV (k := k1) (As := [.int s.2]) (rest := []) (sn := fun r2 => [.int r2]) F B (fun _ => wX1_rowAt (zl z) E hE bk k1 s.2 hk1 I J) mX1_rowAt q464 rfl hk1.1 rfl rfl rfl (Nat.le_of_ble_eq_true rfl) dX0_unlike_63 (fun _ => rfl) h (fun r2 h => ?_)
      refine g_iload_n F 1 dX0_unlike_66 rfl rfl ?_
      refine g_iand (v := r2 &&& v3) F dX0_unlike_67 rfl ?_
      refine g_aload_n F 0 dX0_unlike_68 rfl rfl ?_
      refine g_iload F 3 dX0_unlike_69 rfl ?_
      refine g_iconst (v := 1) F dX0_unlike_71 (by decide) ?_
      refine g_isub (v := s.2 - 1) F dX0_unlike_72 rfl ?_
      refine u_callV (k := k1) (As := [.int (s.2 - 1)]) (rest := [.int (r2 &&& v3)]) (sn := fun r3 => [.int r3, .int (r2 &&& v3)]) F B (fun _ => wX1_rowAt (zl z) E hE bk k1 (s.2 - 1) hk1 I J) mX1_rowAt q464 rfl hk1.1 rfl rfl rfl (Nat.le_of_ble_eq_true rfl) dX0_unlike_73 (fun _ => rfl) h (fun r3 h => ?_)
      refine g_iload_n F 1 dX0_unlike_76 rfl rfl ?_
      refine g_iand (v := r3 &&& v3) F dX0_unlike_77 rfl ?_
      refine u_icmp_eq (tgt := 84) F dX0_unlike_78 (by decide) h (fun h => ?_) (fun h => ?_)
      · refine g_sub (Ln := [(1, .ref (E.2.1 k1)), (3, .int v3), (4, .int s.1), (5, .int s.2)]) [0, 1, 2, 3] rfl ?_
        exact wbX0_unlike_84 F B hE k1 v3 s.1 s.2 hk1 I J h hl K46_0
      · refine g_sub (Ln := [(1, .ref (E.2.1 k1)), (3, .int v3), (4, .int s.1), (5, .int s.2)]) [0, 1, 2, 3] rfl ?_
        exact wbX0_unlike_81 F B hE k1 v3 s.1 s.2 hk1 I J h hl K46_0
noncomputable def fX0_unlike (k1 : Nat) (v2 : Int32) (I : gM) : Option (Int32) :=
  (lX0_unlike_5 v2 ((0 : Int32), (0 : Int32))).bind fun w1 =>
  (lX0_unlike_46 k1 w1 I ((0 : Int32), (0 : Int32))).bind fun w4 =>
  some w4
set_option maxRecDepth 100000 in
set_option maxHeartbeats 4000000 in
theorem wX0_unlike (l : Launch) (E : gE) (hE : gDist sh E) (bk : Nat) (k1 : Nat) (v2 : Int32) (hk1 : shX1 k1) (I : gM) (J : gN) {r : Int32} (h : fX0_unlike k1 v2 I = some r) : Cu l sh E bk yX0_unlike cX0_unlike 6 (some .int) (gR 1) [.ref (E.2.1 40), .ref (E.2.1 k1), .int v2] I J (fun r1 I1 J1 => r1 = some (.int r) ∧ I1 = I ∧ J1 = J) := by
  refine Cu.of "LeapJoin$Figures" rfl hE (by decide) (Nat.le_of_ble_eq_true rfl) (fun z F B e hl => ?_)
  subst hl
  unfold fX0_unlike at h
  refine g_iconst (v := 0) F dX0_unlike_0 (by decide) ?_
  refine g_istore_n (Ln := [(3, .int 0), (0, .ref (E.2.1 40)), (1, .ref (E.2.1 k1)), (2, .int v2)]) F dX0_unlike_1 rfl (by decide) rfl ?_
  refine g_iconst (v := 0) F dX0_unlike_2 (by decide) ?_
  refine g_istore (Ln := [(4, .int 0), (3, .int 0), (0, .ref (E.2.1 40)), (1, .ref (E.2.1 k1)), (2, .int v2)]) F dX0_unlike_3 (by decide) rfl ?_
  obtain ⟨w1, ew1, h⟩ := ob h
  refine g_sub (Ln := [(1, .ref (E.2.1 k1)), (2, .int v2), (3, .int 0), (4, .int 0)]) [3, 4, 1, 0] rfl ?_
  refine wlX0_unlike_5 F B hE k1 v2 hk1 I J _ ew1 ?_
  refine g_iconst (v := 0) F dX0_unlike_40 (by decide) ?_
  refine g_istore (Ln := [(4, .int 0), (1, .ref (E.2.1 k1)), (3, .int w1)]) F dX0_unlike_41 (by decide) rfl ?_
  refine g_iconst (v := 0) F dX0_unlike_43 (by decide) ?_
  refine g_istore (Ln := [(5, .int 0), (4, .int 0), (1, .ref (E.2.1 k1)), (3, .int w1)]) F dX0_unlike_44 (by decide) rfl ?_
  obtain ⟨w4, ew4, h⟩ := ob h
  refine g_sub (Ln := [(1, .ref (E.2.1 k1)), (3, .int w1), (4, .int 0), (5, .int 0)]) [2, 3, 1, 0] rfl ?_
  refine wlX0_unlike_46 F B hE k1 w1 hk1 I J _ ew4 ?_
  refine g_iload F 0 dX0_unlike_90 rfl ?_
  obtain rfl := Option.some.inj h
  exact g_iret F e dX0_unlike_92 ⟨rfl, rfl, rfl⟩
theorem DX0_isTold_0 : dAre cX0_isTold [(0, .aload_n 0, 1), (1, .getfield 15, 3), (4, .iconst (-1), 1), (5, .invokestatic 18, 3), (8, .iconst 0, 1), (9, .istore 4, 2), (11, .iload 4, 2), (13, .aload_n 1, 1), (14, .getfield 24, 3), (17, .if_icmp .ge 68, 3), (20, .aload_n 1, 1), (21, .iload 4, 2), (23, .iload_n 2, 1), (24, .invokevirtual 30, 3), (27, .istore 5, 2), (29, .aload_n 1, 1)] := dAre0 (by decide +kernel)
theorem dX0_isTold_0 : decode cX0_isTold 0 = .ok (.aload_n 0, 1) := DX0_isTold_0.1
theorem dX0_isTold_1 : decode cX0_isTold 1 = .ok (.getfield 15, 3) := DX0_isTold_0.2.1
theorem dX0_isTold_4 : decode cX0_isTold 4 = .ok (.iconst (-1), 1) := DX0_isTold_0.2.2.1
theorem dX0_isTold_5 : decode cX0_isTold 5 = .ok (.invokestatic 18, 3) := DX0_isTold_0.2.2.2.1
theorem dX0_isTold_8 : decode cX0_isTold 8 = .ok (.iconst 0, 1) := DX0_isTold_0.2.2.2.2.1
theorem dX0_isTold_9 : decode cX0_isTold 9 = .ok (.istore 4, 2) := DX0_isTold_0.2.2.2.2.2.1
theorem dX0_isTold_11 : decode cX0_isTold 11 = .ok (.iload 4, 2) := DX0_isTold_0.2.2.2.2.2.2.1
theorem dX0_isTold_13 : decode cX0_isTold 13 = .ok (.aload_n 1, 1) := DX0_isTold_0.2.2.2.2.2.2.2.1
theorem dX0_isTold_14 : decode cX0_isTold 14 = .ok (.getfield 24, 3) := DX0_isTold_0.2.2.2.2.2.2.2.2.1
theorem dX0_isTold_17 : decode cX0_isTold 17 = .ok (.if_icmp .ge 68, 3) := DX0_isTold_0.2.2.2.2.2.2.2.2.2.1
theorem dX0_isTold_20 : decode cX0_isTold 20 = .ok (.aload_n 1, 1) := DX0_isTold_0.2.2.2.2.2.2.2.2.2.2.1
theorem dX0_isTold_21 : decode cX0_isTold 21 = .ok (.iload 4, 2) := DX0_isTold_0.2.2.2.2.2.2.2.2.2.2.2.1
theorem dX0_isTold_23 : decode cX0_isTold 23 = .ok (.iload_n 2, 1) := DX0_isTold_0.2.2.2.2.2.2.2.2.2.2.2.2.1
theorem dX0_isTold_24 : decode cX0_isTold 24 = .ok (.invokevirtual 30, 3) := DX0_isTold_0.2.2.2.2.2.2.2.2.2.2.2.2.2.1
theorem dX0_isTold_27 : decode cX0_isTold 27 = .ok (.istore 5, 2) := DX0_isTold_0.2.2.2.2.2.2.2.2.2.2.2.2.2.2.1
theorem dX0_isTold_29 : decode cX0_isTold 29 = .ok (.aload_n 1, 1) := DX0_isTold_0.2.2.2.2.2.2.2.2.2.2.2.2.2.2.2.1
theorem DX0_isTold_30 : dAre cX0_isTold [(30, .iload 4, 2), (32, .iload_n 3, 1), (33, .invokevirtual 30, 3), (36, .istore 6, 2), (38, .iload 5, 2), (40, .bipush 100, 2), (42, .if_icmp .ge 26, 3), (45, .aload_n 0, 1), (46, .getfield 15, 3), (49, .iload 5, 2), (51, .iaload, 1), (52, .iconst (-1), 1), (53, .if_icmp .eq 17, 3), (56, .aload_n 0, 1), (57, .getfield 15, 3), (60, .iload 5, 2)] := dAre0 (by decide +kernel)
theorem dX0_isTold_30 : decode cX0_isTold 30 = .ok (.iload 4, 2) := DX0_isTold_30.1
theorem dX0_isTold_32 : decode cX0_isTold 32 = .ok (.iload_n 3, 1) := DX0_isTold_30.2.1
theorem dX0_isTold_33 : decode cX0_isTold 33 = .ok (.invokevirtual 30, 3) := DX0_isTold_30.2.2.1
theorem dX0_isTold_36 : decode cX0_isTold 36 = .ok (.istore 6, 2) := DX0_isTold_30.2.2.2.1
theorem dX0_isTold_38 : decode cX0_isTold 38 = .ok (.iload 5, 2) := DX0_isTold_30.2.2.2.2.1
theorem dX0_isTold_40 : decode cX0_isTold 40 = .ok (.bipush 100, 2) := DX0_isTold_30.2.2.2.2.2.1
theorem dX0_isTold_42 : decode cX0_isTold 42 = .ok (.if_icmp .ge 26, 3) := DX0_isTold_30.2.2.2.2.2.2.1
theorem dX0_isTold_45 : decode cX0_isTold 45 = .ok (.aload_n 0, 1) := DX0_isTold_30.2.2.2.2.2.2.2.1
theorem dX0_isTold_46 : decode cX0_isTold 46 = .ok (.getfield 15, 3) := DX0_isTold_30.2.2.2.2.2.2.2.2.1
theorem dX0_isTold_49 : decode cX0_isTold 49 = .ok (.iload 5, 2) := DX0_isTold_30.2.2.2.2.2.2.2.2.2.1
theorem dX0_isTold_51 : decode cX0_isTold 51 = .ok (.iaload, 1) := DX0_isTold_30.2.2.2.2.2.2.2.2.2.2.1
theorem dX0_isTold_52 : decode cX0_isTold 52 = .ok (.iconst (-1), 1) := DX0_isTold_30.2.2.2.2.2.2.2.2.2.2.2.1
theorem dX0_isTold_53 : decode cX0_isTold 53 = .ok (.if_icmp .eq 17, 3) := DX0_isTold_30.2.2.2.2.2.2.2.2.2.2.2.2.1
theorem dX0_isTold_56 : decode cX0_isTold 56 = .ok (.aload_n 0, 1) := DX0_isTold_30.2.2.2.2.2.2.2.2.2.2.2.2.2.1
theorem dX0_isTold_57 : decode cX0_isTold 57 = .ok (.getfield 15, 3) := DX0_isTold_30.2.2.2.2.2.2.2.2.2.2.2.2.2.2.1
theorem dX0_isTold_60 : decode cX0_isTold 60 = .ok (.iload 5, 2) := DX0_isTold_30.2.2.2.2.2.2.2.2.2.2.2.2.2.2.2.1
theorem DX0_isTold_62 : dAre cX0_isTold [(62, .iaload, 1), (63, .iload 6, 2), (65, .if_icmp .eq 5, 3), (68, .iconst 0, 1), (69, .ireturn, 1), (70, .aload_n 0, 1), (71, .getfield 15, 3), (74, .iload 5, 2), (76, .iload 6, 2), (78, .iastore, 1), (79, .iinc 4 1, 3), (82, .goto (-71), 3), (85, .iconst 1, 1), (86, .ireturn, 1)] := dAre0 (by decide +kernel)
theorem dX0_isTold_62 : decode cX0_isTold 62 = .ok (.iaload, 1) := DX0_isTold_62.1
theorem dX0_isTold_63 : decode cX0_isTold 63 = .ok (.iload 6, 2) := DX0_isTold_62.2.1
theorem dX0_isTold_65 : decode cX0_isTold 65 = .ok (.if_icmp .eq 5, 3) := DX0_isTold_62.2.2.1
theorem dX0_isTold_68 : decode cX0_isTold 68 = .ok (.iconst 0, 1) := DX0_isTold_62.2.2.2.1
theorem dX0_isTold_69 : decode cX0_isTold 69 = .ok (.ireturn, 1) := DX0_isTold_62.2.2.2.2.1
theorem dX0_isTold_70 : decode cX0_isTold 70 = .ok (.aload_n 0, 1) := DX0_isTold_62.2.2.2.2.2.1
theorem dX0_isTold_71 : decode cX0_isTold 71 = .ok (.getfield 15, 3) := DX0_isTold_62.2.2.2.2.2.2.1
theorem dX0_isTold_74 : decode cX0_isTold 74 = .ok (.iload 5, 2) := DX0_isTold_62.2.2.2.2.2.2.2.1
theorem dX0_isTold_76 : decode cX0_isTold 76 = .ok (.iload 6, 2) := DX0_isTold_62.2.2.2.2.2.2.2.2.1
theorem dX0_isTold_78 : decode cX0_isTold 78 = .ok (.iastore, 1) := DX0_isTold_62.2.2.2.2.2.2.2.2.2.1
theorem dX0_isTold_79 : decode cX0_isTold 79 = .ok (.iinc 4 1, 3) := DX0_isTold_62.2.2.2.2.2.2.2.2.2.2.1
theorem dX0_isTold_82 : decode cX0_isTold 82 = .ok (.goto (-71), 3) := DX0_isTold_62.2.2.2.2.2.2.2.2.2.2.2.1
theorem dX0_isTold_85 : decode cX0_isTold 85 = .ok (.iconst 1, 1) := DX0_isTold_62.2.2.2.2.2.2.2.2.2.2.2.2.1
theorem dX0_isTold_86 : decode cX0_isTold 86 = .ok (.ireturn, 1) := DX0_isTold_62.2.2.2.2.2.2.2.2.2.2.2.2.2.1
theorem mX0_isTold : gMv yX0_isTold cX0_isTold 7 (some .boolean) RX0 3 := ⟨q521, q522, q5, q523, rfl, by decide, by decide, by decide +kernel⟩
noncomputable def bX0_isTold_70 (v4 : Int32) (v5 : Int32) (v6 : Int32) (I : gM) : Option ((Int32 × gM) ⊕ ((gM) ⊕ (gM))) :=
  (wI I 42 100 v5 v6).bind fun I5 =>
  some (.inl (v4 + 1, I5))
set_option maxRecDepth 100000 in
set_option maxHeartbeats 4000000 in
theorem wbX0_isTold_70 {z : gZ} {E : gE} {bk : Nat} (F : Fx z sh E "LeapJoin$Figures" cX0_isTold (gR 2) 7) (B : bZ z bk) (hE : gDist sh E) (k1 : Nat) (v2 : Int32) (v3 : Int32) (v4 : Int32) (v5 : Int32) (v6 : Int32) (hk1 : shX1 k1) (I : gM) (J : gN) {y : (Int32 × gM) ⊕ ((gM) ⊕ (gM))} (h : bX0_isTold_70 v4 v5 v6 I = some y) (hl : ∀ s' : Int32 × gM, y = .inl s' → G z 11 [(0, .ref (E.2.1 40)), (1, .ref (E.2.1 k1)), (2, .int v2), (3, .int v3), (4, .int (s'.1))] [] s'.2 J) (K11_0 : ∀ x : gM, y = .inr (.inl x) → G z 68 [] [] x J) (K11_1 : ∀ x : gM, y = .inr (.inr x) → G z 85 [] [] x J) : G z 70 [(0, .ref (E.2.1 40)), (1, .ref (E.2.1 k1)), (2, .int v2), (3, .int v3), (4, .int v4), (5, .int v5), (6, .int v6)] [] I J := by
  unfold bX0_isTold_70 at h
  refine g_aload_n F 0 dX0_isTold_70 rfl rfl ?_
  refine g_getr (j := 1) (nn := 42) F s40 rfl rfl uX0 (by decide) q116 dX0_isTold_71 ?_
  refine g_iload F 5 dX0_isTold_74 rfl ?_
  refine g_iload F 6 dX0_isTold_76 rfl ?_
  refine u_wI F s42 (by decide) dX0_isTold_78 h (fun I5 h => ?_)
  refine g_iinc (v := v4 + 1) (Ln := [(4, .int (v4 + 1)), (0, .ref (E.2.1 40)), (1, .ref (E.2.1 k1)), (2, .int v2), (3, .int v3), (5, .int v5), (6, .int v6)]) F 4 dX0_isTold_79 rfl (add_c (by decide)) (by decide) rfl ?_
  refine g_goto (tgt := 11) F dX0_isTold_82 (by decide) ?_
  obtain rfl := Option.some.inj h
  refine g_sub (Ln := [(0, .ref (E.2.1 40)), (1, .ref (E.2.1 k1)), (2, .int v2), (3, .int v3), (4, .int (v4 + 1))]) [1, 2, 3, 4, 0] rfl ?_
  exact hl (v4 + 1, I5) rfl
noncomputable def lX0_isTold_11 (k1 : Nat) (v2 : Int32) (v3 : Int32) : (Int32 × gM) → Option ((gM) ⊕ (gM)) :=
  itO fun s =>
    if (s.2 k1 0) ≤ s.1 then
      some (.inr (.inr s.2))
    else
      (fX1_numberAt k1 s.1 v2 s.2).bind fun r2 =>
      (fX1_numberAt k1 s.1 v3 s.2).bind fun r3 =>
      if (100 : Int32) ≤ r2 then
        some (.inr (.inl s.2))
      else
        (rI 100 (s.2 42) r2).bind fun u4 =>
        if u4 = (-1) then
          bX0_isTold_70 s.1 r2 r3 s.2
        else
          (rI 100 (s.2 42) r2).bind fun u6 =>
          if u6 = r3 then
            bX0_isTold_70 s.1 r2 r3 s.2
          else
            some (.inr (.inl s.2))
set_option maxRecDepth 100000 in
set_option maxHeartbeats 4000000 in
theorem wlX0_isTold_11 {z : gZ} {E : gE} {bk : Nat} (F : Fx z sh E "LeapJoin$Figures" cX0_isTold (gR 2) 7) (B : bZ z bk) (hE : gDist sh E) (k1 : Nat) (v2 : Int32) (v3 : Int32) (hk1 : shX1 k1) (J : gN) {r : (gM) ⊕ (gM)} : ∀ s : Int32 × gM, lX0_isTold_11 k1 v2 v3 s = some r → (∀ x : gM, r = .inl x → G z 68 [] [] x J) → (∀ x : gM, r = .inr x → G z 85 [] [] x J) → G z 11 [(0, .ref (E.2.1 40)), (1, .ref (E.2.1 k1)), (2, .int v2), (3, .int v3), (4, .int s.1)] [] s.2 J := by
  intro s h X0 X1
  unfold lX0_isTold_11 at h
  revert s
  refine itO_ind (P := fun s : Int32 × gM => G z 11 [(0, .ref (E.2.1 40)), (1, .ref (E.2.1 k1)), (2, .int v2), (3, .int v3), (4, .int s.1)] [] s.2 J) (fun s y h hl hr => ?_)
  have K11_0 := fun (x : gM) (q : y = .inr (.inl x)) => X0 x (hr _ q).symm
  have K11_1 := fun (x : gM) (q : y = .inr (.inr x)) => X1 x (hr _ q).symm
  refine g_iload F 4 dX0_isTold_11 rfl ?_
  refine g_aload_n F 1 dX0_isTold_13 rfl rfl ?_
  refine g_geti (j := 0) (v := s.2 k1 0) F hk1.1 rfl rfl uX1 (by decide) q78 rfl dX0_isTold_14 ?_
  refine u_icmp_ge (tgt := 85) F dX0_isTold_17 (by decide) h (fun h => ?_) (fun h => ?_)
  · obtain rfl := Option.some.inj h
    refine g_sub (Ln := []) [] rfl ?_
    exact K11_1 s.2 rfl
  · refine g_aload_n F 1 dX0_isTold_20 rfl rfl ?_
    refine g_iload F 4 dX0_isTold_21 rfl ?_
    refine g_iload_n F 2 dX0_isTold_23 rfl rfl ?_
    refine u_callV (k := k1) (As := [.int s.1, .int v2]) (rest := []) (sn := fun r2 => [.int r2]) F B (fun _ => wX1_numberAt (zl z) E hE bk k1 s.1 v2 hk1 s.2 J) mX1_numberAt q495 rfl hk1.1 rfl rfl rfl (Nat.le_of_ble_eq_true rfl) dX0_isTold_24 (fun _ => rfl) h (fun r2 h => ?_)
    refine g_istore (Ln := [(5, .int r2), (0, .ref (E.2.1 40)), (1, .ref (E.2.1 k1)), (2, .int v2), (3, .int v3), (4, .int s.1)]) F dX0_isTold_27 (by decide) rfl ?_
    refine g_aload_n F 2 dX0_isTold_29 rfl rfl ?_
    refine g_iload F 5 dX0_isTold_30 rfl ?_
    refine g_iload_n F 4 dX0_isTold_32 rfl rfl ?_
    refine u_callV (k := k1) (As := [.int s.1, .int v3]) (rest := []) (sn := fun r3 => [.int r3]) F B (fun _ => wX1_numberAt (zl z) E hE bk k1 s.1 v3 hk1 s.2 J) mX1_numberAt q495 rfl hk1.1 rfl rfl rfl (Nat.le_of_ble_eq_true rfl) dX0_isTold_33 (fun _ => rfl) h (fun r3 h => ?_)
    refine g_istore (Ln := [(6, .int r3), (5, .int r2), (0, .ref (E.2.1 40)), (1, .ref (E.2.1 k1)), (2, .int v2), (3, .int v3), (4, .int s.1)]) F dX0_isTold_36 (by decide) rfl ?_
    refine g_iload F 1 dX0_isTold_38 rfl ?_
    refine g_bipush (v := 100) F dX0_isTold_40 (by decide) ?_
    refine u_icmp_ge (tgt := 68) F dX0_isTold_42 (by decide) h (fun h => ?_) (fun h => ?_)
    · obtain rfl := Option.some.inj h
      refine g_sub (Ln := []) [] rfl ?_
      exact K11_0 s.2 rfl
    · refine g_aload_n F 2 dX0_isTold_45 rfl rfl ?_
      refine g_getr (j := 1) (nn := 42) F s40 rfl rfl uX0 (by decide) q116 dX0_isTold_46 ?_
      refine g_iload F 1 dX0_isTold_49 rfl ?_
      refine u_rI F s42 (by decide) dX0_isTold_51 h (fun u4 h => ?_)
      refine g_iconst (v := (-1)) F dX0_isTold_52 (by decide) ?_
      refine u_icmp_eq (tgt := 70) F dX0_isTold_53 (by decide) h (fun h => ?_) (fun h => ?_)
      · refine g_sub (Ln := [(0, .ref (E.2.1 40)), (1, .ref (E.2.1 k1)), (2, .int v2), (3, .int v3), (4, .int s.1), (5, .int r2), (6, .int r3)]) [2, 3, 4, 5, 6, 1, 0] rfl ?_
        exact wbX0_isTold_70 F B hE k1 v2 v3 s.1 r2 r3 hk1 s.2 J h hl K11_0 K11_1
      · refine g_aload_n F 2 dX0_isTold_56 rfl rfl ?_
        refine g_getr (j := 1) (nn := 42) F s40 rfl rfl uX0 (by decide) q116 dX0_isTold_57 ?_
        refine g_iload F 1 dX0_isTold_60 rfl ?_
        refine u_rI F s42 (by decide) dX0_isTold_62 h (fun u6 h => ?_)
        refine g_iload F 0 dX0_isTold_63 rfl ?_
        refine u_icmp_eq (tgt := 70) F dX0_isTold_65 (by decide) h (fun h => ?_) (fun h => ?_)
        · refine g_sub (Ln := [(0, .ref (E.2.1 40)), (1, .ref (E.2.1 k1)), (2, .int v2), (3, .int v3), (4, .int s.1), (5, .int r2), (6, .int r3)]) [2, 3, 4, 5, 6, 1, 0] rfl ?_
          exact wbX0_isTold_70 F B hE k1 v2 v3 s.1 r2 r3 hk1 s.2 J h hl K11_0 K11_1
        · obtain rfl := Option.some.inj h
          refine g_sub (Ln := []) [] rfl ?_
          exact K11_0 s.2 rfl
noncomputable def fX0_isTold (k1 : Nat) (v2 : Int32) (v3 : Int32) (I : gM) : Option (Int32 × gM) :=
  (fJ7_fill_53178 42 100 ((-1) : Int32) I).bind fun r1 =>
  (lX0_isTold_11 k1 v2 v3 ((0 : Int32), r1)).bind fun w7 =>
  Sum.elim (fun w7_0 =>
    some ((0 : Int32), w7_0))
  (fun w7_1 =>
    some ((1 : Int32), w7_1)) w7
set_option maxRecDepth 100000 in
set_option maxHeartbeats 4000000 in
theorem wX0_isTold (l : Launch) (E : gE) (hE : gDist sh E) (bk : Nat) (k1 : Nat) (v2 : Int32) (v3 : Int32) (hk1 : shX1 k1) (I : gM) (J : gN) {r : Int32 × gM} (h : fX0_isTold k1 v2 v3 I = some r) : Cu l sh E bk yX0_isTold cX0_isTold 7 (some .boolean) (gR 2) [.ref (E.2.1 40), .ref (E.2.1 k1), .int v2, .int v3] I J (fun r1 I1 J1 => r1 = some (.int r.1) ∧ I1 = r.2 ∧ J1 = J) := by
  refine Cu.of "LeapJoin$Figures" rfl hE (by decide) (Nat.le_of_ble_eq_true rfl) (fun z F B e hl => ?_)
  subst hl
  unfold fX0_isTold at h
  refine g_aload_n F 0 dX0_isTold_0 rfl rfl ?_
  refine g_getr (j := 1) (nn := 42) F s40 rfl rfl uX0 (by decide) q116 dX0_isTold_1 ?_
  refine g_iconst (v := (-1)) F dX0_isTold_4 (by decide) ?_
  refine u_callS (As := [.ref (E.2.1 42), .int (-1)]) (rest := []) (sn := fun _ => []) F B (fun _ => wJ7_fill_53178 (zl z) E hE bk 42 100 ((-1) : Int32) ⟨s42, by decide⟩ I J) mJ7_fill_53178 q494 rfl rfl rfl (Nat.le_of_ble_eq_true rfl) dX0_isTold_5 (fun _ => rfl) h (fun r1 h => ?_)
  refine g_iconst (v := 0) F dX0_isTold_8 (by decide) ?_
  refine g_istore (Ln := [(4, .int 0), (0, .ref (E.2.1 40)), (1, .ref (E.2.1 k1)), (2, .int v2), (3, .int v3)]) F dX0_isTold_9 (by decide) rfl ?_
  obtain ⟨w7, ew7, h⟩ := ob h
  refine g_sub (Ln := [(0, .ref (E.2.1 40)), (1, .ref (E.2.1 k1)), (2, .int v2), (3, .int v3), (4, .int 0)]) [1, 2, 3, 4, 0] rfl ?_
  refine wlX0_isTold_11 F B hE k1 v2 v3 hk1 J _ ew7 (fun w7_0 q => ?_) (fun w7_1 q => ?_)
  · subst q
    replace h := oE1 h
    refine g_iconst (v := 0) F dX0_isTold_68 (by decide) ?_
    obtain rfl := Option.some.inj h
    exact g_zret F rfl e dX0_isTold_69 ⟨rfl, rfl, rfl⟩
  · subst q
    replace h := oE2 h
    refine g_iconst (v := 1) F dX0_isTold_85 (by decide) ?_
    obtain rfl := Option.some.inj h
    exact g_zret F rfl e dX0_isTold_86 ⟨rfl, rfl, rfl⟩
theorem DX5_lettersOf_0 : dAre cX5_lettersOf [(0, .iconst 0, 1), (1, .istore_n 2, 1), (2, .iconst 0, 1), (3, .istore_n 3, 1), (4, .iload_n 3, 1), (5, .aload_n 0, 1), (6, .getfield 21, 3), (9, .iload_n 1, 1), (10, .iaload, 1), (11, .if_icmp .ge 24, 3), (14, .iload_n 2, 1), (15, .iconst 1, 1), (16, .aload_n 0, 1), (17, .getfield 28, 3), (20, .iload_n 1, 1), (21, .iconst 3, 1)] := dAre0 (by decide +kernel)
theorem dX5_lettersOf_0 : decode cX5_lettersOf 0 = .ok (.iconst 0, 1) := DX5_lettersOf_0.1
theorem dX5_lettersOf_1 : decode cX5_lettersOf 1 = .ok (.istore_n 2, 1) := DX5_lettersOf_0.2.1
theorem dX5_lettersOf_2 : decode cX5_lettersOf 2 = .ok (.iconst 0, 1) := DX5_lettersOf_0.2.2.1
theorem dX5_lettersOf_3 : decode cX5_lettersOf 3 = .ok (.istore_n 3, 1) := DX5_lettersOf_0.2.2.2.1
theorem dX5_lettersOf_4 : decode cX5_lettersOf 4 = .ok (.iload_n 3, 1) := DX5_lettersOf_0.2.2.2.2.1
theorem dX5_lettersOf_5 : decode cX5_lettersOf 5 = .ok (.aload_n 0, 1) := DX5_lettersOf_0.2.2.2.2.2.1
theorem dX5_lettersOf_6 : decode cX5_lettersOf 6 = .ok (.getfield 21, 3) := DX5_lettersOf_0.2.2.2.2.2.2.1
theorem dX5_lettersOf_9 : decode cX5_lettersOf 9 = .ok (.iload_n 1, 1) := DX5_lettersOf_0.2.2.2.2.2.2.2.1
theorem dX5_lettersOf_10 : decode cX5_lettersOf 10 = .ok (.iaload, 1) := DX5_lettersOf_0.2.2.2.2.2.2.2.2.1
theorem dX5_lettersOf_11 : decode cX5_lettersOf 11 = .ok (.if_icmp .ge 24, 3) := DX5_lettersOf_0.2.2.2.2.2.2.2.2.2.1
theorem dX5_lettersOf_14 : decode cX5_lettersOf 14 = .ok (.iload_n 2, 1) := DX5_lettersOf_0.2.2.2.2.2.2.2.2.2.2.1
theorem dX5_lettersOf_15 : decode cX5_lettersOf 15 = .ok (.iconst 1, 1) := DX5_lettersOf_0.2.2.2.2.2.2.2.2.2.2.2.1
theorem dX5_lettersOf_16 : decode cX5_lettersOf 16 = .ok (.aload_n 0, 1) := DX5_lettersOf_0.2.2.2.2.2.2.2.2.2.2.2.2.1
theorem dX5_lettersOf_17 : decode cX5_lettersOf 17 = .ok (.getfield 28, 3) := DX5_lettersOf_0.2.2.2.2.2.2.2.2.2.2.2.2.2.1
theorem dX5_lettersOf_20 : decode cX5_lettersOf 20 = .ok (.iload_n 1, 1) := DX5_lettersOf_0.2.2.2.2.2.2.2.2.2.2.2.2.2.2.1
theorem dX5_lettersOf_21 : decode cX5_lettersOf 21 = .ok (.iconst 3, 1) := DX5_lettersOf_0.2.2.2.2.2.2.2.2.2.2.2.2.2.2.2.1
theorem DX5_lettersOf_22 : dAre cX5_lettersOf [(22, .imul, 1), (23, .iload_n 3, 1), (24, .iadd, 1), (25, .iaload, 1), (26, .ishl, 1), (27, .ior, 1), (28, .istore_n 2, 1), (29, .iinc 3 1, 3), (32, .goto (-28), 3), (35, .iload_n 2, 1), (36, .ireturn, 1)] := dAre0 (by decide +kernel)
theorem dX5_lettersOf_22 : decode cX5_lettersOf 22 = .ok (.imul, 1) := DX5_lettersOf_22.1
theorem dX5_lettersOf_23 : decode cX5_lettersOf 23 = .ok (.iload_n 3, 1) := DX5_lettersOf_22.2.1
theorem dX5_lettersOf_24 : decode cX5_lettersOf 24 = .ok (.iadd, 1) := DX5_lettersOf_22.2.2.1
theorem dX5_lettersOf_25 : decode cX5_lettersOf 25 = .ok (.iaload, 1) := DX5_lettersOf_22.2.2.2.1
theorem dX5_lettersOf_26 : decode cX5_lettersOf 26 = .ok (.ishl, 1) := DX5_lettersOf_22.2.2.2.2.1
theorem dX5_lettersOf_27 : decode cX5_lettersOf 27 = .ok (.ior, 1) := DX5_lettersOf_22.2.2.2.2.2.1
theorem dX5_lettersOf_28 : decode cX5_lettersOf 28 = .ok (.istore_n 2, 1) := DX5_lettersOf_22.2.2.2.2.2.2.1
theorem dX5_lettersOf_29 : decode cX5_lettersOf 29 = .ok (.iinc 3 1, 3) := DX5_lettersOf_22.2.2.2.2.2.2.2.1
theorem dX5_lettersOf_32 : decode cX5_lettersOf 32 = .ok (.goto (-28), 3) := DX5_lettersOf_22.2.2.2.2.2.2.2.2.1
theorem dX5_lettersOf_35 : decode cX5_lettersOf 35 = .ok (.iload_n 2, 1) := DX5_lettersOf_22.2.2.2.2.2.2.2.2.2.1
theorem dX5_lettersOf_36 : decode cX5_lettersOf 36 = .ok (.ireturn, 1) := DX5_lettersOf_22.2.2.2.2.2.2.2.2.2.2.1
theorem mX5_lettersOf : gMv yX5_lettersOf cX5_lettersOf 4 (some .int) RX5 1 := ⟨q344, q345, q3, q346, rfl, by decide, by decide, by decide +kernel⟩
noncomputable def lX5_lettersOf_4 (k : Nat) (v1 : Int32) (I : gM) : (Int32 × Int32) → Option (Int32) :=
  itO fun s =>
    (rI 4 (I (k + 1)) v1).bind fun u1 =>
    if u1 ≤ s.2 then
      some (.inr s.1)
    else
      (rI 12 (I (k + 3)) ((v1 * 3) + s.2)).bind fun u2 =>
      some (.inl (s.1 ||| ((1 : Int32) <<< (u2 &&& 31)), s.2 + 1))
set_option maxRecDepth 100000 in
set_option maxHeartbeats 4000000 in
theorem wlX5_lettersOf_4 {z : gZ} {E : gE} {bk : Nat} (F : Fx z sh E "LeapJoin$Tables" cX5_lettersOf (gR 0) 4) (B : bZ z bk) (hE : gDist sh E) (k : Nat) (v1 : Int32) (hk : shX5 k) (I : gM) (J : gN) {r : Int32} : ∀ s : Int32 × Int32, lX5_lettersOf_4 k v1 I s = some r → (G z 35 [(2, .int r)] [] I J) → G z 4 [(0, .ref (E.2.1 k)), (1, .int v1), (2, .int s.1), (3, .int s.2)] [] I J := by
  intro s h X0
  unfold lX5_lettersOf_4 at h
  revert s
  refine itO_ind (P := fun s : Int32 × Int32 => G z 4 [(0, .ref (E.2.1 k)), (1, .int v1), (2, .int s.1), (3, .int s.2)] [] I J) (fun s y h hl hr => ?_)
  have K4_0 : ∀ x : Int32, y = .inr x → (G z 35 [(2, .int x)] [] I J) := fun x q => by have q2 := hr _ q; subst q2; exact X0
  refine g_iload_n F 3 dX5_lettersOf_4 rfl rfl ?_
  refine g_aload_n F 0 dX5_lettersOf_5 rfl rfl ?_
  refine g_getr (j := 3) (nn := (k + 1)) F hk.1 rfl rfl uX5 (by decide) q55 dX5_lettersOf_6 ?_
  refine g_iload_n F 1 dX5_lettersOf_9 rfl rfl ?_
  refine u_rI F hk.2.1 (by decide) dX5_lettersOf_10 h (fun u1 h => ?_)
  refine u_icmp_ge (tgt := 35) F dX5_lettersOf_11 (by decide) h (fun h => ?_) (fun h => ?_)
  · obtain rfl := Option.some.inj h
    refine g_sub (Ln := [(2, .int s.1)]) [2] rfl ?_
    exact K4_0 s.1 rfl
  · refine g_iload_n F 2 dX5_lettersOf_14 rfl rfl ?_
    refine g_iconst (v := 1) F dX5_lettersOf_15 (by decide) ?_
    refine g_aload_n F 0 dX5_lettersOf_16 rfl rfl ?_
    refine g_getr (j := 5) (nn := (k + 3)) F hk.1 rfl rfl uX5 (by decide) q62 dX5_lettersOf_17 ?_
    refine g_iload_n F 1 dX5_lettersOf_20 rfl rfl ?_
    refine g_iconst (v := 3) F dX5_lettersOf_21 (by decide) ?_
    refine g_imul (v := v1 * 3) F dX5_lettersOf_22 rfl ?_
    refine g_iload_n F 3 dX5_lettersOf_23 rfl rfl ?_
    refine g_iadd (v := (v1 * 3) + s.2) F dX5_lettersOf_24 rfl ?_
    refine u_rI F hk.2.2.2.1 (by decide) dX5_lettersOf_25 h (fun u2 h => ?_)
    refine g_ishl (v := (1 : Int32) <<< (u2 &&& 31)) F dX5_lettersOf_26 rfl ?_
    refine g_ior (v := s.1 ||| ((1 : Int32) <<< (u2 &&& 31))) F dX5_lettersOf_27 rfl ?_
    refine g_istore_n (Ln := [(2, .int (s.1 ||| ((1 : Int32) <<< (u2 &&& 31)))), (0, .ref (E.2.1 k)), (1, .int v1), (3, .int s.2)]) F dX5_lettersOf_28 rfl (by decide) rfl ?_
    refine g_iinc (v := s.2 + 1) (Ln := [(3, .int (s.2 + 1)), (2, .int (s.1 ||| ((1 : Int32) <<< (u2 &&& 31)))), (0, .ref (E.2.1 k)), (1, .int v1)]) F 3 dX5_lettersOf_29 rfl (add_c (by decide)) (by decide) rfl ?_
    refine g_goto (tgt := 4) F dX5_lettersOf_32 (by decide) ?_
    obtain rfl := Option.some.inj h
    refine g_sub (Ln := [(0, .ref (E.2.1 k)), (1, .int v1), (2, .int (s.1 ||| ((1 : Int32) <<< (u2 &&& 31)))), (3, .int (s.2 + 1))]) [2, 3, 1, 0] rfl ?_
    exact hl (s.1 ||| ((1 : Int32) <<< (u2 &&& 31)), s.2 + 1) rfl
noncomputable def fX5_lettersOf (k : Nat) (v1 : Int32) (I : gM) : Option (Int32) :=
  (lX5_lettersOf_4 k v1 I ((0 : Int32), (0 : Int32))).bind fun w3 =>
  some w3
set_option maxRecDepth 100000 in
set_option maxHeartbeats 4000000 in
theorem wX5_lettersOf (l : Launch) (E : gE) (hE : gDist sh E) (bk : Nat) (k : Nat) (v1 : Int32) (hk : shX5 k) (I : gM) (J : gN) {r : Int32} (h : fX5_lettersOf k v1 I = some r) : Cu l sh E bk yX5_lettersOf cX5_lettersOf 4 (some .int) (gR 0) [.ref (E.2.1 k), .int v1] I J (fun r1 I1 J1 => r1 = some (.int r) ∧ I1 = I ∧ J1 = J) := by
  refine Cu.of "LeapJoin$Tables" rfl hE (by decide) (Nat.le_of_ble_eq_true rfl) (fun z F B e hl => ?_)
  subst hl
  unfold fX5_lettersOf at h
  refine g_iconst (v := 0) F dX5_lettersOf_0 (by decide) ?_
  refine g_istore_n (Ln := [(2, .int 0), (0, .ref (E.2.1 k)), (1, .int v1)]) F dX5_lettersOf_1 rfl (by decide) rfl ?_
  refine g_iconst (v := 0) F dX5_lettersOf_2 (by decide) ?_
  refine g_istore_n (Ln := [(3, .int 0), (2, .int 0), (0, .ref (E.2.1 k)), (1, .int v1)]) F dX5_lettersOf_3 rfl (by decide) rfl ?_
  obtain ⟨w3, ew3, h⟩ := ob h
  refine g_sub (Ln := [(0, .ref (E.2.1 k)), (1, .int v1), (2, .int 0), (3, .int 0)]) [2, 3, 1, 0] rfl ?_
  refine wlX5_lettersOf_4 F B hE k v1 hk I J _ ew3 ?_
  refine g_iload_n F 0 dX5_lettersOf_35 rfl rfl ?_
  obtain rfl := Option.some.inj h
  exact g_iret F e dX5_lettersOf_36 ⟨rfl, rfl, rfl⟩
theorem DX5_asked_0 : dAre cX5_asked [(0, .iconst 0, 1), (1, .istore_n 1, 1), (2, .iconst 0, 1), (3, .istore_n 2, 1), (4, .iload_n 2, 1), (5, .aload_n 0, 1), (6, .getfield 9, 3), (9, .if_icmp .ge 25, 3), (12, .aload_n 0, 1), (13, .iload_n 2, 1), (14, .invokevirtual 59, 3), (17, .ifCond .eq 11, 3), (20, .iload_n 1, 1), (21, .aload_n 0, 1), (22, .iload_n 2, 1), (23, .invokevirtual 62, 3)] := dAre0 (by decide +kernel)
theorem dX5_asked_0 : decode cX5_asked 0 = .ok (.iconst 0, 1) := DX5_asked_0.1
theorem dX5_asked_1 : decode cX5_asked 1 = .ok (.istore_n 1, 1) := DX5_asked_0.2.1
theorem dX5_asked_2 : decode cX5_asked 2 = .ok (.iconst 0, 1) := DX5_asked_0.2.2.1
theorem dX5_asked_3 : decode cX5_asked 3 = .ok (.istore_n 2, 1) := DX5_asked_0.2.2.2.1
theorem dX5_asked_4 : decode cX5_asked 4 = .ok (.iload_n 2, 1) := DX5_asked_0.2.2.2.2.1
theorem dX5_asked_5 : decode cX5_asked 5 = .ok (.aload_n 0, 1) := DX5_asked_0.2.2.2.2.2.1
theorem dX5_asked_6 : decode cX5_asked 6 = .ok (.getfield 9, 3) := DX5_asked_0.2.2.2.2.2.2.1
theorem dX5_asked_9 : decode cX5_asked 9 = .ok (.if_icmp .ge 25, 3) := DX5_asked_0.2.2.2.2.2.2.2.1
theorem dX5_asked_12 : decode cX5_asked 12 = .ok (.aload_n 0, 1) := DX5_asked_0.2.2.2.2.2.2.2.2.1
theorem dX5_asked_13 : decode cX5_asked 13 = .ok (.iload_n 2, 1) := DX5_asked_0.2.2.2.2.2.2.2.2.2.1
theorem dX5_asked_14 : decode cX5_asked 14 = .ok (.invokevirtual 59, 3) := DX5_asked_0.2.2.2.2.2.2.2.2.2.2.1
theorem dX5_asked_17 : decode cX5_asked 17 = .ok (.ifCond .eq 11, 3) := DX5_asked_0.2.2.2.2.2.2.2.2.2.2.2.1
theorem dX5_asked_20 : decode cX5_asked 20 = .ok (.iload_n 1, 1) := DX5_asked_0.2.2.2.2.2.2.2.2.2.2.2.2.1
theorem dX5_asked_21 : decode cX5_asked 21 = .ok (.aload_n 0, 1) := DX5_asked_0.2.2.2.2.2.2.2.2.2.2.2.2.2.1
theorem dX5_asked_22 : decode cX5_asked 22 = .ok (.iload_n 2, 1) := DX5_asked_0.2.2.2.2.2.2.2.2.2.2.2.2.2.2.1
theorem dX5_asked_23 : decode cX5_asked 23 = .ok (.invokevirtual 62, 3) := DX5_asked_0.2.2.2.2.2.2.2.2.2.2.2.2.2.2.2.1
theorem DX5_asked_26 : dAre cX5_asked [(26, .ior, 1), (27, .istore_n 1, 1), (28, .iinc 2 1, 3), (31, .goto (-27), 3), (34, .iload_n 1, 1), (35, .ireturn, 1)] := dAre0 (by decide +kernel)
theorem dX5_asked_26 : decode cX5_asked 26 = .ok (.ior, 1) := DX5_asked_26.1
theorem dX5_asked_27 : decode cX5_asked 27 = .ok (.istore_n 1, 1) := DX5_asked_26.2.1
theorem dX5_asked_28 : decode cX5_asked 28 = .ok (.iinc 2 1, 3) := DX5_asked_26.2.2.1
theorem dX5_asked_31 : decode cX5_asked 31 = .ok (.goto (-27), 3) := DX5_asked_26.2.2.2.1
theorem dX5_asked_34 : decode cX5_asked 34 = .ok (.iload_n 1, 1) := DX5_asked_26.2.2.2.2.1
theorem dX5_asked_35 : decode cX5_asked 35 = .ok (.ireturn, 1) := DX5_asked_26.2.2.2.2.2.1
theorem mX5_asked : gMv yX5_asked cX5_asked 3 (some .int) RX5 0 := ⟨q336, q337, q3, q338, rfl, by decide, by decide, by decide +kernel⟩
noncomputable def bX5_asked_28 (v1 : Int32) (v2 : Int32) : Option ((Int32 × Int32) ⊕ (Int32)) :=
  some (.inl (v1, v2 + 1))
set_option maxRecDepth 100000 in
set_option maxHeartbeats 4000000 in
theorem wbX5_asked_28 {z : gZ} {E : gE} {bk : Nat} (F : Fx z sh E "LeapJoin$Tables" cX5_asked (gR 2) 3) (B : bZ z bk) (hE : gDist sh E) (k : Nat) (v1 : Int32) (v2 : Int32) (hk : shX5 k) (I : gM) (J : gN) {y : (Int32 × Int32) ⊕ (Int32)} (h : bX5_asked_28 v1 v2 = some y) (hl : ∀ s' : Int32 × Int32, y = .inl s' → G z 4 [(0, .ref (E.2.1 k)), (1, .int (s'.1)), (2, .int (s'.2))] [] I J) (K4_0 : ∀ x : Int32, y = .inr x → G z 34 [(1, .int x)] [] I J) : G z 28 [(0, .ref (E.2.1 k)), (1, .int v1), (2, .int v2)] [] I J := by
  unfold bX5_asked_28 at h
  refine g_iinc (v := v2 + 1) (Ln := [(2, .int (v2 + 1)), (0, .ref (E.2.1 k)), (1, .int v1)]) F 2 dX5_asked_28 rfl (add_c (by decide)) (by decide) rfl ?_
  refine g_goto (tgt := 4) F dX5_asked_31 (by decide) ?_
  obtain rfl := Option.some.inj h
  refine g_sub (Ln := [(0, .ref (E.2.1 k)), (1, .int v1), (2, .int (v2 + 1))]) [1, 2, 0] rfl ?_
  exact hl (v1, v2 + 1) rfl
noncomputable def lX5_asked_4 (k : Nat) (I : gM) : (Int32 × Int32) → Option (Int32) :=
  itO fun s =>
    if (I k 0) ≤ s.2 then
      some (.inr s.1)
    else
      (fX5_isUsed k s.2 I).bind fun r1 =>
      if r1 = 0 then
        bX5_asked_28 s.1 s.2
      else
        (fX5_lettersOf k s.2 I).bind fun r2 =>
        bX5_asked_28 (s.1 ||| r2) s.2
set_option maxRecDepth 100000 in
set_option maxHeartbeats 4000000 in
theorem wlX5_asked_4 {z : gZ} {E : gE} {bk : Nat} (F : Fx z sh E "LeapJoin$Tables" cX5_asked (gR 2) 3) (B : bZ z bk) (hE : gDist sh E) (k : Nat) (hk : shX5 k) (I : gM) (J : gN) {r : Int32} : ∀ s : Int32 × Int32, lX5_asked_4 k I s = some r → (G z 34 [(1, .int r)] [] I J) → G z 4 [(0, .ref (E.2.1 k)), (1, .int s.1), (2, .int s.2)] [] I J := by
  intro s h X0
  unfold lX5_asked_4 at h
  revert s
  refine itO_ind (P := fun s : Int32 × Int32 => G z 4 [(0, .ref (E.2.1 k)), (1, .int s.1), (2, .int s.2)] [] I J) (fun s y h hl hr => ?_)
  have K4_0 : ∀ x : Int32, y = .inr x → (G z 34 [(1, .int x)] [] I J) := fun x q => by have q2 := hr _ q; subst q2; exact X0
  refine g_iload_n F 2 dX5_asked_4 rfl rfl ?_
  refine g_aload_n F 0 dX5_asked_5 rfl rfl ?_
  refine g_geti (j := 0) (v := I k 0) F hk.1 rfl rfl uX5 (by decide) q48 rfl dX5_asked_6 ?_
  refine u_icmp_ge (tgt := 34) F dX5_asked_9 (by decide) h (fun h => ?_) (fun h => ?_)
  · obtain rfl := Option.some.inj h
    refine g_sub (Ln := [(1, .int s.1)]) [1] rfl ?_
    exact K4_0 s.1 rfl
  · refine g_aload_n F 0 dX5_asked_12 rfl rfl ?_
    refine g_iload_n F 2 dX5_asked_13 rfl rfl ?_
    refine u_callV (k := k) (As := [.int s.2]) (rest := []) (sn := fun r1 => [.int r1]) F B (fun _ => wX5_isUsed (zl z) E hE bk k s.2 hk I J) mX5_isUsed q339 rfl hk.1 rfl rfl rfl (Nat.le_of_ble_eq_true rfl) dX5_asked_14 (fun _ => rfl) h (fun r1 h => ?_)
    refine u_if_eq (tgt := 28) F dX5_asked_17 (by decide) h (fun h => ?_) (fun h => ?_)
    · refine g_sub (Ln := [(0, .ref (E.2.1 k)), (1, .int s.1), (2, .int s.2)]) [0, 1, 2] rfl ?_
      exact wbX5_asked_28 F B hE k s.1 s.2 hk I J h hl K4_0
    · refine g_iload_n F 1 dX5_asked_20 rfl rfl ?_
      refine g_aload_n F 0 dX5_asked_21 rfl rfl ?_
      refine g_iload_n F 2 dX5_asked_22 rfl rfl ?_
      refine u_callV (k := k) (As := [.int s.2]) (rest := [.int s.1]) (sn := fun r2 => [.int r2, .int s.1]) F B (fun _ => wX5_lettersOf (zl z) E hE bk k s.2 hk I J) mX5_lettersOf q343 rfl hk.1 rfl rfl rfl (Nat.le_of_ble_eq_true rfl) dX5_asked_23 (fun _ => rfl) h (fun r2 h => ?_)
      refine g_ior (v := s.1 ||| r2) F dX5_asked_26 rfl ?_
      refine g_istore_n (Ln := [(1, .int (s.1 ||| r2)), (0, .ref (E.2.1 k)), (2, .int s.2)]) F dX5_asked_27 rfl (by decide) rfl ?_
      refine g_sub (Ln := [(0, .ref (E.2.1 k)), (1, .int (s.1 ||| r2)), (2, .int s.2)]) [1, 0, 2] rfl ?_
      exact wbX5_asked_28 F B hE k (s.1 ||| r2) s.2 hk I J h hl K4_0
noncomputable def fX5_asked (k : Nat) (I : gM) : Option (Int32) :=
  (lX5_asked_4 k I ((0 : Int32), (0 : Int32))).bind fun w3 =>
  some w3
set_option maxRecDepth 100000 in
set_option maxHeartbeats 4000000 in
theorem wX5_asked (l : Launch) (E : gE) (hE : gDist sh E) (bk : Nat) (k : Nat) (hk : shX5 k) (I : gM) (J : gN) {r : Int32} (h : fX5_asked k I = some r) : Cu l sh E bk yX5_asked cX5_asked 3 (some .int) (gR 2) [.ref (E.2.1 k)] I J (fun r1 I1 J1 => r1 = some (.int r) ∧ I1 = I ∧ J1 = J) := by
  refine Cu.of "LeapJoin$Tables" rfl hE (by decide) (Nat.le_of_ble_eq_true rfl) (fun z F B e hl => ?_)
  subst hl
  unfold fX5_asked at h
  refine g_iconst (v := 0) F dX5_asked_0 (by decide) ?_
  refine g_istore_n (Ln := [(1, .int 0), (0, .ref (E.2.1 k))]) F dX5_asked_1 rfl (by decide) rfl ?_
  refine g_iconst (v := 0) F dX5_asked_2 (by decide) ?_
  refine g_istore_n (Ln := [(2, .int 0), (1, .int 0), (0, .ref (E.2.1 k))]) F dX5_asked_3 rfl (by decide) rfl ?_
  obtain ⟨w3, ew3, h⟩ := ob h
  refine g_sub (Ln := [(0, .ref (E.2.1 k)), (1, .int 0), (2, .int 0)]) [2, 1, 0] rfl ?_
  refine wlX5_asked_4 F B hE k hk I J _ ew3 ?_
  refine g_iload_n F 0 dX5_asked_34 rfl rfl ?_
  obtain rfl := Option.some.inj h
  exact g_iret F e dX5_asked_35 ⟨rfl, rfl, rfl⟩
theorem DX1_letterOf_0 : dAre cX1_letterOf [(0, .iload_n 1, 1), (1, .istore_n 2, 1), (2, .iconst 0, 1), (3, .istore_n 3, 1), (4, .iload_n 3, 1), (5, .iconst 4, 1), (6, .if_icmp .ge 26, 3), (9, .iload_n 0, 1), (10, .iload_n 3, 1), (11, .ishr, 1), (12, .iconst 1, 1), (13, .iand, 1), (14, .ifCond .eq 12, 3), (17, .iload_n 2, 1), (18, .ifCond .ne 5, 3), (21, .iload_n 3, 1)] := dAre0 (by decide +kernel)
theorem dX1_letterOf_0 : decode cX1_letterOf 0 = .ok (.iload_n 1, 1) := DX1_letterOf_0.1
theorem dX1_letterOf_1 : decode cX1_letterOf 1 = .ok (.istore_n 2, 1) := DX1_letterOf_0.2.1
theorem dX1_letterOf_2 : decode cX1_letterOf 2 = .ok (.iconst 0, 1) := DX1_letterOf_0.2.2.1
theorem dX1_letterOf_3 : decode cX1_letterOf 3 = .ok (.istore_n 3, 1) := DX1_letterOf_0.2.2.2.1
theorem dX1_letterOf_4 : decode cX1_letterOf 4 = .ok (.iload_n 3, 1) := DX1_letterOf_0.2.2.2.2.1
theorem dX1_letterOf_5 : decode cX1_letterOf 5 = .ok (.iconst 4, 1) := DX1_letterOf_0.2.2.2.2.2.1
theorem dX1_letterOf_6 : decode cX1_letterOf 6 = .ok (.if_icmp .ge 26, 3) := DX1_letterOf_0.2.2.2.2.2.2.1
theorem dX1_letterOf_9 : decode cX1_letterOf 9 = .ok (.iload_n 0, 1) := DX1_letterOf_0.2.2.2.2.2.2.2.1
theorem dX1_letterOf_10 : decode cX1_letterOf 10 = .ok (.iload_n 3, 1) := DX1_letterOf_0.2.2.2.2.2.2.2.2.1
theorem dX1_letterOf_11 : decode cX1_letterOf 11 = .ok (.ishr, 1) := DX1_letterOf_0.2.2.2.2.2.2.2.2.2.1
theorem dX1_letterOf_12 : decode cX1_letterOf 12 = .ok (.iconst 1, 1) := DX1_letterOf_0.2.2.2.2.2.2.2.2.2.2.1
theorem dX1_letterOf_13 : decode cX1_letterOf 13 = .ok (.iand, 1) := DX1_letterOf_0.2.2.2.2.2.2.2.2.2.2.2.1
theorem dX1_letterOf_14 : decode cX1_letterOf 14 = .ok (.ifCond .eq 12, 3) := DX1_letterOf_0.2.2.2.2.2.2.2.2.2.2.2.2.1
theorem dX1_letterOf_17 : decode cX1_letterOf 17 = .ok (.iload_n 2, 1) := DX1_letterOf_0.2.2.2.2.2.2.2.2.2.2.2.2.2.1
theorem dX1_letterOf_18 : decode cX1_letterOf 18 = .ok (.ifCond .ne 5, 3) := DX1_letterOf_0.2.2.2.2.2.2.2.2.2.2.2.2.2.2.1
theorem dX1_letterOf_21 : decode cX1_letterOf 21 = .ok (.iload_n 3, 1) := DX1_letterOf_0.2.2.2.2.2.2.2.2.2.2.2.2.2.2.2.1
theorem DX1_letterOf_22 : dAre cX1_letterOf [(22, .ireturn, 1), (23, .iinc 2 (-1), 3), (26, .iinc 3 1, 3), (29, .goto (-25), 3), (32, .iconst 0, 1), (33, .ireturn, 1)] := dAre0 (by decide +kernel)
theorem dX1_letterOf_22 : decode cX1_letterOf 22 = .ok (.ireturn, 1) := DX1_letterOf_22.1
theorem dX1_letterOf_23 : decode cX1_letterOf 23 = .ok (.iinc 2 (-1), 3) := DX1_letterOf_22.2.1
theorem dX1_letterOf_26 : decode cX1_letterOf 26 = .ok (.iinc 3 1, 3) := DX1_letterOf_22.2.2.1
theorem dX1_letterOf_29 : decode cX1_letterOf 29 = .ok (.goto (-25), 3) := DX1_letterOf_22.2.2.2.1
theorem dX1_letterOf_32 : decode cX1_letterOf 32 = .ok (.iconst 0, 1) := DX1_letterOf_22.2.2.2.2.1
theorem dX1_letterOf_33 : decode cX1_letterOf 33 = .ok (.ireturn, 1) := DX1_letterOf_22.2.2.2.2.2.1
theorem mX1_letterOf : gMs yX1_letterOf cX1_letterOf 4 (some .int) 2 := ⟨q349, q4, q350, by decide, by decide, by decide +kernel⟩
noncomputable def bX1_letterOf_26 (v2 : Int32) (v3 : Int32) : Option ((Int32 × Int32) ⊕ ((Int32) ⊕ (Unit))) :=
  some (.inl (v2, v3 + 1))
set_option maxRecDepth 100000 in
set_option maxHeartbeats 4000000 in
theorem wbX1_letterOf_26 {z : gZ} {E : gE} {bk : Nat} (F : Fx z sh E "LeapJoin$Join" cX1_letterOf (gR 0) 4) (B : bZ z bk) (hE : gDist sh E) (v0 : Int32) (v2 : Int32) (v3 : Int32) (I : gM) (J : gN) {y : (Int32 × Int32) ⊕ ((Int32) ⊕ (Unit))} (h : bX1_letterOf_26 v2 v3 = some y) (hl : ∀ s' : Int32 × Int32, y = .inl s' → G z 4 [(0, .int v0), (2, .int (s'.1)), (3, .int (s'.2))] [] I J) (K4_0 : ∀ x : Int32, y = .inr (.inl x) → G z 21 [(3, .int x)] [] I J) (K4_1 : ∀ x : Unit, y = .inr (.inr x) → G z 32 [] [] I J) : G z 26 [(0, .int v0), (2, .int v2), (3, .int v3)] [] I J := by
  unfold bX1_letterOf_26 at h
  refine g_iinc (v := v3 + 1) (Ln := [(3, .int (v3 + 1)), (0, .int v0), (2, .int v2)]) F 2 dX1_letterOf_26 rfl (add_c (by decide)) (by decide) rfl ?_
  refine g_goto (tgt := 4) F dX1_letterOf_29 (by decide) ?_
  obtain rfl := Option.some.inj h
  refine g_sub (Ln := [(0, .int v0), (2, .int v2), (3, .int (v3 + 1))]) [1, 2, 0] rfl ?_
  exact hl (v2, v3 + 1) rfl
noncomputable def lX1_letterOf_4 (v0 : Int32) : (Int32 × Int32) → Option ((Int32) ⊕ (Unit)) :=
  itO fun s =>
    if (4 : Int32) ≤ s.2 then
      some (.inr (.inr ()))
    else
      if ((v0 >>> (s.2 &&& 31)) &&& 1) = 0 then
        bX1_letterOf_26 s.1 s.2
      else
        if s.1 = 0 then
          some (.inr (.inl s.2))
        else
          bX1_letterOf_26 (s.1 + (-1)) s.2
set_option maxRecDepth 100000 in
set_option maxHeartbeats 4000000 in
theorem wlX1_letterOf_4 {z : gZ} {E : gE} {bk : Nat} (F : Fx z sh E "LeapJoin$Join" cX1_letterOf (gR 0) 4) (B : bZ z bk) (hE : gDist sh E) (v0 : Int32) (I : gM) (J : gN) {r : (Int32) ⊕ (Unit)} : ∀ s : Int32 × Int32, lX1_letterOf_4 v0 s = some r → (∀ x : Int32, r = .inl x → G z 21 [(3, .int x)] [] I J) → (∀ x : Unit, r = .inr x → G z 32 [] [] I J) → G z 4 [(0, .int v0), (2, .int s.1), (3, .int s.2)] [] I J := by
  intro s h X0 X1
  unfold lX1_letterOf_4 at h
  revert s
  refine itO_ind (P := fun s : Int32 × Int32 => G z 4 [(0, .int v0), (2, .int s.1), (3, .int s.2)] [] I J) (fun s y h hl hr => ?_)
  have K4_0 := fun (x : Int32) (q : y = .inr (.inl x)) => X0 x (hr _ q).symm
  have K4_1 := fun (x : Unit) (q : y = .inr (.inr x)) => X1 x (hr _ q).symm
  refine g_iload_n F 2 dX1_letterOf_4 rfl rfl ?_
  refine g_iconst (v := 4) F dX1_letterOf_5 (by decide) ?_
  refine u_icmp_ge (tgt := 32) F dX1_letterOf_6 (by decide) h (fun h => ?_) (fun h => ?_)
  · obtain rfl := Option.some.inj h
    refine g_sub (Ln := []) [] rfl ?_
    exact K4_1 () rfl
  · refine g_iload_n F 0 dX1_letterOf_9 rfl rfl ?_
    refine g_iload_n F 2 dX1_letterOf_10 rfl rfl ?_
    refine g_ishr (v := v0 >>> (s.2 &&& 31)) F dX1_letterOf_11 rfl ?_
    refine g_iconst (v := 1) F dX1_letterOf_12 (by decide) ?_
    refine g_iand (v := (v0 >>> (s.2 &&& 31)) &&& 1) F dX1_letterOf_13 rfl ?_
    refine u_if_eq (tgt := 26) F dX1_letterOf_14 (by decide) h (fun h => ?_) (fun h => ?_)
    · refine g_sub (Ln := [(0, .int v0), (2, .int s.1), (3, .int s.2)]) [0, 1, 2] rfl ?_
      exact wbX1_letterOf_26 F B hE v0 s.1 s.2 I J h hl K4_0 K4_1
    · refine g_iload_n F 1 dX1_letterOf_17 rfl rfl ?_
      refine u_if_ne (tgt := 23) F dX1_letterOf_18 (by decide) h (fun h => ?_) (fun h => ?_)
      · obtain rfl := Option.some.inj h
        refine g_sub (Ln := [(3, .int s.2)]) [2] rfl ?_
        exact K4_0 s.2 rfl
      · refine g_iinc (v := s.1 + (-1)) (Ln := [(2, .int (s.1 + (-1))), (0, .int v0), (3, .int s.2)]) F 1 dX1_letterOf_23 rfl (add_c (by decide)) (by decide) rfl ?_
        refine g_sub (Ln := [(0, .int v0), (2, .int (s.1 + (-1))), (3, .int s.2)]) [1, 0, 2] rfl ?_
        exact wbX1_letterOf_26 F B hE v0 (s.1 + (-1)) s.2 I J h hl K4_0 K4_1
noncomputable def fX1_letterOf (v0 : Int32) (v1 : Int32) : Option (Int32) :=
  (lX1_letterOf_4 v0 (v1, (0 : Int32))).bind fun w1 =>
  Sum.elim (fun w1_0 =>
    some w1_0)
  (fun w1_1 =>
    some (0 : Int32)) w1
set_option maxRecDepth 100000 in
set_option maxHeartbeats 4000000 in
theorem wX1_letterOf (l : Launch) (E : gE) (hE : gDist sh E) (bk : Nat) (v0 : Int32) (v1 : Int32) (I : gM) (J : gN) {r : Int32} (h : fX1_letterOf v0 v1 = some r) : Cu l sh E bk yX1_letterOf cX1_letterOf 4 (some .int) (gR 0) [.int v0, .int v1] I J (fun r1 I1 J1 => r1 = some (.int r) ∧ I1 = I ∧ J1 = J) := by
  refine Cu.of "LeapJoin$Join" rfl hE (by decide) (Nat.le_of_ble_eq_true rfl) (fun z F B e hl => ?_)
  subst hl
  unfold fX1_letterOf at h
  refine g_iload_n F 1 dX1_letterOf_0 rfl rfl ?_
  refine g_istore_n (Ln := [(2, .int v1), (0, .int v0), (1, .int v1)]) F dX1_letterOf_1 rfl (by decide) rfl ?_
  refine g_iconst (v := 0) F dX1_letterOf_2 (by decide) ?_
  refine g_istore_n (Ln := [(3, .int 0), (2, .int v1), (0, .int v0), (1, .int v1)]) F dX1_letterOf_3 rfl (by decide) rfl ?_
  obtain ⟨w1, ew1, h⟩ := ob h
  refine g_sub (Ln := [(0, .int v0), (2, .int v1), (3, .int 0)]) [2, 1, 0] rfl ?_
  refine wlX1_letterOf_4 F B hE v0 I J _ ew1 (fun w1_0 q => ?_) (fun w1_1 q => ?_)
  · subst q
    replace h := oE1 h
    refine g_iload_n F 0 dX1_letterOf_21 rfl rfl ?_
    obtain rfl := Option.some.inj h
    exact g_iret F e dX1_letterOf_22 ⟨rfl, rfl, rfl⟩
  · subst q
    replace h := oE2 h
    refine g_iconst (v := 0) F dX1_letterOf_32 (by decide) ?_
    obtain rfl := Option.some.inj h
    exact g_iret F e dX1_letterOf_33 ⟨rfl, rfl, rfl⟩
theorem DX1_addLetters_0 : dAre cX1_addLetters [(0, .iconst 0, 1), (1, .istore_n 2, 1), (2, .iload_n 2, 1), (3, .iconst 4, 1), (4, .if_icmp .ge 45, 3), (7, .iload_n 1, 1), (8, .iload_n 2, 1), (9, .ishr, 1), (10, .iconst 1, 1), (11, .iand, 1), (12, .ifCond .eq 31, 3), (15, .aload_n 0, 1), (16, .getfield 18, 3), (19, .iconst 4, 1), (20, .if_icmp .ge 23, 3), (23, .aload_n 0, 1)] := dAre0 (by decide +kernel)
theorem dX1_addLetters_0 : decode cX1_addLetters 0 = .ok (.iconst 0, 1) := DX1_addLetters_0.1
theorem dX1_addLetters_1 : decode cX1_addLetters 1 = .ok (.istore_n 2, 1) := DX1_addLetters_0.2.1
theorem dX1_addLetters_2 : decode cX1_addLetters 2 = .ok (.iload_n 2, 1) := DX1_addLetters_0.2.2.1
theorem dX1_addLetters_3 : decode cX1_addLetters 3 = .ok (.iconst 4, 1) := DX1_addLetters_0.2.2.2.1
theorem dX1_addLetters_4 : decode cX1_addLetters 4 = .ok (.if_icmp .ge 45, 3) := DX1_addLetters_0.2.2.2.2.1
theorem dX1_addLetters_7 : decode cX1_addLetters 7 = .ok (.iload_n 1, 1) := DX1_addLetters_0.2.2.2.2.2.1
theorem dX1_addLetters_8 : decode cX1_addLetters 8 = .ok (.iload_n 2, 1) := DX1_addLetters_0.2.2.2.2.2.2.1
theorem dX1_addLetters_9 : decode cX1_addLetters 9 = .ok (.ishr, 1) := DX1_addLetters_0.2.2.2.2.2.2.2.1
theorem dX1_addLetters_10 : decode cX1_addLetters 10 = .ok (.iconst 1, 1) := DX1_addLetters_0.2.2.2.2.2.2.2.2.1
theorem dX1_addLetters_11 : decode cX1_addLetters 11 = .ok (.iand, 1) := DX1_addLetters_0.2.2.2.2.2.2.2.2.2.1
theorem dX1_addLetters_12 : decode cX1_addLetters 12 = .ok (.ifCond .eq 31, 3) := DX1_addLetters_0.2.2.2.2.2.2.2.2.2.2.1
theorem dX1_addLetters_15 : decode cX1_addLetters 15 = .ok (.aload_n 0, 1) := DX1_addLetters_0.2.2.2.2.2.2.2.2.2.2.2.1
theorem dX1_addLetters_16 : decode cX1_addLetters 16 = .ok (.getfield 18, 3) := DX1_addLetters_0.2.2.2.2.2.2.2.2.2.2.2.2.1
theorem dX1_addLetters_19 : decode cX1_addLetters 19 = .ok (.iconst 4, 1) := DX1_addLetters_0.2.2.2.2.2.2.2.2.2.2.2.2.2.1
theorem dX1_addLetters_20 : decode cX1_addLetters 20 = .ok (.if_icmp .ge 23, 3) := DX1_addLetters_0.2.2.2.2.2.2.2.2.2.2.2.2.2.2.1
theorem dX1_addLetters_23 : decode cX1_addLetters 23 = .ok (.aload_n 0, 1) := DX1_addLetters_0.2.2.2.2.2.2.2.2.2.2.2.2.2.2.2.1
theorem DX1_addLetters_24 : dAre cX1_addLetters [(24, .getfield 25, 3), (27, .aload_n 0, 1), (28, .getfield 18, 3), (31, .iload_n 2, 1), (32, .iastore, 1), (33, .aload_n 0, 1), (34, .dup, 1), (35, .getfield 18, 3), (38, .iconst 1, 1), (39, .iadd, 1), (40, .putfield 18, 3), (43, .iinc 2 1, 3), (46, .goto (-44), 3), (49, .return_, 1)] := dAre0 (by decide +kernel)
theorem dX1_addLetters_24 : decode cX1_addLetters 24 = .ok (.getfield 25, 3) := DX1_addLetters_24.1
theorem dX1_addLetters_27 : decode cX1_addLetters 27 = .ok (.aload_n 0, 1) := DX1_addLetters_24.2.1
theorem dX1_addLetters_28 : decode cX1_addLetters 28 = .ok (.getfield 18, 3) := DX1_addLetters_24.2.2.1
theorem dX1_addLetters_31 : decode cX1_addLetters 31 = .ok (.iload_n 2, 1) := DX1_addLetters_24.2.2.2.1
theorem dX1_addLetters_32 : decode cX1_addLetters 32 = .ok (.iastore, 1) := DX1_addLetters_24.2.2.2.2.1
theorem dX1_addLetters_33 : decode cX1_addLetters 33 = .ok (.aload_n 0, 1) := DX1_addLetters_24.2.2.2.2.2.1
theorem dX1_addLetters_34 : decode cX1_addLetters 34 = .ok (.dup, 1) := DX1_addLetters_24.2.2.2.2.2.2.1
theorem dX1_addLetters_35 : decode cX1_addLetters 35 = .ok (.getfield 18, 3) := DX1_addLetters_24.2.2.2.2.2.2.2.1
theorem dX1_addLetters_38 : decode cX1_addLetters 38 = .ok (.iconst 1, 1) := DX1_addLetters_24.2.2.2.2.2.2.2.2.1
theorem dX1_addLetters_39 : decode cX1_addLetters 39 = .ok (.iadd, 1) := DX1_addLetters_24.2.2.2.2.2.2.2.2.2.1
theorem dX1_addLetters_40 : decode cX1_addLetters 40 = .ok (.putfield 18, 3) := DX1_addLetters_24.2.2.2.2.2.2.2.2.2.2.1
theorem dX1_addLetters_43 : decode cX1_addLetters 43 = .ok (.iinc 2 1, 3) := DX1_addLetters_24.2.2.2.2.2.2.2.2.2.2.2.1
theorem dX1_addLetters_46 : decode cX1_addLetters 46 = .ok (.goto (-44), 3) := DX1_addLetters_24.2.2.2.2.2.2.2.2.2.2.2.2.1
theorem dX1_addLetters_49 : decode cX1_addLetters 49 = .ok (.return_, 1) := DX1_addLetters_24.2.2.2.2.2.2.2.2.2.2.2.2.2.1
theorem mX1_addLetters : gMv yX1_addLetters cX1_addLetters 3 none RX1 1 := ⟨q352, q1356, q4, q353, rfl, by decide, by decide, by decide +kernel⟩
noncomputable def bX1_addLetters_43 (v2 : Int32) (I : gM) : Option ((Int32 × gM) ⊕ (gM)) :=
  some (.inl (v2 + 1, I))
set_option maxRecDepth 100000 in
set_option maxHeartbeats 4000000 in
theorem wbX1_addLetters_43 {z : gZ} {E : gE} {bk : Nat} (F : Fx z sh E "LeapJoin$Join" cX1_addLetters (gR 0) 3) (B : bZ z bk) (hE : gDist sh E) (k : Nat) (v1 : Int32) (v2 : Int32) (hk : shX1 k) (I : gM) (J : gN) {y : (Int32 × gM) ⊕ (gM)} (h : bX1_addLetters_43 v2 I = some y) (hl : ∀ s' : Int32 × gM, y = .inl s' → G z 2 [(0, .ref (E.2.1 k)), (1, .int v1), (2, .int (s'.1))] [] s'.2 J) (K2_0 : ∀ x : gM, y = .inr x → G z 49 [] [] x J) : G z 43 [(0, .ref (E.2.1 k)), (1, .int v1), (2, .int v2)] [] I J := by
  unfold bX1_addLetters_43 at h
  refine g_iinc (v := v2 + 1) (Ln := [(2, .int (v2 + 1)), (0, .ref (E.2.1 k)), (1, .int v1)]) F 2 dX1_addLetters_43 rfl (add_c (by decide)) (by decide) rfl ?_
  refine g_goto (tgt := 2) F dX1_addLetters_46 (by decide) ?_
  obtain rfl := Option.some.inj h
  refine g_sub (Ln := [(0, .ref (E.2.1 k)), (1, .int v1), (2, .int (v2 + 1))]) [1, 2, 0] rfl ?_
  exact hl (v2 + 1, I) rfl
noncomputable def lX1_addLetters_2 (k : Nat) (v1 : Int32) : (Int32 × gM) → Option (gM) :=
  itO fun s =>
    if (4 : Int32) ≤ s.1 then
      some (.inr s.2)
    else
      if ((v1 >>> (s.1 &&& 31)) &&& 1) = 0 then
        bX1_addLetters_43 s.1 s.2
      else
        if (4 : Int32) ≤ (s.2 k 2) then
          bX1_addLetters_43 s.1 s.2
        else
          (wI s.2 (k + 2) 4 (s.2 k 2) s.1).bind fun I1 =>
          (pU I1 k 2 ((I1 k 2) + 1)).bind fun I2 =>
          bX1_addLetters_43 s.1 I2
set_option maxRecDepth 100000 in
set_option maxHeartbeats 4000000 in
theorem wlX1_addLetters_2 {z : gZ} {E : gE} {bk : Nat} (F : Fx z sh E "LeapJoin$Join" cX1_addLetters (gR 0) 3) (B : bZ z bk) (hE : gDist sh E) (k : Nat) (v1 : Int32) (hk : shX1 k) (J : gN) {r : gM} : ∀ s : Int32 × gM, lX1_addLetters_2 k v1 s = some r → (G z 49 [] [] r J) → G z 2 [(0, .ref (E.2.1 k)), (1, .int v1), (2, .int s.1)] [] s.2 J := by
  intro s h X0
  unfold lX1_addLetters_2 at h
  revert s
  refine itO_ind (P := fun s : Int32 × gM => G z 2 [(0, .ref (E.2.1 k)), (1, .int v1), (2, .int s.1)] [] s.2 J) (fun s y h hl hr => ?_)
  have K2_0 : ∀ x : gM, y = .inr x → (G z 49 [] [] x J) := fun x q => by have q2 := hr _ q; subst q2; exact X0
  refine g_iload_n F 2 dX1_addLetters_2 rfl rfl ?_
  refine g_iconst (v := 4) F dX1_addLetters_3 (by decide) ?_
  refine u_icmp_ge (tgt := 49) F dX1_addLetters_4 (by decide) h (fun h => ?_) (fun h => ?_)
  · obtain rfl := Option.some.inj h
    refine g_sub (Ln := []) [] rfl ?_
    exact K2_0 s.2 rfl
  · refine g_iload_n F 1 dX1_addLetters_7 rfl rfl ?_
    refine g_iload_n F 2 dX1_addLetters_8 rfl rfl ?_
    refine g_ishr (v := v1 >>> (s.1 &&& 31)) F dX1_addLetters_9 rfl ?_
    refine g_iconst (v := 1) F dX1_addLetters_10 (by decide) ?_
    refine g_iand (v := (v1 >>> (s.1 &&& 31)) &&& 1) F dX1_addLetters_11 rfl ?_
    refine u_if_eq (tgt := 43) F dX1_addLetters_12 (by decide) h (fun h => ?_) (fun h => ?_)
    · refine g_sub (Ln := [(0, .ref (E.2.1 k)), (1, .int v1), (2, .int s.1)]) [0, 1, 2] rfl ?_
      exact wbX1_addLetters_43 F B hE k v1 s.1 hk s.2 J h hl K2_0
    · refine g_aload_n F 0 dX1_addLetters_15 rfl rfl ?_
      refine g_geti (j := 2) (v := s.2 k 2) F hk.1 rfl rfl uX1 (by decide) q83 rfl dX1_addLetters_16 ?_
      refine g_iconst (v := 4) F dX1_addLetters_19 (by decide) ?_
      refine u_icmp_ge (tgt := 43) F dX1_addLetters_20 (by decide) h (fun h => ?_) (fun h => ?_)
      · refine g_sub (Ln := [(0, .ref (E.2.1 k)), (1, .int v1), (2, .int s.1)]) [0, 1, 2] rfl ?_
        exact wbX1_addLetters_43 F B hE k v1 s.1 hk s.2 J h hl K2_0
      · refine g_aload_n F 0 dX1_addLetters_23 rfl rfl ?_
        refine g_getr (j := 4) (nn := (k + 2)) F hk.1 rfl rfl uX1 (by decide) q87 dX1_addLetters_24 ?_
        refine g_aload_n F 0 dX1_addLetters_27 rfl rfl ?_
        refine g_geti (j := 2) (v := s.2 k 2) F hk.1 rfl rfl uX1 (by decide) q83 rfl dX1_addLetters_28 ?_
        refine g_iload_n F 2 dX1_addLetters_31 rfl rfl ?_
        refine u_wI F hk.2.2.1 (by decide) dX1_addLetters_32 h (fun I1 h => ?_)
        refine g_aload_n F 0 dX1_addLetters_33 rfl rfl ?_
        refine g_dup F dX1_addLetters_34 rfl ?_
        refine g_geti (j := 2) (v := I1 k 2) F hk.1 rfl rfl uX1 (by decide) q83 rfl dX1_addLetters_35 ?_
        refine g_iconst (v := 1) F dX1_addLetters_38 (by decide) ?_
        refine g_iadd (v := (I1 k 2) + 1) F dX1_addLetters_39 rfl ?_
        refine u_puti (j := 2) F hk.1 rfl rfl uX1 (by decide) q83 tyX1_ok nmX1 rfl rfl rfl dX1_addLetters_40 h (fun I2 h => ?_)
        refine g_sub (Ln := [(0, .ref (E.2.1 k)), (1, .int v1), (2, .int s.1)]) [0, 1, 2] rfl ?_
        exact wbX1_addLetters_43 F B hE k v1 s.1 hk I2 J h hl K2_0
noncomputable def fX1_addLetters (k : Nat) (v1 : Int32) (I : gM) : Option (gM) :=
  (lX1_addLetters_2 k v1 ((0 : Int32), I)).bind fun w3 =>
  some w3
set_option maxRecDepth 100000 in
set_option maxHeartbeats 4000000 in
theorem wX1_addLetters (l : Launch) (E : gE) (hE : gDist sh E) (bk : Nat) (k : Nat) (v1 : Int32) (hk : shX1 k) (I : gM) (J : gN) {r : gM} (h : fX1_addLetters k v1 I = some r) : Cu l sh E bk yX1_addLetters cX1_addLetters 3 none (gR 0) [.ref (E.2.1 k), .int v1] I J (fun r1 I1 J1 => r1 = none ∧ I1 = r ∧ J1 = J) := by
  refine Cu.of "LeapJoin$Join" rfl hE (by decide) (Nat.le_of_ble_eq_true rfl) (fun z F B e hl => ?_)
  subst hl
  unfold fX1_addLetters at h
  refine g_iconst (v := 0) F dX1_addLetters_0 (by decide) ?_
  refine g_istore_n (Ln := [(2, .int 0), (0, .ref (E.2.1 k)), (1, .int v1)]) F dX1_addLetters_1 rfl (by decide) rfl ?_
  obtain ⟨w3, ew3, h⟩ := ob h
  refine g_sub (Ln := [(0, .ref (E.2.1 k)), (1, .int v1), (2, .int 0)]) [1, 2, 0] rfl ?_
  refine wlX1_addLetters_2 F B hE k v1 hk J _ ew3 ?_
  obtain rfl := Option.some.inj h
  exact g_vret F e dX1_addLetters_49 ⟨rfl, rfl, rfl⟩
theorem DX5_columnOf_0 : dAre cX5_columnOf [(0, .iconst 0, 1), (1, .istore_n 3, 1), (2, .iload_n 3, 1), (3, .aload_n 0, 1), (4, .getfield 21, 3), (7, .iload_n 1, 1), (8, .iaload, 1), (9, .if_icmp .ge 25, 3), (12, .aload_n 0, 1), (13, .getfield 28, 3), (16, .iload_n 1, 1), (17, .iconst 3, 1), (18, .imul, 1), (19, .iload_n 3, 1), (20, .iadd, 1), (21, .iaload, 1)] := dAre0 (by decide +kernel)
theorem dX5_columnOf_0 : decode cX5_columnOf 0 = .ok (.iconst 0, 1) := DX5_columnOf_0.1
theorem dX5_columnOf_1 : decode cX5_columnOf 1 = .ok (.istore_n 3, 1) := DX5_columnOf_0.2.1
theorem dX5_columnOf_2 : decode cX5_columnOf 2 = .ok (.iload_n 3, 1) := DX5_columnOf_0.2.2.1
theorem dX5_columnOf_3 : decode cX5_columnOf 3 = .ok (.aload_n 0, 1) := DX5_columnOf_0.2.2.2.1
theorem dX5_columnOf_4 : decode cX5_columnOf 4 = .ok (.getfield 21, 3) := DX5_columnOf_0.2.2.2.2.1
theorem dX5_columnOf_7 : decode cX5_columnOf 7 = .ok (.iload_n 1, 1) := DX5_columnOf_0.2.2.2.2.2.1
theorem dX5_columnOf_8 : decode cX5_columnOf 8 = .ok (.iaload, 1) := DX5_columnOf_0.2.2.2.2.2.2.1
theorem dX5_columnOf_9 : decode cX5_columnOf 9 = .ok (.if_icmp .ge 25, 3) := DX5_columnOf_0.2.2.2.2.2.2.2.1
theorem dX5_columnOf_12 : decode cX5_columnOf 12 = .ok (.aload_n 0, 1) := DX5_columnOf_0.2.2.2.2.2.2.2.2.1
theorem dX5_columnOf_13 : decode cX5_columnOf 13 = .ok (.getfield 28, 3) := DX5_columnOf_0.2.2.2.2.2.2.2.2.2.1
theorem dX5_columnOf_16 : decode cX5_columnOf 16 = .ok (.iload_n 1, 1) := DX5_columnOf_0.2.2.2.2.2.2.2.2.2.2.1
theorem dX5_columnOf_17 : decode cX5_columnOf 17 = .ok (.iconst 3, 1) := DX5_columnOf_0.2.2.2.2.2.2.2.2.2.2.2.1
theorem dX5_columnOf_18 : decode cX5_columnOf 18 = .ok (.imul, 1) := DX5_columnOf_0.2.2.2.2.2.2.2.2.2.2.2.2.1
theorem dX5_columnOf_19 : decode cX5_columnOf 19 = .ok (.iload_n 3, 1) := DX5_columnOf_0.2.2.2.2.2.2.2.2.2.2.2.2.2.1
theorem dX5_columnOf_20 : decode cX5_columnOf 20 = .ok (.iadd, 1) := DX5_columnOf_0.2.2.2.2.2.2.2.2.2.2.2.2.2.2.1
theorem dX5_columnOf_21 : decode cX5_columnOf 21 = .ok (.iaload, 1) := DX5_columnOf_0.2.2.2.2.2.2.2.2.2.2.2.2.2.2.2.1
theorem DX5_columnOf_22 : dAre cX5_columnOf [(22, .iload_n 2, 1), (23, .if_icmp .ne 5, 3), (26, .iload_n 3, 1), (27, .ireturn, 1), (28, .iinc 3 1, 3), (31, .goto (-29), 3), (34, .iconst (-1), 1), (35, .ireturn, 1)] := dAre0 (by decide +kernel)
theorem dX5_columnOf_22 : decode cX5_columnOf 22 = .ok (.iload_n 2, 1) := DX5_columnOf_22.1
theorem dX5_columnOf_23 : decode cX5_columnOf 23 = .ok (.if_icmp .ne 5, 3) := DX5_columnOf_22.2.1
theorem dX5_columnOf_26 : decode cX5_columnOf 26 = .ok (.iload_n 3, 1) := DX5_columnOf_22.2.2.1
theorem dX5_columnOf_27 : decode cX5_columnOf 27 = .ok (.ireturn, 1) := DX5_columnOf_22.2.2.2.1
theorem dX5_columnOf_28 : decode cX5_columnOf 28 = .ok (.iinc 3 1, 3) := DX5_columnOf_22.2.2.2.2.1
theorem dX5_columnOf_31 : decode cX5_columnOf 31 = .ok (.goto (-29), 3) := DX5_columnOf_22.2.2.2.2.2.1
theorem dX5_columnOf_34 : decode cX5_columnOf 34 = .ok (.iconst (-1), 1) := DX5_columnOf_22.2.2.2.2.2.2.1
theorem dX5_columnOf_35 : decode cX5_columnOf 35 = .ok (.ireturn, 1) := DX5_columnOf_22.2.2.2.2.2.2.2.1
theorem mX5_columnOf : gMv yX5_columnOf cX5_columnOf 4 (some .int) RX5 2 := ⟨q252, q253, q3, q254, rfl, by decide, by decide, by decide +kernel⟩
noncomputable def lX5_columnOf_2 (k : Nat) (v1 : Int32) (v2 : Int32) (I : gM) : Int32 → Option ((Int32) ⊕ (Unit)) :=
  itO fun s =>
    (rI 4 (I (k + 1)) v1).bind fun u1 =>
    if u1 ≤ s then
      some (.inr (.inr ()))
    else
      (rI 12 (I (k + 3)) ((v1 * 3) + s)).bind fun u2 =>
      if u2 = v2 then
        some (.inr (.inl s))
      else
        some (.inl (s + 1))
set_option maxRecDepth 100000 in
set_option maxHeartbeats 4000000 in
theorem wlX5_columnOf_2 {z : gZ} {E : gE} {bk : Nat} (F : Fx z sh E "LeapJoin$Tables" cX5_columnOf (gR 0) 4) (B : bZ z bk) (hE : gDist sh E) (k : Nat) (v1 : Int32) (v2 : Int32) (hk : shX5 k) (I : gM) (J : gN) {r : (Int32) ⊕ (Unit)} : ∀ s : Int32, lX5_columnOf_2 k v1 v2 I s = some r → (∀ x : Int32, r = .inl x → G z 26 [(3, .int x)] [] I J) → (∀ x : Unit, r = .inr x → G z 34 [] [] I J) → G z 2 [(0, .ref (E.2.1 k)), (1, .int v1), (2, .int v2), (3, .int s)] [] I J := by
  intro s h X0 X1
  unfold lX5_columnOf_2 at h
  revert s
  refine itO_ind (P := fun s : Int32 => G z 2 [(0, .ref (E.2.1 k)), (1, .int v1), (2, .int v2), (3, .int s)] [] I J) (fun s y h hl hr => ?_)
  have K2_0 := fun (x : Int32) (q : y = .inr (.inl x)) => X0 x (hr _ q).symm
  have K2_1 := fun (x : Unit) (q : y = .inr (.inr x)) => X1 x (hr _ q).symm
  refine g_iload_n F 3 dX5_columnOf_2 rfl rfl ?_
  refine g_aload_n F 0 dX5_columnOf_3 rfl rfl ?_
  refine g_getr (j := 3) (nn := (k + 1)) F hk.1 rfl rfl uX5 (by decide) q55 dX5_columnOf_4 ?_
  refine g_iload_n F 1 dX5_columnOf_7 rfl rfl ?_
  refine u_rI F hk.2.1 (by decide) dX5_columnOf_8 h (fun u1 h => ?_)
  refine u_icmp_ge (tgt := 34) F dX5_columnOf_9 (by decide) h (fun h => ?_) (fun h => ?_)
  · obtain rfl := Option.some.inj h
    refine g_sub (Ln := []) [] rfl ?_
    exact K2_1 () rfl
  · refine g_aload_n F 0 dX5_columnOf_12 rfl rfl ?_
    refine g_getr (j := 5) (nn := (k + 3)) F hk.1 rfl rfl uX5 (by decide) q62 dX5_columnOf_13 ?_
    refine g_iload_n F 1 dX5_columnOf_16 rfl rfl ?_
    refine g_iconst (v := 3) F dX5_columnOf_17 (by decide) ?_
    refine g_imul (v := v1 * 3) F dX5_columnOf_18 rfl ?_
    refine g_iload_n F 3 dX5_columnOf_19 rfl rfl ?_
    refine g_iadd (v := (v1 * 3) + s) F dX5_columnOf_20 rfl ?_
    refine u_rI F hk.2.2.2.1 (by decide) dX5_columnOf_21 h (fun u2 h => ?_)
    refine g_iload_n F 2 dX5_columnOf_22 rfl rfl ?_
    refine u_icmp_ne (tgt := 28) F dX5_columnOf_23 (by decide) h (fun h => ?_) (fun h => ?_)
    · obtain rfl := Option.some.inj h
      refine g_sub (Ln := [(3, .int s)]) [3] rfl ?_
      exact K2_0 s rfl
    · refine g_iinc (v := s + 1) (Ln := [(3, .int (s + 1)), (0, .ref (E.2.1 k)), (1, .int v1), (2, .int v2)]) F 3 dX5_columnOf_28 rfl (add_c (by decide)) (by decide) rfl ?_
      refine g_goto (tgt := 2) F dX5_columnOf_31 (by decide) ?_
      obtain rfl := Option.some.inj h
      refine g_sub (Ln := [(0, .ref (E.2.1 k)), (1, .int v1), (2, .int v2), (3, .int (s + 1))]) [1, 2, 3, 0] rfl ?_
      exact hl (s + 1) rfl
noncomputable def fX5_columnOf (k : Nat) (v1 : Int32) (v2 : Int32) (I : gM) : Option (Int32) :=
  (lX5_columnOf_2 k v1 v2 I (0 : Int32)).bind fun w3 =>
  Sum.elim (fun w3_0 =>
    some w3_0)
  (fun w3_1 =>
    some ((-1) : Int32)) w3
set_option maxRecDepth 100000 in
set_option maxHeartbeats 4000000 in
theorem wX5_columnOf (l : Launch) (E : gE) (hE : gDist sh E) (bk : Nat) (k : Nat) (v1 : Int32) (v2 : Int32) (hk : shX5 k) (I : gM) (J : gN) {r : Int32} (h : fX5_columnOf k v1 v2 I = some r) : Cu l sh E bk yX5_columnOf cX5_columnOf 4 (some .int) (gR 0) [.ref (E.2.1 k), .int v1, .int v2] I J (fun r1 I1 J1 => r1 = some (.int r) ∧ I1 = I ∧ J1 = J) := by
  refine Cu.of "LeapJoin$Tables" rfl hE (by decide) (Nat.le_of_ble_eq_true rfl) (fun z F B e hl => ?_)
  subst hl
  unfold fX5_columnOf at h
  refine g_iconst (v := 0) F dX5_columnOf_0 (by decide) ?_
  refine g_istore_n (Ln := [(3, .int 0), (0, .ref (E.2.1 k)), (1, .int v1), (2, .int v2)]) F dX5_columnOf_1 rfl (by decide) rfl ?_
  obtain ⟨w3, ew3, h⟩ := ob h
  refine g_sub (Ln := [(0, .ref (E.2.1 k)), (1, .int v1), (2, .int v2), (3, .int 0)]) [1, 2, 3, 0] rfl ?_
  refine wlX5_columnOf_2 F B hE k v1 v2 hk I J _ ew3 (fun w3_0 q => ?_) (fun w3_1 q => ?_)
  · subst q
    replace h := oE1 h
    refine g_iload_n F 0 dX5_columnOf_26 rfl rfl ?_
    obtain rfl := Option.some.inj h
    exact g_iret F e dX5_columnOf_27 ⟨rfl, rfl, rfl⟩
  · subst q
    replace h := oE2 h
    refine g_iconst (v := (-1)) F dX5_columnOf_34 (by decide) ?_
    obtain rfl := Option.some.inj h
    exact g_iret F e dX5_columnOf_35 ⟨rfl, rfl, rfl⟩
theorem DX1_addSorted_0 : dAre cX1_addSorted [(0, .aload_n 0, 1), (1, .getfield 46, 3), (4, .iload_n 1, 1), (5, .iaload, 1), (6, .istore_n 3, 1), (7, .iload_n 3, 1), (8, .aload_n 0, 1), (9, .getfield 43, 3), (12, .iload_n 1, 1), (13, .iaload, 1), (14, .if_icmp .le 35, 3), (17, .aload_n 0, 1), (18, .getfield 34, 3), (21, .iload_n 3, 1), (22, .iconst 1, 1), (23, .isub, 1)] := dAre0 (by decide +kernel)
theorem dX1_addSorted_0 : decode cX1_addSorted 0 = .ok (.aload_n 0, 1) := DX1_addSorted_0.1
theorem dX1_addSorted_1 : decode cX1_addSorted 1 = .ok (.getfield 46, 3) := DX1_addSorted_0.2.1
theorem dX1_addSorted_4 : decode cX1_addSorted 4 = .ok (.iload_n 1, 1) := DX1_addSorted_0.2.2.1
theorem dX1_addSorted_5 : decode cX1_addSorted 5 = .ok (.iaload, 1) := DX1_addSorted_0.2.2.2.1
theorem dX1_addSorted_6 : decode cX1_addSorted 6 = .ok (.istore_n 3, 1) := DX1_addSorted_0.2.2.2.2.1
theorem dX1_addSorted_7 : decode cX1_addSorted 7 = .ok (.iload_n 3, 1) := DX1_addSorted_0.2.2.2.2.2.1
theorem dX1_addSorted_8 : decode cX1_addSorted 8 = .ok (.aload_n 0, 1) := DX1_addSorted_0.2.2.2.2.2.2.1
theorem dX1_addSorted_9 : decode cX1_addSorted 9 = .ok (.getfield 43, 3) := DX1_addSorted_0.2.2.2.2.2.2.2.1
theorem dX1_addSorted_12 : decode cX1_addSorted 12 = .ok (.iload_n 1, 1) := DX1_addSorted_0.2.2.2.2.2.2.2.2.1
theorem dX1_addSorted_13 : decode cX1_addSorted 13 = .ok (.iaload, 1) := DX1_addSorted_0.2.2.2.2.2.2.2.2.2.1
theorem dX1_addSorted_14 : decode cX1_addSorted 14 = .ok (.if_icmp .le 35, 3) := DX1_addSorted_0.2.2.2.2.2.2.2.2.2.2.1
theorem dX1_addSorted_17 : decode cX1_addSorted 17 = .ok (.aload_n 0, 1) := DX1_addSorted_0.2.2.2.2.2.2.2.2.2.2.2.1
theorem dX1_addSorted_18 : decode cX1_addSorted 18 = .ok (.getfield 34, 3) := DX1_addSorted_0.2.2.2.2.2.2.2.2.2.2.2.2.1
theorem dX1_addSorted_21 : decode cX1_addSorted 21 = .ok (.iload_n 3, 1) := DX1_addSorted_0.2.2.2.2.2.2.2.2.2.2.2.2.2.1
theorem dX1_addSorted_22 : decode cX1_addSorted 22 = .ok (.iconst 1, 1) := DX1_addSorted_0.2.2.2.2.2.2.2.2.2.2.2.2.2.2.1
theorem dX1_addSorted_23 : decode cX1_addSorted 23 = .ok (.isub, 1) := DX1_addSorted_0.2.2.2.2.2.2.2.2.2.2.2.2.2.2.2.1
theorem DX1_addSorted_24 : dAre cX1_addSorted [(24, .iaload, 1), (25, .iload_n 2, 1), (26, .if_icmp .le 23, 3), (29, .aload_n 0, 1), (30, .getfield 34, 3), (33, .iload_n 3, 1), (34, .aload_n 0, 1), (35, .getfield 34, 3), (38, .iload_n 3, 1), (39, .iconst 1, 1), (40, .isub, 1), (41, .iaload, 1), (42, .iastore, 1), (43, .iinc 3 (-1), 3), (46, .goto (-39), 3), (49, .aload_n 0, 1)] := dAre0 (by decide +kernel)
theorem dX1_addSorted_24 : decode cX1_addSorted 24 = .ok (.iaload, 1) := DX1_addSorted_24.1
theorem dX1_addSorted_25 : decode cX1_addSorted 25 = .ok (.iload_n 2, 1) := DX1_addSorted_24.2.1
theorem dX1_addSorted_26 : decode cX1_addSorted 26 = .ok (.if_icmp .le 23, 3) := DX1_addSorted_24.2.2.1
theorem dX1_addSorted_29 : decode cX1_addSorted 29 = .ok (.aload_n 0, 1) := DX1_addSorted_24.2.2.2.1
theorem dX1_addSorted_30 : decode cX1_addSorted 30 = .ok (.getfield 34, 3) := DX1_addSorted_24.2.2.2.2.1
theorem dX1_addSorted_33 : decode cX1_addSorted 33 = .ok (.iload_n 3, 1) := DX1_addSorted_24.2.2.2.2.2.1
theorem dX1_addSorted_34 : decode cX1_addSorted 34 = .ok (.aload_n 0, 1) := DX1_addSorted_24.2.2.2.2.2.2.1
theorem dX1_addSorted_35 : decode cX1_addSorted 35 = .ok (.getfield 34, 3) := DX1_addSorted_24.2.2.2.2.2.2.2.1
theorem dX1_addSorted_38 : decode cX1_addSorted 38 = .ok (.iload_n 3, 1) := DX1_addSorted_24.2.2.2.2.2.2.2.2.1
theorem dX1_addSorted_39 : decode cX1_addSorted 39 = .ok (.iconst 1, 1) := DX1_addSorted_24.2.2.2.2.2.2.2.2.2.1
theorem dX1_addSorted_40 : decode cX1_addSorted 40 = .ok (.isub, 1) := DX1_addSorted_24.2.2.2.2.2.2.2.2.2.2.1
theorem dX1_addSorted_41 : decode cX1_addSorted 41 = .ok (.iaload, 1) := DX1_addSorted_24.2.2.2.2.2.2.2.2.2.2.2.1
theorem dX1_addSorted_42 : decode cX1_addSorted 42 = .ok (.iastore, 1) := DX1_addSorted_24.2.2.2.2.2.2.2.2.2.2.2.2.1
theorem dX1_addSorted_43 : decode cX1_addSorted 43 = .ok (.iinc 3 (-1), 3) := DX1_addSorted_24.2.2.2.2.2.2.2.2.2.2.2.2.2.1
theorem dX1_addSorted_46 : decode cX1_addSorted 46 = .ok (.goto (-39), 3) := DX1_addSorted_24.2.2.2.2.2.2.2.2.2.2.2.2.2.2.1
theorem dX1_addSorted_49 : decode cX1_addSorted 49 = .ok (.aload_n 0, 1) := DX1_addSorted_24.2.2.2.2.2.2.2.2.2.2.2.2.2.2.2.1
theorem DX1_addSorted_50 : dAre cX1_addSorted [(50, .getfield 34, 3), (53, .iload_n 3, 1), (54, .iload_n 2, 1), (55, .iastore, 1), (56, .aload_n 0, 1), (57, .getfield 46, 3), (60, .iload_n 1, 1), (61, .dup2, 1), (62, .iaload, 1), (63, .iconst 1, 1), (64, .iadd, 1), (65, .iastore, 1), (66, .return_, 1)] := dAre0 (by decide +kernel)
theorem dX1_addSorted_50 : decode cX1_addSorted 50 = .ok (.getfield 34, 3) := DX1_addSorted_50.1
theorem dX1_addSorted_53 : decode cX1_addSorted 53 = .ok (.iload_n 3, 1) := DX1_addSorted_50.2.1
theorem dX1_addSorted_54 : decode cX1_addSorted 54 = .ok (.iload_n 2, 1) := DX1_addSorted_50.2.2.1
theorem dX1_addSorted_55 : decode cX1_addSorted 55 = .ok (.iastore, 1) := DX1_addSorted_50.2.2.2.1
theorem dX1_addSorted_56 : decode cX1_addSorted 56 = .ok (.aload_n 0, 1) := DX1_addSorted_50.2.2.2.2.1
theorem dX1_addSorted_57 : decode cX1_addSorted 57 = .ok (.getfield 46, 3) := DX1_addSorted_50.2.2.2.2.2.1
theorem dX1_addSorted_60 : decode cX1_addSorted 60 = .ok (.iload_n 1, 1) := DX1_addSorted_50.2.2.2.2.2.2.1
theorem dX1_addSorted_61 : decode cX1_addSorted 61 = .ok (.dup2, 1) := DX1_addSorted_50.2.2.2.2.2.2.2.1
theorem dX1_addSorted_62 : decode cX1_addSorted 62 = .ok (.iaload, 1) := DX1_addSorted_50.2.2.2.2.2.2.2.2.1
theorem dX1_addSorted_63 : decode cX1_addSorted 63 = .ok (.iconst 1, 1) := DX1_addSorted_50.2.2.2.2.2.2.2.2.2.1
theorem dX1_addSorted_64 : decode cX1_addSorted 64 = .ok (.iadd, 1) := DX1_addSorted_50.2.2.2.2.2.2.2.2.2.2.1
theorem dX1_addSorted_65 : decode cX1_addSorted 65 = .ok (.iastore, 1) := DX1_addSorted_50.2.2.2.2.2.2.2.2.2.2.2.1
theorem dX1_addSorted_66 : decode cX1_addSorted 66 = .ok (.return_, 1) := DX1_addSorted_50.2.2.2.2.2.2.2.2.2.2.2.2.1
theorem mX1_addSorted : gMv yX1_addSorted cX1_addSorted 4 none RX1 2 := ⟨q365, q1359, q4, q366, rfl, by decide, by decide, by decide +kernel⟩
noncomputable def lX1_addSorted_7 (k : Nat) (v1 : Int32) (v2 : Int32) : (Int32 × gM) → Option (Int32 × gM) :=
  itO fun s =>
    (rI 16 (s.2 (k + 8)) v1).bind fun u2 =>
    if s.1 ≤ u2 then
      some (.inr (s.1, s.2))
    else
      (rI 48 (s.2 (k + 5)) (s.1 - 1)).bind fun u3 =>
      if u3 ≤ v2 then
        some (.inr (s.1, s.2))
      else
        (rI 48 (s.2 (k + 5)) (s.1 - 1)).bind fun u4 =>
        (wI s.2 (k + 5) 48 s.1 u4).bind fun I5 =>
        some (.inl (s.1 + (-1), I5))
set_option maxRecDepth 100000 in
set_option maxHeartbeats 4000000 in
theorem wlX1_addSorted_7 {z : gZ} {E : gE} {bk : Nat} (F : Fx z sh E "LeapJoin$Join" cX1_addSorted (gR 0) 4) (B : bZ z bk) (hE : gDist sh E) (k : Nat) (v1 : Int32) (v2 : Int32) (hk : shX1 k) (J : gN) {r : Int32 × gM} : ∀ s : Int32 × gM, lX1_addSorted_7 k v1 v2 s = some r → (G z 49 [(0, .ref (E.2.1 k)), (1, .int v1), (2, .int v2), (3, .int r.1)] [] r.2 J) → G z 7 [(0, .ref (E.2.1 k)), (1, .int v1), (2, .int v2), (3, .int s.1)] [] s.2 J := by
  intro s h X0
  unfold lX1_addSorted_7 at h
  revert s
  refine itO_ind (P := fun s : Int32 × gM => G z 7 [(0, .ref (E.2.1 k)), (1, .int v1), (2, .int v2), (3, .int s.1)] [] s.2 J) (fun s y h hl hr => ?_)
  have K7_0 : ∀ x : Int32 × gM, y = .inr x → (G z 49 [(0, .ref (E.2.1 k)), (1, .int v1), (2, .int v2), (3, .int x.1)] [] x.2 J) := fun x q => by have q2 := hr _ q; subst q2; exact X0
  refine g_iload_n F 3 dX1_addSorted_7 rfl rfl ?_
  refine g_aload_n F 0 dX1_addSorted_8 rfl rfl ?_
  refine g_getr (j := 10) (nn := (k + 8)) F hk.1 rfl rfl uX1 (by decide) q93 dX1_addSorted_9 ?_
  refine g_iload_n F 1 dX1_addSorted_12 rfl rfl ?_
  refine u_rI F hk.2.2.2.2.2.2.2.2.1 (by decide) dX1_addSorted_13 h (fun u2 h => ?_)
  refine u_icmp_le (tgt := 49) F dX1_addSorted_14 (by decide) h (fun h => ?_) (fun h => ?_)
  · obtain rfl := Option.some.inj h
    refine g_sub (Ln := [(0, .ref (E.2.1 k)), (1, .int v1), (2, .int v2), (3, .int s.1)]) [0, 1, 2, 3] rfl ?_
    exact K7_0 (s.1, s.2) rfl
  · refine g_aload_n F 0 dX1_addSorted_17 rfl rfl ?_
    refine g_getr (j := 7) (nn := (k + 5)) F hk.1 rfl rfl uX1 (by decide) q90 dX1_addSorted_18 ?_
    refine g_iload_n F 3 dX1_addSorted_21 rfl rfl ?_
    refine g_iconst (v := 1) F dX1_addSorted_22 (by decide) ?_
    refine g_isub (v := s.1 - 1) F dX1_addSorted_23 rfl ?_
    refine u_rI F hk.2.2.2.2.2.1 (by decide) dX1_addSorted_24 h (fun u3 h => ?_)
    refine g_iload_n F 2 dX1_addSorted_25 rfl rfl ?_
    refine u_icmp_le (tgt := 49) F dX1_addSorted_26 (by decide) h (fun h => ?_) (fun h => ?_)
    · obtain rfl := Option.some.inj h
      refine g_sub (Ln := [(0, .ref (E.2.1 k)), (1, .int v1), (2, .int v2), (3, .int s.1)]) [0, 1, 2, 3] rfl ?_
      exact K7_0 (s.1, s.2) rfl
    · refine g_aload_n F 0 dX1_addSorted_29 rfl rfl ?_
      refine g_getr (j := 7) (nn := (k + 5)) F hk.1 rfl rfl uX1 (by decide) q90 dX1_addSorted_30 ?_
      refine g_iload_n F 3 dX1_addSorted_33 rfl rfl ?_
      refine g_aload_n F 0 dX1_addSorted_34 rfl rfl ?_
      refine g_getr (j := 7) (nn := (k + 5)) F hk.1 rfl rfl uX1 (by decide) q90 dX1_addSorted_35 ?_
      refine g_iload_n F 3 dX1_addSorted_38 rfl rfl ?_
      refine g_iconst (v := 1) F dX1_addSorted_39 (by decide) ?_
      refine g_isub (v := s.1 - 1) F dX1_addSorted_40 rfl ?_
      refine u_rI F hk.2.2.2.2.2.1 (by decide) dX1_addSorted_41 h (fun u4 h => ?_)
      refine u_wI F hk.2.2.2.2.2.1 (by decide) dX1_addSorted_42 h (fun I5 h => ?_)
      refine g_iinc (v := s.1 + (-1)) (Ln := [(3, .int (s.1 + (-1))), (0, .ref (E.2.1 k)), (1, .int v1), (2, .int v2)]) F 3 dX1_addSorted_43 rfl (add_c (by decide)) (by decide) rfl ?_
      refine g_goto (tgt := 7) F dX1_addSorted_46 (by decide) ?_
      obtain rfl := Option.some.inj h
      refine g_sub (Ln := [(0, .ref (E.2.1 k)), (1, .int v1), (2, .int v2), (3, .int (s.1 + (-1)))]) [1, 2, 3, 0] rfl ?_
      exact hl (s.1 + (-1), I5) rfl
noncomputable def bX1_addSorted_49 (k : Nat) (v1 : Int32) (v2 : Int32) (v3 : Int32) (I : gM) : Option (gM) :=
  (wI I (k + 5) 48 v3 v2).bind fun I7 =>
  (rI 16 (I7 (k + 9)) v1).bind fun u8 =>
  (wI I7 (k + 9) 16 v1 (u8 + 1)).bind fun I9 =>
  some I9
set_option maxRecDepth 100000 in
set_option maxHeartbeats 4000000 in
theorem wbX1_addSorted_49 {z : gZ} {E : gE} {bk : Nat} (F : Fx z sh E "LeapJoin$Join" cX1_addSorted (gR 0) 4) (B : bZ z bk) (hE : gDist sh E) (k : Nat) (v1 : Int32) (v2 : Int32) (v3 : Int32) (hk : shX1 k) (I : gM) (J : gN) {y : gM} (h : bX1_addSorted_49 k v1 v2 v3 I = some y) (e : Fe z sh E none (fun r1 I1 J1 => r1 = none ∧ I1 = y ∧ J1 = J)) : G z 49 [(0, .ref (E.2.1 k)), (1, .int v1), (2, .int v2), (3, .int v3)] [] I J := by
  unfold bX1_addSorted_49 at h
  refine g_aload_n F 0 dX1_addSorted_49 rfl rfl ?_
  refine g_getr (j := 7) (nn := (k + 5)) F hk.1 rfl rfl uX1 (by decide) q90 dX1_addSorted_50 ?_
  refine g_iload_n F 3 dX1_addSorted_53 rfl rfl ?_
  refine g_iload_n F 2 dX1_addSorted_54 rfl rfl ?_
  refine u_wI F hk.2.2.2.2.2.1 (by decide) dX1_addSorted_55 h (fun I7 h => ?_)
  refine g_aload_n F 0 dX1_addSorted_56 rfl rfl ?_
  refine g_getr (j := 11) (nn := (k + 9)) F hk.1 rfl rfl uX1 (by decide) q94 dX1_addSorted_57 ?_
  refine g_iload_n F 1 dX1_addSorted_60 rfl rfl ?_
  refine g_dup2 F dX1_addSorted_61 rfl rfl ?_
  refine u_rI F hk.2.2.2.2.2.2.2.2.2.1 (by decide) dX1_addSorted_62 h (fun u8 h => ?_)
  refine g_iconst (v := 1) F dX1_addSorted_63 (by decide) ?_
  refine g_iadd (v := u8 + 1) F dX1_addSorted_64 rfl ?_
  refine u_wI F hk.2.2.2.2.2.2.2.2.2.1 (by decide) dX1_addSorted_65 h (fun I9 h => ?_)
  obtain rfl := Option.some.inj h
  exact g_vret F e dX1_addSorted_66 ⟨rfl, rfl, rfl⟩
noncomputable def fX1_addSorted (k : Nat) (v1 : Int32) (v2 : Int32) (I : gM) : Option (gM) :=
  (rI 16 (I (k + 9)) v1).bind fun u1 =>
  (lX1_addSorted_7 k v1 v2 (u1, I)).bind fun w6 =>
  bX1_addSorted_49 k v1 v2 w6.1 w6.2
set_option maxRecDepth 100000 in
set_option maxHeartbeats 4000000 in
theorem wX1_addSorted (l : Launch) (E : gE) (hE : gDist sh E) (bk : Nat) (k : Nat) (v1 : Int32) (v2 : Int32) (hk : shX1 k) (I : gM) (J : gN) {r : gM} (h : fX1_addSorted k v1 v2 I = some r) : Cu l sh E bk yX1_addSorted cX1_addSorted 4 none (gR 0) [.ref (E.2.1 k), .int v1, .int v2] I J (fun r1 I1 J1 => r1 = none ∧ I1 = r ∧ J1 = J) := by
  refine Cu.of "LeapJoin$Join" rfl hE (by decide) (Nat.le_of_ble_eq_true rfl) (fun z F B e hl => ?_)
  subst hl
  unfold fX1_addSorted at h
  refine g_aload_n F 0 dX1_addSorted_0 rfl rfl ?_
  refine g_getr (j := 11) (nn := (k + 9)) F hk.1 rfl rfl uX1 (by decide) q94 dX1_addSorted_1 ?_
  refine g_iload_n F 1 dX1_addSorted_4 rfl rfl ?_
  refine u_rI F hk.2.2.2.2.2.2.2.2.2.1 (by decide) dX1_addSorted_5 h (fun u1 h => ?_)
  refine g_istore_n (Ln := [(3, .int u1), (0, .ref (E.2.1 k)), (1, .int v1), (2, .int v2)]) F dX1_addSorted_6 rfl (by decide) rfl ?_
  obtain ⟨w6, ew6, h⟩ := ob h
  refine g_sub (Ln := [(0, .ref (E.2.1 k)), (1, .int v1), (2, .int v2), (3, .int u1)]) [1, 2, 3, 0] rfl ?_
  refine wlX1_addSorted_7 F B hE k v1 v2 hk J _ ew6 ?_
  refine g_sub (Ln := [(0, .ref (E.2.1 k)), (1, .int v1), (2, .int v2), (3, .int w6.1)]) [0, 1, 2, 3] rfl ?_
  exact wbX1_addSorted_49 F B hE k v1 v2 w6.1 hk w6.2 J h e
theorem DX1_load_0 : dAre cX1_load [(0, .iconst 0, 1), (1, .istore_n 3, 1), (2, .iconst 0, 1), (3, .istore 4, 2), (5, .iload 4, 2), (7, .aload_n 0, 1), (8, .getfield 18, 3), (11, .if_icmp .ge 63, 3), (14, .aload_n 1, 1), (15, .iload_n 2, 1), (16, .aload_n 0, 1), (17, .getfield 25, 3), (20, .iload 4, 2), (22, .iaload, 1), (23, .invokevirtual 90, 3), (26, .istore 5, 2)] := dAre0 (by decide +kernel)
theorem dX1_load_0 : decode cX1_load 0 = .ok (.iconst 0, 1) := DX1_load_0.1
theorem dX1_load_1 : decode cX1_load 1 = .ok (.istore_n 3, 1) := DX1_load_0.2.1
theorem dX1_load_2 : decode cX1_load 2 = .ok (.iconst 0, 1) := DX1_load_0.2.2.1
theorem dX1_load_3 : decode cX1_load 3 = .ok (.istore 4, 2) := DX1_load_0.2.2.2.1
theorem dX1_load_5 : decode cX1_load 5 = .ok (.iload 4, 2) := DX1_load_0.2.2.2.2.1
theorem dX1_load_7 : decode cX1_load 7 = .ok (.aload_n 0, 1) := DX1_load_0.2.2.2.2.2.1
theorem dX1_load_8 : decode cX1_load 8 = .ok (.getfield 18, 3) := DX1_load_0.2.2.2.2.2.2.1
theorem dX1_load_11 : decode cX1_load 11 = .ok (.if_icmp .ge 63, 3) := DX1_load_0.2.2.2.2.2.2.2.1
theorem dX1_load_14 : decode cX1_load 14 = .ok (.aload_n 1, 1) := DX1_load_0.2.2.2.2.2.2.2.2.1
theorem dX1_load_15 : decode cX1_load 15 = .ok (.iload_n 2, 1) := DX1_load_0.2.2.2.2.2.2.2.2.2.1
theorem dX1_load_16 : decode cX1_load 16 = .ok (.aload_n 0, 1) := DX1_load_0.2.2.2.2.2.2.2.2.2.2.1
theorem dX1_load_17 : decode cX1_load 17 = .ok (.getfield 25, 3) := DX1_load_0.2.2.2.2.2.2.2.2.2.2.2.1
theorem dX1_load_20 : decode cX1_load 20 = .ok (.iload 4, 2) := DX1_load_0.2.2.2.2.2.2.2.2.2.2.2.2.1
theorem dX1_load_22 : decode cX1_load 22 = .ok (.iaload, 1) := DX1_load_0.2.2.2.2.2.2.2.2.2.2.2.2.2.1
theorem dX1_load_23 : decode cX1_load 23 = .ok (.invokevirtual 90, 3) := DX1_load_0.2.2.2.2.2.2.2.2.2.2.2.2.2.2.1
theorem dX1_load_26 : decode cX1_load 26 = .ok (.istore 5, 2) := DX1_load_0.2.2.2.2.2.2.2.2.2.2.2.2.2.2.2.1
theorem DX1_load_28 : dAre cX1_load [(28, .iload 5, 2), (30, .iconst (-1), 1), (31, .if_icmp .eq 37, 3), (34, .iload_n 3, 1), (35, .iconst 3, 1), (36, .if_icmp .ge 32, 3), (39, .aload_n 0, 1), (40, .getfield 40, 3), (43, .iload 4, 2), (45, .iconst 4, 1), (46, .imul, 1), (47, .iload_n 2, 1), (48, .iadd, 1), (49, .bipush 14, 2), (51, .bipush 7, 2), (53, .iload_n 3, 1)] := dAre0 (by decide +kernel)
theorem dX1_load_28 : decode cX1_load 28 = .ok (.iload 5, 2) := DX1_load_28.1
theorem dX1_load_30 : decode cX1_load 30 = .ok (.iconst (-1), 1) := DX1_load_28.2.1
theorem dX1_load_31 : decode cX1_load 31 = .ok (.if_icmp .eq 37, 3) := DX1_load_28.2.2.1
theorem dX1_load_34 : decode cX1_load 34 = .ok (.iload_n 3, 1) := DX1_load_28.2.2.2.1
theorem dX1_load_35 : decode cX1_load 35 = .ok (.iconst 3, 1) := DX1_load_28.2.2.2.2.1
theorem dX1_load_36 : decode cX1_load 36 = .ok (.if_icmp .ge 32, 3) := DX1_load_28.2.2.2.2.2.1
theorem dX1_load_39 : decode cX1_load 39 = .ok (.aload_n 0, 1) := DX1_load_28.2.2.2.2.2.2.1
theorem dX1_load_40 : decode cX1_load 40 = .ok (.getfield 40, 3) := DX1_load_28.2.2.2.2.2.2.2.1
theorem dX1_load_43 : decode cX1_load 43 = .ok (.iload 4, 2) := DX1_load_28.2.2.2.2.2.2.2.2.1
theorem dX1_load_45 : decode cX1_load 45 = .ok (.iconst 4, 1) := DX1_load_28.2.2.2.2.2.2.2.2.2.1
theorem dX1_load_46 : decode cX1_load 46 = .ok (.imul, 1) := DX1_load_28.2.2.2.2.2.2.2.2.2.2.1
theorem dX1_load_47 : decode cX1_load 47 = .ok (.iload_n 2, 1) := DX1_load_28.2.2.2.2.2.2.2.2.2.2.2.1
theorem dX1_load_48 : decode cX1_load 48 = .ok (.iadd, 1) := DX1_load_28.2.2.2.2.2.2.2.2.2.2.2.2.1
theorem dX1_load_49 : decode cX1_load 49 = .ok (.bipush 14, 2) := DX1_load_28.2.2.2.2.2.2.2.2.2.2.2.2.2.1
theorem dX1_load_51 : decode cX1_load 51 = .ok (.bipush 7, 2) := DX1_load_28.2.2.2.2.2.2.2.2.2.2.2.2.2.2.1
theorem dX1_load_53 : decode cX1_load 53 = .ok (.iload_n 3, 1) := DX1_load_28.2.2.2.2.2.2.2.2.2.2.2.2.2.2.2.1
theorem DX1_load_54 : dAre cX1_load [(54, .imul, 1), (55, .isub, 1), (56, .iastore, 1), (57, .aload_n 0, 1), (58, .getfield 37, 3), (61, .iload_n 3, 1), (62, .iload 5, 2), (64, .iastore, 1), (65, .iinc 3 1, 3), (68, .iinc 4 1, 3), (71, .goto (-66), 3), (74, .iconst 0, 1), (75, .istore 4, 2), (77, .iload 4, 2), (79, .aload_n 1, 1), (80, .getfield 93, 3)] := dAre0 (by decide +kernel)
theorem dX1_load_54 : decode cX1_load 54 = .ok (.imul, 1) := DX1_load_54.1
theorem dX1_load_55 : decode cX1_load 55 = .ok (.isub, 1) := DX1_load_54.2.1
theorem dX1_load_56 : decode cX1_load 56 = .ok (.iastore, 1) := DX1_load_54.2.2.1
theorem dX1_load_57 : decode cX1_load 57 = .ok (.aload_n 0, 1) := DX1_load_54.2.2.2.1
theorem dX1_load_58 : decode cX1_load 58 = .ok (.getfield 37, 3) := DX1_load_54.2.2.2.2.1
theorem dX1_load_61 : decode cX1_load 61 = .ok (.iload_n 3, 1) := DX1_load_54.2.2.2.2.2.1
theorem dX1_load_62 : decode cX1_load 62 = .ok (.iload 5, 2) := DX1_load_54.2.2.2.2.2.2.1
theorem dX1_load_64 : decode cX1_load 64 = .ok (.iastore, 1) := DX1_load_54.2.2.2.2.2.2.2.1
theorem dX1_load_65 : decode cX1_load 65 = .ok (.iinc 3 1, 3) := DX1_load_54.2.2.2.2.2.2.2.2.1
theorem dX1_load_68 : decode cX1_load 68 = .ok (.iinc 4 1, 3) := DX1_load_54.2.2.2.2.2.2.2.2.2.1
theorem dX1_load_71 : decode cX1_load 71 = .ok (.goto (-66), 3) := DX1_load_54.2.2.2.2.2.2.2.2.2.2.1
theorem dX1_load_74 : decode cX1_load 74 = .ok (.iconst 0, 1) := DX1_load_54.2.2.2.2.2.2.2.2.2.2.2.1
theorem dX1_load_75 : decode cX1_load 75 = .ok (.istore 4, 2) := DX1_load_54.2.2.2.2.2.2.2.2.2.2.2.2.1
theorem dX1_load_77 : decode cX1_load 77 = .ok (.iload 4, 2) := DX1_load_54.2.2.2.2.2.2.2.2.2.2.2.2.2.1
theorem dX1_load_79 : decode cX1_load 79 = .ok (.aload_n 1, 1) := DX1_load_54.2.2.2.2.2.2.2.2.2.2.2.2.2.2.1
theorem dX1_load_80 : decode cX1_load 80 = .ok (.getfield 93, 3) := DX1_load_54.2.2.2.2.2.2.2.2.2.2.2.2.2.2.2.1
theorem DX1_load_83 : dAre cX1_load [(83, .iload_n 2, 1), (84, .iaload, 1), (85, .if_icmp .ge 76, 3), (88, .aload_n 1, 1), (89, .iload_n 2, 1), (90, .iload 4, 2), (92, .invokevirtual 96, 3), (95, .istore 5, 2), (97, .iconst 0, 1), (98, .istore 6, 2), (100, .iconst 0, 1), (101, .istore 7, 2), (103, .iload 7, 2), (105, .iload_n 3, 1), (106, .if_icmp .ge 42, 3), (109, .iload 6, 2)] := dAre0 (by decide +kernel)
theorem dX1_load_83 : decode cX1_load 83 = .ok (.iload_n 2, 1) := DX1_load_83.1
theorem dX1_load_84 : decode cX1_load 84 = .ok (.iaload, 1) := DX1_load_83.2.1
theorem dX1_load_85 : decode cX1_load 85 = .ok (.if_icmp .ge 76, 3) := DX1_load_83.2.2.1
theorem dX1_load_88 : decode cX1_load 88 = .ok (.aload_n 1, 1) := DX1_load_83.2.2.2.1
theorem dX1_load_89 : decode cX1_load 89 = .ok (.iload_n 2, 1) := DX1_load_83.2.2.2.2.1
theorem dX1_load_90 : decode cX1_load 90 = .ok (.iload 4, 2) := DX1_load_83.2.2.2.2.2.1
theorem dX1_load_92 : decode cX1_load 92 = .ok (.invokevirtual 96, 3) := DX1_load_83.2.2.2.2.2.2.1
theorem dX1_load_95 : decode cX1_load 95 = .ok (.istore 5, 2) := DX1_load_83.2.2.2.2.2.2.2.1
theorem dX1_load_97 : decode cX1_load 97 = .ok (.iconst 0, 1) := DX1_load_83.2.2.2.2.2.2.2.2.1
theorem dX1_load_98 : decode cX1_load 98 = .ok (.istore 6, 2) := DX1_load_83.2.2.2.2.2.2.2.2.2.1
theorem dX1_load_100 : decode cX1_load 100 = .ok (.iconst 0, 1) := DX1_load_83.2.2.2.2.2.2.2.2.2.2.1
theorem dX1_load_101 : decode cX1_load 101 = .ok (.istore 7, 2) := DX1_load_83.2.2.2.2.2.2.2.2.2.2.2.1
theorem dX1_load_103 : decode cX1_load 103 = .ok (.iload 7, 2) := DX1_load_83.2.2.2.2.2.2.2.2.2.2.2.2.1
theorem dX1_load_105 : decode cX1_load 105 = .ok (.iload_n 3, 1) := DX1_load_83.2.2.2.2.2.2.2.2.2.2.2.2.2.1
theorem dX1_load_106 : decode cX1_load 106 = .ok (.if_icmp .ge 42, 3) := DX1_load_83.2.2.2.2.2.2.2.2.2.2.2.2.2.2.1
theorem dX1_load_109 : decode cX1_load 109 = .ok (.iload 6, 2) := DX1_load_83.2.2.2.2.2.2.2.2.2.2.2.2.2.2.2.1
theorem DX1_load_111 : dAre cX1_load [(111, .iload 5, 2), (113, .bipush 14, 2), (115, .bipush 7, 2), (117, .aload_n 0, 1), (118, .getfield 37, 3), (121, .iload 7, 2), (123, .iaload, 1), (124, .imul, 1), (125, .isub, 1), (126, .ishr, 1), (127, .bipush 127, 2), (129, .iand, 1), (130, .bipush 14, 2), (132, .bipush 7, 2), (134, .iload 7, 2), (136, .imul, 1)] := dAre0 (by decide +kernel)
theorem dX1_load_111 : decode cX1_load 111 = .ok (.iload 5, 2) := DX1_load_111.1
theorem dX1_load_113 : decode cX1_load 113 = .ok (.bipush 14, 2) := DX1_load_111.2.1
theorem dX1_load_115 : decode cX1_load 115 = .ok (.bipush 7, 2) := DX1_load_111.2.2.1
theorem dX1_load_117 : decode cX1_load 117 = .ok (.aload_n 0, 1) := DX1_load_111.2.2.2.1
theorem dX1_load_118 : decode cX1_load 118 = .ok (.getfield 37, 3) := DX1_load_111.2.2.2.2.1
theorem dX1_load_121 : decode cX1_load 121 = .ok (.iload 7, 2) := DX1_load_111.2.2.2.2.2.1
theorem dX1_load_123 : decode cX1_load 123 = .ok (.iaload, 1) := DX1_load_111.2.2.2.2.2.2.1
theorem dX1_load_124 : decode cX1_load 124 = .ok (.imul, 1) := DX1_load_111.2.2.2.2.2.2.2.1
theorem dX1_load_125 : decode cX1_load 125 = .ok (.isub, 1) := DX1_load_111.2.2.2.2.2.2.2.2.1
theorem dX1_load_126 : decode cX1_load 126 = .ok (.ishr, 1) := DX1_load_111.2.2.2.2.2.2.2.2.2.1
theorem dX1_load_127 : decode cX1_load 127 = .ok (.bipush 127, 2) := DX1_load_111.2.2.2.2.2.2.2.2.2.2.1
theorem dX1_load_129 : decode cX1_load 129 = .ok (.iand, 1) := DX1_load_111.2.2.2.2.2.2.2.2.2.2.2.1
theorem dX1_load_130 : decode cX1_load 130 = .ok (.bipush 14, 2) := DX1_load_111.2.2.2.2.2.2.2.2.2.2.2.2.1
theorem dX1_load_132 : decode cX1_load 132 = .ok (.bipush 7, 2) := DX1_load_111.2.2.2.2.2.2.2.2.2.2.2.2.2.1
theorem dX1_load_134 : decode cX1_load 134 = .ok (.iload 7, 2) := DX1_load_111.2.2.2.2.2.2.2.2.2.2.2.2.2.2.1
theorem dX1_load_136 : decode cX1_load 136 = .ok (.imul, 1) := DX1_load_111.2.2.2.2.2.2.2.2.2.2.2.2.2.2.2.1
theorem DX1_load_137 : dAre cX1_load [(137, .isub, 1), (138, .ishl, 1), (139, .ior, 1), (140, .istore 6, 2), (142, .iinc 7 1, 3), (145, .goto (-42), 3), (148, .aload_n 0, 1), (149, .iload_n 2, 1), (150, .iload 6, 2), (152, .invokevirtual 99, 3), (155, .iinc 4 1, 3), (158, .goto (-81), 3), (161, .return_, 1)] := dAre0 (by decide +kernel)
theorem dX1_load_137 : decode cX1_load 137 = .ok (.isub, 1) := DX1_load_137.1
theorem dX1_load_138 : decode cX1_load 138 = .ok (.ishl, 1) := DX1_load_137.2.1
theorem dX1_load_139 : decode cX1_load 139 = .ok (.ior, 1) := DX1_load_137.2.2.1
theorem dX1_load_140 : decode cX1_load 140 = .ok (.istore 6, 2) := DX1_load_137.2.2.2.1
theorem dX1_load_142 : decode cX1_load 142 = .ok (.iinc 7 1, 3) := DX1_load_137.2.2.2.2.1
theorem dX1_load_145 : decode cX1_load 145 = .ok (.goto (-42), 3) := DX1_load_137.2.2.2.2.2.1
theorem dX1_load_148 : decode cX1_load 148 = .ok (.aload_n 0, 1) := DX1_load_137.2.2.2.2.2.2.1
theorem dX1_load_149 : decode cX1_load 149 = .ok (.iload_n 2, 1) := DX1_load_137.2.2.2.2.2.2.2.1
theorem dX1_load_150 : decode cX1_load 150 = .ok (.iload 6, 2) := DX1_load_137.2.2.2.2.2.2.2.2.1
theorem dX1_load_152 : decode cX1_load 152 = .ok (.invokevirtual 99, 3) := DX1_load_137.2.2.2.2.2.2.2.2.2.1
theorem dX1_load_155 : decode cX1_load 155 = .ok (.iinc 4 1, 3) := DX1_load_137.2.2.2.2.2.2.2.2.2.2.1
theorem dX1_load_158 : decode cX1_load 158 = .ok (.goto (-81), 3) := DX1_load_137.2.2.2.2.2.2.2.2.2.2.2.1
theorem dX1_load_161 : decode cX1_load 161 = .ok (.return_, 1) := DX1_load_137.2.2.2.2.2.2.2.2.2.2.2.2.1
theorem mX1_load : gMv yX1_load cX1_load 8 none RX1 2 := ⟨q360, q1358, q4, q361, rfl, by decide, by decide, by decide +kernel⟩
noncomputable def bX1_load_68 (v3 : Int32) (v4 : Int32) (I : gM) : Option ((Int32 × Int32 × gM) ⊕ (Int32 × gM)) :=
  some (.inl (v3, v4 + 1, I))
set_option maxRecDepth 100000 in
set_option maxHeartbeats 4000000 in
theorem wbX1_load_68 {z : gZ} {E : gE} {bk : Nat} (F : Fx z sh E "LeapJoin$Join" cX1_load (gR 1) 8) (B : bZ z bk) (hE : gDist sh E) (k : Nat) (k1 : Nat) (v2 : Int32) (v3 : Int32) (v4 : Int32) (hk : shX1 k) (hk1 : shX5 k1) (I : gM) (J : gN) {y : (Int32 × Int32 × gM) ⊕ (Int32 × gM)} (h : bX1_load_68 v3 v4 I = some y) (hl : ∀ s' : Int32 × Int32 × gM, y = .inl s' → G z 5 [(0, .ref (E.2.1 k)), (1, .ref (E.2.1 k1)), (2, .int v2), (3, .int (s'.1)), (4, .int (s'.2.1))] [] s'.2.2 J) (K5_0 : ∀ x : Int32 × gM, y = .inr x → G z 74 [(0, .ref (E.2.1 k)), (1, .ref (E.2.1 k1)), (2, .int v2), (3, .int x.1)] [] x.2 J) : G z 68 [(0, .ref (E.2.1 k)), (1, .ref (E.2.1 k1)), (2, .int v2), (3, .int v3), (4, .int v4)] [] I J := by
  unfold bX1_load_68 at h
  refine g_iinc (v := v4 + 1) (Ln := [(4, .int (v4 + 1)), (0, .ref (E.2.1 k)), (1, .ref (E.2.1 k1)), (2, .int v2), (3, .int v3)]) F 4 dX1_load_68 rfl (add_c (by decide)) (by decide) rfl ?_
  refine g_goto (tgt := 5) F dX1_load_71 (by decide) ?_
  obtain rfl := Option.some.inj h
  refine g_sub (Ln := [(0, .ref (E.2.1 k)), (1, .ref (E.2.1 k1)), (2, .int v2), (3, .int v3), (4, .int (v4 + 1))]) [1, 2, 3, 4, 0] rfl ?_
  exact hl (v3, v4 + 1, I) rfl
noncomputable def lX1_load_5 (k : Nat) (k1 : Nat) (v2 : Int32) : (Int32 × Int32 × gM) → Option (Int32 × gM) :=
  itO fun s =>
    if (s.2.2 k 2) ≤ s.2.1 then
      some (.inr (s.1, s.2.2))
    else
      (rI 4 (s.2.2 (k + 2)) s.2.1).bind fun u1 =>
      (fX5_columnOf k1 v2 u1 s.2.2).bind fun r2 =>
      if r2 = (-1) then
        bX1_load_68 s.1 s.2.1 s.2.2
      else
        if (3 : Int32) ≤ s.1 then
          bX1_load_68 s.1 s.2.1 s.2.2
        else
          (wI s.2.2 (k + 7) 16 ((s.2.1 * 4) + v2) ((14 : Int32) - ((7 : Int32) * s.1))).bind fun I3 =>
          (wI I3 (k + 6) 3 s.1 r2).bind fun I4 =>
          bX1_load_68 (s.1 + 1) s.2.1 I4
set_option maxRecDepth 100000 in
set_option maxHeartbeats 4000000 in
theorem wlX1_load_5 {z : gZ} {E : gE} {bk : Nat} (F : Fx z sh E "LeapJoin$Join" cX1_load (gR 1) 8) (B : bZ z bk) (hE : gDist sh E) (k : Nat) (k1 : Nat) (v2 : Int32) (hk : shX1 k) (hk1 : shX5 k1) (J : gN) {r : Int32 × gM} : ∀ s : Int32 × Int32 × gM, lX1_load_5 k k1 v2 s = some r → (G z 74 [(0, .ref (E.2.1 k)), (1, .ref (E.2.1 k1)), (2, .int v2), (3, .int r.1)] [] r.2 J) → G z 5 [(0, .ref (E.2.1 k)), (1, .ref (E.2.1 k1)), (2, .int v2), (3, .int s.1), (4, .int s.2.1)] [] s.2.2 J := by
  intro s h X0
  unfold lX1_load_5 at h
  revert s
  refine itO_ind (P := fun s : Int32 × Int32 × gM => G z 5 [(0, .ref (E.2.1 k)), (1, .ref (E.2.1 k1)), (2, .int v2), (3, .int s.1), (4, .int s.2.1)] [] s.2.2 J) (fun s y h hl hr => ?_)
  have K5_0 : ∀ x : Int32 × gM, y = .inr x → (G z 74 [(0, .ref (E.2.1 k)), (1, .ref (E.2.1 k1)), (2, .int v2), (3, .int x.1)] [] x.2 J) := fun x q => by have q2 := hr _ q; subst q2; exact X0
  refine g_iload F 4 dX1_load_5 rfl ?_
  refine g_aload_n F 0 dX1_load_7 rfl rfl ?_
  refine g_geti (j := 2) (v := s.2.2 k 2) F hk.1 rfl rfl uX1 (by decide) q83 rfl dX1_load_8 ?_
  refine u_icmp_ge (tgt := 74) F dX1_load_11 (by decide) h (fun h => ?_) (fun h => ?_)
  · obtain rfl := Option.some.inj h
    refine g_sub (Ln := [(0, .ref (E.2.1 k)), (1, .ref (E.2.1 k1)), (2, .int v2), (3, .int s.1)]) [0, 1, 2, 3] rfl ?_
    exact K5_0 (s.1, s.2.2) rfl
  · refine g_aload_n F 1 dX1_load_14 rfl rfl ?_
    refine g_iload_n F 2 dX1_load_15 rfl rfl ?_
    refine g_aload_n F 0 dX1_load_16 rfl rfl ?_
    refine g_getr (j := 4) (nn := (k + 2)) F hk.1 rfl rfl uX1 (by decide) q87 dX1_load_17 ?_
    refine g_iload F 4 dX1_load_20 rfl ?_
    refine u_rI F hk.2.2.1 (by decide) dX1_load_22 h (fun u1 h => ?_)
    refine u_callV (k := k1) (As := [.int v2, .int u1]) (rest := []) (sn := fun r2 => [.int r2]) F B (fun _ => wX5_columnOf (zl z) E hE bk k1 v2 u1 hk1 s.2.2 J) mX5_columnOf q362 rfl hk1.1 rfl rfl rfl (Nat.le_of_ble_eq_true rfl) dX1_load_23 (fun _ => rfl) h (fun r2 h => ?_)
    refine g_istore (Ln := [(5, .int r2), (0, .ref (E.2.1 k)), (1, .ref (E.2.1 k1)), (2, .int v2), (3, .int s.1), (4, .int s.2.1)]) F dX1_load_26 (by decide) rfl ?_
    refine g_iload F 0 dX1_load_28 rfl ?_
    refine g_iconst (v := (-1)) F dX1_load_30 (by decide) ?_
    refine u_icmp_eq (tgt := 68) F dX1_load_31 (by decide) h (fun h => ?_) (fun h => ?_)
    · refine g_sub (Ln := [(0, .ref (E.2.1 k)), (1, .ref (E.2.1 k1)), (2, .int v2), (3, .int s.1), (4, .int s.2.1)]) [1, 2, 3, 4, 5] rfl ?_
      exact wbX1_load_68 F B hE k k1 v2 s.1 s.2.1 hk hk1 s.2.2 J h hl K5_0
    · refine g_iload_n F 4 dX1_load_34 rfl rfl ?_
      refine g_iconst (v := 3) F dX1_load_35 (by decide) ?_
      refine u_icmp_ge (tgt := 68) F dX1_load_36 (by decide) h (fun h => ?_) (fun h => ?_)
      · refine g_sub (Ln := [(0, .ref (E.2.1 k)), (1, .ref (E.2.1 k1)), (2, .int v2), (3, .int s.1), (4, .int s.2.1)]) [1, 2, 3, 4, 5] rfl ?_
        exact wbX1_load_68 F B hE k k1 v2 s.1 s.2.1 hk hk1 s.2.2 J h hl K5_0
      · refine g_aload_n F 1 dX1_load_39 rfl rfl ?_
        refine g_getr (j := 9) (nn := (k + 7)) F hk.1 rfl rfl uX1 (by decide) q92 dX1_load_40 ?_
        refine g_iload F 5 dX1_load_43 rfl ?_
        refine g_iconst (v := 4) F dX1_load_45 (by decide) ?_
        refine g_imul (v := s.2.1 * 4) F dX1_load_46 rfl ?_
        refine g_iload_n F 3 dX1_load_47 rfl rfl ?_
        refine g_iadd (v := (s.2.1 * 4) + v2) F dX1_load_48 rfl ?_
        refine g_bipush (v := 14) F dX1_load_49 (by decide) ?_
        refine g_bipush (v := 7) F dX1_load_51 (by decide) ?_
        refine g_iload_n F 4 dX1_load_53 rfl rfl ?_
        refine g_imul (v := (7 : Int32) * s.1) F dX1_load_54 rfl ?_
        refine g_isub (v := (14 : Int32) - ((7 : Int32) * s.1)) F dX1_load_55 rfl ?_
        refine u_wI F hk.2.2.2.2.2.2.2.1 (by decide) dX1_load_56 h (fun I3 h => ?_)
        refine g_aload_n F 1 dX1_load_57 rfl rfl ?_
        refine g_getr (j := 8) (nn := (k + 6)) F hk.1 rfl rfl uX1 (by decide) q91 dX1_load_58 ?_
        refine g_iload_n F 4 dX1_load_61 rfl rfl ?_
        refine g_iload F 0 dX1_load_62 rfl ?_
        refine u_wI F hk.2.2.2.2.2.2.1 (by decide) dX1_load_64 h (fun I4 h => ?_)
        refine g_iinc (v := s.1 + 1) (Ln := [(3, .int (s.1 + 1)), (5, .int r2), (0, .ref (E.2.1 k)), (1, .ref (E.2.1 k1)), (2, .int v2), (4, .int s.2.1)]) F 4 dX1_load_65 rfl (add_c (by decide)) (by decide) rfl ?_
        refine g_sub (Ln := [(0, .ref (E.2.1 k)), (1, .ref (E.2.1 k1)), (2, .int v2), (3, .int (s.1 + 1)), (4, .int s.2.1)]) [2, 3, 4, 0, 5] rfl ?_
        exact wbX1_load_68 F B hE k k1 v2 (s.1 + 1) s.2.1 hk hk1 I4 J h hl K5_0
noncomputable def lX1_load_103 (k : Nat) (v3 : Int32) (v5 : Int32) (I : gM) : (Int32 × Int32) → Option (Int32) :=
  itO fun s =>
    if v3 ≤ s.2 then
      some (.inr s.1)
    else
      (rI 3 (I (k + 6)) s.2).bind fun u8 =>
      some (.inl (s.1 ||| (((v5 >>> (((14 : Int32) - ((7 : Int32) * u8)) &&& 31)) &&& 127) <<< (((14 : Int32) - ((7 : Int32) * s.2)) &&& 31)), s.2 + 1))
set_option maxRecDepth 100000 in
set_option maxHeartbeats 4000000 in
theorem wlX1_load_103 {z : gZ} {E : gE} {bk : Nat} (F : Fx z sh E "LeapJoin$Join" cX1_load (gR 1) 8) (B : bZ z bk) (hE : gDist sh E) (k : Nat) (k1 : Nat) (v2 : Int32) (v3 : Int32) (v4 : Int32) (v5 : Int32) (hk : shX1 k) (hk1 : shX5 k1) (I : gM) (J : gN) {r : Int32} : ∀ s : Int32 × Int32, lX1_load_103 k v3 v5 I s = some r → (G z 148 [(0, .ref (E.2.1 k)), (1, .ref (E.2.1 k1)), (2, .int v2), (3, .int v3), (4, .int v4), (6, .int r)] [] I J) → G z 103 [(0, .ref (E.2.1 k)), (1, .ref (E.2.1 k1)), (2, .int v2), (3, .int v3), (4, .int v4), (5, .int v5), (6, .int s.1), (7, .int s.2)] [] I J := by
  intro s h X0
  unfold lX1_load_103 at h
  revert s
  refine itO_ind (P := fun s : Int32 × Int32 => G z 103 [(0, .ref (E.2.1 k)), (1, .ref (E.2.1 k1)), (2, .int v2), (3, .int v3), (4, .int v4), (5, .int v5), (6, .int s.1), (7, .int s.2)] [] I J) (fun s y h hl hr => ?_)
  have K103_0 : ∀ x : Int32, y = .inr x → (G z 148 [(0, .ref (E.2.1 k)), (1, .ref (E.2.1 k1)), (2, .int v2), (3, .int v3), (4, .int v4), (6, .int x)] [] I J) := fun x q => by have q2 := hr _ q; subst q2; exact X0
  refine g_iload F 7 dX1_load_103 rfl ?_
  refine g_iload_n F 3 dX1_load_105 rfl rfl ?_
  refine u_icmp_ge (tgt := 148) F dX1_load_106 (by decide) h (fun h => ?_) (fun h => ?_)
  · obtain rfl := Option.some.inj h
    refine g_sub (Ln := [(0, .ref (E.2.1 k)), (1, .ref (E.2.1 k1)), (2, .int v2), (3, .int v3), (4, .int v4), (6, .int s.1)]) [0, 1, 2, 3, 4, 6] rfl ?_
    exact K103_0 s.1 rfl
  · refine g_iload F 6 dX1_load_109 rfl ?_
    refine g_iload F 5 dX1_load_111 rfl ?_
    refine g_bipush (v := 14) F dX1_load_113 (by decide) ?_
    refine g_bipush (v := 7) F dX1_load_115 (by decide) ?_
    refine g_aload_n F 0 dX1_load_117 rfl rfl ?_
    refine g_getr (j := 8) (nn := (k + 6)) F hk.1 rfl rfl uX1 (by decide) q91 dX1_load_118 ?_
    refine g_iload F 7 dX1_load_121 rfl ?_
    refine u_rI F hk.2.2.2.2.2.2.1 (by decide) dX1_load_123 h (fun u8 h => ?_)
    refine g_imul (v := (7 : Int32) * u8) F dX1_load_124 rfl ?_
    refine g_isub (v := (14 : Int32) - ((7 : Int32) * u8)) F dX1_load_125 rfl ?_
    refine g_ishr (v := v5 >>> (((14 : Int32) - ((7 : Int32) * u8)) &&& 31)) F dX1_load_126 rfl ?_
    refine g_bipush (v := 127) F dX1_load_127 (by decide) ?_
    refine g_iand (v := (v5 >>> (((14 : Int32) - ((7 : Int32) * u8)) &&& 31)) &&& 127) F dX1_load_129 rfl ?_
    refine g_bipush (v := 14) F dX1_load_130 (by decide) ?_
    refine g_bipush (v := 7) F dX1_load_132 (by decide) ?_
    refine g_iload F 7 dX1_load_134 rfl ?_
    refine g_imul (v := (7 : Int32) * s.2) F dX1_load_136 rfl ?_
    refine g_isub (v := (14 : Int32) - ((7 : Int32) * s.2)) F dX1_load_137 rfl ?_
    refine g_ishl (v := ((v5 >>> (((14 : Int32) - ((7 : Int32) * u8)) &&& 31)) &&& 127) <<< (((14 : Int32) - ((7 : Int32) * s.2)) &&& 31)) F dX1_load_138 rfl ?_
    refine g_ior (v := s.1 ||| (((v5 >>> (((14 : Int32) - ((7 : Int32) * u8)) &&& 31)) &&& 127) <<< (((14 : Int32) - ((7 : Int32) * s.2)) &&& 31))) F dX1_load_139 rfl ?_
    refine g_istore (Ln := [(6, .int (s.1 ||| (((v5 >>> (((14 : Int32) - ((7 : Int32) * u8)) &&& 31)) &&& 127) <<< (((14 : Int32) - ((7 : Int32) * s.2)) &&& 31)))), (0, .ref (E.2.1 k)), (1, .ref (E.2.1 k1)), (2, .int v2), (3, .int v3), (4, .int v4), (5, .int v5), (7, .int s.2)]) F dX1_load_140 (by decide) rfl ?_
    refine g_iinc (v := s.2 + 1) (Ln := [(7, .int (s.2 + 1)), (6, .int (s.1 ||| (((v5 >>> (((14 : Int32) - ((7 : Int32) * u8)) &&& 31)) &&& 127) <<< (((14 : Int32) - ((7 : Int32) * s.2)) &&& 31)))), (0, .ref (E.2.1 k)), (1, .ref (E.2.1 k1)), (2, .int v2), (3, .int v3), (4, .int v4), (5, .int v5)]) F 7 dX1_load_142 rfl (add_c (by decide)) (by decide) rfl ?_
    refine g_goto (tgt := 103) F dX1_load_145 (by decide) ?_
    obtain rfl := Option.some.inj h
    refine g_sub (Ln := [(0, .ref (E.2.1 k)), (1, .ref (E.2.1 k1)), (2, .int v2), (3, .int v3), (4, .int v4), (5, .int v5), (6, .int (s.1 ||| (((v5 >>> (((14 : Int32) - ((7 : Int32) * u8)) &&& 31)) &&& 127) <<< (((14 : Int32) - ((7 : Int32) * s.2)) &&& 31)))), (7, .int (s.2 + 1))]) [2, 3, 4, 5, 6, 7, 1, 0] rfl ?_
    exact hl (s.1 ||| (((v5 >>> (((14 : Int32) - ((7 : Int32) * u8)) &&& 31)) &&& 127) <<< (((14 : Int32) - ((7 : Int32) * s.2)) &&& 31)), s.2 + 1) rfl
noncomputable def lX1_load_77 (k : Nat) (k1 : Nat) (v2 : Int32) (v3 : Int32) : (Int32 × gM) → Option (gM) :=
  itO fun s =>
    (rI 4 (s.2 (k1 + 2)) v2).bind fun u6 =>
    if u6 ≤ s.1 then
      some (.inr s.2)
    else
      (fX5_rowAt k1 v2 s.1 s.2).bind fun r7 =>
      (lX1_load_103 k v3 r7 s.2 ((0 : Int32), (0 : Int32))).bind fun w9 =>
      (fX1_addSorted k v2 w9 s.2).bind fun r10 =>
      some (.inl (s.1 + 1, r10))
set_option maxRecDepth 100000 in
set_option maxHeartbeats 4000000 in
theorem wlX1_load_77 {z : gZ} {E : gE} {bk : Nat} (F : Fx z sh E "LeapJoin$Join" cX1_load (gR 1) 8) (B : bZ z bk) (hE : gDist sh E) (k : Nat) (k1 : Nat) (v2 : Int32) (v3 : Int32) (hk : shX1 k) (hk1 : shX5 k1) (J : gN) {r : gM} : ∀ s : Int32 × gM, lX1_load_77 k k1 v2 v3 s = some r → (G z 161 [] [] r J) → G z 77 [(0, .ref (E.2.1 k)), (1, .ref (E.2.1 k1)), (2, .int v2), (3, .int v3), (4, .int s.1)] [] s.2 J := by
  intro s h X0
  unfold lX1_load_77 at h
  revert s
  refine itO_ind (P := fun s : Int32 × gM => G z 77 [(0, .ref (E.2.1 k)), (1, .ref (E.2.1 k1)), (2, .int v2), (3, .int v3), (4, .int s.1)] [] s.2 J) (fun s y h hl hr => ?_)
  have K77_0 : ∀ x : gM, y = .inr x → (G z 161 [] [] x J) := fun x q => by have q2 := hr _ q; subst q2; exact X0
  refine g_iload F 4 dX1_load_77 rfl ?_
  refine g_aload_n F 1 dX1_load_79 rfl rfl ?_
  refine g_getr (j := 4) (nn := (k1 + 2)) F hk1.1 rfl rfl uX5 (by decide) q60 dX1_load_80 ?_
  refine g_iload_n F 2 dX1_load_83 rfl rfl ?_
  refine u_rI F hk1.2.2.1 (by decide) dX1_load_84 h (fun u6 h => ?_)
  refine u_icmp_ge (tgt := 161) F dX1_load_85 (by decide) h (fun h => ?_) (fun h => ?_)
  · obtain rfl := Option.some.inj h
    refine g_sub (Ln := []) [] rfl ?_
    exact K77_0 s.2 rfl
  · refine g_aload_n F 1 dX1_load_88 rfl rfl ?_
    refine g_iload_n F 2 dX1_load_89 rfl rfl ?_
    refine g_iload F 4 dX1_load_90 rfl ?_
    refine u_callV (k := k1) (As := [.int v2, .int s.1]) (rest := []) (sn := fun r7 => [.int r7]) F B (fun _ => wX5_rowAt (zl z) E hE bk k1 v2 s.1 hk1 s.2 J) mX5_rowAt q363 rfl hk1.1 rfl rfl rfl (Nat.le_of_ble_eq_true rfl) dX1_load_92 (fun _ => rfl) h (fun r7 h => ?_)
    refine g_istore (Ln := [(5, .int r7), (0, .ref (E.2.1 k)), (1, .ref (E.2.1 k1)), (2, .int v2), (3, .int v3), (4, .int s.1)]) F dX1_load_95 (by decide) rfl ?_
    refine g_iconst (v := 0) F dX1_load_97 (by decide) ?_
    refine g_istore (Ln := [(6, .int 0), (5, .int r7), (0, .ref (E.2.1 k)), (1, .ref (E.2.1 k1)), (2, .int v2), (3, .int v3), (4, .int s.1)]) F dX1_load_98 (by decide) rfl ?_
    refine g_iconst (v := 0) F dX1_load_100 (by decide) ?_
    refine g_istore (Ln := [(7, .int 0), (6, .int 0), (5, .int r7), (0, .ref (E.2.1 k)), (1, .ref (E.2.1 k1)), (2, .int v2), (3, .int v3), (4, .int s.1)]) F dX1_load_101 (by decide) rfl ?_
    obtain ⟨w9, ew9, h⟩ := ob h
    refine g_sub (Ln := [(0, .ref (E.2.1 k)), (1, .ref (E.2.1 k1)), (2, .int v2), (3, .int v3), (4, .int s.1), (5, .int r7), (6, .int 0), (7, .int 0)]) [3, 4, 5, 6, 7, 2, 1, 0] rfl ?_
    refine wlX1_load_103 F B hE k k1 v2 v3 s.1 r7 hk hk1 s.2 J _ ew9 ?_
    refine g_aload_n F 0 dX1_load_148 rfl rfl ?_
    refine g_iload_n F 2 dX1_load_149 rfl rfl ?_
    refine g_iload F 5 dX1_load_150 rfl ?_
    refine u_callV (k := k) (As := [.int v2, .int w9]) (rest := []) (sn := fun _ => []) F B (fun _ => wX1_addSorted (zl z) E hE bk k v2 w9 hk s.2 J) mX1_addSorted q364 rfl hk.1 rfl rfl rfl (Nat.le_of_ble_eq_true rfl) dX1_load_152 (fun _ => rfl) h (fun r10 h => ?_)
    refine g_iinc (v := s.1 + 1) (Ln := [(4, .int (s.1 + 1)), (0, .ref (E.2.1 k)), (1, .ref (E.2.1 k1)), (2, .int v2), (3, .int v3), (6, .int w9)]) F 4 dX1_load_155 rfl (add_c (by decide)) (by decide) rfl ?_
    refine g_goto (tgt := 77) F dX1_load_158 (by decide) ?_
    obtain rfl := Option.some.inj h
    refine g_sub (Ln := [(0, .ref (E.2.1 k)), (1, .ref (E.2.1 k1)), (2, .int v2), (3, .int v3), (4, .int (s.1 + 1))]) [1, 2, 3, 4, 0] rfl ?_
    exact hl (s.1 + 1, r10) rfl
noncomputable def fX1_load (k : Nat) (k1 : Nat) (v2 : Int32) (I : gM) : Option (gM) :=
  (lX1_load_5 k k1 v2 ((0 : Int32), (0 : Int32), I)).bind fun w5 =>
  (lX1_load_77 k k1 v2 w5.1 ((0 : Int32), w5.2)).bind fun w11 =>
  some w11
set_option maxRecDepth 100000 in
set_option maxHeartbeats 4000000 in
theorem wX1_load (l : Launch) (E : gE) (hE : gDist sh E) (bk : Nat) (k : Nat) (k1 : Nat) (v2 : Int32) (hk : shX1 k) (hk1 : shX5 k1) (I : gM) (J : gN) {r : gM} (h : fX1_load k k1 v2 I = some r) : Cu l sh E bk yX1_load cX1_load 8 none (gR 1) [.ref (E.2.1 k), .ref (E.2.1 k1), .int v2] I J (fun r1 I1 J1 => r1 = none ∧ I1 = r ∧ J1 = J) := by
  refine Cu.of "LeapJoin$Join" rfl hE (by decide) (Nat.le_of_ble_eq_true rfl) (fun z F B e hl => ?_)
  subst hl
  unfold fX1_load at h
  refine g_iconst (v := 0) F dX1_load_0 (by decide) ?_
  refine g_istore_n (Ln := [(3, .int 0), (0, .ref (E.2.1 k)), (1, .ref (E.2.1 k1)), (2, .int v2)]) F dX1_load_1 rfl (by decide) rfl ?_
  refine g_iconst (v := 0) F dX1_load_2 (by decide) ?_
  refine g_istore (Ln := [(4, .int 0), (3, .int 0), (0, .ref (E.2.1 k)), (1, .ref (E.2.1 k1)), (2, .int v2)]) F dX1_load_3 (by decide) rfl ?_
  obtain ⟨w5, ew5, h⟩ := ob h
  refine g_sub (Ln := [(0, .ref (E.2.1 k)), (1, .ref (E.2.1 k1)), (2, .int v2), (3, .int 0), (4, .int 0)]) [2, 3, 4, 1, 0] rfl ?_
  refine wlX1_load_5 F B hE k k1 v2 hk hk1 J _ ew5 ?_
  refine g_iconst (v := 0) F dX1_load_74 (by decide) ?_
  refine g_istore (Ln := [(4, .int 0), (0, .ref (E.2.1 k)), (1, .ref (E.2.1 k1)), (2, .int v2), (3, .int w5.1)]) F dX1_load_75 (by decide) rfl ?_
  obtain ⟨w11, ew11, h⟩ := ob h
  refine g_sub (Ln := [(0, .ref (E.2.1 k)), (1, .ref (E.2.1 k1)), (2, .int v2), (3, .int w5.1), (4, .int 0)]) [1, 2, 3, 4, 0] rfl ?_
  refine wlX1_load_77 F B hE k k1 v2 w5.1 hk hk1 J _ ew11 ?_
  obtain rfl := Option.some.inj h
  exact g_vret F e dX1_load_161 ⟨rfl, rfl, rfl⟩
theorem DX1_open_0 : dAre cX1_open [(0, .aload_n 0, 1), (1, .iconst 0, 1), (2, .putfield 9, 3), (5, .aload_n 0, 1), (6, .iconst 0, 1), (7, .putfield 15, 3), (10, .aload_n 0, 1), (11, .getfield 21, 3), (14, .iconst 0, 1), (15, .invokestatic 76, 3), (18, .aload_n 0, 1), (19, .getfield 40, 3), (22, .iconst (-1), 1), (23, .invokestatic 76, 3), (26, .iconst 0, 1), (27, .istore_n 2, 1)] := dAre0 (by decide +kernel)
theorem dX1_open_0 : decode cX1_open 0 = .ok (.aload_n 0, 1) := DX1_open_0.1
theorem dX1_open_1 : decode cX1_open 1 = .ok (.iconst 0, 1) := DX1_open_0.2.1
theorem dX1_open_2 : decode cX1_open 2 = .ok (.putfield 9, 3) := DX1_open_0.2.2.1
theorem dX1_open_5 : decode cX1_open 5 = .ok (.aload_n 0, 1) := DX1_open_0.2.2.2.1
theorem dX1_open_6 : decode cX1_open 6 = .ok (.iconst 0, 1) := DX1_open_0.2.2.2.2.1
theorem dX1_open_7 : decode cX1_open 7 = .ok (.putfield 15, 3) := DX1_open_0.2.2.2.2.2.1
theorem dX1_open_10 : decode cX1_open 10 = .ok (.aload_n 0, 1) := DX1_open_0.2.2.2.2.2.2.1
theorem dX1_open_11 : decode cX1_open 11 = .ok (.getfield 21, 3) := DX1_open_0.2.2.2.2.2.2.2.1
theorem dX1_open_14 : decode cX1_open 14 = .ok (.iconst 0, 1) := DX1_open_0.2.2.2.2.2.2.2.2.1
theorem dX1_open_15 : decode cX1_open 15 = .ok (.invokestatic 76, 3) := DX1_open_0.2.2.2.2.2.2.2.2.2.1
theorem dX1_open_18 : decode cX1_open 18 = .ok (.aload_n 0, 1) := DX1_open_0.2.2.2.2.2.2.2.2.2.2.1
theorem dX1_open_19 : decode cX1_open 19 = .ok (.getfield 40, 3) := DX1_open_0.2.2.2.2.2.2.2.2.2.2.2.1
theorem dX1_open_22 : decode cX1_open 22 = .ok (.iconst (-1), 1) := DX1_open_0.2.2.2.2.2.2.2.2.2.2.2.2.1
theorem dX1_open_23 : decode cX1_open 23 = .ok (.invokestatic 76, 3) := DX1_open_0.2.2.2.2.2.2.2.2.2.2.2.2.2.1
theorem dX1_open_26 : decode cX1_open 26 = .ok (.iconst 0, 1) := DX1_open_0.2.2.2.2.2.2.2.2.2.2.2.2.2.2.1
theorem dX1_open_27 : decode cX1_open 27 = .ok (.istore_n 2, 1) := DX1_open_0.2.2.2.2.2.2.2.2.2.2.2.2.2.2.2.1
theorem DX1_open_28 : dAre cX1_open [(28, .iload_n 2, 1), (29, .iconst 4, 1), (30, .if_icmp .ge 43, 3), (33, .aload_n 0, 1), (34, .getfield 43, 3), (37, .iload_n 2, 1), (38, .iload_n 2, 1), (39, .bipush 12, 2), (41, .imul, 1), (42, .iastore, 1), (43, .aload_n 0, 1), (44, .getfield 46, 3), (47, .iload_n 2, 1), (48, .iload_n 2, 1), (49, .bipush 12, 2), (51, .imul, 1)] := dAre0 (by decide +kernel)
theorem dX1_open_28 : decode cX1_open 28 = .ok (.iload_n 2, 1) := DX1_open_28.1
theorem dX1_open_29 : decode cX1_open 29 = .ok (.iconst 4, 1) := DX1_open_28.2.1
theorem dX1_open_30 : decode cX1_open 30 = .ok (.if_icmp .ge 43, 3) := DX1_open_28.2.2.1
theorem dX1_open_33 : decode cX1_open 33 = .ok (.aload_n 0, 1) := DX1_open_28.2.2.2.1
theorem dX1_open_34 : decode cX1_open 34 = .ok (.getfield 43, 3) := DX1_open_28.2.2.2.2.1
theorem dX1_open_37 : decode cX1_open 37 = .ok (.iload_n 2, 1) := DX1_open_28.2.2.2.2.2.1
theorem dX1_open_38 : decode cX1_open 38 = .ok (.iload_n 2, 1) := DX1_open_28.2.2.2.2.2.2.1
theorem dX1_open_39 : decode cX1_open 39 = .ok (.bipush 12, 2) := DX1_open_28.2.2.2.2.2.2.2.1
theorem dX1_open_41 : decode cX1_open 41 = .ok (.imul, 1) := DX1_open_28.2.2.2.2.2.2.2.2.1
theorem dX1_open_42 : decode cX1_open 42 = .ok (.iastore, 1) := DX1_open_28.2.2.2.2.2.2.2.2.2.1
theorem dX1_open_43 : decode cX1_open 43 = .ok (.aload_n 0, 1) := DX1_open_28.2.2.2.2.2.2.2.2.2.2.1
theorem dX1_open_44 : decode cX1_open 44 = .ok (.getfield 46, 3) := DX1_open_28.2.2.2.2.2.2.2.2.2.2.2.1
theorem dX1_open_47 : decode cX1_open 47 = .ok (.iload_n 2, 1) := DX1_open_28.2.2.2.2.2.2.2.2.2.2.2.2.1
theorem dX1_open_48 : decode cX1_open 48 = .ok (.iload_n 2, 1) := DX1_open_28.2.2.2.2.2.2.2.2.2.2.2.2.2.1
theorem dX1_open_49 : decode cX1_open 49 = .ok (.bipush 12, 2) := DX1_open_28.2.2.2.2.2.2.2.2.2.2.2.2.2.2.1
theorem dX1_open_51 : decode cX1_open 51 = .ok (.imul, 1) := DX1_open_28.2.2.2.2.2.2.2.2.2.2.2.2.2.2.2.1
theorem DX1_open_52 : dAre cX1_open [(52, .iastore, 1), (53, .aload_n 1, 1), (54, .iload_n 2, 1), (55, .invokevirtual 82, 3), (58, .ifCond .eq 9, 3), (61, .aload_n 0, 1), (62, .aload_n 1, 1), (63, .iload_n 2, 1), (64, .invokevirtual 86, 3), (67, .iinc 2 1, 3), (70, .goto (-42), 3), (73, .return_, 1)] := dAre0 (by decide +kernel)
theorem dX1_open_52 : decode cX1_open 52 = .ok (.iastore, 1) := DX1_open_52.1
theorem dX1_open_53 : decode cX1_open 53 = .ok (.aload_n 1, 1) := DX1_open_52.2.1
theorem dX1_open_54 : decode cX1_open 54 = .ok (.iload_n 2, 1) := DX1_open_52.2.2.1
theorem dX1_open_55 : decode cX1_open 55 = .ok (.invokevirtual 82, 3) := DX1_open_52.2.2.2.1
theorem dX1_open_58 : decode cX1_open 58 = .ok (.ifCond .eq 9, 3) := DX1_open_52.2.2.2.2.1
theorem dX1_open_61 : decode cX1_open 61 = .ok (.aload_n 0, 1) := DX1_open_52.2.2.2.2.2.1
theorem dX1_open_62 : decode cX1_open 62 = .ok (.aload_n 1, 1) := DX1_open_52.2.2.2.2.2.2.1
theorem dX1_open_63 : decode cX1_open 63 = .ok (.iload_n 2, 1) := DX1_open_52.2.2.2.2.2.2.2.1
theorem dX1_open_64 : decode cX1_open 64 = .ok (.invokevirtual 86, 3) := DX1_open_52.2.2.2.2.2.2.2.2.1
theorem dX1_open_67 : decode cX1_open 67 = .ok (.iinc 2 1, 3) := DX1_open_52.2.2.2.2.2.2.2.2.2.1
theorem dX1_open_70 : decode cX1_open 70 = .ok (.goto (-42), 3) := DX1_open_52.2.2.2.2.2.2.2.2.2.2.1
theorem dX1_open_73 : decode cX1_open 73 = .ok (.return_, 1) := DX1_open_52.2.2.2.2.2.2.2.2.2.2.2.1
theorem mX1_open : gMv yX1_open cX1_open 3 none RX1 1 := ⟨q355, q1357, q4, q356, rfl, by decide, by decide, by decide +kernel⟩
noncomputable def bX1_open_67 (v2 : Int32) (I : gM) : Option ((Int32 × gM) ⊕ (gM)) :=
  some (.inl (v2 + 1, I))
set_option maxRecDepth 100000 in
set_option maxHeartbeats 4000000 in
theorem wbX1_open_67 {z : gZ} {E : gE} {bk : Nat} (F : Fx z sh E "LeapJoin$Join" cX1_open (gR 2) 3) (B : bZ z bk) (hE : gDist sh E) (k : Nat) (k1 : Nat) (v2 : Int32) (hk : shX1 k) (hk1 : shX5 k1) (I : gM) (J : gN) {y : (Int32 × gM) ⊕ (gM)} (h : bX1_open_67 v2 I = some y) (hl : ∀ s' : Int32 × gM, y = .inl s' → G z 28 [(0, .ref (E.2.1 k)), (1, .ref (E.2.1 k1)), (2, .int (s'.1))] [] s'.2 J) (K28_0 : ∀ x : gM, y = .inr x → G z 73 [] [] x J) : G z 67 [(0, .ref (E.2.1 k)), (1, .ref (E.2.1 k1)), (2, .int v2)] [] I J := by
  unfold bX1_open_67 at h
  refine g_iinc (v := v2 + 1) (Ln := [(2, .int (v2 + 1)), (0, .ref (E.2.1 k)), (1, .ref (E.2.1 k1))]) F 2 dX1_open_67 rfl (add_c (by decide)) (by decide) rfl ?_
  refine g_goto (tgt := 28) F dX1_open_70 (by decide) ?_
  obtain rfl := Option.some.inj h
  refine g_sub (Ln := [(0, .ref (E.2.1 k)), (1, .ref (E.2.1 k1)), (2, .int (v2 + 1))]) [1, 2, 0] rfl ?_
  exact hl (v2 + 1, I) rfl
noncomputable def lX1_open_28 (k : Nat) (k1 : Nat) : (Int32 × gM) → Option (gM) :=
  itO fun s =>
    if (4 : Int32) ≤ s.1 then
      some (.inr s.2)
    else
      (wI s.2 (k + 8) 16 s.1 (s.1 * 12)).bind fun I5 =>
      (wI I5 (k + 9) 16 s.1 (s.1 * 12)).bind fun I6 =>
      (fX5_isUsed k1 s.1 I6).bind fun r7 =>
      if r7 = 0 then
        bX1_open_67 s.1 I6
      else
        (fX1_load k k1 s.1 I6).bind fun r8 =>
        bX1_open_67 s.1 r8
set_option maxRecDepth 100000 in
set_option maxHeartbeats 4000000 in
theorem wlX1_open_28 {z : gZ} {E : gE} {bk : Nat} (F : Fx z sh E "LeapJoin$Join" cX1_open (gR 2) 3) (B : bZ z bk) (hE : gDist sh E) (k : Nat) (k1 : Nat) (hk : shX1 k) (hk1 : shX5 k1) (J : gN) {r : gM} : ∀ s : Int32 × gM, lX1_open_28 k k1 s = some r → (G z 73 [] [] r J) → G z 28 [(0, .ref (E.2.1 k)), (1, .ref (E.2.1 k1)), (2, .int s.1)] [] s.2 J := by
  intro s h X0
  unfold lX1_open_28 at h
  revert s
  refine itO_ind (P := fun s : Int32 × gM => G z 28 [(0, .ref (E.2.1 k)), (1, .ref (E.2.1 k1)), (2, .int s.1)] [] s.2 J) (fun s y h hl hr => ?_)
  have K28_0 : ∀ x : gM, y = .inr x → (G z 73 [] [] x J) := fun x q => by have q2 := hr _ q; subst q2; exact X0
  refine g_iload_n F 2 dX1_open_28 rfl rfl ?_
  refine g_iconst (v := 4) F dX1_open_29 (by decide) ?_
  refine u_icmp_ge (tgt := 73) F dX1_open_30 (by decide) h (fun h => ?_) (fun h => ?_)
  · obtain rfl := Option.some.inj h
    refine g_sub (Ln := []) [] rfl ?_
    exact K28_0 s.2 rfl
  · refine g_aload_n F 0 dX1_open_33 rfl rfl ?_
    refine g_getr (j := 10) (nn := (k + 8)) F hk.1 rfl rfl uX1 (by decide) q93 dX1_open_34 ?_
    refine g_iload_n F 2 dX1_open_37 rfl rfl ?_
    refine g_iload_n F 2 dX1_open_38 rfl rfl ?_
    refine g_bipush (v := 12) F dX1_open_39 (by decide) ?_
    refine g_imul (v := s.1 * 12) F dX1_open_41 rfl ?_
    refine u_wI F hk.2.2.2.2.2.2.2.2.1 (by decide) dX1_open_42 h (fun I5 h => ?_)
    refine g_aload_n F 0 dX1_open_43 rfl rfl ?_
    refine g_getr (j := 11) (nn := (k + 9)) F hk.1 rfl rfl uX1 (by decide) q94 dX1_open_44 ?_
    refine g_iload_n F 2 dX1_open_47 rfl rfl ?_
    refine g_iload_n F 2 dX1_open_48 rfl rfl ?_
    refine g_bipush (v := 12) F dX1_open_49 (by decide) ?_
    refine g_imul (v := s.1 * 12) F dX1_open_51 rfl ?_
    refine u_wI F hk.2.2.2.2.2.2.2.2.2.1 (by decide) dX1_open_52 h (fun I6 h => ?_)
    refine g_aload_n F 1 dX1_open_53 rfl rfl ?_
    refine g_iload_n F 2 dX1_open_54 rfl rfl ?_
    refine u_callV (k := k1) (As := [.int s.1]) (rest := []) (sn := fun r7 => [.int r7]) F B (fun _ => wX5_isUsed (zl z) E hE bk k1 s.1 hk1 I6 J) mX5_isUsed q358 rfl hk1.1 rfl rfl rfl (Nat.le_of_ble_eq_true rfl) dX1_open_55 (fun _ => rfl) h (fun r7 h => ?_)
    refine u_if_eq (tgt := 67) F dX1_open_58 (by decide) h (fun h => ?_) (fun h => ?_)
    · refine g_sub (Ln := [(0, .ref (E.2.1 k)), (1, .ref (E.2.1 k1)), (2, .int s.1)]) [0, 1, 2] rfl ?_
      exact wbX1_open_67 F B hE k k1 s.1 hk hk1 I6 J h hl K28_0
    · refine g_aload_n F 0 dX1_open_61 rfl rfl ?_
      refine g_aload_n F 1 dX1_open_62 rfl rfl ?_
      refine g_iload_n F 2 dX1_open_63 rfl rfl ?_
      refine u_callV (k := k) (As := [.ref (E.2.1 k1), .int s.1]) (rest := []) (sn := fun _ => []) F B (fun _ => wX1_load (zl z) E hE bk k k1 s.1 hk hk1 I6 J) mX1_load q359 rfl hk.1 rfl rfl rfl (Nat.le_of_ble_eq_true rfl) dX1_open_64 (fun _ => rfl) h (fun r8 h => ?_)
      refine g_sub (Ln := [(0, .ref (E.2.1 k)), (1, .ref (E.2.1 k1)), (2, .int s.1)]) [0, 1, 2] rfl ?_
      exact wbX1_open_67 F B hE k k1 s.1 hk hk1 r8 J h hl K28_0
noncomputable def fX1_open (k : Nat) (k1 : Nat) (I : gM) : Option (gM) :=
  (pU I k 0 (0 : Int32)).bind fun I1 =>
  (pU I1 k 1 (0 : Int32)).bind fun I2 =>
  (fJ7_fill_53178 (k + 1) 4 (0 : Int32) I2).bind fun r3 =>
  (fJ7_fill_53178 (k + 7) 16 ((-1) : Int32) r3).bind fun r4 =>
  (lX1_open_28 k k1 ((0 : Int32), r4)).bind fun w9 =>
  some w9
set_option maxRecDepth 100000 in
set_option maxHeartbeats 4000000 in
theorem wX1_open (l : Launch) (E : gE) (hE : gDist sh E) (bk : Nat) (k : Nat) (k1 : Nat) (hk : shX1 k) (hk1 : shX5 k1) (I : gM) (J : gN) {r : gM} (h : fX1_open k k1 I = some r) : Cu l sh E bk yX1_open cX1_open 3 none (gR 2) [.ref (E.2.1 k), .ref (E.2.1 k1)] I J (fun r1 I1 J1 => r1 = none ∧ I1 = r ∧ J1 = J) := by
  refine Cu.of "LeapJoin$Join" rfl hE (by decide) (Nat.le_of_ble_eq_true rfl) (fun z F B e hl => ?_)
  subst hl
  unfold fX1_open at h
  refine g_aload_n F 0 dX1_open_0 rfl rfl ?_
  refine g_iconst (v := 0) F dX1_open_1 (by decide) ?_
  refine u_puti (j := 0) F hk.1 rfl rfl uX1 (by decide) q77 tyX1_ok nmX1 rfl rfl rfl dX1_open_2 h (fun I1 h => ?_)
  refine g_aload_n F 0 dX1_open_5 rfl rfl ?_
  refine g_iconst (v := 0) F dX1_open_6 (by decide) ?_
  refine u_puti (j := 1) F hk.1 rfl rfl uX1 (by decide) q80 tyX1_ok nmX1 rfl rfl rfl dX1_open_7 h (fun I2 h => ?_)
  refine g_aload_n F 0 dX1_open_10 rfl rfl ?_
  refine g_getr (j := 3) (nn := (k + 1)) F hk.1 rfl rfl uX1 (by decide) q85 dX1_open_11 ?_
  refine g_iconst (v := 0) F dX1_open_14 (by decide) ?_
  refine u_callS (As := [.ref (E.2.1 (k + 1)), .int 0]) (rest := []) (sn := fun _ => []) F B (fun _ => wJ7_fill_53178 (zl z) E hE bk (k + 1) 4 (0 : Int32) ⟨hk.2.1, by decide⟩ I2 J) mJ7_fill_53178 q357 rfl rfl rfl (Nat.le_of_ble_eq_true rfl) dX1_open_15 (fun _ => rfl) h (fun r3 h => ?_)
  refine g_aload_n F 0 dX1_open_18 rfl rfl ?_
  refine g_getr (j := 9) (nn := (k + 7)) F hk.1 rfl rfl uX1 (by decide) q92 dX1_open_19 ?_
  refine g_iconst (v := (-1)) F dX1_open_22 (by decide) ?_
  refine u_callS (As := [.ref (E.2.1 (k + 7)), .int (-1)]) (rest := []) (sn := fun _ => []) F B (fun _ => wJ7_fill_53178 (zl z) E hE bk (k + 7) 16 ((-1) : Int32) ⟨hk.2.2.2.2.2.2.2.1, by decide⟩ r3 J) mJ7_fill_53178 q357 rfl rfl rfl (Nat.le_of_ble_eq_true rfl) dX1_open_23 (fun _ => rfl) h (fun r4 h => ?_)
  refine g_iconst (v := 0) F dX1_open_26 (by decide) ?_
  refine g_istore_n (Ln := [(2, .int 0), (0, .ref (E.2.1 k)), (1, .ref (E.2.1 k1))]) F dX1_open_27 rfl (by decide) rfl ?_
  obtain ⟨w9, ew9, h⟩ := ob h
  refine g_sub (Ln := [(0, .ref (E.2.1 k)), (1, .ref (E.2.1 k1)), (2, .int 0)]) [1, 2, 0] rfl ?_
  refine wlX1_open_28 F B hE k k1 hk hk1 J _ ew9 ?_
  obtain rfl := Option.some.inj h
  exact g_vret F e dX1_open_73 ⟨rfl, rfl, rfl⟩
theorem DX1_isOpened_0 : dAre cX1_isOpened [(0, .iload_n 1, 1), (1, .iconst 4, 1), (2, .imul, 1), (3, .istore_n 2, 1), (4, .iload_n 2, 1), (5, .iload_n 1, 1), (6, .iconst 1, 1), (7, .iadd, 1), (8, .iconst 4, 1), (9, .imul, 1), (10, .if_icmp .ge 48, 3), (13, .aload_n 0, 1), (14, .getfield 49, 3), (17, .iload_n 2, 1), (18, .aload_n 0, 1), (19, .getfield 43, 3)] := dAre0 (by decide +kernel)
theorem dX1_isOpened_0 : decode cX1_isOpened 0 = .ok (.iload_n 1, 1) := DX1_isOpened_0.1
theorem dX1_isOpened_1 : decode cX1_isOpened 1 = .ok (.iconst 4, 1) := DX1_isOpened_0.2.1
theorem dX1_isOpened_2 : decode cX1_isOpened 2 = .ok (.imul, 1) := DX1_isOpened_0.2.2.1
theorem dX1_isOpened_3 : decode cX1_isOpened 3 = .ok (.istore_n 2, 1) := DX1_isOpened_0.2.2.2.1
theorem dX1_isOpened_4 : decode cX1_isOpened 4 = .ok (.iload_n 2, 1) := DX1_isOpened_0.2.2.2.2.1
theorem dX1_isOpened_5 : decode cX1_isOpened 5 = .ok (.iload_n 1, 1) := DX1_isOpened_0.2.2.2.2.2.1
theorem dX1_isOpened_6 : decode cX1_isOpened 6 = .ok (.iconst 1, 1) := DX1_isOpened_0.2.2.2.2.2.2.1
theorem dX1_isOpened_7 : decode cX1_isOpened 7 = .ok (.iadd, 1) := DX1_isOpened_0.2.2.2.2.2.2.2.1
theorem dX1_isOpened_8 : decode cX1_isOpened 8 = .ok (.iconst 4, 1) := DX1_isOpened_0.2.2.2.2.2.2.2.2.1
theorem dX1_isOpened_9 : decode cX1_isOpened 9 = .ok (.imul, 1) := DX1_isOpened_0.2.2.2.2.2.2.2.2.2.1
theorem dX1_isOpened_10 : decode cX1_isOpened 10 = .ok (.if_icmp .ge 48, 3) := DX1_isOpened_0.2.2.2.2.2.2.2.2.2.2.1
theorem dX1_isOpened_13 : decode cX1_isOpened 13 = .ok (.aload_n 0, 1) := DX1_isOpened_0.2.2.2.2.2.2.2.2.2.2.2.1
theorem dX1_isOpened_14 : decode cX1_isOpened 14 = .ok (.getfield 49, 3) := DX1_isOpened_0.2.2.2.2.2.2.2.2.2.2.2.2.1
theorem dX1_isOpened_17 : decode cX1_isOpened 17 = .ok (.iload_n 2, 1) := DX1_isOpened_0.2.2.2.2.2.2.2.2.2.2.2.2.2.1
theorem dX1_isOpened_18 : decode cX1_isOpened 18 = .ok (.aload_n 0, 1) := DX1_isOpened_0.2.2.2.2.2.2.2.2.2.2.2.2.2.2.1
theorem dX1_isOpened_19 : decode cX1_isOpened 19 = .ok (.getfield 43, 3) := DX1_isOpened_0.2.2.2.2.2.2.2.2.2.2.2.2.2.2.2.1
theorem DX1_isOpened_22 : dAre cX1_isOpened [(22, .iload_n 2, 1), (23, .iaload, 1), (24, .iastore, 1), (25, .aload_n 0, 1), (26, .getfield 40, 3), (29, .iload_n 2, 1), (30, .iaload, 1), (31, .iconst (-1), 1), (32, .if_icmp .eq 20, 3), (35, .aload_n 0, 1), (36, .getfield 43, 3), (39, .iload_n 2, 1), (40, .iaload, 1), (41, .aload_n 0, 1), (42, .getfield 46, 3), (45, .iload_n 2, 1)] := dAre0 (by decide +kernel)
theorem dX1_isOpened_22 : decode cX1_isOpened 22 = .ok (.iload_n 2, 1) := DX1_isOpened_22.1
theorem dX1_isOpened_23 : decode cX1_isOpened 23 = .ok (.iaload, 1) := DX1_isOpened_22.2.1
theorem dX1_isOpened_24 : decode cX1_isOpened 24 = .ok (.iastore, 1) := DX1_isOpened_22.2.2.1
theorem dX1_isOpened_25 : decode cX1_isOpened 25 = .ok (.aload_n 0, 1) := DX1_isOpened_22.2.2.2.1
theorem dX1_isOpened_26 : decode cX1_isOpened 26 = .ok (.getfield 40, 3) := DX1_isOpened_22.2.2.2.2.1
theorem dX1_isOpened_29 : decode cX1_isOpened 29 = .ok (.iload_n 2, 1) := DX1_isOpened_22.2.2.2.2.2.1
theorem dX1_isOpened_30 : decode cX1_isOpened 30 = .ok (.iaload, 1) := DX1_isOpened_22.2.2.2.2.2.2.1
theorem dX1_isOpened_31 : decode cX1_isOpened 31 = .ok (.iconst (-1), 1) := DX1_isOpened_22.2.2.2.2.2.2.2.1
theorem dX1_isOpened_32 : decode cX1_isOpened 32 = .ok (.if_icmp .eq 20, 3) := DX1_isOpened_22.2.2.2.2.2.2.2.2.1
theorem dX1_isOpened_35 : decode cX1_isOpened 35 = .ok (.aload_n 0, 1) := DX1_isOpened_22.2.2.2.2.2.2.2.2.2.1
theorem dX1_isOpened_36 : decode cX1_isOpened 36 = .ok (.getfield 43, 3) := DX1_isOpened_22.2.2.2.2.2.2.2.2.2.2.1
theorem dX1_isOpened_39 : decode cX1_isOpened 39 = .ok (.iload_n 2, 1) := DX1_isOpened_22.2.2.2.2.2.2.2.2.2.2.2.1
theorem dX1_isOpened_40 : decode cX1_isOpened 40 = .ok (.iaload, 1) := DX1_isOpened_22.2.2.2.2.2.2.2.2.2.2.2.2.1
theorem dX1_isOpened_41 : decode cX1_isOpened 41 = .ok (.aload_n 0, 1) := DX1_isOpened_22.2.2.2.2.2.2.2.2.2.2.2.2.2.1
theorem dX1_isOpened_42 : decode cX1_isOpened 42 = .ok (.getfield 46, 3) := DX1_isOpened_22.2.2.2.2.2.2.2.2.2.2.2.2.2.2.1
theorem dX1_isOpened_45 : decode cX1_isOpened 45 = .ok (.iload_n 2, 1) := DX1_isOpened_22.2.2.2.2.2.2.2.2.2.2.2.2.2.2.2.1
theorem DX1_isOpened_46 : dAre cX1_isOpened [(46, .iaload, 1), (47, .if_icmp .lt 5, 3), (50, .iconst 0, 1), (51, .ireturn, 1), (52, .iinc 2 1, 3), (55, .goto (-51), 3), (58, .iconst 1, 1), (59, .ireturn, 1)] := dAre0 (by decide +kernel)
theorem dX1_isOpened_46 : decode cX1_isOpened 46 = .ok (.iaload, 1) := DX1_isOpened_46.1
theorem dX1_isOpened_47 : decode cX1_isOpened 47 = .ok (.if_icmp .lt 5, 3) := DX1_isOpened_46.2.1
theorem dX1_isOpened_50 : decode cX1_isOpened 50 = .ok (.iconst 0, 1) := DX1_isOpened_46.2.2.1
theorem dX1_isOpened_51 : decode cX1_isOpened 51 = .ok (.ireturn, 1) := DX1_isOpened_46.2.2.2.1
theorem dX1_isOpened_52 : decode cX1_isOpened 52 = .ok (.iinc 2 1, 3) := DX1_isOpened_46.2.2.2.2.1
theorem dX1_isOpened_55 : decode cX1_isOpened 55 = .ok (.goto (-51), 3) := DX1_isOpened_46.2.2.2.2.2.1
theorem dX1_isOpened_58 : decode cX1_isOpened 58 = .ok (.iconst 1, 1) := DX1_isOpened_46.2.2.2.2.2.2.1
theorem dX1_isOpened_59 : decode cX1_isOpened 59 = .ok (.ireturn, 1) := DX1_isOpened_46.2.2.2.2.2.2.2.1
theorem mX1_isOpened : gMv yX1_isOpened cX1_isOpened 3 (some .boolean) RX1 1 := ⟨q371, q1361, q4, q372, rfl, by decide, by decide, by decide +kernel⟩
noncomputable def bX1_isOpened_52 (v2 : Int32) (I : gM) : Option ((Int32 × gM) ⊕ ((gM) ⊕ (gM))) :=
  some (.inl (v2 + 1, I))
set_option maxRecDepth 100000 in
set_option maxHeartbeats 4000000 in
theorem wbX1_isOpened_52 {z : gZ} {E : gE} {bk : Nat} (F : Fx z sh E "LeapJoin$Join" cX1_isOpened (gR 0) 3) (B : bZ z bk) (hE : gDist sh E) (k : Nat) (v1 : Int32) (v2 : Int32) (hk : shX1 k) (I : gM) (J : gN) {y : (Int32 × gM) ⊕ ((gM) ⊕ (gM))} (h : bX1_isOpened_52 v2 I = some y) (hl : ∀ s' : Int32 × gM, y = .inl s' → G z 4 [(0, .ref (E.2.1 k)), (1, .int v1), (2, .int (s'.1))] [] s'.2 J) (K4_0 : ∀ x : gM, y = .inr (.inl x) → G z 50 [] [] x J) (K4_1 : ∀ x : gM, y = .inr (.inr x) → G z 58 [] [] x J) : G z 52 [(0, .ref (E.2.1 k)), (1, .int v1), (2, .int v2)] [] I J := by
  unfold bX1_isOpened_52 at h
  refine g_iinc (v := v2 + 1) (Ln := [(2, .int (v2 + 1)), (0, .ref (E.2.1 k)), (1, .int v1)]) F 2 dX1_isOpened_52 rfl (add_c (by decide)) (by decide) rfl ?_
  refine g_goto (tgt := 4) F dX1_isOpened_55 (by decide) ?_
  obtain rfl := Option.some.inj h
  refine g_sub (Ln := [(0, .ref (E.2.1 k)), (1, .int v1), (2, .int (v2 + 1))]) [1, 2, 0] rfl ?_
  exact hl (v2 + 1, I) rfl
noncomputable def lX1_isOpened_4 (k : Nat) (v1 : Int32) : (Int32 × gM) → Option ((gM) ⊕ (gM)) :=
  itO fun s =>
    if ((v1 + 1) * 4) ≤ s.1 then
      some (.inr (.inr s.2))
    else
      (rI 16 (s.2 (k + 8)) s.1).bind fun u1 =>
      (wI s.2 (k + 10) 16 s.1 u1).bind fun I2 =>
      (rI 16 (I2 (k + 7)) s.1).bind fun u3 =>
      if u3 = (-1) then
        bX1_isOpened_52 s.1 I2
      else
        (rI 16 (I2 (k + 8)) s.1).bind fun u4 =>
        (rI 16 (I2 (k + 9)) s.1).bind fun u5 =>
        if u4 < u5 then
          bX1_isOpened_52 s.1 I2
        else
          some (.inr (.inl I2))
set_option maxRecDepth 100000 in
set_option maxHeartbeats 4000000 in
theorem wlX1_isOpened_4 {z : gZ} {E : gE} {bk : Nat} (F : Fx z sh E "LeapJoin$Join" cX1_isOpened (gR 0) 3) (B : bZ z bk) (hE : gDist sh E) (k : Nat) (v1 : Int32) (hk : shX1 k) (J : gN) {r : (gM) ⊕ (gM)} : ∀ s : Int32 × gM, lX1_isOpened_4 k v1 s = some r → (∀ x : gM, r = .inl x → G z 50 [] [] x J) → (∀ x : gM, r = .inr x → G z 58 [] [] x J) → G z 4 [(0, .ref (E.2.1 k)), (1, .int v1), (2, .int s.1)] [] s.2 J := by
  intro s h X0 X1
  unfold lX1_isOpened_4 at h
  revert s
  refine itO_ind (P := fun s : Int32 × gM => G z 4 [(0, .ref (E.2.1 k)), (1, .int v1), (2, .int s.1)] [] s.2 J) (fun s y h hl hr => ?_)
  have K4_0 := fun (x : gM) (q : y = .inr (.inl x)) => X0 x (hr _ q).symm
  have K4_1 := fun (x : gM) (q : y = .inr (.inr x)) => X1 x (hr _ q).symm
  refine g_iload_n F 2 dX1_isOpened_4 rfl rfl ?_
  refine g_iload_n F 1 dX1_isOpened_5 rfl rfl ?_
  refine g_iconst (v := 1) F dX1_isOpened_6 (by decide) ?_
  refine g_iadd (v := v1 + 1) F dX1_isOpened_7 rfl ?_
  refine g_iconst (v := 4) F dX1_isOpened_8 (by decide) ?_
  refine g_imul (v := (v1 + 1) * 4) F dX1_isOpened_9 rfl ?_
  refine u_icmp_ge (tgt := 58) F dX1_isOpened_10 (by decide) h (fun h => ?_) (fun h => ?_)
  · obtain rfl := Option.some.inj h
    refine g_sub (Ln := []) [] rfl ?_
    exact K4_1 s.2 rfl
  · refine g_aload_n F 0 dX1_isOpened_13 rfl rfl ?_
    refine g_getr (j := 12) (nn := (k + 10)) F hk.1 rfl rfl uX1 (by decide) q95 dX1_isOpened_14 ?_
    refine g_iload_n F 2 dX1_isOpened_17 rfl rfl ?_
    refine g_aload_n F 0 dX1_isOpened_18 rfl rfl ?_
    refine g_getr (j := 10) (nn := (k + 8)) F hk.1 rfl rfl uX1 (by decide) q93 dX1_isOpened_19 ?_
    refine g_iload_n F 2 dX1_isOpened_22 rfl rfl ?_
    refine u_rI F hk.2.2.2.2.2.2.2.2.1 (by decide) dX1_isOpened_23 h (fun u1 h => ?_)
    refine u_wI F hk.2.2.2.2.2.2.2.2.2.2 (by decide) dX1_isOpened_24 h (fun I2 h => ?_)
    refine g_aload_n F 0 dX1_isOpened_25 rfl rfl ?_
    refine g_getr (j := 9) (nn := (k + 7)) F hk.1 rfl rfl uX1 (by decide) q92 dX1_isOpened_26 ?_
    refine g_iload_n F 2 dX1_isOpened_29 rfl rfl ?_
    refine u_rI F hk.2.2.2.2.2.2.2.1 (by decide) dX1_isOpened_30 h (fun u3 h => ?_)
    refine g_iconst (v := (-1)) F dX1_isOpened_31 (by decide) ?_
    refine u_icmp_eq (tgt := 52) F dX1_isOpened_32 (by decide) h (fun h => ?_) (fun h => ?_)
    · refine g_sub (Ln := [(0, .ref (E.2.1 k)), (1, .int v1), (2, .int s.1)]) [0, 1, 2] rfl ?_
      exact wbX1_isOpened_52 F B hE k v1 s.1 hk I2 J h hl K4_0 K4_1
    · refine g_aload_n F 0 dX1_isOpened_35 rfl rfl ?_
      refine g_getr (j := 10) (nn := (k + 8)) F hk.1 rfl rfl uX1 (by decide) q93 dX1_isOpened_36 ?_
      refine g_iload_n F 2 dX1_isOpened_39 rfl rfl ?_
      refine u_rI F hk.2.2.2.2.2.2.2.2.1 (by decide) dX1_isOpened_40 h (fun u4 h => ?_)
      refine g_aload_n F 0 dX1_isOpened_41 rfl rfl ?_
      refine g_getr (j := 11) (nn := (k + 9)) F hk.1 rfl rfl uX1 (by decide) q94 dX1_isOpened_42 ?_
      refine g_iload_n F 2 dX1_isOpened_45 rfl rfl ?_
      refine u_rI F hk.2.2.2.2.2.2.2.2.2.1 (by decide) dX1_isOpened_46 h (fun u5 h => ?_)
      refine u_icmp_lt (tgt := 52) F dX1_isOpened_47 (by decide) h (fun h => ?_) (fun h => ?_)
      · refine g_sub (Ln := [(0, .ref (E.2.1 k)), (1, .int v1), (2, .int s.1)]) [0, 1, 2] rfl ?_
        exact wbX1_isOpened_52 F B hE k v1 s.1 hk I2 J h hl K4_0 K4_1
      · obtain rfl := Option.some.inj h
        refine g_sub (Ln := []) [] rfl ?_
        exact K4_0 I2 rfl
noncomputable def fX1_isOpened (k : Nat) (v1 : Int32) (I : gM) : Option (Int32 × gM) :=
  (lX1_isOpened_4 k v1 (v1 * 4, I)).bind fun w6 =>
  Sum.elim (fun w6_0 =>
    some ((0 : Int32), w6_0))
  (fun w6_1 =>
    some ((1 : Int32), w6_1)) w6
set_option maxRecDepth 100000 in
set_option maxHeartbeats 4000000 in
theorem wX1_isOpened (l : Launch) (E : gE) (hE : gDist sh E) (bk : Nat) (k : Nat) (v1 : Int32) (hk : shX1 k) (I : gM) (J : gN) {r : Int32 × gM} (h : fX1_isOpened k v1 I = some r) : Cu l sh E bk yX1_isOpened cX1_isOpened 3 (some .boolean) (gR 0) [.ref (E.2.1 k), .int v1] I J (fun r1 I1 J1 => r1 = some (.int r.1) ∧ I1 = r.2 ∧ J1 = J) := by
  refine Cu.of "LeapJoin$Join" rfl hE (by decide) (Nat.le_of_ble_eq_true rfl) (fun z F B e hl => ?_)
  subst hl
  unfold fX1_isOpened at h
  refine g_iload_n F 1 dX1_isOpened_0 rfl rfl ?_
  refine g_iconst (v := 4) F dX1_isOpened_1 (by decide) ?_
  refine g_imul (v := v1 * 4) F dX1_isOpened_2 rfl ?_
  refine g_istore_n (Ln := [(2, .int (v1 * 4)), (0, .ref (E.2.1 k)), (1, .int v1)]) F dX1_isOpened_3 rfl (by decide) rfl ?_
  obtain ⟨w6, ew6, h⟩ := ob h
  refine g_sub (Ln := [(0, .ref (E.2.1 k)), (1, .int v1), (2, .int (v1 * 4))]) [1, 2, 0] rfl ?_
  refine wlX1_isOpened_4 F B hE k v1 hk J _ ew6 (fun w6_0 q => ?_) (fun w6_1 q => ?_)
  · subst q
    replace h := oE1 h
    refine g_iconst (v := 0) F dX1_isOpened_50 (by decide) ?_
    obtain rfl := Option.some.inj h
    exact g_zret F rfl e dX1_isOpened_51 ⟨rfl, rfl, rfl⟩
  · subst q
    replace h := oE2 h
    refine g_iconst (v := 1) F dX1_isOpened_58 (by decide) ?_
    obtain rfl := Option.some.inj h
    exact g_zret F rfl e dX1_isOpened_59 ⟨rfl, rfl, rfl⟩
