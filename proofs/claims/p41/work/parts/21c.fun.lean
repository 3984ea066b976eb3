theorem DJ7_fill_fda19_0 : dAre cJ7_fill_fda19 [(0, .aload_n 0, 1), (1, .arraylength, 1), (2, .iload_n 1, 1), (3, .iload_n 2, 1), (4, .invokestatic 13, 3), (7, .iload_n 1, 1), (8, .istore 4, 2), (10, .iload 4, 2), (12, .iload_n 2, 1), (13, .if_icmp .ge 14, 3), (16, .aload_n 0, 1), (17, .iload 4, 2), (19, .iload_n 3, 1), (20, .iastore, 1), (21, .iinc 4 1, 3), (24, .goto (-14), 3)] := dAre0 (by decide +kernel)
theorem dJ7_fill_fda19_0 : decode cJ7_fill_fda19 0 = .ok (.aload_n 0, 1) := DJ7_fill_fda19_0.1
theorem dJ7_fill_fda19_1 : decode cJ7_fill_fda19 1 = .ok (.arraylength, 1) := DJ7_fill_fda19_0.2.1
theorem dJ7_fill_fda19_2 : decode cJ7_fill_fda19 2 = .ok (.iload_n 1, 1) := DJ7_fill_fda19_0.2.2.1
theorem dJ7_fill_fda19_3 : decode cJ7_fill_fda19 3 = .ok (.iload_n 2, 1) := DJ7_fill_fda19_0.2.2.2.1
theorem dJ7_fill_fda19_4 : decode cJ7_fill_fda19 4 = .ok (.invokestatic 13, 3) := DJ7_fill_fda19_0.2.2.2.2.1
theorem dJ7_fill_fda19_7 : decode cJ7_fill_fda19 7 = .ok (.iload_n 1, 1) := DJ7_fill_fda19_0.2.2.2.2.2.1
theorem dJ7_fill_fda19_8 : decode cJ7_fill_fda19 8 = .ok (.istore 4, 2) := DJ7_fill_fda19_0.2.2.2.2.2.2.1
theorem dJ7_fill_fda19_10 : decode cJ7_fill_fda19 10 = .ok (.iload 4, 2) := DJ7_fill_fda19_0.2.2.2.2.2.2.2.1
theorem dJ7_fill_fda19_12 : decode cJ7_fill_fda19 12 = .ok (.iload_n 2, 1) := DJ7_fill_fda19_0.2.2.2.2.2.2.2.2.1
theorem dJ7_fill_fda19_13 : decode cJ7_fill_fda19 13 = .ok (.if_icmp .ge 14, 3) := DJ7_fill_fda19_0.2.2.2.2.2.2.2.2.2.1
theorem dJ7_fill_fda19_16 : decode cJ7_fill_fda19 16 = .ok (.aload_n 0, 1) := DJ7_fill_fda19_0.2.2.2.2.2.2.2.2.2.2.1
theorem dJ7_fill_fda19_17 : decode cJ7_fill_fda19 17 = .ok (.iload 4, 2) := DJ7_fill_fda19_0.2.2.2.2.2.2.2.2.2.2.2.1
theorem dJ7_fill_fda19_19 : decode cJ7_fill_fda19 19 = .ok (.iload_n 3, 1) := DJ7_fill_fda19_0.2.2.2.2.2.2.2.2.2.2.2.2.1
theorem dJ7_fill_fda19_20 : decode cJ7_fill_fda19 20 = .ok (.iastore, 1) := DJ7_fill_fda19_0.2.2.2.2.2.2.2.2.2.2.2.2.2.1
theorem dJ7_fill_fda19_21 : decode cJ7_fill_fda19 21 = .ok (.iinc 4 1, 3) := DJ7_fill_fda19_0.2.2.2.2.2.2.2.2.2.2.2.2.2.2.1
theorem dJ7_fill_fda19_24 : decode cJ7_fill_fda19 24 = .ok (.goto (-14), 3) := DJ7_fill_fda19_0.2.2.2.2.2.2.2.2.2.2.2.2.2.2.2.1
theorem dJ7_fill_fda19_27 : decode cJ7_fill_fda19 27 = .ok (.return_, 1) := by decide +kernel
theorem mJ7_fill_fda19 : gMs yJ7_fill_fda19 cJ7_fill_fda19 5 none 4 := ⟨q295, q11, q296, by decide, by decide, by decide +kernel⟩
noncomputable def lJ7_fill_fda19_10 (k0 : Nat) (n0 : Nat) (v2 : Int32) (v3 : Int32) : (Int32 × gM) → Option (gM) :=
  itO fun s =>
    if v2 ≤ s.1 then
      some (.inr s.2)
    else
      (wI s.2 k0 n0 s.1 v3).bind fun I2 =>
      some (.inl (s.1 + 1, I2))
set_option maxRecDepth 100000 in
set_option maxHeartbeats 4000000 in
theorem wlJ7_fill_fda19_10 {z : gZ} {E : gE} {bk : Nat} (F : Fx z sh E "java/util/Arrays" cJ7_fill_fda19 (gR 1) 5) (B : bZ z bk) (hE : gDist sh E) (k0 : Nat) (n0 : Nat) (v2 : Int32) (v3 : Int32) (hk0 : shA k0 n0) (J : gN) {r : gM} : ∀ s : Int32 × gM, lJ7_fill_fda19_10 k0 n0 v2 v3 s = some r → (G z 27 [] [] r J) → G z 10 [(0, .ref (E.2.1 k0)), (2, .int v2), (3, .int v3), (4, .int s.1)] [] s.2 J := by
  intro s h X0
  unfold lJ7_fill_fda19_10 at h
  revert s
  refine itO_ind (P := fun s : Int32 × gM => G z 10 [(0, .ref (E.2.1 k0)), (2, .int v2), (3, .int v3), (4, .int s.1)] [] s.2 J) (fun s y h hl hr => ?_)
  have K10_0 : ∀ x : gM, y = .inr x → (G z 27 [] [] x J) := fun x q => by have q2 := hr _ q; subst q2; exact X0
  refine g_iload F 3 dJ7_fill_fda19_10 rfl ?_
  refine g_iload_n F 1 dJ7_fill_fda19_12 rfl rfl ?_
  refine u_icmp_ge (tgt := 27) F dJ7_fill_fda19_13 (by decide) h (fun h => ?_) (fun h => ?_)
  · obtain rfl := Option.some.inj h
    refine g_sub (Ln := []) [] rfl ?_
    exact K10_0 s.2 rfl
  · refine g_aload_n F 0 dJ7_fill_fda19_16 rfl rfl ?_
    refine g_iload F 3 dJ7_fill_fda19_17 rfl ?_
    refine g_iload_n F 2 dJ7_fill_fda19_19 rfl rfl ?_
    refine u_wI F hk0.1 hk0.2 dJ7_fill_fda19_20 h (fun I2 h => ?_)
    refine g_iinc (v := s.1 + 1) (Ln := [(4, .int (s.1 + 1)), (0, .ref (E.2.1 k0)), (2, .int v2), (3, .int v3)]) F 3 dJ7_fill_fda19_21 rfl (add_c (by decide)) (by decide) rfl ?_
    refine g_goto (tgt := 10) F dJ7_fill_fda19_24 (by decide) ?_
    obtain rfl := Option.some.inj h
    refine g_sub (Ln := [(0, .ref (E.2.1 k0)), (2, .int v2), (3, .int v3), (4, .int (s.1 + 1))]) [1, 2, 3, 0] rfl ?_
    exact hl (s.1 + 1, I2) rfl
noncomputable def fJ7_fill_fda19 (k0 : Nat) (n0 : Nat) (v1 : Int32) (v2 : Int32) (v3 : Int32) (I : gM) : Option (gM) :=
  (fJ7_rangeCheck_23922 (nI n0) v1 v2).bind fun r1 =>
  (lJ7_fill_fda19_10 k0 n0 v2 v3 (v1, I)).bind fun w3 =>
  some w3
set_option maxRecDepth 100000 in
set_option maxHeartbeats 4000000 in
theorem wJ7_fill_fda19 (l : Launch) (E : gE) (hE : gDist sh E) (bk : Nat) (k0 : Nat) (n0 : Nat) (v1 : Int32) (v2 : Int32) (v3 : Int32) (hk0 : shA k0 n0) (I : gM) (J : gN) {r : gM} (h : fJ7_fill_fda19 k0 n0 v1 v2 v3 I = some r) : Cu l sh E bk yJ7_fill_fda19 cJ7_fill_fda19 5 none (gR 1) [.ref (E.2.1 k0), .int v1, .int v2, .int v3] I J (fun r1 I1 J1 => r1 = none ∧ I1 = r ∧ J1 = J) := by
  refine Cu.of "java/util/Arrays" rfl hE (by decide) (Nat.le_of_ble_eq_true rfl) (fun z F B e hl => ?_)
  subst hl
  unfold fJ7_fill_fda19 at h
  refine g_aload_n F 0 dJ7_fill_fda19_0 rfl rfl ?_
  refine g_alen (v := nI n0) F hk0.1 rfl rfl dJ7_fill_fda19_1 ?_
  refine g_iload_n F 1 dJ7_fill_fda19_2 rfl rfl ?_
  refine g_iload_n F 2 dJ7_fill_fda19_3 rfl rfl ?_
  refine u_callS (As := [.int (nI n0), .int v1, .int v2]) (rest := []) (sn := fun _ => []) F B (fun _ => wJ7_rangeCheck_23922 (zl z) E hE bk (nI n0) v1 v2 I J) mJ7_rangeCheck_23922 q297 rfl rfl rfl (Nat.le_of_ble_eq_true rfl) dJ7_fill_fda19_4 (fun _ => rfl) h (fun r1 h => ?_)
  refine g_iload_n F 1 dJ7_fill_fda19_7 rfl rfl ?_
  refine g_istore (Ln := [(4, .int v1), (0, .ref (E.2.1 k0)), (1, .int v1), (2, .int v2), (3, .int v3)]) F dJ7_fill_fda19_8 (by decide) rfl ?_
  obtain ⟨w3, ew3, h⟩ := ob h
  refine g_sub (Ln := [(0, .ref (E.2.1 k0)), (2, .int v2), (3, .int v3), (4, .int v1)]) [1, 3, 4, 0] rfl ?_
  refine wlJ7_fill_fda19_10 F B hE k0 n0 v2 v3 hk0 J _ ew3 ?_
  obtain rfl := Option.some.inj h
  exact g_vret F e dJ7_fill_fda19_27 ⟨rfl, rfl, rfl⟩
theorem DX4_add_0 : dAre cX4_add [(0, .aload_n 0, 1), (1, .getfield 9, 3), (4, .bipush 12, 2), (6, .if_icmp .ge 50, 3), (9, .aload_n 0, 1), (10, .getfield 9, 3), (13, .iconst 5, 1), (14, .imul, 1), (15, .istore_n 3, 1), (16, .aload_n 0, 1), (17, .getfield 15, 3), (20, .iload_n 3, 1), (21, .iload_n 1, 1), (22, .iastore, 1), (23, .aload_n 0, 1), (24, .getfield 15, 3)] := dAre0 (by decide +kernel)
theorem dX4_add_0 : decode cX4_add 0 = .ok (.aload_n 0, 1) := DX4_add_0.1
theorem dX4_add_1 : decode cX4_add 1 = .ok (.getfield 9, 3) := DX4_add_0.2.1
theorem dX4_add_4 : decode cX4_add 4 = .ok (.bipush 12, 2) := DX4_add_0.2.2.1
theorem dX4_add_6 : decode cX4_add 6 = .ok (.if_icmp .ge 50, 3) := DX4_add_0.2.2.2.1
theorem dX4_add_9 : decode cX4_add 9 = .ok (.aload_n 0, 1) := DX4_add_0.2.2.2.2.1
theorem dX4_add_10 : decode cX4_add 10 = .ok (.getfield 9, 3) := DX4_add_0.2.2.2.2.2.1
theorem dX4_add_13 : decode cX4_add 13 = .ok (.iconst 5, 1) := DX4_add_0.2.2.2.2.2.2.1
theorem dX4_add_14 : decode cX4_add 14 = .ok (.imul, 1) := DX4_add_0.2.2.2.2.2.2.2.1
theorem dX4_add_15 : decode cX4_add 15 = .ok (.istore_n 3, 1) := DX4_add_0.2.2.2.2.2.2.2.2.1
theorem dX4_add_16 : decode cX4_add 16 = .ok (.aload_n 0, 1) := DX4_add_0.2.2.2.2.2.2.2.2.2.1
theorem dX4_add_17 : decode cX4_add 17 = .ok (.getfield 15, 3) := DX4_add_0.2.2.2.2.2.2.2.2.2.2.1
theorem dX4_add_20 : decode cX4_add 20 = .ok (.iload_n 3, 1) := DX4_add_0.2.2.2.2.2.2.2.2.2.2.2.1
theorem dX4_add_21 : decode cX4_add 21 = .ok (.iload_n 1, 1) := DX4_add_0.2.2.2.2.2.2.2.2.2.2.2.2.1
theorem dX4_add_22 : decode cX4_add 22 = .ok (.iastore, 1) := DX4_add_0.2.2.2.2.2.2.2.2.2.2.2.2.2.1
theorem dX4_add_23 : decode cX4_add 23 = .ok (.aload_n 0, 1) := DX4_add_0.2.2.2.2.2.2.2.2.2.2.2.2.2.2.1
theorem dX4_add_24 : decode cX4_add 24 = .ok (.getfield 15, 3) := DX4_add_0.2.2.2.2.2.2.2.2.2.2.2.2.2.2.2.1
theorem DX4_add_27 : dAre cX4_add [(27, .iload_n 3, 1), (28, .iconst 1, 1), (29, .iadd, 1), (30, .iload_n 2, 1), (31, .iastore, 1), (32, .aload_n 0, 1), (33, .getfield 15, 3), (36, .iload_n 3, 1), (37, .iconst 2, 1), (38, .iadd, 1), (39, .iload_n 3, 1), (40, .iconst 5, 1), (41, .iadd, 1), (42, .iconst (-1), 1), (43, .invokestatic 25, 3), (46, .aload_n 0, 1)] := dAre0 (by decide +kernel)
theorem dX4_add_27 : decode cX4_add 27 = .ok (.iload_n 3, 1) := DX4_add_27.1
theorem dX4_add_28 : decode cX4_add 28 = .ok (.iconst 1, 1) := DX4_add_27.2.1
theorem dX4_add_29 : decode cX4_add 29 = .ok (.iadd, 1) := DX4_add_27.2.2.1
theorem dX4_add_30 : decode cX4_add 30 = .ok (.iload_n 2, 1) := DX4_add_27.2.2.2.1
theorem dX4_add_31 : decode cX4_add 31 = .ok (.iastore, 1) := DX4_add_27.2.2.2.2.1
theorem dX4_add_32 : decode cX4_add 32 = .ok (.aload_n 0, 1) := DX4_add_27.2.2.2.2.2.1
theorem dX4_add_33 : decode cX4_add 33 = .ok (.getfield 15, 3) := DX4_add_27.2.2.2.2.2.2.1
theorem dX4_add_36 : decode cX4_add 36 = .ok (.iload_n 3, 1) := DX4_add_27.2.2.2.2.2.2.2.1
theorem dX4_add_37 : decode cX4_add 37 = .ok (.iconst 2, 1) := DX4_add_27.2.2.2.2.2.2.2.2.1
theorem dX4_add_38 : decode cX4_add 38 = .ok (.iadd, 1) := DX4_add_27.2.2.2.2.2.2.2.2.2.1
theorem dX4_add_39 : decode cX4_add 39 = .ok (.iload_n 3, 1) := DX4_add_27.2.2.2.2.2.2.2.2.2.2.1
theorem dX4_add_40 : decode cX4_add 40 = .ok (.iconst 5, 1) := DX4_add_27.2.2.2.2.2.2.2.2.2.2.2.1
theorem dX4_add_41 : decode cX4_add 41 = .ok (.iadd, 1) := DX4_add_27.2.2.2.2.2.2.2.2.2.2.2.2.1
theorem dX4_add_42 : decode cX4_add 42 = .ok (.iconst (-1), 1) := DX4_add_27.2.2.2.2.2.2.2.2.2.2.2.2.2.1
theorem dX4_add_43 : decode cX4_add 43 = .ok (.invokestatic 25, 3) := DX4_add_27.2.2.2.2.2.2.2.2.2.2.2.2.2.2.1
theorem dX4_add_46 : decode cX4_add 46 = .ok (.aload_n 0, 1) := DX4_add_27.2.2.2.2.2.2.2.2.2.2.2.2.2.2.2.1
theorem DX4_add_47 : dAre cX4_add [(47, .dup, 1), (48, .getfield 9, 3), (51, .iconst 1, 1), (52, .iadd, 1), (53, .putfield 9, 3), (56, .return_, 1)] := dAre0 (by decide +kernel)
theorem dX4_add_47 : decode cX4_add 47 = .ok (.dup, 1) := DX4_add_47.1
theorem dX4_add_48 : decode cX4_add 48 = .ok (.getfield 9, 3) := DX4_add_47.2.1
theorem dX4_add_51 : decode cX4_add 51 = .ok (.iconst 1, 1) := DX4_add_47.2.2.1
theorem dX4_add_52 : decode cX4_add 52 = .ok (.iadd, 1) := DX4_add_47.2.2.2.1
theorem dX4_add_53 : decode cX4_add 53 = .ok (.putfield 9, 3) := DX4_add_47.2.2.2.2.1
theorem dX4_add_56 : decode cX4_add 56 = .ok (.return_, 1) := DX4_add_47.2.2.2.2.2.1
theorem mX4_add : gMv yX4_add cX4_add 4 none RX4 2 := ⟨q291, q292, q9, q293, rfl, by decide, by decide, by decide +kernel⟩
noncomputable def fX4_add (k : Nat) (v1 : Int32) (v2 : Int32) (I : gM) : Option (gM) :=
  if (12 : Int32) ≤ (I k 0) then
    some I
  else
    (wI I (k + 1) 60 ((I k 0) * 5) v1).bind fun I1 =>
    (wI I1 (k + 1) 60 (((I k 0) * 5) + 1) v2).bind fun I2 =>
    (fJ7_fill_fda19 (k + 1) 60 (((I k 0) * 5) + 2) (((I k 0) * 5) + 5) ((-1) : Int32) I2).bind fun r3 =>
    (pU r3 k 0 ((r3 k 0) + 1)).bind fun I4 =>
    some I4
set_option maxRecDepth 100000 in
set_option maxHeartbeats 4000000 in
theorem wX4_add (l : Launch) (E : gE) (hE : gDist sh E) (bk : Nat) (k : Nat) (v1 : Int32) (v2 : Int32) (hk : shX4 k) (I : gM) (J : gN) {r : gM} (h : fX4_add k v1 v2 I = some r) : Cu l sh E bk yX4_add cX4_add 4 none (gR 2) [.ref (E.2.1 k), .int v1, .int v2] I J (fun r1 I1 J1 => r1 = none ∧ I1 = r ∧ J1 = J) := by
  refine Cu.of "LeapJoin$Script" rfl hE (by decide) (Nat.le_of_ble_eq_true rfl) (fun z F B e hl => ?_)
  subst hl
  unfold fX4_add at h
  refine g_aload_n F 0 dX4_add_0 rfl rfl ?_
  refine g_geti (j := 0) (v := I k 0) F hk.1 rfl rfl uX4 (by decide) q164 rfl dX4_add_1 ?_
  refine g_bipush (v := 12) F dX4_add_4 (by decide) ?_
  refine u_icmp_ge (tgt := 56) F dX4_add_6 (by decide) h (fun h => ?_) (fun h => ?_)
  · obtain rfl := Option.some.inj h
    exact g_vret F e dX4_add_56 ⟨rfl, rfl, rfl⟩
  · refine g_aload_n F 0 dX4_add_9 rfl rfl ?_
    refine g_geti (j := 0) (v := I k 0) F hk.1 rfl rfl uX4 (by decide) q164 rfl dX4_add_10 ?_
    refine g_iconst (v := 5) F dX4_add_13 (by decide) ?_
    refine g_imul (v := (I k 0) * 5) F dX4_add_14 rfl ?_
    refine g_istore_n (Ln := [(3, .int ((I k 0) * 5)), (0, .ref (E.2.1 k)), (1, .int v1), (2, .int v2)]) F dX4_add_15 rfl (by decide) rfl ?_
    refine g_aload_n F 1 dX4_add_16 rfl rfl ?_
    refine g_getr (j := 1) (nn := (k + 1)) F hk.1 rfl rfl uX4 (by decide) q166 dX4_add_17 ?_
    refine g_iload_n F 0 dX4_add_20 rfl rfl ?_
    refine g_iload_n F 2 dX4_add_21 rfl rfl ?_
    refine u_wI F hk.2 (by decide) dX4_add_22 h (fun I1 h => ?_)
    refine g_aload_n F 1 dX4_add_23 rfl rfl ?_
    refine g_getr (j := 1) (nn := (k + 1)) F hk.1 rfl rfl uX4 (by decide) q166 dX4_add_24 ?_
    refine g_iload_n F 0 dX4_add_27 rfl rfl ?_
    refine g_iconst (v := 1) F dX4_add_28 (by decide) ?_
    refine g_iadd (v := ((I k 0) * 5) + 1) F dX4_add_29 rfl ?_
    refine g_iload_n F 3 dX4_add_30 rfl rfl ?_
    refine u_wI F hk.2 (by decide) dX4_add_31 h (fun I2 h => ?_)
    refine g_aload_n F 1 dX4_add_32 rfl rfl ?_
    refine g_getr (j := 1) (nn := (k + 1)) F hk.1 rfl rfl uX4 (by decide) q166 dX4_add_33 ?_
    refine g_iload_n F 0 dX4_add_36 rfl rfl ?_
    refine g_iconst (v := 2) F dX4_add_37 (by decide) ?_
    refine g_iadd (v := ((I k 0) * 5) + 2) F dX4_add_38 rfl ?_
    refine g_iload_n F 0 dX4_add_39 rfl rfl ?_
    refine g_iconst (v := 5) F dX4_add_40 (by decide) ?_
    refine g_iadd (v := ((I k 0) * 5) + 5) F dX4_add_41 rfl ?_
    refine g_iconst (v := (-1)) F dX4_add_42 (by decide) ?_
    refine u_callS (As := [.ref (E.2.1 (k + 1)), .int (((I k 0) * 5) + 2), .int (((I k 0) * 5) + 5), .int (-1)]) (rest := []) (sn := fun _ => []) F B (fun _ => wJ7_fill_fda19 (zl z) E hE bk (k + 1) 60 (((I k 0) * 5) + 2) (((I k 0) * 5) + 5) ((-1) : Int32) ⟨hk.2, by decide⟩ I2 J) mJ7_fill_fda19 q294 rfl rfl rfl (Nat.le_of_ble_eq_true rfl) dX4_add_43 (fun _ => rfl) h (fun r3 h => ?_)
    refine g_aload_n F 1 dX4_add_46 rfl rfl ?_
    refine g_dup F dX4_add_47 rfl ?_
    refine g_geti (j := 0) (v := r3 k 0) F hk.1 rfl rfl uX4 (by decide) q164 rfl dX4_add_48 ?_
    refine g_iconst (v := 1) F dX4_add_51 (by decide) ?_
    refine g_iadd (v := (r3 k 0) + 1) F dX4_add_52 rfl ?_
    refine u_puti (j := 0) F hk.1 rfl rfl uX4 (by decide) q164 tyX4_ok nmX4 rfl rfl rfl dX4_add_53 h (fun I4 h => ?_)
    obtain rfl := Option.some.inj h
    exact g_vret F e dX4_add_56 ⟨rfl, rfl, rfl⟩
theorem DX4_setNumber_0 : dAre cX4_setNumber [(0, .aload_n 0, 1), (1, .getfield 9, 3), (4, .ifCond .le 30, 3), (7, .iload_n 1, 1), (8, .ifCond .lt 26, 3), (11, .iload_n 1, 1), (12, .iconst 3, 1), (13, .if_icmp .ge 21, 3), (16, .aload_n 0, 1), (17, .getfield 15, 3), (20, .aload_n 0, 1), (21, .getfield 9, 3), (24, .iconst 1, 1), (25, .isub, 1), (26, .iconst 5, 1), (27, .imul, 1)] := dAre0 (by decide +kernel)
theorem dX4_setNumber_0 : decode cX4_setNumber 0 = .ok (.aload_n 0, 1) := DX4_setNumber_0.1
theorem dX4_setNumber_1 : decode cX4_setNumber 1 = .ok (.getfield 9, 3) := DX4_setNumber_0.2.1
theorem dX4_setNumber_4 : decode cX4_setNumber 4 = .ok (.ifCond .le 30, 3) := DX4_setNumber_0.2.2.1
theorem dX4_setNumber_7 : decode cX4_setNumber 7 = .ok (.iload_n 1, 1) := DX4_setNumber_0.2.2.2.1
theorem dX4_setNumber_8 : decode cX4_setNumber 8 = .ok (.ifCond .lt 26, 3) := DX4_setNumber_0.2.2.2.2.1
theorem dX4_setNumber_11 : decode cX4_setNumber 11 = .ok (.iload_n 1, 1) := DX4_setNumber_0.2.2.2.2.2.1
theorem dX4_setNumber_12 : decode cX4_setNumber 12 = .ok (.iconst 3, 1) := DX4_setNumber_0.2.2.2.2.2.2.1
theorem dX4_setNumber_13 : decode cX4_setNumber 13 = .ok (.if_icmp .ge 21, 3) := DX4_setNumber_0.2.2.2.2.2.2.2.1
theorem dX4_setNumber_16 : decode cX4_setNumber 16 = .ok (.aload_n 0, 1) := DX4_setNumber_0.2.2.2.2.2.2.2.2.1
theorem dX4_setNumber_17 : decode cX4_setNumber 17 = .ok (.getfield 15, 3) := DX4_setNumber_0.2.2.2.2.2.2.2.2.2.1
theorem dX4_setNumber_20 : decode cX4_setNumber 20 = .ok (.aload_n 0, 1) := DX4_setNumber_0.2.2.2.2.2.2.2.2.2.2.1
theorem dX4_setNumber_21 : decode cX4_setNumber 21 = .ok (.getfield 9, 3) := DX4_setNumber_0.2.2.2.2.2.2.2.2.2.2.2.1
theorem dX4_setNumber_24 : decode cX4_setNumber 24 = .ok (.iconst 1, 1) := DX4_setNumber_0.2.2.2.2.2.2.2.2.2.2.2.2.1
theorem dX4_setNumber_25 : decode cX4_setNumber 25 = .ok (.isub, 1) := DX4_setNumber_0.2.2.2.2.2.2.2.2.2.2.2.2.2.1
theorem dX4_setNumber_26 : decode cX4_setNumber 26 = .ok (.iconst 5, 1) := DX4_setNumber_0.2.2.2.2.2.2.2.2.2.2.2.2.2.2.1
theorem dX4_setNumber_27 : decode cX4_setNumber 27 = .ok (.imul, 1) := DX4_setNumber_0.2.2.2.2.2.2.2.2.2.2.2.2.2.2.2.1
theorem DX4_setNumber_28 : dAre cX4_setNumber [(28, .iconst 2, 1), (29, .iadd, 1), (30, .iload_n 1, 1), (31, .iadd, 1), (32, .iload_n 2, 1), (33, .iastore, 1), (34, .return_, 1)] := dAre0 (by decide +kernel)
theorem dX4_setNumber_28 : decode cX4_setNumber 28 = .ok (.iconst 2, 1) := DX4_setNumber_28.1
theorem dX4_setNumber_29 : decode cX4_setNumber 29 = .ok (.iadd, 1) := DX4_setNumber_28.2.1
theorem dX4_setNumber_30 : decode cX4_setNumber 30 = .ok (.iload_n 1, 1) := DX4_setNumber_28.2.2.1
theorem dX4_setNumber_31 : decode cX4_setNumber 31 = .ok (.iadd, 1) := DX4_setNumber_28.2.2.2.1
theorem dX4_setNumber_32 : decode cX4_setNumber 32 = .ok (.iload_n 2, 1) := DX4_setNumber_28.2.2.2.2.1
theorem dX4_setNumber_33 : decode cX4_setNumber 33 = .ok (.iastore, 1) := DX4_setNumber_28.2.2.2.2.2.1
theorem dX4_setNumber_34 : decode cX4_setNumber 34 = .ok (.return_, 1) := DX4_setNumber_28.2.2.2.2.2.2.1
theorem mX4_setNumber : gMv yX4_setNumber cX4_setNumber 3 none RX4 2 := ⟨q304, q305, q9, q306, rfl, by decide, by decide, by decide +kernel⟩
noncomputable def fX4_setNumber (k : Nat) (v1 : Int32) (v2 : Int32) (I : gM) : Option (gM) :=
  if (I k 0) ≤ 0 then
    some I
  else
    if v1 < 0 then
      some I
    else
      if (3 : Int32) ≤ v1 then
        some I
      else
        (wI I (k + 1) 60 (((((I k 0) - 1) * 5) + 2) + v1) v2).bind fun I1 =>
        some I1
set_option maxRecDepth 100000 in
set_option maxHeartbeats 4000000 in
theorem wX4_setNumber (l : Launch) (E : gE) (hE : gDist sh E) (bk : Nat) (k : Nat) (v1 : Int32) (v2 : Int32) (hk : shX4 k) (I : gM) (J : gN) {r : gM} (h : fX4_setNumber k v1 v2 I = some r) : Cu l sh E bk yX4_setNumber cX4_setNumber 3 none (gR 0) [.ref (E.2.1 k), .int v1, .int v2] I J (fun r1 I1 J1 => r1 = none ∧ I1 = r ∧ J1 = J) := by
  refine Cu.of "LeapJoin$Script" rfl hE (by decide) (Nat.le_of_ble_eq_true rfl) (fun z F B e hl => ?_)
  subst hl
  unfold fX4_setNumber at h
  refine g_aload_n F 0 dX4_setNumber_0 rfl rfl ?_
  refine g_geti (j := 0) (v := I k 0) F hk.1 rfl rfl uX4 (by decide) q164 rfl dX4_setNumber_1 ?_
  refine u_if_le (tgt := 34) F dX4_setNumber_4 (by decide) h (fun h => ?_) (fun h => ?_)
  · obtain rfl := Option.some.inj h
    exact g_vret F e dX4_setNumber_34 ⟨rfl, rfl, rfl⟩
  · refine g_iload_n F 1 dX4_setNumber_7 rfl rfl ?_
    refine u_if_lt (tgt := 34) F dX4_setNumber_8 (by decide) h (fun h => ?_) (fun h => ?_)
    · obtain rfl := Option.some.inj h
      exact g_vret F e dX4_setNumber_34 ⟨rfl, rfl, rfl⟩
    · refine g_iload_n F 1 dX4_setNumber_11 rfl rfl ?_
      refine g_iconst (v := 3) F dX4_setNumber_12 (by decide) ?_
      refine u_icmp_ge (tgt := 34) F dX4_setNumber_13 (by decide) h (fun h => ?_) (fun h => ?_)
      · obtain rfl := Option.some.inj h
        exact g_vret F e dX4_setNumber_34 ⟨rfl, rfl, rfl⟩
      · refine g_aload_n F 0 dX4_setNumber_16 rfl rfl ?_
        refine g_getr (j := 1) (nn := (k + 1)) F hk.1 rfl rfl uX4 (by decide) q166 dX4_setNumber_17 ?_
        refine g_aload_n F 0 dX4_setNumber_20 rfl rfl ?_
        refine g_geti (j := 0) (v := I k 0) F hk.1 rfl rfl uX4 (by decide) q164 rfl dX4_setNumber_21 ?_
        refine g_iconst (v := 1) F dX4_setNumber_24 (by decide) ?_
        refine g_isub (v := (I k 0) - 1) F dX4_setNumber_25 rfl ?_
        refine g_iconst (v := 5) F dX4_setNumber_26 (by decide) ?_
        refine g_imul (v := ((I k 0) - 1) * 5) F dX4_setNumber_27 rfl ?_
        refine g_iconst (v := 2) F dX4_setNumber_28 (by decide) ?_
        refine g_iadd (v := (((I k 0) - 1) * 5) + 2) F dX4_setNumber_29 rfl ?_
        refine g_iload_n F 1 dX4_setNumber_30 rfl rfl ?_
        refine g_iadd (v := ((((I k 0) - 1) * 5) + 2) + v1) F dX4_setNumber_31 rfl ?_
        refine g_iload_n F 2 dX4_setNumber_32 rfl rfl ?_
        refine u_wI F hk.2 (by decide) dX4_setNumber_33 h (fun I1 h => ?_)
        obtain rfl := Option.some.inj h
        exact g_vret F e dX4_setNumber_34 ⟨rfl, rfl, rfl⟩
theorem DX4_partOf_0 : dAre cX4_partOf [(0, .aload_n 0, 1), (1, .getfield 15, 3), (4, .iload_n 1, 1), (5, .iconst 5, 1), (6, .imul, 1), (7, .iload_n 2, 1), (8, .iadd, 1), (9, .iaload, 1), (10, .ireturn, 1)] := dAre0 (by decide +kernel)
theorem dX4_partOf_0 : decode cX4_partOf 0 = .ok (.aload_n 0, 1) := DX4_partOf_0.1
theorem dX4_partOf_1 : decode cX4_partOf 1 = .ok (.getfield 15, 3) := DX4_partOf_0.2.1
theorem dX4_partOf_4 : decode cX4_partOf 4 = .ok (.iload_n 1, 1) := DX4_partOf_0.2.2.1
theorem dX4_partOf_5 : decode cX4_partOf 5 = .ok (.iconst 5, 1) := DX4_partOf_0.2.2.2.1
theorem dX4_partOf_6 : decode cX4_partOf 6 = .ok (.imul, 1) := DX4_partOf_0.2.2.2.2.1
theorem dX4_partOf_7 : decode cX4_partOf 7 = .ok (.iload_n 2, 1) := DX4_partOf_0.2.2.2.2.2.1
theorem dX4_partOf_8 : decode cX4_partOf 8 = .ok (.iadd, 1) := DX4_partOf_0.2.2.2.2.2.2.1
theorem dX4_partOf_9 : decode cX4_partOf 9 = .ok (.iaload, 1) := DX4_partOf_0.2.2.2.2.2.2.2.1
theorem dX4_partOf_10 : decode cX4_partOf 10 = .ok (.ireturn, 1) := DX4_partOf_0.2.2.2.2.2.2.2.2.1
theorem mX4_partOf : gMv yX4_partOf cX4_partOf 3 (some .int) RX4 2 := ⟨q698, q699, q9, q700, rfl, by decide, by decide, by decide +kernel⟩
noncomputable def fX4_partOf (k : Nat) (v1 : Int32) (v2 : Int32) (I : gM) : Option (Int32) :=
  (rI 60 (I (k + 1)) ((v1 * 5) + v2)).bind fun u1 =>
  some u1
set_option maxRecDepth 100000 in
set_option maxHeartbeats 4000000 in
theorem wX4_partOf (l : Launch) (E : gE) (hE : gDist sh E) (bk : Nat) (k : Nat) (v1 : Int32) (v2 : Int32) (hk : shX4 k) (I : gM) (J : gN) {r : Int32} (h : fX4_partOf k v1 v2 I = some r) : Cu l sh E bk yX4_partOf cX4_partOf 3 (some .int) (gR 0) [.ref (E.2.1 k), .int v1, .int v2] I J (fun r1 I1 J1 => r1 = some (.int r) ∧ I1 = I ∧ J1 = J) := by
  refine Cu.of "LeapJoin$Script" rfl hE (by decide) (Nat.le_of_ble_eq_true rfl) (fun z F B e hl => ?_)
  subst hl
  unfold fX4_partOf at h
  refine g_aload_n F 0 dX4_partOf_0 rfl rfl ?_
  refine g_getr (j := 1) (nn := (k + 1)) F hk.1 rfl rfl uX4 (by decide) q166 dX4_partOf_1 ?_
  refine g_iload_n F 1 dX4_partOf_4 rfl rfl ?_
  refine g_iconst (v := 5) F dX4_partOf_5 (by decide) ?_
  refine g_imul (v := v1 * 5) F dX4_partOf_6 rfl ?_
  refine g_iload_n F 2 dX4_partOf_7 rfl rfl ?_
  refine g_iadd (v := (v1 * 5) + v2) F dX4_partOf_8 rfl ?_
  refine u_rI F hk.2 (by decide) dX4_partOf_9 h (fun u1 h => ?_)
  obtain rfl := Option.some.inj h
  exact g_iret F e dX4_partOf_10 ⟨rfl, rfl, rfl⟩
theorem DX5_isFitting_0 : dAre cX5_isFitting [(0, .iload_n 2, 1), (1, .aload_n 0, 1), (2, .getfield 21, 3), (5, .iload_n 1, 1), (6, .iaload, 1), (7, .if_icmp .ge 21, 3), (10, .iload_n 3, 1), (11, .ifCond .lt 13, 3), (14, .iload_n 3, 1), (15, .bipush 100, 2), (17, .if_icmp .ge 7, 3), (20, .iconst 1, 1), (21, .goto 17, 3), (24, .iconst 0, 1), (25, .goto 13, 3), (28, .iload_n 3, 1)] := dAre0 (by decide +kernel)
theorem dX5_isFitting_0 : decode cX5_isFitting 0 = .ok (.iload_n 2, 1) := DX5_isFitting_0.1
theorem dX5_isFitting_1 : decode cX5_isFitting 1 = .ok (.aload_n 0, 1) := DX5_isFitting_0.2.1
theorem dX5_isFitting_2 : decode cX5_isFitting 2 = .ok (.getfield 21, 3) := DX5_isFitting_0.2.2.1
theorem dX5_isFitting_5 : decode cX5_isFitting 5 = .ok (.iload_n 1, 1) := DX5_isFitting_0.2.2.2.1
theorem dX5_isFitting_6 : decode cX5_isFitting 6 = .ok (.iaload, 1) := DX5_isFitting_0.2.2.2.2.1
theorem dX5_isFitting_7 : decode cX5_isFitting 7 = .ok (.if_icmp .ge 21, 3) := DX5_isFitting_0.2.2.2.2.2.1
theorem dX5_isFitting_10 : decode cX5_isFitting 10 = .ok (.iload_n 3, 1) := DX5_isFitting_0.2.2.2.2.2.2.1
theorem dX5_isFitting_11 : decode cX5_isFitting 11 = .ok (.ifCond .lt 13, 3) := DX5_isFitting_0.2.2.2.2.2.2.2.1
theorem dX5_isFitting_14 : decode cX5_isFitting 14 = .ok (.iload_n 3, 1) := DX5_isFitting_0.2.2.2.2.2.2.2.2.1
theorem dX5_isFitting_15 : decode cX5_isFitting 15 = .ok (.bipush 100, 2) := DX5_isFitting_0.2.2.2.2.2.2.2.2.2.1
theorem dX5_isFitting_17 : decode cX5_isFitting 17 = .ok (.if_icmp .ge 7, 3) := DX5_isFitting_0.2.2.2.2.2.2.2.2.2.2.1
theorem dX5_isFitting_20 : decode cX5_isFitting 20 = .ok (.iconst 1, 1) := DX5_isFitting_0.2.2.2.2.2.2.2.2.2.2.2.1
theorem dX5_isFitting_21 : decode cX5_isFitting 21 = .ok (.goto 17, 3) := DX5_isFitting_0.2.2.2.2.2.2.2.2.2.2.2.2.1
theorem dX5_isFitting_24 : decode cX5_isFitting 24 = .ok (.iconst 0, 1) := DX5_isFitting_0.2.2.2.2.2.2.2.2.2.2.2.2.2.1
theorem dX5_isFitting_25 : decode cX5_isFitting 25 = .ok (.goto 13, 3) := DX5_isFitting_0.2.2.2.2.2.2.2.2.2.2.2.2.2.2.1
theorem dX5_isFitting_28 : decode cX5_isFitting 28 = .ok (.iload_n 3, 1) := DX5_isFitting_0.2.2.2.2.2.2.2.2.2.2.2.2.2.2.2.1
theorem DX5_isFitting_29 : dAre cX5_isFitting [(29, .iconst (-1), 1), (30, .if_icmp .ne 7, 3), (33, .iconst 1, 1), (34, .goto 4, 3), (37, .iconst 0, 1), (38, .ireturn, 1)] := dAre0 (by decide +kernel)
theorem dX5_isFitting_29 : decode cX5_isFitting 29 = .ok (.iconst (-1), 1) := DX5_isFitting_29.1
theorem dX5_isFitting_30 : decode cX5_isFitting 30 = .ok (.if_icmp .ne 7, 3) := DX5_isFitting_29.2.1
theorem dX5_isFitting_33 : decode cX5_isFitting 33 = .ok (.iconst 1, 1) := DX5_isFitting_29.2.2.1
theorem dX5_isFitting_34 : decode cX5_isFitting 34 = .ok (.goto 4, 3) := DX5_isFitting_29.2.2.2.1
theorem dX5_isFitting_37 : decode cX5_isFitting 37 = .ok (.iconst 0, 1) := DX5_isFitting_29.2.2.2.2.1
theorem dX5_isFitting_38 : decode cX5_isFitting 38 = .ok (.ireturn, 1) := DX5_isFitting_29.2.2.2.2.2.1
theorem mX5_isFitting : gMv yX5_isFitting cX5_isFitting 4 (some .boolean) RX5 3 := ⟨q589, q1371, q3, q590, rfl, by decide, by decide, by decide +kernel⟩
noncomputable def bX5_isFitting_24 : Option (Int32) :=
  some (0 : Int32)
set_option maxRecDepth 100000 in
set_option maxHeartbeats 4000000 in
theorem wbX5_isFitting_24 {z : gZ} {E : gE} {bk : Nat} (F : Fx z sh E "LeapJoin$Tables" cX5_isFitting (gR 0) 4) (B : bZ z bk) (hE : gDist sh E) (I : gM) (J : gN) {y : Int32} (h : bX5_isFitting_24 = some y) (e : Fe z sh E (some .boolean) (fun r1 I1 J1 => r1 = some (.int y) ∧ I1 = I ∧ J1 = J)) : G z 24 [] [] I J := by
  unfold bX5_isFitting_24 at h
  refine g_iconst (v := 0) F dX5_isFitting_24 (by decide) ?_
  refine g_goto (tgt := 38) F dX5_isFitting_25 (by decide) ?_
  obtain rfl := Option.some.inj h
  exact g_zret F rfl e dX5_isFitting_38 ⟨rfl, rfl, rfl⟩
noncomputable def fX5_isFitting (k : Nat) (v1 : Int32) (v2 : Int32) (v3 : Int32) (I : gM) : Option (Int32) :=
  (rI 4 (I (k + 1)) v1).bind fun u1 =>
  if u1 ≤ v2 then
    if v3 = (-1) then
      some (1 : Int32)
    else
      some (0 : Int32)
  else
    if v3 < 0 then
      bX5_isFitting_24
    else
      if (100 : Int32) ≤ v3 then
        bX5_isFitting_24
      else
        some (1 : Int32)
set_option maxRecDepth 100000 in
set_option maxHeartbeats 4000000 in
theorem wX5_isFitting (l : Launch) (E : gE) (hE : gDist sh E) (bk : Nat) (k : Nat) (v1 : Int32) (v2 : Int32) (v3 : Int32) (hk : shX5 k) (I : gM) (J : gN) {r : Int32} (h : fX5_isFitting k v1 v2 v3 I = some r) : Cu l sh E bk yX5_isFitting cX5_isFitting 4 (some .boolean) (gR 0) [.ref (E.2.1 k), .int v1, .int v2, .int v3] I J (fun r1 I1 J1 => r1 = some (.int r) ∧ I1 = I ∧ J1 = J) := by
  refine Cu.of "LeapJoin$Tables" rfl hE (by decide) (Nat.le_of_ble_eq_true rfl) (fun z F B e hl => ?_)
  subst hl
  unfold fX5_isFitting at h
  refine g_iload_n F 2 dX5_isFitting_0 rfl rfl ?_
  refine g_aload_n F 0 dX5_isFitting_1 rfl rfl ?_
  refine g_getr (j := 3) (nn := (k + 1)) F hk.1 rfl rfl uX5 (by decide) q55 dX5_isFitting_2 ?_
  refine g_iload_n F 1 dX5_isFitting_5 rfl rfl ?_
  refine u_rI F hk.2.1 (by decide) dX5_isFitting_6 h (fun u1 h => ?_)
  refine u_icmp_ge (tgt := 28) F dX5_isFitting_7 (by decide) h (fun h => ?_) (fun h => ?_)
  · refine g_iload_n F 3 dX5_isFitting_28 rfl rfl ?_
    refine g_iconst (v := (-1)) F dX5_isFitting_29 (by decide) ?_
    refine u_icmp_ne (tgt := 37) F dX5_isFitting_30 (by decide) h (fun h => ?_) (fun h => ?_)
    · refine g_iconst (v := 1) F dX5_isFitting_33 (by decide) ?_
      refine g_goto (tgt := 38) F dX5_isFitting_34 (by decide) ?_
      obtain rfl := Option.some.inj h
      exact g_zret F rfl e dX5_isFitting_38 ⟨rfl, rfl, rfl⟩
    · refine g_iconst (v := 0) F dX5_isFitting_37 (by decide) ?_
      obtain rfl := Option.some.inj h
      exact g_zret F rfl e dX5_isFitting_38 ⟨rfl, rfl, rfl⟩
  · refine g_iload_n F 3 dX5_isFitting_10 rfl rfl ?_
    refine u_if_lt (tgt := 24) F dX5_isFitting_11 (by decide) h (fun h => ?_) (fun h => ?_)
    · refine g_sub (Ln := []) [] rfl ?_
      exact wbX5_isFitting_24 F B hE I J h e
    · refine g_iload_n F 3 dX5_isFitting_14 rfl rfl ?_
      refine g_bipush (v := 100) F dX5_isFitting_15 (by decide) ?_
      refine u_icmp_ge (tgt := 24) F dX5_isFitting_17 (by decide) h (fun h => ?_) (fun h => ?_)
      · refine g_sub (Ln := []) [] rfl ?_
        exact wbX5_isFitting_24 F B hE I J h e
      · refine g_iconst (v := 1) F dX5_isFitting_20 (by decide) ?_
        refine g_goto (tgt := 38) F dX5_isFitting_21 (by decide) ?_
        obtain rfl := Option.some.inj h
        exact g_zret F rfl e dX5_isFitting_38 ⟨rfl, rfl, rfl⟩
theorem DX5_packed_0 : dAre cX5_packed [(0, .iload_n 0, 1), (1, .iconst 0, 1), (2, .invokestatic 34, 3), (5, .bipush 14, 2), (7, .ishl, 1), (8, .iload_n 1, 1), (9, .iconst 0, 1), (10, .invokestatic 34, 3), (13, .bipush 7, 2), (15, .ishl, 1), (16, .ior, 1), (17, .iload_n 2, 1), (18, .iconst 0, 1), (19, .invokestatic 34, 3), (22, .ior, 1), (23, .ireturn, 1)] := dAre0 (by decide +kernel)
theorem dX5_packed_0 : decode cX5_packed 0 = .ok (.iload_n 0, 1) := DX5_packed_0.1
theorem dX5_packed_1 : decode cX5_packed 1 = .ok (.iconst 0, 1) := DX5_packed_0.2.1
theorem dX5_packed_2 : decode cX5_packed 2 = .ok (.invokestatic 34, 3) := DX5_packed_0.2.2.1
theorem dX5_packed_5 : decode cX5_packed 5 = .ok (.bipush 14, 2) := DX5_packed_0.2.2.2.1
theorem dX5_packed_7 : decode cX5_packed 7 = .ok (.ishl, 1) := DX5_packed_0.2.2.2.2.1
theorem dX5_packed_8 : decode cX5_packed 8 = .ok (.iload_n 1, 1) := DX5_packed_0.2.2.2.2.2.1
theorem dX5_packed_9 : decode cX5_packed 9 = .ok (.iconst 0, 1) := DX5_packed_0.2.2.2.2.2.2.1
theorem dX5_packed_10 : decode cX5_packed 10 = .ok (.invokestatic 34, 3) := DX5_packed_0.2.2.2.2.2.2.2.1
theorem dX5_packed_13 : decode cX5_packed 13 = .ok (.bipush 7, 2) := DX5_packed_0.2.2.2.2.2.2.2.2.1
theorem dX5_packed_15 : decode cX5_packed 15 = .ok (.ishl, 1) := DX5_packed_0.2.2.2.2.2.2.2.2.2.1
theorem dX5_packed_16 : decode cX5_packed 16 = .ok (.ior, 1) := DX5_packed_0.2.2.2.2.2.2.2.2.2.2.1
theorem dX5_packed_17 : decode cX5_packed 17 = .ok (.iload_n 2, 1) := DX5_packed_0.2.2.2.2.2.2.2.2.2.2.2.1
theorem dX5_packed_18 : decode cX5_packed 18 = .ok (.iconst 0, 1) := DX5_packed_0.2.2.2.2.2.2.2.2.2.2.2.2.1
theorem dX5_packed_19 : decode cX5_packed 19 = .ok (.invokestatic 34, 3) := DX5_packed_0.2.2.2.2.2.2.2.2.2.2.2.2.2.1
theorem dX5_packed_22 : decode cX5_packed 22 = .ok (.ior, 1) := DX5_packed_0.2.2.2.2.2.2.2.2.2.2.2.2.2.2.1
theorem dX5_packed_23 : decode cX5_packed 23 = .ok (.ireturn, 1) := DX5_packed_0.2.2.2.2.2.2.2.2.2.2.2.2.2.2.2.1
theorem mX5_packed : gMs yX5_packed cX5_packed 3 (some .int) 3 := ⟨q592, q3, q593, by decide, by decide, by decide +kernel⟩
noncomputable def fX5_packed (v0 : Int32) (v1 : Int32) (v2 : Int32) : Option (Int32) :=
  some ((((mX v0 0) <<< 14) ||| ((mX v1 0) <<< 7)) ||| (mX v2 0))
set_option maxRecDepth 100000 in
set_option maxHeartbeats 4000000 in
theorem wX5_packed (l : Launch) (E : gE) (hE : gDist sh E) (bk : Nat) (v0 : Int32) (v1 : Int32) (v2 : Int32) (I : gM) (J : gN) {r : Int32} (h : fX5_packed v0 v1 v2 = some r) : Cu l sh E bk yX5_packed cX5_packed 3 (some .int) (gR 1) [.int v0, .int v1, .int v2] I J (fun r1 I1 J1 => r1 = some (.int r) ∧ I1 = I ∧ J1 = J) := by
  refine Cu.of "LeapJoin$Tables" rfl hE (by decide) (Nat.le_of_ble_eq_true rfl) (fun z F B e hl => ?_)
  subst hl
  unfold fX5_packed at h
  refine g_iload_n F 0 dX5_packed_0 rfl rfl ?_
  refine g_iconst (v := 0) F dX5_packed_1 (by decide) ?_
  refine g_mmax (v := mX v0 0) F q594 rfl (Nat.le_of_ble_eq_true rfl) (Nat.le_of_ble_eq_true rfl) (Nat.le_of_ble_eq_true rfl) dX5_packed_2 ?_
  refine g_bipush (v := 14) F dX5_packed_5 (by decide) ?_
  refine g_ishl (v := (mX v0 0) <<< 14) F dX5_packed_7 (shl_c (by decide)) ?_
  refine g_iload_n F 1 dX5_packed_8 rfl rfl ?_
  refine g_iconst (v := 0) F dX5_packed_9 (by decide) ?_
  refine g_mmax (v := mX v1 0) F q594 rfl (Nat.le_of_ble_eq_true rfl) (Nat.le_of_ble_eq_true rfl) (Nat.le_of_ble_eq_true rfl) dX5_packed_10 ?_
  refine g_bipush (v := 7) F dX5_packed_13 (by decide) ?_
  refine g_ishl (v := (mX v1 0) <<< 7) F dX5_packed_15 (shl_c (by decide)) ?_
  refine g_ior (v := ((mX v0 0) <<< 14) ||| ((mX v1 0) <<< 7)) F dX5_packed_16 rfl ?_
  refine g_iload_n F 2 dX5_packed_17 rfl rfl ?_
  refine g_iconst (v := 0) F dX5_packed_18 (by decide) ?_
  refine g_mmax (v := mX v2 0) F q594 rfl (Nat.le_of_ble_eq_true rfl) (Nat.le_of_ble_eq_true rfl) (Nat.le_of_ble_eq_true rfl) dX5_packed_19 ?_
  refine g_ior (v := (((mX v0 0) <<< 14) ||| ((mX v1 0) <<< 7)) ||| (mX v2 0)) F dX5_packed_22 rfl ?_
  obtain rfl := Option.some.inj h
  exact g_iret F e dX5_packed_23 ⟨rfl, rfl, rfl⟩
theorem DX5_refusal_0 : dAre cX5_refusal [(0, .aload_n 0, 1), (1, .getfield 9, 3), (4, .ifCond .ne 5, 3), (7, .iconst 0, 1), (8, .ireturn, 1), (9, .iload_n 1, 1), (10, .iconst 3, 1), (11, .if_icmp .ne 29, 3), (14, .iload_n 2, 1), (15, .ifCond .lt 9, 3), (18, .iload_n 2, 1), (19, .bipush 24, 2), (21, .if_icmp .lt 5, 3), (24, .iconst 1, 1), (25, .ireturn, 1), (26, .iload_n 2, 1)] := dAre0 (by decide +kernel)
theorem dX5_refusal_0 : decode cX5_refusal 0 = .ok (.aload_n 0, 1) := DX5_refusal_0.1
theorem dX5_refusal_1 : decode cX5_refusal 1 = .ok (.getfield 9, 3) := DX5_refusal_0.2.1
theorem dX5_refusal_4 : decode cX5_refusal 4 = .ok (.ifCond .ne 5, 3) := DX5_refusal_0.2.2.1
theorem dX5_refusal_7 : decode cX5_refusal 7 = .ok (.iconst 0, 1) := DX5_refusal_0.2.2.2.1
theorem dX5_refusal_8 : decode cX5_refusal 8 = .ok (.ireturn, 1) := DX5_refusal_0.2.2.2.2.1
theorem dX5_refusal_9 : decode cX5_refusal 9 = .ok (.iload_n 1, 1) := DX5_refusal_0.2.2.2.2.2.1
theorem dX5_refusal_10 : decode cX5_refusal 10 = .ok (.iconst 3, 1) := DX5_refusal_0.2.2.2.2.2.2.1
theorem dX5_refusal_11 : decode cX5_refusal 11 = .ok (.if_icmp .ne 29, 3) := DX5_refusal_0.2.2.2.2.2.2.2.1
theorem dX5_refusal_14 : decode cX5_refusal 14 = .ok (.iload_n 2, 1) := DX5_refusal_0.2.2.2.2.2.2.2.2.1
theorem dX5_refusal_15 : decode cX5_refusal 15 = .ok (.ifCond .lt 9, 3) := DX5_refusal_0.2.2.2.2.2.2.2.2.2.1
theorem dX5_refusal_18 : decode cX5_refusal 18 = .ok (.iload_n 2, 1) := DX5_refusal_0.2.2.2.2.2.2.2.2.2.2.1
theorem dX5_refusal_19 : decode cX5_refusal 19 = .ok (.bipush 24, 2) := DX5_refusal_0.2.2.2.2.2.2.2.2.2.2.2.1
theorem dX5_refusal_21 : decode cX5_refusal 21 = .ok (.if_icmp .lt 5, 3) := DX5_refusal_0.2.2.2.2.2.2.2.2.2.2.2.2.1
theorem dX5_refusal_24 : decode cX5_refusal 24 = .ok (.iconst 1, 1) := DX5_refusal_0.2.2.2.2.2.2.2.2.2.2.2.2.2.1
theorem dX5_refusal_25 : decode cX5_refusal 25 = .ok (.ireturn, 1) := DX5_refusal_0.2.2.2.2.2.2.2.2.2.2.2.2.2.2.1
theorem dX5_refusal_26 : decode cX5_refusal 26 = .ok (.iload_n 2, 1) := DX5_refusal_0.2.2.2.2.2.2.2.2.2.2.2.2.2.2.2.1
theorem DX5_refusal_27 : dAre cX5_refusal [(27, .aload_n 0, 1), (28, .getfield 18, 3), (31, .if_icmp .ne 7, 3), (34, .iconst 2, 1), (35, .goto 4, 3), (38, .iconst (-1), 1), (39, .ireturn, 1), (40, .aload_n 0, 1), (41, .iload_n 2, 1), (42, .invokevirtual 52, 3), (45, .ifCond .ne 5, 3), (48, .iconst 0, 1), (49, .ireturn, 1), (50, .iload_n 1, 1), (51, .iconst 2, 1), (52, .if_icmp .ne 19, 3)] := dAre0 (by decide +kernel)
theorem dX5_refusal_27 : decode cX5_refusal 27 = .ok (.aload_n 0, 1) := DX5_refusal_27.1
theorem dX5_refusal_28 : decode cX5_refusal 28 = .ok (.getfield 18, 3) := DX5_refusal_27.2.1
theorem dX5_refusal_31 : decode cX5_refusal 31 = .ok (.if_icmp .ne 7, 3) := DX5_refusal_27.2.2.1
theorem dX5_refusal_34 : decode cX5_refusal 34 = .ok (.iconst 2, 1) := DX5_refusal_27.2.2.2.1
theorem dX5_refusal_35 : decode cX5_refusal 35 = .ok (.goto 4, 3) := DX5_refusal_27.2.2.2.2.1
theorem dX5_refusal_38 : decode cX5_refusal 38 = .ok (.iconst (-1), 1) := DX5_refusal_27.2.2.2.2.2.1
theorem dX5_refusal_39 : decode cX5_refusal 39 = .ok (.ireturn, 1) := DX5_refusal_27.2.2.2.2.2.2.1
theorem dX5_refusal_40 : decode cX5_refusal 40 = .ok (.aload_n 0, 1) := DX5_refusal_27.2.2.2.2.2.2.2.1
theorem dX5_refusal_41 : decode cX5_refusal 41 = .ok (.iload_n 2, 1) := DX5_refusal_27.2.2.2.2.2.2.2.2.1
theorem dX5_refusal_42 : decode cX5_refusal 42 = .ok (.invokevirtual 52, 3) := DX5_refusal_27.2.2.2.2.2.2.2.2.2.1
theorem dX5_refusal_45 : decode cX5_refusal 45 = .ok (.ifCond .ne 5, 3) := DX5_refusal_27.2.2.2.2.2.2.2.2.2.2.1
theorem dX5_refusal_48 : decode cX5_refusal 48 = .ok (.iconst 0, 1) := DX5_refusal_27.2.2.2.2.2.2.2.2.2.2.2.1
theorem dX5_refusal_49 : decode cX5_refusal 49 = .ok (.ireturn, 1) := DX5_refusal_27.2.2.2.2.2.2.2.2.2.2.2.2.1
theorem dX5_refusal_50 : decode cX5_refusal 50 = .ok (.iload_n 1, 1) := DX5_refusal_27.2.2.2.2.2.2.2.2.2.2.2.2.2.1
theorem dX5_refusal_51 : decode cX5_refusal 51 = .ok (.iconst 2, 1) := DX5_refusal_27.2.2.2.2.2.2.2.2.2.2.2.2.2.2.1
theorem dX5_refusal_52 : decode cX5_refusal 52 = .ok (.if_icmp .ne 19, 3) := DX5_refusal_27.2.2.2.2.2.2.2.2.2.2.2.2.2.2.2.1
theorem DX5_refusal_55 : dAre cX5_refusal [(55, .aload_n 0, 1), (56, .getfield 15, 3), (59, .iconst 1, 1), (60, .iload_n 2, 1), (61, .ishl, 1), (62, .if_icmp .ne 7, 3), (65, .iconst 2, 1), (66, .goto 4, 3), (69, .iconst (-1), 1), (70, .ireturn, 1), (71, .aload_n 0, 1), (72, .iload_n 2, 1), (73, .iconst 0, 1), (74, .iload_n 3, 1), (75, .invokevirtual 72, 3), (78, .ifCond .eq 25, 3)] := dAre0 (by decide +kernel)
theorem dX5_refusal_55 : decode cX5_refusal 55 = .ok (.aload_n 0, 1) := DX5_refusal_55.1
theorem dX5_refusal_56 : decode cX5_refusal 56 = .ok (.getfield 15, 3) := DX5_refusal_55.2.1
theorem dX5_refusal_59 : decode cX5_refusal 59 = .ok (.iconst 1, 1) := DX5_refusal_55.2.2.1
theorem dX5_refusal_60 : decode cX5_refusal 60 = .ok (.iload_n 2, 1) := DX5_refusal_55.2.2.2.1
theorem dX5_refusal_61 : decode cX5_refusal 61 = .ok (.ishl, 1) := DX5_refusal_55.2.2.2.2.1
theorem dX5_refusal_62 : decode cX5_refusal 62 = .ok (.if_icmp .ne 7, 3) := DX5_refusal_55.2.2.2.2.2.1
theorem dX5_refusal_65 : decode cX5_refusal 65 = .ok (.iconst 2, 1) := DX5_refusal_55.2.2.2.2.2.2.1
theorem dX5_refusal_66 : decode cX5_refusal 66 = .ok (.goto 4, 3) := DX5_refusal_55.2.2.2.2.2.2.2.1
theorem dX5_refusal_69 : decode cX5_refusal 69 = .ok (.iconst (-1), 1) := DX5_refusal_55.2.2.2.2.2.2.2.2.1
theorem dX5_refusal_70 : decode cX5_refusal 70 = .ok (.ireturn, 1) := DX5_refusal_55.2.2.2.2.2.2.2.2.2.1
theorem dX5_refusal_71 : decode cX5_refusal 71 = .ok (.aload_n 0, 1) := DX5_refusal_55.2.2.2.2.2.2.2.2.2.2.1
theorem dX5_refusal_72 : decode cX5_refusal 72 = .ok (.iload_n 2, 1) := DX5_refusal_55.2.2.2.2.2.2.2.2.2.2.2.1
theorem dX5_refusal_73 : decode cX5_refusal 73 = .ok (.iconst 0, 1) := DX5_refusal_55.2.2.2.2.2.2.2.2.2.2.2.2.1
theorem dX5_refusal_74 : decode cX5_refusal 74 = .ok (.iload_n 3, 1) := DX5_refusal_55.2.2.2.2.2.2.2.2.2.2.2.2.2.1
theorem dX5_refusal_75 : decode cX5_refusal 75 = .ok (.invokevirtual 72, 3) := DX5_refusal_55.2.2.2.2.2.2.2.2.2.2.2.2.2.2.1
theorem dX5_refusal_78 : decode cX5_refusal 78 = .ok (.ifCond .eq 25, 3) := DX5_refusal_55.2.2.2.2.2.2.2.2.2.2.2.2.2.2.2.1
theorem DX5_refusal_81 : dAre cX5_refusal [(81, .aload_n 0, 1), (82, .iload_n 2, 1), (83, .iconst 1, 1), (84, .iload 4, 2), (86, .invokevirtual 72, 3), (89, .ifCond .eq 14, 3), (92, .aload_n 0, 1), (93, .iload_n 2, 1), (94, .iconst 2, 1), (95, .iload 5, 2), (97, .invokevirtual 72, 3), (100, .ifCond .ne 5, 3), (103, .iconst 1, 1), (104, .ireturn, 1), (105, .aload_n 0, 1), (106, .iload_n 2, 1)] := dAre0 (by decide +kernel)
theorem dX5_refusal_81 : decode cX5_refusal 81 = .ok (.aload_n 0, 1) := DX5_refusal_81.1
theorem dX5_refusal_82 : decode cX5_refusal 82 = .ok (.iload_n 2, 1) := DX5_refusal_81.2.1
theorem dX5_refusal_83 : decode cX5_refusal 83 = .ok (.iconst 1, 1) := DX5_refusal_81.2.2.1
theorem dX5_refusal_84 : decode cX5_refusal 84 = .ok (.iload 4, 2) := DX5_refusal_81.2.2.2.1
theorem dX5_refusal_86 : decode cX5_refusal 86 = .ok (.invokevirtual 72, 3) := DX5_refusal_81.2.2.2.2.1
theorem dX5_refusal_89 : decode cX5_refusal 89 = .ok (.ifCond .eq 14, 3) := DX5_refusal_81.2.2.2.2.2.1
theorem dX5_refusal_92 : decode cX5_refusal 92 = .ok (.aload_n 0, 1) := DX5_refusal_81.2.2.2.2.2.2.1
theorem dX5_refusal_93 : decode cX5_refusal 93 = .ok (.iload_n 2, 1) := DX5_refusal_81.2.2.2.2.2.2.2.1
theorem dX5_refusal_94 : decode cX5_refusal 94 = .ok (.iconst 2, 1) := DX5_refusal_81.2.2.2.2.2.2.2.2.1
theorem dX5_refusal_95 : decode cX5_refusal 95 = .ok (.iload 5, 2) := DX5_refusal_81.2.2.2.2.2.2.2.2.2.1
theorem dX5_refusal_97 : decode cX5_refusal 97 = .ok (.invokevirtual 72, 3) := DX5_refusal_81.2.2.2.2.2.2.2.2.2.2.1
theorem dX5_refusal_100 : decode cX5_refusal 100 = .ok (.ifCond .ne 5, 3) := DX5_refusal_81.2.2.2.2.2.2.2.2.2.2.2.1
theorem dX5_refusal_103 : decode cX5_refusal 103 = .ok (.iconst 1, 1) := DX5_refusal_81.2.2.2.2.2.2.2.2.2.2.2.2.1
theorem dX5_refusal_104 : decode cX5_refusal 104 = .ok (.ireturn, 1) := DX5_refusal_81.2.2.2.2.2.2.2.2.2.2.2.2.2.1
theorem dX5_refusal_105 : decode cX5_refusal 105 = .ok (.aload_n 0, 1) := DX5_refusal_81.2.2.2.2.2.2.2.2.2.2.2.2.2.2.1
theorem dX5_refusal_106 : decode cX5_refusal 106 = .ok (.iload_n 2, 1) := DX5_refusal_81.2.2.2.2.2.2.2.2.2.2.2.2.2.2.2.1
theorem DX5_refusal_107 : dAre cX5_refusal [(107, .iload_n 3, 1), (108, .iload 4, 2), (110, .iload 5, 2), (112, .invokestatic 76, 3), (115, .invokevirtual 69, 3), (118, .iconst (-1), 1), (119, .if_icmp .eq 7, 3), (122, .iconst 1, 1), (123, .goto 4, 3), (126, .iconst 0, 1), (127, .istore 6, 2), (129, .iload 6, 2), (131, .iload_n 1, 1), (132, .iconst 1, 1), (133, .if_icmp .ne 7, 3), (136, .iconst 1, 1)] := dAre0 (by decide +kernel)
theorem dX5_refusal_107 : decode cX5_refusal 107 = .ok (.iload_n 3, 1) := DX5_refusal_107.1
theorem dX5_refusal_108 : decode cX5_refusal 108 = .ok (.iload 4, 2) := DX5_refusal_107.2.1
theorem dX5_refusal_110 : decode cX5_refusal 110 = .ok (.iload 5, 2) := DX5_refusal_107.2.2.1
theorem dX5_refusal_112 : decode cX5_refusal 112 = .ok (.invokestatic 76, 3) := DX5_refusal_107.2.2.2.1
theorem dX5_refusal_115 : decode cX5_refusal 115 = .ok (.invokevirtual 69, 3) := DX5_refusal_107.2.2.2.2.1
theorem dX5_refusal_118 : decode cX5_refusal 118 = .ok (.iconst (-1), 1) := DX5_refusal_107.2.2.2.2.2.1
theorem dX5_refusal_119 : decode cX5_refusal 119 = .ok (.if_icmp .eq 7, 3) := DX5_refusal_107.2.2.2.2.2.2.1
theorem dX5_refusal_122 : decode cX5_refusal 122 = .ok (.iconst 1, 1) := DX5_refusal_107.2.2.2.2.2.2.2.1
theorem dX5_refusal_123 : decode cX5_refusal 123 = .ok (.goto 4, 3) := DX5_refusal_107.2.2.2.2.2.2.2.2.1
theorem dX5_refusal_126 : decode cX5_refusal 126 = .ok (.iconst 0, 1) := DX5_refusal_107.2.2.2.2.2.2.2.2.2.1
theorem dX5_refusal_127 : decode cX5_refusal 127 = .ok (.istore 6, 2) := DX5_refusal_107.2.2.2.2.2.2.2.2.2.2.1
theorem dX5_refusal_129 : decode cX5_refusal 129 = .ok (.iload 6, 2) := DX5_refusal_107.2.2.2.2.2.2.2.2.2.2.2.1
theorem dX5_refusal_131 : decode cX5_refusal 131 = .ok (.iload_n 1, 1) := DX5_refusal_107.2.2.2.2.2.2.2.2.2.2.2.2.1
theorem dX5_refusal_132 : decode cX5_refusal 132 = .ok (.iconst 1, 1) := DX5_refusal_107.2.2.2.2.2.2.2.2.2.2.2.2.2.1
theorem dX5_refusal_133 : decode cX5_refusal 133 = .ok (.if_icmp .ne 7, 3) := DX5_refusal_107.2.2.2.2.2.2.2.2.2.2.2.2.2.2.1
theorem dX5_refusal_136 : decode cX5_refusal 136 = .ok (.iconst 1, 1) := DX5_refusal_107.2.2.2.2.2.2.2.2.2.2.2.2.2.2.2.1
theorem DX5_refusal_137 : dAre cX5_refusal [(137, .goto 4, 3), (140, .iconst 0, 1), (141, .if_icmp .eq 5, 3), (144, .iconst 2, 1), (145, .ireturn, 1), (146, .iload_n 1, 1), (147, .ifCond .ne 18, 3), (150, .aload_n 0, 1), (151, .getfield 25, 3), (154, .iload_n 2, 1), (155, .iaload, 1), (156, .bipush 12, 2), (158, .if_icmp .lt 7, 3), (161, .iconst 3, 1), (162, .goto 4, 3), (165, .iconst (-1), 1)] := dAre0 (by decide +kernel)
theorem dX5_refusal_137 : decode cX5_refusal 137 = .ok (.goto 4, 3) := DX5_refusal_137.1
theorem dX5_refusal_140 : decode cX5_refusal 140 = .ok (.iconst 0, 1) := DX5_refusal_137.2.1
theorem dX5_refusal_141 : decode cX5_refusal 141 = .ok (.if_icmp .eq 5, 3) := DX5_refusal_137.2.2.1
theorem dX5_refusal_144 : decode cX5_refusal 144 = .ok (.iconst 2, 1) := DX5_refusal_137.2.2.2.1
theorem dX5_refusal_145 : decode cX5_refusal 145 = .ok (.ireturn, 1) := DX5_refusal_137.2.2.2.2.1
theorem dX5_refusal_146 : decode cX5_refusal 146 = .ok (.iload_n 1, 1) := DX5_refusal_137.2.2.2.2.2.1
theorem dX5_refusal_147 : decode cX5_refusal 147 = .ok (.ifCond .ne 18, 3) := DX5_refusal_137.2.2.2.2.2.2.1
theorem dX5_refusal_150 : decode cX5_refusal 150 = .ok (.aload_n 0, 1) := DX5_refusal_137.2.2.2.2.2.2.2.1
theorem dX5_refusal_151 : decode cX5_refusal 151 = .ok (.getfield 25, 3) := DX5_refusal_137.2.2.2.2.2.2.2.2.1
theorem dX5_refusal_154 : decode cX5_refusal 154 = .ok (.iload_n 2, 1) := DX5_refusal_137.2.2.2.2.2.2.2.2.2.1
theorem dX5_refusal_155 : decode cX5_refusal 155 = .ok (.iaload, 1) := DX5_refusal_137.2.2.2.2.2.2.2.2.2.2.1
theorem dX5_refusal_156 : decode cX5_refusal 156 = .ok (.bipush 12, 2) := DX5_refusal_137.2.2.2.2.2.2.2.2.2.2.2.1
theorem dX5_refusal_158 : decode cX5_refusal 158 = .ok (.if_icmp .lt 7, 3) := DX5_refusal_137.2.2.2.2.2.2.2.2.2.2.2.2.1
theorem dX5_refusal_161 : decode cX5_refusal 161 = .ok (.iconst 3, 1) := DX5_refusal_137.2.2.2.2.2.2.2.2.2.2.2.2.2.1
theorem dX5_refusal_162 : decode cX5_refusal 162 = .ok (.goto 4, 3) := DX5_refusal_137.2.2.2.2.2.2.2.2.2.2.2.2.2.2.1
theorem dX5_refusal_165 : decode cX5_refusal 165 = .ok (.iconst (-1), 1) := DX5_refusal_137.2.2.2.2.2.2.2.2.2.2.2.2.2.2.2.1
theorem dX5_refusal_166 : decode cX5_refusal 166 = .ok (.ireturn, 1) := by decide +kernel
theorem mX5_refusal : gMv yX5_refusal cX5_refusal 7 (some .int) RX5 5 := ⟨q585, q586, q3, q587, rfl, by decide, by decide, by decide +kernel⟩
noncomputable def bX5_refusal_141 (k : Nat) (v1 : Int32) (v2 : Int32) (t0 : Int32) (t1 : Int32) (I : gM) : Option (Int32) :=
  if t1 = t0 then
    if v1 = 0 then
      (rI 4 (I (k + 2)) v2).bind fun u7 =>
      if u7 < 12 then
        some ((-1) : Int32)
      else
        some (3 : Int32)
    else
      some ((-1) : Int32)
  else
    some (2 : Int32)
set_option maxRecDepth 100000 in
set_option maxHeartbeats 4000000 in
theorem wbX5_refusal_141 {z : gZ} {E : gE} {bk : Nat} (F : Fx z sh E "LeapJoin$Tables" cX5_refusal (gR 2) 7) (B : bZ z bk) (hE : gDist sh E) (k : Nat) (v1 : Int32) (v2 : Int32) (t0 : Int32) (t1 : Int32) (hk : shX5 k) (I : gM) (J : gN) {y : Int32} (h : bX5_refusal_141 k v1 v2 t0 t1 I = some y) (e : Fe z sh E (some .int) (fun r1 I1 J1 => r1 = some (.int y) ∧ I1 = I ∧ J1 = J)) : G z 141 [(0, .ref (E.2.1 k)), (1, .int v1), (2, .int v2)] [.int t0, .int t1] I J := by
  unfold bX5_refusal_141 at h
  refine u_icmp_eq (tgt := 146) F dX5_refusal_141 (by decide) h (fun h => ?_) (fun h => ?_)
  · refine g_iload_n F 1 dX5_refusal_146 rfl rfl ?_
    refine u_if_ne (tgt := 165) F dX5_refusal_147 (by decide) h (fun h => ?_) (fun h => ?_)
    · refine g_aload_n F 0 dX5_refusal_150 rfl rfl ?_
      refine g_getr (j := 4) (nn := (k + 2)) F hk.1 rfl rfl uX5 (by decide) q58 dX5_refusal_151 ?_
      refine g_iload_n F 2 dX5_refusal_154 rfl rfl ?_
      refine u_rI F hk.2.2.1 (by decide) dX5_refusal_155 h (fun u7 h => ?_)
      refine g_bipush (v := 12) F dX5_refusal_156 (by decide) ?_
      refine u_icmp_lt (tgt := 165) F dX5_refusal_158 (by decide) h (fun h => ?_) (fun h => ?_)
      · refine g_iconst (v := (-1)) F dX5_refusal_165 (by decide) ?_
        obtain rfl := Option.some.inj h
        exact g_iret F e dX5_refusal_166 ⟨rfl, rfl, rfl⟩
      · refine g_iconst (v := 3) F dX5_refusal_161 (by decide) ?_
        refine g_goto (tgt := 166) F dX5_refusal_162 (by decide) ?_
        obtain rfl := Option.some.inj h
        exact g_iret F e dX5_refusal_166 ⟨rfl, rfl, rfl⟩
    · refine g_iconst (v := (-1)) F dX5_refusal_165 (by decide) ?_
      obtain rfl := Option.some.inj h
      exact g_iret F e dX5_refusal_166 ⟨rfl, rfl, rfl⟩
  · refine g_iconst (v := 2) F dX5_refusal_144 (by decide) ?_
    obtain rfl := Option.some.inj h
    exact g_iret F e dX5_refusal_145 ⟨rfl, rfl, rfl⟩
noncomputable def bX5_refusal_127 (k : Nat) (v1 : Int32) (v2 : Int32) (t0 : Int32) (I : gM) : Option (Int32) :=
  if v1 = 1 then
    bX5_refusal_141 k v1 v2 (1 : Int32) t0 I
  else
    bX5_refusal_141 k v1 v2 (0 : Int32) t0 I
set_option maxRecDepth 100000 in
set_option maxHeartbeats 4000000 in
theorem wbX5_refusal_127 {z : gZ} {E : gE} {bk : Nat} (F : Fx z sh E "LeapJoin$Tables" cX5_refusal (gR 2) 7) (B : bZ z bk) (hE : gDist sh E) (k : Nat) (v1 : Int32) (v2 : Int32) (t0 : Int32) (hk : shX5 k) (I : gM) (J : gN) {y : Int32} (h : bX5_refusal_127 k v1 v2 t0 I = some y) (e : Fe z sh E (some .int) (fun r1 I1 J1 => r1 = some (.int y) ∧ I1 = I ∧ J1 = J)) : G z 127 [(0, .ref (E.2.1 k)), (1, .int v1), (2, .int v2)] [.int t0] I J := by
  unfold bX5_refusal_127 at h
  refine g_istore (Ln := [(6, .int t0), (0, .ref (E.2.1 k)), (1, .int v1), (2, .int v2)]) F dX5_refusal_127 (by decide) rfl ?_
  refine g_iload F 0 dX5_refusal_129 rfl ?_
  refine g_iload_n F 2 dX5_refusal_131 rfl rfl ?_
  refine g_iconst (v := 1) F dX5_refusal_132 (by decide) ?_
  refine u_icmp_ne (tgt := 140) F dX5_refusal_133 (by decide) h (fun h => ?_) (fun h => ?_)
  · refine g_iconst (v := 1) F dX5_refusal_136 (by decide) ?_
    refine g_goto (tgt := 141) F dX5_refusal_137 (by decide) ?_
    refine g_sub (Ln := [(0, .ref (E.2.1 k)), (1, .int v1), (2, .int v2)]) [1, 2, 3] rfl ?_
    exact wbX5_refusal_141 F B hE k v1 v2 (1 : Int32) t0 hk I J h e
  · refine g_iconst (v := 0) F dX5_refusal_140 (by decide) ?_
    refine g_sub (Ln := [(0, .ref (E.2.1 k)), (1, .int v1), (2, .int v2)]) [1, 2, 3] rfl ?_
    exact wbX5_refusal_141 F B hE k v1 v2 (0 : Int32) t0 hk I J h e
noncomputable def fX5_refusal (k : Nat) (v1 : Int32) (v2 : Int32) (v3 : Int32) (v4 : Int32) (v5 : Int32) (I : gM) : Option (Int32) :=
  if (I k 0) = 0 then
    some (0 : Int32)
  else
    if v1 = 3 then
      if v2 < 0 then
        some (1 : Int32)
      else
        if v2 < 24 then
          if v2 = (I k 2) then
            some (2 : Int32)
          else
            some ((-1) : Int32)
        else
          some (1 : Int32)
    else
      (fX5_isTable k v2 I).bind fun r1 =>
      if r1 = 0 then
        some (0 : Int32)
      else
        if v1 = 2 then
          if (I k 1) = ((1 : Int32) <<< (v2 &&& 31)) then
            some (2 : Int32)
          else
            some ((-1) : Int32)
        else
          (fX5_isFitting k v2 (0 : Int32) v3 I).bind fun r2 =>
          if r2 = 0 then
            some (1 : Int32)
          else
            (fX5_isFitting k v2 (1 : Int32) v4 I).bind fun r3 =>
            if r3 = 0 then
              some (1 : Int32)
            else
              (fX5_isFitting k v2 (2 : Int32) v5 I).bind fun r4 =>
              if r4 = 0 then
                some (1 : Int32)
              else
                (fX5_packed v3 v4 v5).bind fun r5 =>
                (fX5_placeOf k v2 r5 I).bind fun r6 =>
                if r6 = (-1) then
                  bX5_refusal_127 k v1 v2 (0 : Int32) I
                else
                  bX5_refusal_127 k v1 v2 (1 : Int32) I
set_option maxRecDepth 100000 in
set_option maxHeartbeats 4000000 in
theorem wX5_refusal (l : Launch) (E : gE) (hE : gDist sh E) (bk : Nat) (k : Nat) (v1 : Int32) (v2 : Int32) (v3 : Int32) (v4 : Int32) (v5 : Int32) (hk : shX5 k) (I : gM) (J : gN) {r : Int32} (h : fX5_refusal k v1 v2 v3 v4 v5 I = some r) : Cu l sh E bk yX5_refusal cX5_refusal 7 (some .int) (gR 2) [.ref (E.2.1 k), .int v1, .int v2, .int v3, .int v4, .int v5] I J (fun r1 I1 J1 => r1 = some (.int r) ∧ I1 = I ∧ J1 = J) := by
  refine Cu.of "LeapJoin$Tables" rfl hE (by decide) (Nat.le_of_ble_eq_true rfl) (fun z F B e hl => ?_)
  subst hl
  unfold fX5_refusal at h
  refine g_aload_n F 0 dX5_refusal_0 rfl rfl ?_
  refine g_geti (j := 0) (v := I k 0) F hk.1 rfl rfl uX5 (by decide) q48 rfl dX5_refusal_1 ?_
  refine u_if_ne (tgt := 9) F dX5_refusal_4 (by decide) h (fun h => ?_) (fun h => ?_)
  · refine g_iconst (v := 0) F dX5_refusal_7 (by decide) ?_
    obtain rfl := Option.some.inj h
    exact g_iret F e dX5_refusal_8 ⟨rfl, rfl, rfl⟩
  · refine g_iload_n F 1 dX5_refusal_9 rfl rfl ?_
    refine g_iconst (v := 3) F dX5_refusal_10 (by decide) ?_
    refine u_icmp_ne (tgt := 40) F dX5_refusal_11 (by decide) h (fun h => ?_) (fun h => ?_)
    · refine g_iload_n F 2 dX5_refusal_14 rfl rfl ?_
      refine u_if_lt (tgt := 24) F dX5_refusal_15 (by decide) h (fun h => ?_) (fun h => ?_)
      · refine g_iconst (v := 1) F dX5_refusal_24 (by decide) ?_
        obtain rfl := Option.some.inj h
        exact g_iret F e dX5_refusal_25 ⟨rfl, rfl, rfl⟩
      · refine g_iload_n F 2 dX5_refusal_18 rfl rfl ?_
        refine g_bipush (v := 24) F dX5_refusal_19 (by decide) ?_
        refine u_icmp_lt (tgt := 26) F dX5_refusal_21 (by decide) h (fun h => ?_) (fun h => ?_)
        · refine g_iload_n F 2 dX5_refusal_26 rfl rfl ?_
          refine g_aload_n F 0 dX5_refusal_27 rfl rfl ?_
          refine g_geti (j := 2) (v := I k 2) F hk.1 rfl rfl uX5 (by decide) q53 rfl dX5_refusal_28 ?_
          refine u_icmp_ne (tgt := 38) F dX5_refusal_31 (by decide) h (fun h => ?_) (fun h => ?_)
          · refine g_iconst (v := 2) F dX5_refusal_34 (by decide) ?_
            refine g_goto (tgt := 39) F dX5_refusal_35 (by decide) ?_
            obtain rfl := Option.some.inj h
            exact g_iret F e dX5_refusal_39 ⟨rfl, rfl, rfl⟩
          · refine g_iconst (v := (-1)) F dX5_refusal_38 (by decide) ?_
            obtain rfl := Option.some.inj h
            exact g_iret F e dX5_refusal_39 ⟨rfl, rfl, rfl⟩
        · refine g_iconst (v := 1) F dX5_refusal_24 (by decide) ?_
          obtain rfl := Option.some.inj h
          exact g_iret F e dX5_refusal_25 ⟨rfl, rfl, rfl⟩
    · refine g_aload_n F 0 dX5_refusal_40 rfl rfl ?_
      refine g_iload_n F 2 dX5_refusal_41 rfl rfl ?_
      refine u_callV (k := k) (As := [.int v2]) (rest := []) (sn := fun r1 => [.int r1]) F B (fun _ => wX5_isTable (zl z) E hE bk k v2 hk I J) mX5_isTable q247 rfl hk.1 rfl rfl rfl (Nat.le_of_ble_eq_true rfl) dX5_refusal_42 (fun _ => rfl) h (fun r1 h => ?_)
      refine u_if_ne (tgt := 50) F dX5_refusal_45 (by decide) h (fun h => ?_) (fun h => ?_)
      · refine g_iconst (v := 0) F dX5_refusal_48 (by decide) ?_
        obtain rfl := Option.some.inj h
        exact g_iret F e dX5_refusal_49 ⟨rfl, rfl, rfl⟩
      · refine g_iload_n F 1 dX5_refusal_50 rfl rfl ?_
        refine g_iconst (v := 2) F dX5_refusal_51 (by decide) ?_
        refine u_icmp_ne (tgt := 71) F dX5_refusal_52 (by decide) h (fun h => ?_) (fun h => ?_)
        · refine g_aload_n F 0 dX5_refusal_55 rfl rfl ?_
          refine g_geti (j := 1) (v := I k 1) F hk.1 rfl rfl uX5 (by decide) q51 rfl dX5_refusal_56 ?_
          refine g_iconst (v := 1) F dX5_refusal_59 (by decide) ?_
          refine g_iload_n F 2 dX5_refusal_60 rfl rfl ?_
          refine g_ishl (v := (1 : Int32) <<< (v2 &&& 31)) F dX5_refusal_61 rfl ?_
          refine u_icmp_ne (tgt := 69) F dX5_refusal_62 (by decide) h (fun h => ?_) (fun h => ?_)
          · refine g_iconst (v := 2) F dX5_refusal_65 (by decide) ?_
            refine g_goto (tgt := 70) F dX5_refusal_66 (by decide) ?_
            obtain rfl := Option.some.inj h
            exact g_iret F e dX5_refusal_70 ⟨rfl, rfl, rfl⟩
          · refine g_iconst (v := (-1)) F dX5_refusal_69 (by decide) ?_
            obtain rfl := Option.some.inj h
            exact g_iret F e dX5_refusal_70 ⟨rfl, rfl, rfl⟩
        · refine g_aload_n F 0 dX5_refusal_71 rfl rfl ?_
          refine g_iload_n F 2 dX5_refusal_72 rfl rfl ?_
          refine g_iconst (v := 0) F dX5_refusal_73 (by decide) ?_
          refine g_iload_n F 3 dX5_refusal_74 rfl rfl ?_
          refine u_callV (k := k) (As := [.int v2, .int 0, .int v3]) (rest := []) (sn := fun r2 => [.int r2]) F B (fun _ => wX5_isFitting (zl z) E hE bk k v2 (0 : Int32) v3 hk I J) mX5_isFitting q588 rfl hk.1 rfl rfl rfl (Nat.le_of_ble_eq_true rfl) dX5_refusal_75 (fun _ => rfl) h (fun r2 h => ?_)
          refine u_if_eq (tgt := 103) F dX5_refusal_78 (by decide) h (fun h => ?_) (fun h => ?_)
          · refine g_iconst (v := 1) F dX5_refusal_103 (by decide) ?_
            obtain rfl := Option.some.inj h
            exact g_iret F e dX5_refusal_104 ⟨rfl, rfl, rfl⟩
          · refine g_aload_n F 0 dX5_refusal_81 rfl rfl ?_
            refine g_iload_n F 2 dX5_refusal_82 rfl rfl ?_
            refine g_iconst (v := 1) F dX5_refusal_83 (by decide) ?_
            refine g_iload F 4 dX5_refusal_84 rfl ?_
            refine u_callV (k := k) (As := [.int v2, .int 1, .int v4]) (rest := []) (sn := fun r3 => [.int r3]) F B (fun _ => wX5_isFitting (zl z) E hE bk k v2 (1 : Int32) v4 hk I J) mX5_isFitting q588 rfl hk.1 rfl rfl rfl (Nat.le_of_ble_eq_true rfl) dX5_refusal_86 (fun _ => rfl) h (fun r3 h => ?_)
            refine u_if_eq (tgt := 103) F dX5_refusal_89 (by decide) h (fun h => ?_) (fun h => ?_)
            · refine g_iconst (v := 1) F dX5_refusal_103 (by decide) ?_
              obtain rfl := Option.some.inj h
              exact g_iret F e dX5_refusal_104 ⟨rfl, rfl, rfl⟩
            · refine g_aload_n F 0 dX5_refusal_92 rfl rfl ?_
              refine g_iload_n F 2 dX5_refusal_93 rfl rfl ?_
              refine g_iconst (v := 2) F dX5_refusal_94 (by decide) ?_
              refine g_iload F 5 dX5_refusal_95 rfl ?_
              refine u_callV (k := k) (As := [.int v2, .int 2, .int v5]) (rest := []) (sn := fun r4 => [.int r4]) F B (fun _ => wX5_isFitting (zl z) E hE bk k v2 (2 : Int32) v5 hk I J) mX5_isFitting q588 rfl hk.1 rfl rfl rfl (Nat.le_of_ble_eq_true rfl) dX5_refusal_97 (fun _ => rfl) h (fun r4 h => ?_)
              refine u_if_ne (tgt := 105) F dX5_refusal_100 (by decide) h (fun h => ?_) (fun h => ?_)
              · refine g_iconst (v := 1) F dX5_refusal_103 (by decide) ?_
                obtain rfl := Option.some.inj h
                exact g_iret F e dX5_refusal_104 ⟨rfl, rfl, rfl⟩
              · refine g_aload_n F 0 dX5_refusal_105 rfl rfl ?_
                refine g_iload_n F 2 dX5_refusal_106 rfl rfl ?_
                refine g_iload_n F 3 dX5_refusal_107 rfl rfl ?_
                refine g_iload F 4 dX5_refusal_108 rfl ?_
                refine g_iload F 5 dX5_refusal_110 rfl ?_
                refine u_callS (As := [.int v3, .int v4, .int v5]) (rest := [.int v2, .ref (E.2.1 k)]) (sn := fun r5 => [.int r5, .int v2, .ref (E.2.1 k)]) F B (fun _ => wX5_packed (zl z) E hE bk v3 v4 v5 I J) mX5_packed q591 rfl rfl rfl (Nat.le_of_ble_eq_true rfl) dX5_refusal_112 (fun _ => rfl) h (fun r5 h => ?_)
                refine u_callV (k := k) (As := [.int v2, .int r5]) (rest := []) (sn := fun r6 => [.int r6]) F B (fun _ => wX5_placeOf (zl z) E hE bk k v2 r5 hk I J) mX5_placeOf q268 rfl hk.1 rfl rfl rfl (Nat.le_of_ble_eq_true rfl) dX5_refusal_115 (fun _ => rfl) h (fun r6 h => ?_)
                refine g_iconst (v := (-1)) F dX5_refusal_118 (by decide) ?_
                refine u_icmp_eq (tgt := 126) F dX5_refusal_119 (by decide) h (fun h => ?_) (fun h => ?_)
                · refine g_iconst (v := 0) F dX5_refusal_126 (by decide) ?_
                  refine g_sub (Ln := [(0, .ref (E.2.1 k)), (1, .int v1), (2, .int v2)]) [0, 1, 2] rfl ?_
                  exact wbX5_refusal_127 F B hE k v1 v2 (0 : Int32) hk I J h e
                · refine g_iconst (v := 1) F dX5_refusal_122 (by decide) ?_
                  refine g_goto (tgt := 127) F dX5_refusal_123 (by decide) ?_
                  refine g_sub (Ln := [(0, .ref (E.2.1 k)), (1, .int v1), (2, .int v2)]) [0, 1, 2] rfl ?_
                  exact wbX5_refusal_127 F B hE k v1 v2 (1 : Int32) hk I J h e
theorem DX5_insert_0 : dAre cX5_insert [(0, .aload_n 0, 1), (1, .iload_n 1, 1), (2, .invokevirtual 52, 3), (5, .ifCond .eq 24, 3), (8, .aload_n 0, 1), (9, .getfield 25, 3), (12, .iload_n 1, 1), (13, .iaload, 1), (14, .bipush 12, 2), (16, .if_icmp .ge 13, 3), (19, .aload_n 0, 1), (20, .iload_n 1, 1), (21, .iload_n 2, 1), (22, .invokevirtual 69, 3), (25, .iconst (-1), 1), (26, .if_icmp .eq 4, 3)] := dAre0 (by decide +kernel)
theorem dX5_insert_0 : decode cX5_insert 0 = .ok (.aload_n 0, 1) := DX5_insert_0.1
theorem dX5_insert_1 : decode cX5_insert 1 = .ok (.iload_n 1, 1) := DX5_insert_0.2.1
theorem dX5_insert_2 : decode cX5_insert 2 = .ok (.invokevirtual 52, 3) := DX5_insert_0.2.2.1
theorem dX5_insert_5 : decode cX5_insert 5 = .ok (.ifCond .eq 24, 3) := DX5_insert_0.2.2.2.1
theorem dX5_insert_8 : decode cX5_insert 8 = .ok (.aload_n 0, 1) := DX5_insert_0.2.2.2.2.1
theorem dX5_insert_9 : decode cX5_insert 9 = .ok (.getfield 25, 3) := DX5_insert_0.2.2.2.2.2.1
theorem dX5_insert_12 : decode cX5_insert 12 = .ok (.iload_n 1, 1) := DX5_insert_0.2.2.2.2.2.2.1
theorem dX5_insert_13 : decode cX5_insert 13 = .ok (.iaload, 1) := DX5_insert_0.2.2.2.2.2.2.2.1
theorem dX5_insert_14 : decode cX5_insert 14 = .ok (.bipush 12, 2) := DX5_insert_0.2.2.2.2.2.2.2.2.1
theorem dX5_insert_16 : decode cX5_insert 16 = .ok (.if_icmp .ge 13, 3) := DX5_insert_0.2.2.2.2.2.2.2.2.2.1
theorem dX5_insert_19 : decode cX5_insert 19 = .ok (.aload_n 0, 1) := DX5_insert_0.2.2.2.2.2.2.2.2.2.2.1
theorem dX5_insert_20 : decode cX5_insert 20 = .ok (.iload_n 1, 1) := DX5_insert_0.2.2.2.2.2.2.2.2.2.2.2.1
theorem dX5_insert_21 : decode cX5_insert 21 = .ok (.iload_n 2, 1) := DX5_insert_0.2.2.2.2.2.2.2.2.2.2.2.2.1
theorem dX5_insert_22 : decode cX5_insert 22 = .ok (.invokevirtual 69, 3) := DX5_insert_0.2.2.2.2.2.2.2.2.2.2.2.2.2.1
theorem dX5_insert_25 : decode cX5_insert 25 = .ok (.iconst (-1), 1) := DX5_insert_0.2.2.2.2.2.2.2.2.2.2.2.2.2.2.1
theorem dX5_insert_26 : decode cX5_insert 26 = .ok (.if_icmp .eq 4, 3) := DX5_insert_0.2.2.2.2.2.2.2.2.2.2.2.2.2.2.2.1
theorem DX5_insert_29 : dAre cX5_insert [(29, .return_, 1), (30, .iload_n 1, 1), (31, .bipush 12, 2), (33, .imul, 1), (34, .istore_n 3, 1), (35, .iload_n 3, 1), (36, .aload_n 0, 1), (37, .getfield 25, 3), (40, .iload_n 1, 1), (41, .iaload, 1), (42, .iadd, 1), (43, .istore 4, 2), (45, .iload 4, 2), (47, .iload_n 3, 1), (48, .if_icmp .le 38, 3), (51, .aload_n 0, 1)] := dAre0 (by decide +kernel)
theorem dX5_insert_29 : decode cX5_insert 29 = .ok (.return_, 1) := DX5_insert_29.1
theorem dX5_insert_30 : decode cX5_insert 30 = .ok (.iload_n 1, 1) := DX5_insert_29.2.1
theorem dX5_insert_31 : decode cX5_insert 31 = .ok (.bipush 12, 2) := DX5_insert_29.2.2.1
theorem dX5_insert_33 : decode cX5_insert 33 = .ok (.imul, 1) := DX5_insert_29.2.2.2.1
theorem dX5_insert_34 : decode cX5_insert 34 = .ok (.istore_n 3, 1) := DX5_insert_29.2.2.2.2.1
theorem dX5_insert_35 : decode cX5_insert 35 = .ok (.iload_n 3, 1) := DX5_insert_29.2.2.2.2.2.1
theorem dX5_insert_36 : decode cX5_insert 36 = .ok (.aload_n 0, 1) := DX5_insert_29.2.2.2.2.2.2.1
theorem dX5_insert_37 : decode cX5_insert 37 = .ok (.getfield 25, 3) := DX5_insert_29.2.2.2.2.2.2.2.1
theorem dX5_insert_40 : decode cX5_insert 40 = .ok (.iload_n 1, 1) := DX5_insert_29.2.2.2.2.2.2.2.2.1
theorem dX5_insert_41 : decode cX5_insert 41 = .ok (.iaload, 1) := DX5_insert_29.2.2.2.2.2.2.2.2.2.1
theorem dX5_insert_42 : decode cX5_insert 42 = .ok (.iadd, 1) := DX5_insert_29.2.2.2.2.2.2.2.2.2.2.1
theorem dX5_insert_43 : decode cX5_insert 43 = .ok (.istore 4, 2) := DX5_insert_29.2.2.2.2.2.2.2.2.2.2.2.1
theorem dX5_insert_45 : decode cX5_insert 45 = .ok (.iload 4, 2) := DX5_insert_29.2.2.2.2.2.2.2.2.2.2.2.2.1
theorem dX5_insert_47 : decode cX5_insert 47 = .ok (.iload_n 3, 1) := DX5_insert_29.2.2.2.2.2.2.2.2.2.2.2.2.2.1
theorem dX5_insert_48 : decode cX5_insert 48 = .ok (.if_icmp .le 38, 3) := DX5_insert_29.2.2.2.2.2.2.2.2.2.2.2.2.2.2.1
theorem dX5_insert_51 : decode cX5_insert 51 = .ok (.aload_n 0, 1) := DX5_insert_29.2.2.2.2.2.2.2.2.2.2.2.2.2.2.2.1
theorem DX5_insert_52 : dAre cX5_insert [(52, .getfield 31, 3), (55, .iload 4, 2), (57, .iconst 1, 1), (58, .isub, 1), (59, .iaload, 1), (60, .iload_n 2, 1), (61, .if_icmp .le 25, 3), (64, .aload_n 0, 1), (65, .getfield 31, 3), (68, .iload 4, 2), (70, .aload_n 0, 1), (71, .getfield 31, 3), (74, .iload 4, 2), (76, .iconst 1, 1), (77, .isub, 1), (78, .iaload, 1)] := dAre0 (by decide +kernel)
theorem dX5_insert_52 : decode cX5_insert 52 = .ok (.getfield 31, 3) := DX5_insert_52.1
theorem dX5_insert_55 : decode cX5_insert 55 = .ok (.iload 4, 2) := DX5_insert_52.2.1
theorem dX5_insert_57 : decode cX5_insert 57 = .ok (.iconst 1, 1) := DX5_insert_52.2.2.1
theorem dX5_insert_58 : decode cX5_insert 58 = .ok (.isub, 1) := DX5_insert_52.2.2.2.1
theorem dX5_insert_59 : decode cX5_insert 59 = .ok (.iaload, 1) := DX5_insert_52.2.2.2.2.1
theorem dX5_insert_60 : decode cX5_insert 60 = .ok (.iload_n 2, 1) := DX5_insert_52.2.2.2.2.2.1
theorem dX5_insert_61 : decode cX5_insert 61 = .ok (.if_icmp .le 25, 3) := DX5_insert_52.2.2.2.2.2.2.1
theorem dX5_insert_64 : decode cX5_insert 64 = .ok (.aload_n 0, 1) := DX5_insert_52.2.2.2.2.2.2.2.1
theorem dX5_insert_65 : decode cX5_insert 65 = .ok (.getfield 31, 3) := DX5_insert_52.2.2.2.2.2.2.2.2.1
theorem dX5_insert_68 : decode cX5_insert 68 = .ok (.iload 4, 2) := DX5_insert_52.2.2.2.2.2.2.2.2.2.1
theorem dX5_insert_70 : decode cX5_insert 70 = .ok (.aload_n 0, 1) := DX5_insert_52.2.2.2.2.2.2.2.2.2.2.1
theorem dX5_insert_71 : decode cX5_insert 71 = .ok (.getfield 31, 3) := DX5_insert_52.2.2.2.2.2.2.2.2.2.2.2.1
theorem dX5_insert_74 : decode cX5_insert 74 = .ok (.iload 4, 2) := DX5_insert_52.2.2.2.2.2.2.2.2.2.2.2.2.1
theorem dX5_insert_76 : decode cX5_insert 76 = .ok (.iconst 1, 1) := DX5_insert_52.2.2.2.2.2.2.2.2.2.2.2.2.2.1
theorem dX5_insert_77 : decode cX5_insert 77 = .ok (.isub, 1) := DX5_insert_52.2.2.2.2.2.2.2.2.2.2.2.2.2.2.1
theorem dX5_insert_78 : decode cX5_insert 78 = .ok (.iaload, 1) := DX5_insert_52.2.2.2.2.2.2.2.2.2.2.2.2.2.2.2.1
theorem DX5_insert_79 : dAre cX5_insert [(79, .iastore, 1), (80, .iinc 4 (-1), 3), (83, .goto (-38), 3), (86, .aload_n 0, 1), (87, .getfield 31, 3), (90, .iload 4, 2), (92, .iload_n 2, 1), (93, .iastore, 1), (94, .aload_n 0, 1), (95, .getfield 25, 3), (98, .iload_n 1, 1), (99, .dup2, 1), (100, .iaload, 1), (101, .iconst 1, 1), (102, .iadd, 1), (103, .iastore, 1)] := dAre0 (by decide +kernel)
theorem dX5_insert_79 : decode cX5_insert 79 = .ok (.iastore, 1) := DX5_insert_79.1
theorem dX5_insert_80 : decode cX5_insert 80 = .ok (.iinc 4 (-1), 3) := DX5_insert_79.2.1
theorem dX5_insert_83 : decode cX5_insert 83 = .ok (.goto (-38), 3) := DX5_insert_79.2.2.1
theorem dX5_insert_86 : decode cX5_insert 86 = .ok (.aload_n 0, 1) := DX5_insert_79.2.2.2.1
theorem dX5_insert_87 : decode cX5_insert 87 = .ok (.getfield 31, 3) := DX5_insert_79.2.2.2.2.1
theorem dX5_insert_90 : decode cX5_insert 90 = .ok (.iload 4, 2) := DX5_insert_79.2.2.2.2.2.1
theorem dX5_insert_92 : decode cX5_insert 92 = .ok (.iload_n 2, 1) := DX5_insert_79.2.2.2.2.2.2.1
theorem dX5_insert_93 : decode cX5_insert 93 = .ok (.iastore, 1) := DX5_insert_79.2.2.2.2.2.2.2.1
theorem dX5_insert_94 : decode cX5_insert 94 = .ok (.aload_n 0, 1) := DX5_insert_79.2.2.2.2.2.2.2.2.1
theorem dX5_insert_95 : decode cX5_insert 95 = .ok (.getfield 25, 3) := DX5_insert_79.2.2.2.2.2.2.2.2.2.1
theorem dX5_insert_98 : decode cX5_insert 98 = .ok (.iload_n 1, 1) := DX5_insert_79.2.2.2.2.2.2.2.2.2.2.1
theorem dX5_insert_99 : decode cX5_insert 99 = .ok (.dup2, 1) := DX5_insert_79.2.2.2.2.2.2.2.2.2.2.2.1
theorem dX5_insert_100 : decode cX5_insert 100 = .ok (.iaload, 1) := DX5_insert_79.2.2.2.2.2.2.2.2.2.2.2.2.1
theorem dX5_insert_101 : decode cX5_insert 101 = .ok (.iconst 1, 1) := DX5_insert_79.2.2.2.2.2.2.2.2.2.2.2.2.2.1
theorem dX5_insert_102 : decode cX5_insert 102 = .ok (.iadd, 1) := DX5_insert_79.2.2.2.2.2.2.2.2.2.2.2.2.2.2.1
theorem dX5_insert_103 : decode cX5_insert 103 = .ok (.iastore, 1) := DX5_insert_79.2.2.2.2.2.2.2.2.2.2.2.2.2.2.2.1
theorem dX5_insert_104 : decode cX5_insert 104 = .ok (.return_, 1) := by decide +kernel
theorem mX5_insert : gMv yX5_insert cX5_insert 5 none RX5 2 := ⟨q265, q266, q3, q267, rfl, by decide, by decide, by decide +kernel⟩
noncomputable def lX5_insert_45 (k : Nat) (v2 : Int32) (v3 : Int32) : (Int32 × gM) → Option (Int32 × gM) :=
  itO fun s =>
    if s.1 ≤ v3 then
      some (.inr (s.1, s.2))
    else
      (rI 48 (s.2 (k + 4)) (s.1 - 1)).bind fun u5 =>
      if u5 ≤ v2 then
        some (.inr (s.1, s.2))
      else
        (rI 48 (s.2 (k + 4)) (s.1 - 1)).bind fun u6 =>
        (wI s.2 (k + 4) 48 s.1 u6).bind fun I7 =>
        some (.inl (s.1 + (-1), I7))
set_option maxRecDepth 100000 in
set_option maxHeartbeats 4000000 in
theorem wlX5_insert_45 {z : gZ} {E : gE} {bk : Nat} (F : Fx z sh E "LeapJoin$Tables" cX5_insert (gR 2) 5) (B : bZ z bk) (hE : gDist sh E) (k : Nat) (v1 : Int32) (v2 : Int32) (v3 : Int32) (hk : shX5 k) (J : gN) {r : Int32 × gM} : ∀ s : Int32 × gM, lX5_insert_45 k v2 v3 s = some r → (G z 86 [(0, .ref (E.2.1 k)), (1, .int v1), (2, .int v2), (4, .int r.1)] [] r.2 J) → G z 45 [(0, .ref (E.2.1 k)), (1, .int v1), (2, .int v2), (3, .int v3), (4, .int s.1)] [] s.2 J := by
  intro s h X0
  unfold lX5_insert_45 at h
  revert s
  refine itO_ind (P := fun s : Int32 × gM => G z 45 [(0, .ref (E.2.1 k)), (1, .int v1), (2, .int v2), (3, .int v3), (4, .int s.1)] [] s.2 J) (fun s y h hl hr => ?_)
  have K45_0 : ∀ x : Int32 × gM, y = .inr x → (G z 86 [(0, .ref (E.2.1 k)), (1, .int v1), (2, .int v2), (4, .int x.1)] [] x.2 J) := fun x q => by have q2 := hr _ q; subst q2; exact X0
  refine g_iload F 4 dX5_insert_45 rfl ?_
  refine g_iload_n F 3 dX5_insert_47 rfl rfl ?_
  refine u_icmp_le (tgt := 86) F dX5_insert_48 (by decide) h (fun h => ?_) (fun h => ?_)
  · obtain rfl := Option.some.inj h
    refine g_sub (Ln := [(0, .ref (E.2.1 k)), (1, .int v1), (2, .int v2), (4, .int s.1)]) [0, 1, 2, 4] rfl ?_
    exact K45_0 (s.1, s.2) rfl
  · refine g_aload_n F 0 dX5_insert_51 rfl rfl ?_
    refine g_getr (j := 6) (nn := (k + 4)) F hk.1 rfl rfl uX5 (by decide) q63 dX5_insert_52 ?_
    refine g_iload F 4 dX5_insert_55 rfl ?_
    refine g_iconst (v := 1) F dX5_insert_57 (by decide) ?_
    refine g_isub (v := s.1 - 1) F dX5_insert_58 rfl ?_
    refine u_rI F hk.2.2.2.2 (by decide) dX5_insert_59 h (fun u5 h => ?_)
    refine g_iload_n F 2 dX5_insert_60 rfl rfl ?_
    refine u_icmp_le (tgt := 86) F dX5_insert_61 (by decide) h (fun h => ?_) (fun h => ?_)
    · obtain rfl := Option.some.inj h
      refine g_sub (Ln := [(0, .ref (E.2.1 k)), (1, .int v1), (2, .int v2), (4, .int s.1)]) [0, 1, 2, 4] rfl ?_
      exact K45_0 (s.1, s.2) rfl
    · refine g_aload_n F 0 dX5_insert_64 rfl rfl ?_
      refine g_getr (j := 6) (nn := (k + 4)) F hk.1 rfl rfl uX5 (by decide) q63 dX5_insert_65 ?_
      refine g_iload F 4 dX5_insert_68 rfl ?_
      refine g_aload_n F 0 dX5_insert_70 rfl rfl ?_
      refine g_getr (j := 6) (nn := (k + 4)) F hk.1 rfl rfl uX5 (by decide) q63 dX5_insert_71 ?_
      refine g_iload F 4 dX5_insert_74 rfl ?_
      refine g_iconst (v := 1) F dX5_insert_76 (by decide) ?_
      refine g_isub (v := s.1 - 1) F dX5_insert_77 rfl ?_
      refine u_rI F hk.2.2.2.2 (by decide) dX5_insert_78 h (fun u6 h => ?_)
      refine u_wI F hk.2.2.2.2 (by decide) dX5_insert_79 h (fun I7 h => ?_)
      refine g_iinc (v := s.1 + (-1)) (Ln := [(4, .int (s.1 + (-1))), (0, .ref (E.2.1 k)), (1, .int v1), (2, .int v2), (3, .int v3)]) F 4 dX5_insert_80 rfl (add_c (by decide)) (by decide) rfl ?_
      refine g_goto (tgt := 45) F dX5_insert_83 (by decide) ?_
      obtain rfl := Option.some.inj h
      refine g_sub (Ln := [(0, .ref (E.2.1 k)), (1, .int v1), (2, .int v2), (3, .int v3), (4, .int (s.1 + (-1)))]) [1, 2, 3, 4, 0] rfl ?_
      exact hl (s.1 + (-1), I7) rfl
noncomputable def bX5_insert_86 (k : Nat) (v1 : Int32) (v2 : Int32) (v4 : Int32) (I : gM) : Option (gM) :=
  (wI I (k + 4) 48 v4 v2).bind fun I9 =>
  (rI 4 (I9 (k + 2)) v1).bind fun u10 =>
  (wI I9 (k + 2) 4 v1 (u10 + 1)).bind fun I11 =>
  some I11
set_option maxRecDepth 100000 in
set_option maxHeartbeats 4000000 in
theorem wbX5_insert_86 {z : gZ} {E : gE} {bk : Nat} (F : Fx z sh E "LeapJoin$Tables" cX5_insert (gR 2) 5) (B : bZ z bk) (hE : gDist sh E) (k : Nat) (v1 : Int32) (v2 : Int32) (v4 : Int32) (hk : shX5 k) (I : gM) (J : gN) {y : gM} (h : bX5_insert_86 k v1 v2 v4 I = some y) (e : Fe z sh E none (fun r1 I1 J1 => r1 = none ∧ I1 = y ∧ J1 = J)) : G z 86 [(0, .ref (E.2.1 k)), (1, .int v1), (2, .int v2), (4, .int v4)] [] I J := by
  unfold bX5_insert_86 at h
  refine g_aload_n F 0 dX5_insert_86 rfl rfl ?_
  refine g_getr (j := 6) (nn := (k + 4)) F hk.1 rfl rfl uX5 (by decide) q63 dX5_insert_87 ?_
  refine g_iload F 3 dX5_insert_90 rfl ?_
  refine g_iload_n F 2 dX5_insert_92 rfl rfl ?_
  refine u_wI F hk.2.2.2.2 (by decide) dX5_insert_93 h (fun I9 h => ?_)
  refine g_aload_n F 0 dX5_insert_94 rfl rfl ?_
  refine g_getr (j := 4) (nn := (k + 2)) F hk.1 rfl rfl uX5 (by decide) q58 dX5_insert_95 ?_
  refine g_iload_n F 1 dX5_insert_98 rfl rfl ?_
  refine g_dup2 F dX5_insert_99 rfl rfl ?_
  refine u_rI F hk.2.2.1 (by decide) dX5_insert_100 h (fun u10 h => ?_)
  refine g_iconst (v := 1) F dX5_insert_101 (by decide) ?_
  refine g_iadd (v := u10 + 1) F dX5_insert_102 rfl ?_
  refine u_wI F hk.2.2.1 (by decide) dX5_insert_103 h (fun I11 h => ?_)
  obtain rfl := Option.some.inj h
  exact g_vret F e dX5_insert_104 ⟨rfl, rfl, rfl⟩
noncomputable def fX5_insert (k : Nat) (v1 : Int32) (v2 : Int32) (I : gM) : Option (gM) :=
  (fX5_isTable k v1 I).bind fun r1 =>
  if r1 = 0 then
    some I
  else
    (rI 4 (I (k + 2)) v1).bind fun u2 =>
    if (12 : Int32) ≤ u2 then
      some I
    else
      (fX5_placeOf k v1 v2 I).bind fun r3 =>
      if r3 = (-1) then
        (rI 4 (I (k + 2)) v1).bind fun u4 =>
        (lX5_insert_45 k v2 (v1 * 12) ((v1 * 12) + u4, I)).bind fun w8 =>
        bX5_insert_86 k v1 v2 w8.1 w8.2
      else
        some I
set_option maxRecDepth 100000 in
set_option maxHeartbeats 4000000 in
theorem wX5_insert (l : Launch) (E : gE) (hE : gDist sh E) (bk : Nat) (k : Nat) (v1 : Int32) (v2 : Int32) (hk : shX5 k) (I : gM) (J : gN) {r : gM} (h : fX5_insert k v1 v2 I = some r) : Cu l sh E bk yX5_insert cX5_insert 5 none (gR 2) [.ref (E.2.1 k), .int v1, .int v2] I J (fun r1 I1 J1 => r1 = none ∧ I1 = r ∧ J1 = J) := by
  refine Cu.of "LeapJoin$Tables" rfl hE (by decide) (Nat.le_of_ble_eq_true rfl) (fun z F B e hl => ?_)
  subst hl
  unfold fX5_insert at h
  refine g_aload_n F 0 dX5_insert_0 rfl rfl ?_
  refine g_iload_n F 1 dX5_insert_1 rfl rfl ?_
  refine u_callV (k := k) (As := [.int v1]) (rest := []) (sn := fun r1 => [.int r1]) F B (fun _ => wX5_isTable (zl z) E hE bk k v1 hk I J) mX5_isTable q247 rfl hk.1 rfl rfl rfl (Nat.le_of_ble_eq_true rfl) dX5_insert_2 (fun _ => rfl) h (fun r1 h => ?_)
  refine u_if_eq (tgt := 29) F dX5_insert_5 (by decide) h (fun h => ?_) (fun h => ?_)
  · obtain rfl := Option.some.inj h
    exact g_vret F e dX5_insert_29 ⟨rfl, rfl, rfl⟩
  · refine g_aload_n F 0 dX5_insert_8 rfl rfl ?_
    refine g_getr (j := 4) (nn := (k + 2)) F hk.1 rfl rfl uX5 (by decide) q58 dX5_insert_9 ?_
    refine g_iload_n F 1 dX5_insert_12 rfl rfl ?_
    refine u_rI F hk.2.2.1 (by decide) dX5_insert_13 h (fun u2 h => ?_)
    refine g_bipush (v := 12) F dX5_insert_14 (by decide) ?_
    refine u_icmp_ge (tgt := 29) F dX5_insert_16 (by decide) h (fun h => ?_) (fun h => ?_)
    · obtain rfl := Option.some.inj h
      exact g_vret F e dX5_insert_29 ⟨rfl, rfl, rfl⟩
    · refine g_aload_n F 0 dX5_insert_19 rfl rfl ?_
      refine g_iload_n F 1 dX5_insert_20 rfl rfl ?_
      refine g_iload_n F 2 dX5_insert_21 rfl rfl ?_
      refine u_callV (k := k) (As := [.int v1, .int v2]) (rest := []) (sn := fun r3 => [.int r3]) F B (fun _ => wX5_placeOf (zl z) E hE bk k v1 v2 hk I J) mX5_placeOf q268 rfl hk.1 rfl rfl rfl (Nat.le_of_ble_eq_true rfl) dX5_insert_22 (fun _ => rfl) h (fun r3 h => ?_)
      refine g_iconst (v := (-1)) F dX5_insert_25 (by decide) ?_
      refine u_icmp_eq (tgt := 30) F dX5_insert_26 (by decide) h (fun h => ?_) (fun h => ?_)
      · refine g_iload_n F 1 dX5_insert_30 rfl rfl ?_
        refine g_bipush (v := 12) F dX5_insert_31 (by decide) ?_
        refine g_imul (v := v1 * 12) F dX5_insert_33 rfl ?_
        refine g_istore_n (Ln := [(3, .int (v1 * 12)), (0, .ref (E.2.1 k)), (1, .int v1), (2, .int v2)]) F dX5_insert_34 rfl (by decide) rfl ?_
        refine g_iload_n F 0 dX5_insert_35 rfl rfl ?_
        refine g_aload_n F 1 dX5_insert_36 rfl rfl ?_
        refine g_getr (j := 4) (nn := (k + 2)) F hk.1 rfl rfl uX5 (by decide) q58 dX5_insert_37 ?_
        refine g_iload_n F 2 dX5_insert_40 rfl rfl ?_
        refine u_rI F hk.2.2.1 (by decide) dX5_insert_41 h (fun u4 h => ?_)
        refine g_iadd (v := (v1 * 12) + u4) F dX5_insert_42 rfl ?_
        refine g_istore (Ln := [(4, .int ((v1 * 12) + u4)), (3, .int (v1 * 12)), (0, .ref (E.2.1 k)), (1, .int v1), (2, .int v2)]) F dX5_insert_43 (by decide) rfl ?_
        obtain ⟨w8, ew8, h⟩ := ob h
        refine g_sub (Ln := [(0, .ref (E.2.1 k)), (1, .int v1), (2, .int v2), (3, .int (v1 * 12)), (4, .int ((v1 * 12) + u4))]) [2, 3, 4, 1, 0] rfl ?_
        refine wlX5_insert_45 F B hE k v1 v2 (v1 * 12) hk J _ ew8 ?_
        refine g_sub (Ln := [(0, .ref (E.2.1 k)), (1, .int v1), (2, .int v2), (4, .int w8.1)]) [0, 1, 2, 3] rfl ?_
        exact wbX5_insert_86 F B hE k v1 v2 w8.1 hk w8.2 J h e
      · obtain rfl := Option.some.inj h
        exact g_vret F e dX5_insert_29 ⟨rfl, rfl, rfl⟩
theorem DX5_remove_0 : dAre cX5_remove [(0, .aload_n 0, 1), (1, .iload_n 1, 1), (2, .invokevirtual 52, 3), (5, .ifCond .eq 12, 3), (8, .aload_n 0, 1), (9, .iload_n 1, 1), (10, .iload_n 2, 1), (11, .invokevirtual 69, 3), (14, .goto 4, 3), (17, .iconst (-1), 1), (18, .istore_n 3, 1), (19, .iload_n 3, 1), (20, .iconst (-1), 1), (21, .if_icmp .ne 4, 3), (24, .return_, 1), (25, .aload_n 0, 1)] := dAre0 (by decide +kernel)
theorem dX5_remove_0 : decode cX5_remove 0 = .ok (.aload_n 0, 1) := DX5_remove_0.1
theorem dX5_remove_1 : decode cX5_remove 1 = .ok (.iload_n 1, 1) := DX5_remove_0.2.1
theorem dX5_remove_2 : decode cX5_remove 2 = .ok (.invokevirtual 52, 3) := DX5_remove_0.2.2.1
theorem dX5_remove_5 : decode cX5_remove 5 = .ok (.ifCond .eq 12, 3) := DX5_remove_0.2.2.2.1
theorem dX5_remove_8 : decode cX5_remove 8 = .ok (.aload_n 0, 1) := DX5_remove_0.2.2.2.2.1
theorem dX5_remove_9 : decode cX5_remove 9 = .ok (.iload_n 1, 1) := DX5_remove_0.2.2.2.2.2.1
theorem dX5_remove_10 : decode cX5_remove 10 = .ok (.iload_n 2, 1) := DX5_remove_0.2.2.2.2.2.2.1
theorem dX5_remove_11 : decode cX5_remove 11 = .ok (.invokevirtual 69, 3) := DX5_remove_0.2.2.2.2.2.2.2.1
theorem dX5_remove_14 : decode cX5_remove 14 = .ok (.goto 4, 3) := DX5_remove_0.2.2.2.2.2.2.2.2.1
theorem dX5_remove_17 : decode cX5_remove 17 = .ok (.iconst (-1), 1) := DX5_remove_0.2.2.2.2.2.2.2.2.2.1
theorem dX5_remove_18 : decode cX5_remove 18 = .ok (.istore_n 3, 1) := DX5_remove_0.2.2.2.2.2.2.2.2.2.2.1
theorem dX5_remove_19 : decode cX5_remove 19 = .ok (.iload_n 3, 1) := DX5_remove_0.2.2.2.2.2.2.2.2.2.2.2.1
theorem dX5_remove_20 : decode cX5_remove 20 = .ok (.iconst (-1), 1) := DX5_remove_0.2.2.2.2.2.2.2.2.2.2.2.2.1
theorem dX5_remove_21 : decode cX5_remove 21 = .ok (.if_icmp .ne 4, 3) := DX5_remove_0.2.2.2.2.2.2.2.2.2.2.2.2.2.1
theorem dX5_remove_24 : decode cX5_remove 24 = .ok (.return_, 1) := DX5_remove_0.2.2.2.2.2.2.2.2.2.2.2.2.2.2.1
theorem dX5_remove_25 : decode cX5_remove 25 = .ok (.aload_n 0, 1) := DX5_remove_0.2.2.2.2.2.2.2.2.2.2.2.2.2.2.2.1
theorem DX5_remove_26 : dAre cX5_remove [(26, .getfield 25, 3), (29, .iload_n 1, 1), (30, .dup2, 1), (31, .iaload, 1), (32, .iconst 1, 1), (33, .isub, 1), (34, .iastore, 1), (35, .iload_n 1, 1), (36, .bipush 12, 2), (38, .imul, 1), (39, .aload_n 0, 1), (40, .getfield 25, 3), (43, .iload_n 1, 1), (44, .iaload, 1), (45, .iadd, 1), (46, .istore 4, 2)] := dAre0 (by decide +kernel)
theorem dX5_remove_26 : decode cX5_remove 26 = .ok (.getfield 25, 3) := DX5_remove_26.1
theorem dX5_remove_29 : decode cX5_remove 29 = .ok (.iload_n 1, 1) := DX5_remove_26.2.1
theorem dX5_remove_30 : decode cX5_remove 30 = .ok (.dup2, 1) := DX5_remove_26.2.2.1
theorem dX5_remove_31 : decode cX5_remove 31 = .ok (.iaload, 1) := DX5_remove_26.2.2.2.1
theorem dX5_remove_32 : decode cX5_remove 32 = .ok (.iconst 1, 1) := DX5_remove_26.2.2.2.2.1
theorem dX5_remove_33 : decode cX5_remove 33 = .ok (.isub, 1) := DX5_remove_26.2.2.2.2.2.1
theorem dX5_remove_34 : decode cX5_remove 34 = .ok (.iastore, 1) := DX5_remove_26.2.2.2.2.2.2.1
theorem dX5_remove_35 : decode cX5_remove 35 = .ok (.iload_n 1, 1) := DX5_remove_26.2.2.2.2.2.2.2.1
theorem dX5_remove_36 : decode cX5_remove 36 = .ok (.bipush 12, 2) := DX5_remove_26.2.2.2.2.2.2.2.2.1
theorem dX5_remove_38 : decode cX5_remove 38 = .ok (.imul, 1) := DX5_remove_26.2.2.2.2.2.2.2.2.2.1
theorem dX5_remove_39 : decode cX5_remove 39 = .ok (.aload_n 0, 1) := DX5_remove_26.2.2.2.2.2.2.2.2.2.2.1
theorem dX5_remove_40 : decode cX5_remove 40 = .ok (.getfield 25, 3) := DX5_remove_26.2.2.2.2.2.2.2.2.2.2.2.1
theorem dX5_remove_43 : decode cX5_remove 43 = .ok (.iload_n 1, 1) := DX5_remove_26.2.2.2.2.2.2.2.2.2.2.2.2.1
theorem dX5_remove_44 : decode cX5_remove 44 = .ok (.iaload, 1) := DX5_remove_26.2.2.2.2.2.2.2.2.2.2.2.2.2.1
theorem dX5_remove_45 : decode cX5_remove 45 = .ok (.iadd, 1) := DX5_remove_26.2.2.2.2.2.2.2.2.2.2.2.2.2.2.1
theorem dX5_remove_46 : decode cX5_remove 46 = .ok (.istore 4, 2) := DX5_remove_26.2.2.2.2.2.2.2.2.2.2.2.2.2.2.2.1
theorem DX5_remove_48 : dAre cX5_remove [(48, .iload_n 1, 1), (49, .bipush 12, 2), (51, .imul, 1), (52, .iload_n 3, 1), (53, .iadd, 1), (54, .istore 5, 2), (56, .iload 5, 2), (58, .iload 4, 2), (60, .if_icmp .ge 25, 3), (63, .aload_n 0, 1), (64, .getfield 31, 3), (67, .iload 5, 2), (69, .aload_n 0, 1), (70, .getfield 31, 3), (73, .iload 5, 2), (75, .iconst 1, 1)] := dAre0 (by decide +kernel)
theorem dX5_remove_48 : decode cX5_remove 48 = .ok (.iload_n 1, 1) := DX5_remove_48.1
theorem dX5_remove_49 : decode cX5_remove 49 = .ok (.bipush 12, 2) := DX5_remove_48.2.1
theorem dX5_remove_51 : decode cX5_remove 51 = .ok (.imul, 1) := DX5_remove_48.2.2.1
theorem dX5_remove_52 : decode cX5_remove 52 = .ok (.iload_n 3, 1) := DX5_remove_48.2.2.2.1
theorem dX5_remove_53 : decode cX5_remove 53 = .ok (.iadd, 1) := DX5_remove_48.2.2.2.2.1
theorem dX5_remove_54 : decode cX5_remove 54 = .ok (.istore 5, 2) := DX5_remove_48.2.2.2.2.2.1
theorem dX5_remove_56 : decode cX5_remove 56 = .ok (.iload 5, 2) := DX5_remove_48.2.2.2.2.2.2.1
theorem dX5_remove_58 : decode cX5_remove 58 = .ok (.iload 4, 2) := DX5_remove_48.2.2.2.2.2.2.2.1
theorem dX5_remove_60 : decode cX5_remove 60 = .ok (.if_icmp .ge 25, 3) := DX5_remove_48.2.2.2.2.2.2.2.2.1
theorem dX5_remove_63 : decode cX5_remove 63 = .ok (.aload_n 0, 1) := DX5_remove_48.2.2.2.2.2.2.2.2.2.1
theorem dX5_remove_64 : decode cX5_remove 64 = .ok (.getfield 31, 3) := DX5_remove_48.2.2.2.2.2.2.2.2.2.2.1
theorem dX5_remove_67 : decode cX5_remove 67 = .ok (.iload 5, 2) := DX5_remove_48.2.2.2.2.2.2.2.2.2.2.2.1
theorem dX5_remove_69 : decode cX5_remove 69 = .ok (.aload_n 0, 1) := DX5_remove_48.2.2.2.2.2.2.2.2.2.2.2.2.1
theorem dX5_remove_70 : decode cX5_remove 70 = .ok (.getfield 31, 3) := DX5_remove_48.2.2.2.2.2.2.2.2.2.2.2.2.2.1
theorem dX5_remove_73 : decode cX5_remove 73 = .ok (.iload 5, 2) := DX5_remove_48.2.2.2.2.2.2.2.2.2.2.2.2.2.2.1
theorem dX5_remove_75 : decode cX5_remove 75 = .ok (.iconst 1, 1) := DX5_remove_48.2.2.2.2.2.2.2.2.2.2.2.2.2.2.2.1
theorem DX5_remove_76 : dAre cX5_remove [(76, .iadd, 1), (77, .iaload, 1), (78, .iastore, 1), (79, .iinc 5 1, 3), (82, .goto (-26), 3), (85, .return_, 1)] := dAre0 (by decide +kernel)
theorem dX5_remove_76 : decode cX5_remove 76 = .ok (.iadd, 1) := DX5_remove_76.1
theorem dX5_remove_77 : decode cX5_remove 77 = .ok (.iaload, 1) := DX5_remove_76.2.1
theorem dX5_remove_78 : decode cX5_remove 78 = .ok (.iastore, 1) := DX5_remove_76.2.2.1
theorem dX5_remove_79 : decode cX5_remove 79 = .ok (.iinc 5 1, 3) := DX5_remove_76.2.2.2.1
theorem dX5_remove_82 : decode cX5_remove 82 = .ok (.goto (-26), 3) := DX5_remove_76.2.2.2.2.1
theorem dX5_remove_85 : decode cX5_remove 85 = .ok (.return_, 1) := DX5_remove_76.2.2.2.2.2.1
theorem mX5_remove : gMv yX5_remove cX5_remove 6 none RX5 2 := ⟨q609, q1372, q3, q610, rfl, by decide, by decide, by decide +kernel⟩
noncomputable def lX5_remove_56 (k : Nat) (v4 : Int32) : (Int32 × gM) → Option (gM) :=
  itO fun s =>
    if v4 ≤ s.1 then
      some (.inr s.2)
    else
      (rI 48 (s.2 (k + 4)) (s.1 + 1)).bind fun u5 =>
      (wI s.2 (k + 4) 48 s.1 u5).bind fun I6 =>
      some (.inl (s.1 + 1, I6))
set_option maxRecDepth 100000 in
set_option maxHeartbeats 4000000 in
theorem wlX5_remove_56 {z : gZ} {E : gE} {bk : Nat} (F : Fx z sh E "LeapJoin$Tables" cX5_remove (gR 2) 6) (B : bZ z bk) (hE : gDist sh E) (k : Nat) (v4 : Int32) (hk : shX5 k) (J : gN) {r : gM} : ∀ s : Int32 × gM, lX5_remove_56 k v4 s = some r → (G z 85 [] [] r J) → G z 56 [(0, .ref (E.2.1 k)), (4, .int v4), (5, .int s.1)] [] s.2 J := by
  intro s h X0
  unfold lX5_remove_56 at h
  revert s
  refine itO_ind (P := fun s : Int32 × gM => G z 56 [(0, .ref (E.2.1 k)), (4, .int v4), (5, .int s.1)] [] s.2 J) (fun s y h hl hr => ?_)
  have K56_0 : ∀ x : gM, y = .inr x → (G z 85 [] [] x J) := fun x q => by have q2 := hr _ q; subst q2; exact X0
  refine g_iload F 2 dX5_remove_56 rfl ?_
  refine g_iload F 1 dX5_remove_58 rfl ?_
  refine u_icmp_ge (tgt := 85) F dX5_remove_60 (by decide) h (fun h => ?_) (fun h => ?_)
  · obtain rfl := Option.some.inj h
    refine g_sub (Ln := []) [] rfl ?_
    exact K56_0 s.2 rfl
  · refine g_aload_n F 0 dX5_remove_63 rfl rfl ?_
    refine g_getr (j := 6) (nn := (k + 4)) F hk.1 rfl rfl uX5 (by decide) q63 dX5_remove_64 ?_
    refine g_iload F 2 dX5_remove_67 rfl ?_
    refine g_aload_n F 0 dX5_remove_69 rfl rfl ?_
    refine g_getr (j := 6) (nn := (k + 4)) F hk.1 rfl rfl uX5 (by decide) q63 dX5_remove_70 ?_
    refine g_iload F 2 dX5_remove_73 rfl ?_
    refine g_iconst (v := 1) F dX5_remove_75 (by decide) ?_
    refine g_iadd (v := s.1 + 1) F dX5_remove_76 rfl ?_
    refine u_rI F hk.2.2.2.2 (by decide) dX5_remove_77 h (fun u5 h => ?_)
    refine u_wI F hk.2.2.2.2 (by decide) dX5_remove_78 h (fun I6 h => ?_)
    refine g_iinc (v := s.1 + 1) (Ln := [(5, .int (s.1 + 1)), (0, .ref (E.2.1 k)), (4, .int v4)]) F 2 dX5_remove_79 rfl (add_c (by decide)) (by decide) rfl ?_
    refine g_goto (tgt := 56) F dX5_remove_82 (by decide) ?_
    obtain rfl := Option.some.inj h
    refine g_sub (Ln := [(0, .ref (E.2.1 k)), (4, .int v4), (5, .int (s.1 + 1))]) [1, 2, 0] rfl ?_
    exact hl (s.1 + 1, I6) rfl
noncomputable def bX5_remove_18 (k : Nat) (v1 : Int32) (t0 : Int32) (I : gM) : Option (gM) :=
  if t0 = (-1) then
    some I
  else
    (rI 4 (I (k + 2)) v1).bind fun u2 =>
    (wI I (k + 2) 4 v1 (u2 - 1)).bind fun I3 =>
    (rI 4 (I3 (k + 2)) v1).bind fun u4 =>
    (lX5_remove_56 k ((v1 * 12) + u4) ((v1 * 12) + t0, I3)).bind fun w7 =>
    some w7
set_option maxRecDepth 100000 in
set_option maxHeartbeats 4000000 in
theorem wbX5_remove_18 {z : gZ} {E : gE} {bk : Nat} (F : Fx z sh E "LeapJoin$Tables" cX5_remove (gR 2) 6) (B : bZ z bk) (hE : gDist sh E) (k : Nat) (v1 : Int32) (t0 : Int32) (hk : shX5 k) (I : gM) (J : gN) {y : gM} (h : bX5_remove_18 k v1 t0 I = some y) (e : Fe z sh E none (fun r1 I1 J1 => r1 = none ∧ I1 = y ∧ J1 = J)) : G z 18 [(0, .ref (E.2.1 k)), (1, .int v1)] [.int t0] I J := by
  unfold bX5_remove_18 at h
  refine g_istore_n (Ln := [(3, .int t0), (0, .ref (E.2.1 k)), (1, .int v1)]) F dX5_remove_18 rfl (by decide) rfl ?_
  refine g_iload_n F 0 dX5_remove_19 rfl rfl ?_
  refine g_iconst (v := (-1)) F dX5_remove_20 (by decide) ?_
  refine u_icmp_ne (tgt := 25) F dX5_remove_21 (by decide) h (fun h => ?_) (fun h => ?_)
  · obtain rfl := Option.some.inj h
    exact g_vret F e dX5_remove_24 ⟨rfl, rfl, rfl⟩
  · refine g_aload_n F 1 dX5_remove_25 rfl rfl ?_
    refine g_getr (j := 4) (nn := (k + 2)) F hk.1 rfl rfl uX5 (by decide) q58 dX5_remove_26 ?_
    refine g_iload_n F 2 dX5_remove_29 rfl rfl ?_
    refine g_dup2 F dX5_remove_30 rfl rfl ?_
    refine u_rI F hk.2.2.1 (by decide) dX5_remove_31 h (fun u2 h => ?_)
    refine g_iconst (v := 1) F dX5_remove_32 (by decide) ?_
    refine g_isub (v := u2 - 1) F dX5_remove_33 rfl ?_
    refine u_wI F hk.2.2.1 (by decide) dX5_remove_34 h (fun I3 h => ?_)
    refine g_iload_n F 2 dX5_remove_35 rfl rfl ?_
    refine g_bipush (v := 12) F dX5_remove_36 (by decide) ?_
    refine g_imul (v := v1 * 12) F dX5_remove_38 rfl ?_
    refine g_aload_n F 1 dX5_remove_39 rfl rfl ?_
    refine g_getr (j := 4) (nn := (k + 2)) F hk.1 rfl rfl uX5 (by decide) q58 dX5_remove_40 ?_
    refine g_iload_n F 2 dX5_remove_43 rfl rfl ?_
    refine u_rI F hk.2.2.1 (by decide) dX5_remove_44 h (fun u4 h => ?_)
    refine g_iadd (v := (v1 * 12) + u4) F dX5_remove_45 rfl ?_
    refine g_istore (Ln := [(4, .int ((v1 * 12) + u4)), (3, .int t0), (0, .ref (E.2.1 k)), (1, .int v1)]) F dX5_remove_46 (by decide) rfl ?_
    refine g_iload_n F 3 dX5_remove_48 rfl rfl ?_
    refine g_bipush (v := 12) F dX5_remove_49 (by decide) ?_
    refine g_imul (v := v1 * 12) F dX5_remove_51 rfl ?_
    refine g_iload_n F 1 dX5_remove_52 rfl rfl ?_
    refine g_iadd (v := (v1 * 12) + t0) F dX5_remove_53 rfl ?_
    refine g_istore (Ln := [(5, .int ((v1 * 12) + t0)), (4, .int ((v1 * 12) + u4)), (3, .int t0), (0, .ref (E.2.1 k)), (1, .int v1)]) F dX5_remove_54 (by decide) rfl ?_
    obtain ⟨w7, ew7, h⟩ := ob h
    refine g_sub (Ln := [(0, .ref (E.2.1 k)), (4, .int ((v1 * 12) + u4)), (5, .int ((v1 * 12) + t0))]) [3, 1, 0] rfl ?_
    refine wlX5_remove_56 F B hE k ((v1 * 12) + u4) hk J _ ew7 ?_
    obtain rfl := Option.some.inj h
    exact g_vret F e dX5_remove_85 ⟨rfl, rfl, rfl⟩
noncomputable def fX5_remove (k : Nat) (v1 : Int32) (v2 : Int32) (I : gM) : Option (gM) :=
  (fX5_isTable k v1 I).bind fun r1 =>
  if r1 = 0 then
    bX5_remove_18 k v1 ((-1) : Int32) I
  else
    (fX5_placeOf k v1 v2 I).bind fun r8 =>
    bX5_remove_18 k v1 r8 I
set_option maxRecDepth 100000 in
set_option maxHeartbeats 4000000 in
theorem wX5_remove (l : Launch) (E : gE) (hE : gDist sh E) (bk : Nat) (k : Nat) (v1 : Int32) (v2 : Int32) (hk : shX5 k) (I : gM) (J : gN) {r : gM} (h : fX5_remove k v1 v2 I = some r) : Cu l sh E bk yX5_remove cX5_remove 6 none (gR 2) [.ref (E.2.1 k), .int v1, .int v2] I J (fun r1 I1 J1 => r1 = none ∧ I1 = r ∧ J1 = J) := by
  refine Cu.of "LeapJoin$Tables" rfl hE (by decide) (Nat.le_of_ble_eq_true rfl) (fun z F B e hl => ?_)
  subst hl
  unfold fX5_remove at h
  refine g_aload_n F 0 dX5_remove_0 rfl rfl ?_
  refine g_iload_n F 1 dX5_remove_1 rfl rfl ?_
  refine u_callV (k := k) (As := [.int v1]) (rest := []) (sn := fun r1 => [.int r1]) F B (fun _ => wX5_isTable (zl z) E hE bk k v1 hk I J) mX5_isTable q247 rfl hk.1 rfl rfl rfl (Nat.le_of_ble_eq_true rfl) dX5_remove_2 (fun _ => rfl) h (fun r1 h => ?_)
  refine u_if_eq (tgt := 17) F dX5_remove_5 (by decide) h (fun h => ?_) (fun h => ?_)
  · refine g_iconst (v := (-1)) F dX5_remove_17 (by decide) ?_
    refine g_sub (Ln := [(0, .ref (E.2.1 k)), (1, .int v1)]) [0, 1] rfl ?_
    exact wbX5_remove_18 F B hE k v1 ((-1) : Int32) hk I J h e
  · refine g_aload_n F 0 dX5_remove_8 rfl rfl ?_
    refine g_iload_n F 1 dX5_remove_9 rfl rfl ?_
    refine g_iload_n F 2 dX5_remove_10 rfl rfl ?_
    refine u_callV (k := k) (As := [.int v1, .int v2]) (rest := []) (sn := fun r8 => [.int r8]) F B (fun _ => wX5_placeOf (zl z) E hE bk k v1 v2 hk I J) mX5_placeOf q268 rfl hk.1 rfl rfl rfl (Nat.le_of_ble_eq_true rfl) dX5_remove_11 (fun _ => rfl) h (fun r8 h => ?_)
    refine g_goto (tgt := 18) F dX5_remove_14 (by decide) ?_
    refine g_sub (Ln := [(0, .ref (E.2.1 k)), (1, .int v1)]) [0, 1] rfl ?_
    exact wbX5_remove_18 F B hE k v1 r8 hk I J h e
theorem DX5_change_0 : dAre cX5_change [(0, .iload_n 1, 1), (1, .ifCond .ne 12, 3), (4, .aload_n 0, 1), (5, .iload_n 2, 1), (6, .iload_n 3, 1), (7, .invokevirtual 80, 3), (10, .goto 42, 3), (13, .iload_n 1, 1), (14, .iconst 1, 1), (15, .if_icmp .ne 12, 3), (18, .aload_n 0, 1), (19, .iload_n 2, 1), (20, .iload_n 3, 1), (21, .invokevirtual 84, 3), (24, .goto 28, 3), (27, .iload_n 1, 1)] := dAre0 (by decide +kernel)
theorem dX5_change_0 : decode cX5_change 0 = .ok (.iload_n 1, 1) := DX5_change_0.1
theorem dX5_change_1 : decode cX5_change 1 = .ok (.ifCond .ne 12, 3) := DX5_change_0.2.1
theorem dX5_change_4 : decode cX5_change 4 = .ok (.aload_n 0, 1) := DX5_change_0.2.2.1
theorem dX5_change_5 : decode cX5_change 5 = .ok (.iload_n 2, 1) := DX5_change_0.2.2.2.1
theorem dX5_change_6 : decode cX5_change 6 = .ok (.iload_n 3, 1) := DX5_change_0.2.2.2.2.1
theorem dX5_change_7 : decode cX5_change 7 = .ok (.invokevirtual 80, 3) := DX5_change_0.2.2.2.2.2.1
theorem dX5_change_10 : decode cX5_change 10 = .ok (.goto 42, 3) := DX5_change_0.2.2.2.2.2.2.1
theorem dX5_change_13 : decode cX5_change 13 = .ok (.iload_n 1, 1) := DX5_change_0.2.2.2.2.2.2.2.1
theorem dX5_change_14 : decode cX5_change 14 = .ok (.iconst 1, 1) := DX5_change_0.2.2.2.2.2.2.2.2.1
theorem dX5_change_15 : decode cX5_change 15 = .ok (.if_icmp .ne 12, 3) := DX5_change_0.2.2.2.2.2.2.2.2.2.1
theorem dX5_change_18 : decode cX5_change 18 = .ok (.aload_n 0, 1) := DX5_change_0.2.2.2.2.2.2.2.2.2.2.1
theorem dX5_change_19 : decode cX5_change 19 = .ok (.iload_n 2, 1) := DX5_change_0.2.2.2.2.2.2.2.2.2.2.2.1
theorem dX5_change_20 : decode cX5_change 20 = .ok (.iload_n 3, 1) := DX5_change_0.2.2.2.2.2.2.2.2.2.2.2.2.1
theorem dX5_change_21 : decode cX5_change 21 = .ok (.invokevirtual 84, 3) := DX5_change_0.2.2.2.2.2.2.2.2.2.2.2.2.2.1
theorem dX5_change_24 : decode cX5_change 24 = .ok (.goto 28, 3) := DX5_change_0.2.2.2.2.2.2.2.2.2.2.2.2.2.2.1
theorem dX5_change_27 : decode cX5_change 27 = .ok (.iload_n 1, 1) := DX5_change_0.2.2.2.2.2.2.2.2.2.2.2.2.2.2.2.1
theorem DX5_change_28 : dAre cX5_change [(28, .iconst 2, 1), (29, .if_icmp .ne 18, 3), (32, .aload_n 0, 1), (33, .dup, 1), (34, .getfield 15, 3), (37, .iconst 1, 1), (38, .iload_n 2, 1), (39, .ishl, 1), (40, .ixor, 1), (41, .putfield 15, 3), (44, .goto 8, 3), (47, .aload_n 0, 1), (48, .iload_n 2, 1), (49, .putfield 18, 3), (52, .return_, 1)] := dAre0 (by decide +kernel)
theorem dX5_change_28 : decode cX5_change 28 = .ok (.iconst 2, 1) := DX5_change_28.1
theorem dX5_change_29 : decode cX5_change 29 = .ok (.if_icmp .ne 18, 3) := DX5_change_28.2.1
theorem dX5_change_32 : decode cX5_change 32 = .ok (.aload_n 0, 1) := DX5_change_28.2.2.1
theorem dX5_change_33 : decode cX5_change 33 = .ok (.dup, 1) := DX5_change_28.2.2.2.1
theorem dX5_change_34 : decode cX5_change 34 = .ok (.getfield 15, 3) := DX5_change_28.2.2.2.2.1
theorem dX5_change_37 : decode cX5_change 37 = .ok (.iconst 1, 1) := DX5_change_28.2.2.2.2.2.1
theorem dX5_change_38 : decode cX5_change 38 = .ok (.iload_n 2, 1) := DX5_change_28.2.2.2.2.2.2.1
theorem dX5_change_39 : decode cX5_change 39 = .ok (.ishl, 1) := DX5_change_28.2.2.2.2.2.2.2.1
theorem dX5_change_40 : decode cX5_change 40 = .ok (.ixor, 1) := DX5_change_28.2.2.2.2.2.2.2.2.1
theorem dX5_change_41 : decode cX5_change 41 = .ok (.putfield 15, 3) := DX5_change_28.2.2.2.2.2.2.2.2.2.1
theorem dX5_change_44 : decode cX5_change 44 = .ok (.goto 8, 3) := DX5_change_28.2.2.2.2.2.2.2.2.2.2.1
theorem dX5_change_47 : decode cX5_change 47 = .ok (.aload_n 0, 1) := DX5_change_28.2.2.2.2.2.2.2.2.2.2.2.1
theorem dX5_change_48 : decode cX5_change 48 = .ok (.iload_n 2, 1) := DX5_change_28.2.2.2.2.2.2.2.2.2.2.2.2.1
theorem dX5_change_49 : decode cX5_change 49 = .ok (.putfield 18, 3) := DX5_change_28.2.2.2.2.2.2.2.2.2.2.2.2.2.1
theorem dX5_change_52 : decode cX5_change 52 = .ok (.return_, 1) := DX5_change_28.2.2.2.2.2.2.2.2.2.2.2.2.2.2.1
theorem mX5_change : gMv yX5_change cX5_change 4 none RX5 3 := ⟨q604, q605, q3, q606, rfl, by decide, by decide, by decide +kernel⟩
noncomputable def fX5_change (k : Nat) (v1 : Int32) (v2 : Int32) (v3 : Int32) (I : gM) : Option (gM) :=
  if v1 = 0 then
    (fX5_insert k v2 v3 I).bind fun r1 =>
    some r1
  else
    if v1 = 1 then
      (fX5_remove k v2 v3 I).bind fun r2 =>
      some r2
    else
      if v1 = 2 then
        (pU I k 1 ((I k 1) ^^^ ((1 : Int32) <<< (v2 &&& 31)))).bind fun I3 =>
        some I3
      else
        (pU I k 2 v2).bind fun I4 =>
        some I4
set_option maxRecDepth 100000 in
set_option maxHeartbeats 4000000 in
theorem wX5_change (l : Launch) (E : gE) (hE : gDist sh E) (bk : Nat) (k : Nat) (v1 : Int32) (v2 : Int32) (v3 : Int32) (hk : shX5 k) (I : gM) (J : gN) {r : gM} (h : fX5_change k v1 v2 v3 I = some r) : Cu l sh E bk yX5_change cX5_change 4 none (gR 3) [.ref (E.2.1 k), .int v1, .int v2, .int v3] I J (fun r1 I1 J1 => r1 = none ∧ I1 = r ∧ J1 = J) := by
  refine Cu.of "LeapJoin$Tables" rfl hE (by decide) (Nat.le_of_ble_eq_true rfl) (fun z F B e hl => ?_)
  subst hl
  unfold fX5_change at h
  refine g_iload_n F 1 dX5_change_0 rfl rfl ?_
  refine u_if_ne (tgt := 13) F dX5_change_1 (by decide) h (fun h => ?_) (fun h => ?_)
  · refine g_aload_n F 0 dX5_change_4 rfl rfl ?_
    refine g_iload_n F 2 dX5_change_5 rfl rfl ?_
    refine g_iload_n F 3 dX5_change_6 rfl rfl ?_
    refine u_callV (k := k) (As := [.int v2, .int v3]) (rest := []) (sn := fun _ => []) F B (fun _ => wX5_insert (zl z) E hE bk k v2 v3 hk I J) mX5_insert q607 rfl hk.1 rfl rfl rfl (Nat.le_of_ble_eq_true rfl) dX5_change_7 (fun _ => rfl) h (fun r1 h => ?_)
    refine g_goto (tgt := 52) F dX5_change_10 (by decide) ?_
    obtain rfl := Option.some.inj h
    exact g_vret F e dX5_change_52 ⟨rfl, rfl, rfl⟩
  · refine g_iload_n F 1 dX5_change_13 rfl rfl ?_
    refine g_iconst (v := 1) F dX5_change_14 (by decide) ?_
    refine u_icmp_ne (tgt := 27) F dX5_change_15 (by decide) h (fun h => ?_) (fun h => ?_)
    · refine g_aload_n F 0 dX5_change_18 rfl rfl ?_
      refine g_iload_n F 2 dX5_change_19 rfl rfl ?_
      refine g_iload_n F 3 dX5_change_20 rfl rfl ?_
      refine u_callV (k := k) (As := [.int v2, .int v3]) (rest := []) (sn := fun _ => []) F B (fun _ => wX5_remove (zl z) E hE bk k v2 v3 hk I J) mX5_remove q608 rfl hk.1 rfl rfl rfl (Nat.le_of_ble_eq_true rfl) dX5_change_21 (fun _ => rfl) h (fun r2 h => ?_)
      refine g_goto (tgt := 52) F dX5_change_24 (by decide) ?_
      obtain rfl := Option.some.inj h
      exact g_vret F e dX5_change_52 ⟨rfl, rfl, rfl⟩
    · refine g_iload_n F 1 dX5_change_27 rfl rfl ?_
      refine g_iconst (v := 2) F dX5_change_28 (by decide) ?_
      refine u_icmp_ne (tgt := 47) F dX5_change_29 (by decide) h (fun h => ?_) (fun h => ?_)
      · refine g_aload_n F 0 dX5_change_32 rfl rfl ?_
        refine g_dup F dX5_change_33 rfl ?_
        refine g_geti (j := 1) (v := I k 1) F hk.1 rfl rfl uX5 (by decide) q51 rfl dX5_change_34 ?_
        refine g_iconst (v := 1) F dX5_change_37 (by decide) ?_
        refine g_iload_n F 2 dX5_change_38 rfl rfl ?_
        refine g_ishl (v := (1 : Int32) <<< (v2 &&& 31)) F dX5_change_39 rfl ?_
        refine g_ixor (v := (I k 1) ^^^ ((1 : Int32) <<< (v2 &&& 31))) F dX5_change_40 rfl ?_
        refine u_puti (j := 1) F hk.1 rfl rfl uX5 (by decide) q51 tyX5_ok nmX5 rfl rfl rfl dX5_change_41 h (fun I3 h => ?_)
        refine g_goto (tgt := 52) F dX5_change_44 (by decide) ?_
        obtain rfl := Option.some.inj h
        exact g_vret F e dX5_change_52 ⟨rfl, rfl, rfl⟩
      · refine g_aload_n F 0 dX5_change_47 rfl rfl ?_
        refine g_iload_n F 2 dX5_change_48 rfl rfl ?_
        refine u_puti (j := 2) F hk.1 rfl rfl uX5 (by decide) q53 tyX5_ok nmX5 rfl rfl rfl dX5_change_49 h (fun I4 h => ?_)
        obtain rfl := Option.some.inj h
        exact g_vret F e dX5_change_52 ⟨rfl, rfl, rfl⟩
theorem DX4_rehearse_0 : dAre cX4_rehearse [(0, .iconst 0, 1), (1, .istore_n 2, 1), (2, .iload_n 2, 1), (3, .aload_n 0, 1), (4, .getfield 9, 3), (7, .if_icmp .ge 83, 3), (10, .aload_n 0, 1), (11, .iload_n 2, 1), (12, .iconst 0, 1), (13, .invokevirtual 31, 3), (16, .istore_n 3, 1), (17, .aload_n 0, 1), (18, .iload_n 2, 1), (19, .iconst 1, 1), (20, .invokevirtual 31, 3), (23, .istore 4, 2)] := dAre0 (by decide +kernel)
theorem dX4_rehearse_0 : decode cX4_rehearse 0 = .ok (.iconst 0, 1) := DX4_rehearse_0.1
theorem dX4_rehearse_1 : decode cX4_rehearse 1 = .ok (.istore_n 2, 1) := DX4_rehearse_0.2.1
theorem dX4_rehearse_2 : decode cX4_rehearse 2 = .ok (.iload_n 2, 1) := DX4_rehearse_0.2.2.1
theorem dX4_rehearse_3 : decode cX4_rehearse 3 = .ok (.aload_n 0, 1) := DX4_rehearse_0.2.2.2.1
theorem dX4_rehearse_4 : decode cX4_rehearse 4 = .ok (.getfield 9, 3) := DX4_rehearse_0.2.2.2.2.1
theorem dX4_rehearse_7 : decode cX4_rehearse 7 = .ok (.if_icmp .ge 83, 3) := DX4_rehearse_0.2.2.2.2.2.1
theorem dX4_rehearse_10 : decode cX4_rehearse 10 = .ok (.aload_n 0, 1) := DX4_rehearse_0.2.2.2.2.2.2.1
theorem dX4_rehearse_11 : decode cX4_rehearse 11 = .ok (.iload_n 2, 1) := DX4_rehearse_0.2.2.2.2.2.2.2.1
theorem dX4_rehearse_12 : decode cX4_rehearse 12 = .ok (.iconst 0, 1) := DX4_rehearse_0.2.2.2.2.2.2.2.2.1
theorem dX4_rehearse_13 : decode cX4_rehearse 13 = .ok (.invokevirtual 31, 3) := DX4_rehearse_0.2.2.2.2.2.2.2.2.2.1
theorem dX4_rehearse_16 : decode cX4_rehearse 16 = .ok (.istore_n 3, 1) := DX4_rehearse_0.2.2.2.2.2.2.2.2.2.2.1
theorem dX4_rehearse_17 : decode cX4_rehearse 17 = .ok (.aload_n 0, 1) := DX4_rehearse_0.2.2.2.2.2.2.2.2.2.2.2.1
theorem dX4_rehearse_18 : decode cX4_rehearse 18 = .ok (.iload_n 2, 1) := DX4_rehearse_0.2.2.2.2.2.2.2.2.2.2.2.2.1
theorem dX4_rehearse_19 : decode cX4_rehearse 19 = .ok (.iconst 1, 1) := DX4_rehearse_0.2.2.2.2.2.2.2.2.2.2.2.2.2.1
theorem dX4_rehearse_20 : decode cX4_rehearse 20 = .ok (.invokevirtual 31, 3) := DX4_rehearse_0.2.2.2.2.2.2.2.2.2.2.2.2.2.2.1
theorem dX4_rehearse_23 : decode cX4_rehearse 23 = .ok (.istore 4, 2) := DX4_rehearse_0.2.2.2.2.2.2.2.2.2.2.2.2.2.2.2.1
theorem DX4_rehearse_25 : dAre cX4_rehearse [(25, .aload_n 0, 1), (26, .iload_n 2, 1), (27, .iconst 2, 1), (28, .invokevirtual 31, 3), (31, .istore 5, 2), (33, .aload_n 0, 1), (34, .iload_n 2, 1), (35, .iconst 3, 1), (36, .invokevirtual 31, 3), (39, .istore 6, 2), (41, .aload_n 0, 1), (42, .iload_n 2, 1), (43, .iconst 4, 1), (44, .invokevirtual 31, 3), (47, .istore 7, 2), (49, .aload_n 1, 1)] := dAre0 (by decide +kernel)
theorem dX4_rehearse_25 : decode cX4_rehearse 25 = .ok (.aload_n 0, 1) := DX4_rehearse_25.1
theorem dX4_rehearse_26 : decode cX4_rehearse 26 = .ok (.iload_n 2, 1) := DX4_rehearse_25.2.1
theorem dX4_rehearse_27 : decode cX4_rehearse 27 = .ok (.iconst 2, 1) := DX4_rehearse_25.2.2.1
theorem dX4_rehearse_28 : decode cX4_rehearse 28 = .ok (.invokevirtual 31, 3) := DX4_rehearse_25.2.2.2.1
theorem dX4_rehearse_31 : decode cX4_rehearse 31 = .ok (.istore 5, 2) := DX4_rehearse_25.2.2.2.2.1
theorem dX4_rehearse_33 : decode cX4_rehearse 33 = .ok (.aload_n 0, 1) := DX4_rehearse_25.2.2.2.2.2.1
theorem dX4_rehearse_34 : decode cX4_rehearse 34 = .ok (.iload_n 2, 1) := DX4_rehearse_25.2.2.2.2.2.2.1
theorem dX4_rehearse_35 : decode cX4_rehearse 35 = .ok (.iconst 3, 1) := DX4_rehearse_25.2.2.2.2.2.2.2.1
theorem dX4_rehearse_36 : decode cX4_rehearse 36 = .ok (.invokevirtual 31, 3) := DX4_rehearse_25.2.2.2.2.2.2.2.2.1
theorem dX4_rehearse_39 : decode cX4_rehearse 39 = .ok (.istore 6, 2) := DX4_rehearse_25.2.2.2.2.2.2.2.2.2.1
theorem dX4_rehearse_41 : decode cX4_rehearse 41 = .ok (.aload_n 0, 1) := DX4_rehearse_25.2.2.2.2.2.2.2.2.2.2.1
theorem dX4_rehearse_42 : decode cX4_rehearse 42 = .ok (.iload_n 2, 1) := DX4_rehearse_25.2.2.2.2.2.2.2.2.2.2.2.1
theorem dX4_rehearse_43 : decode cX4_rehearse 43 = .ok (.iconst 4, 1) := DX4_rehearse_25.2.2.2.2.2.2.2.2.2.2.2.2.1
theorem dX4_rehearse_44 : decode cX4_rehearse 44 = .ok (.invokevirtual 31, 3) := DX4_rehearse_25.2.2.2.2.2.2.2.2.2.2.2.2.2.1
theorem dX4_rehearse_47 : decode cX4_rehearse 47 = .ok (.istore 7, 2) := DX4_rehearse_25.2.2.2.2.2.2.2.2.2.2.2.2.2.2.1
theorem dX4_rehearse_49 : decode cX4_rehearse 49 = .ok (.aload_n 1, 1) := DX4_rehearse_25.2.2.2.2.2.2.2.2.2.2.2.2.2.2.2.1
theorem DX4_rehearse_50 : dAre cX4_rehearse [(50, .iload_n 3, 1), (51, .iload 4, 2), (53, .iload 5, 2), (55, .iload 6, 2), (57, .iload 7, 2), (59, .invokevirtual 35, 3), (62, .iconst (-1), 1), (63, .if_icmp .eq 5, 3), (66, .iload_n 2, 1), (67, .ireturn, 1), (68, .aload_n 1, 1), (69, .iload_n 3, 1), (70, .iload 4, 2), (72, .iload 5, 2), (74, .iload 6, 2), (76, .iload 7, 2)] := dAre0 (by decide +kernel)
theorem dX4_rehearse_50 : decode cX4_rehearse 50 = .ok (.iload_n 3, 1) := DX4_rehearse_50.1
theorem dX4_rehearse_51 : decode cX4_rehearse 51 = .ok (.iload 4, 2) := DX4_rehearse_50.2.1
theorem dX4_rehearse_53 : decode cX4_rehearse 53 = .ok (.iload 5, 2) := DX4_rehearse_50.2.2.1
theorem dX4_rehearse_55 : decode cX4_rehearse 55 = .ok (.iload 6, 2) := DX4_rehearse_50.2.2.2.1
theorem dX4_rehearse_57 : decode cX4_rehearse 57 = .ok (.iload 7, 2) := DX4_rehearse_50.2.2.2.2.1
theorem dX4_rehearse_59 : decode cX4_rehearse 59 = .ok (.invokevirtual 35, 3) := DX4_rehearse_50.2.2.2.2.2.1
theorem dX4_rehearse_62 : decode cX4_rehearse 62 = .ok (.iconst (-1), 1) := DX4_rehearse_50.2.2.2.2.2.2.1
theorem dX4_rehearse_63 : decode cX4_rehearse 63 = .ok (.if_icmp .eq 5, 3) := DX4_rehearse_50.2.2.2.2.2.2.2.1
theorem dX4_rehearse_66 : decode cX4_rehearse 66 = .ok (.iload_n 2, 1) := DX4_rehearse_50.2.2.2.2.2.2.2.2.1
theorem dX4_rehearse_67 : decode cX4_rehearse 67 = .ok (.ireturn, 1) := DX4_rehearse_50.2.2.2.2.2.2.2.2.2.1
theorem dX4_rehearse_68 : decode cX4_rehearse 68 = .ok (.aload_n 1, 1) := DX4_rehearse_50.2.2.2.2.2.2.2.2.2.2.1
theorem dX4_rehearse_69 : decode cX4_rehearse 69 = .ok (.iload_n 3, 1) := DX4_rehearse_50.2.2.2.2.2.2.2.2.2.2.2.1
theorem dX4_rehearse_70 : decode cX4_rehearse 70 = .ok (.iload 4, 2) := DX4_rehearse_50.2.2.2.2.2.2.2.2.2.2.2.2.1
theorem dX4_rehearse_72 : decode cX4_rehearse 72 = .ok (.iload 5, 2) := DX4_rehearse_50.2.2.2.2.2.2.2.2.2.2.2.2.2.1
theorem dX4_rehearse_74 : decode cX4_rehearse 74 = .ok (.iload 6, 2) := DX4_rehearse_50.2.2.2.2.2.2.2.2.2.2.2.2.2.2.1
theorem dX4_rehearse_76 : decode cX4_rehearse 76 = .ok (.iload 7, 2) := DX4_rehearse_50.2.2.2.2.2.2.2.2.2.2.2.2.2.2.2.1
theorem DX4_rehearse_78 : dAre cX4_rehearse [(78, .invokestatic 41, 3), (81, .invokevirtual 45, 3), (84, .iinc 2 1, 3), (87, .goto (-85), 3), (90, .aload_n 0, 1), (91, .getfield 9, 3), (94, .ireturn, 1)] := dAre0 (by decide +kernel)
theorem dX4_rehearse_78 : decode cX4_rehearse 78 = .ok (.invokestatic 41, 3) := DX4_rehearse_78.1
theorem dX4_rehearse_81 : decode cX4_rehearse 81 = .ok (.invokevirtual 45, 3) := DX4_rehearse_78.2.1
theorem dX4_rehearse_84 : decode cX4_rehearse 84 = .ok (.iinc 2 1, 3) := DX4_rehearse_78.2.2.1
theorem dX4_rehearse_87 : decode cX4_rehearse 87 = .ok (.goto (-85), 3) := DX4_rehearse_78.2.2.2.1
theorem dX4_rehearse_90 : decode cX4_rehearse 90 = .ok (.aload_n 0, 1) := DX4_rehearse_78.2.2.2.2.1
theorem dX4_rehearse_91 : decode cX4_rehearse 91 = .ok (.getfield 9, 3) := DX4_rehearse_78.2.2.2.2.2.1
theorem dX4_rehearse_94 : decode cX4_rehearse 94 = .ok (.ireturn, 1) := DX4_rehearse_78.2.2.2.2.2.2.1
theorem mX4_rehearse : gMv yX4_rehearse cX4_rehearse 8 (some .int) RX4 1 := ⟨q706, q707, q9, q708, rfl, by decide, by decide, by decide +kernel⟩
noncomputable def lX4_rehearse_2 (k : Nat) (k1 : Nat) : (Int32 × gM) → Option ((Int32 × gM) ⊕ (gM)) :=
  itO fun s =>
    if (s.2 k 0) ≤ s.1 then
      some (.inr (.inr s.2))
    else
      (fX4_partOf k s.1 (0 : Int32) s.2).bind fun r1 =>
      (fX4_partOf k s.1 (1 : Int32) s.2).bind fun r2 =>
      (fX4_partOf k s.1 (2 : Int32) s.2).bind fun r3 =>
      (fX4_partOf k s.1 (3 : Int32) s.2).bind fun r4 =>
      (fX4_partOf k s.1 (4 : Int32) s.2).bind fun r5 =>
      (fX5_refusal k1 r1 r2 r3 r4 r5 s.2).bind fun r6 =>
      if r6 = (-1) then
        (fX5_packed r3 r4 r5).bind fun r7 =>
        (fX5_change k1 r1 r2 r7 s.2).bind fun r8 =>
        some (.inl (s.1 + 1, r8))
      else
        some (.inr (.inl (s.1, s.2)))
set_option maxRecDepth 100000 in
set_option maxHeartbeats 4000000 in
theorem wlX4_rehearse_2 {z : gZ} {E : gE} {bk : Nat} (F : Fx z sh E "LeapJoin$Script" cX4_rehearse (gR 4) 8) (B : bZ z bk) (hE : gDist sh E) (k : Nat) (k1 : Nat) (hk : shX4 k) (hk1 : shX5 k1) (J : gN) {r : (Int32 × gM) ⊕ (gM)} : ∀ s : Int32 × gM, lX4_rehearse_2 k k1 s = some r → (∀ x : Int32 × gM, r = .inl x → G z 66 [(2, .int x.1)] [] x.2 J) → (∀ x : gM, r = .inr x → G z 90 [(0, .ref (E.2.1 k))] [] x J) → G z 2 [(0, .ref (E.2.1 k)), (1, .ref (E.2.1 k1)), (2, .int s.1)] [] s.2 J := by
  intro s h X0 X1
  unfold lX4_rehearse_2 at h
  revert s
  refine itO_ind (P := fun s : Int32 × gM => G z 2 [(0, .ref (E.2.1 k)), (1, .ref (E.2.1 k1)), (2, .int s.1)] [] s.2 J) (fun s y h hl hr => ?_)
  have K2_0 := fun (x : Int32 × gM) (q : y = .inr (.inl x)) => X0 x (hr _ q).symm
  have K2_1 := fun (x : gM) (q : y = .inr (.inr x)) => X1 x (hr _ q).symm
  refine g_iload_n F 2 dX4_rehearse_2 rfl rfl ?_
  refine g_aload_n F 0 dX4_rehearse_3 rfl rfl ?_
  refine g_geti (j := 0) (v := s.2 k 0) F hk.1 rfl rfl uX4 (by decide) q164 rfl dX4_rehearse_4 ?_
  refine u_icmp_ge (tgt := 90) F dX4_rehearse_7 (by decide) h (fun h => ?_) (fun h => ?_)
  · obtain rfl := Option.some.inj h
    refine g_sub (Ln := [(0, .ref (E.2.1 k))]) [0] rfl ?_
    exact K2_1 s.2 rfl
  · refine g_aload_n F 0 dX4_rehearse_10 rfl rfl ?_
    refine g_iload_n F 2 dX4_rehearse_11 rfl rfl ?_
    refine g_iconst (v := 0) F dX4_rehearse_12 (by decide) ?_
    refine u_callV (k := k) (As := [.int s.1, .int 0]) (rest := []) (sn := fun r1 => [.int r1]) F B (fun _ => wX4_partOf (zl z) E hE bk k s.1 (0 : Int32) hk s.2 J) mX4_partOf q709 rfl hk.1 rfl rfl rfl (Nat.le_of_ble_eq_true rfl) dX4_rehearse_13 (fun _ => rfl) h (fun r1 h => ?_)
    refine g_istore_n (Ln := [(3, .int r1), (0, .ref (E.2.1 k)), (1, .ref (E.2.1 k1)), (2, .int s.1)]) F dX4_rehearse_16 rfl (by decide) rfl ?_
    refine g_aload_n F 1 dX4_rehearse_17 rfl rfl ?_
    refine g_iload_n F 3 dX4_rehearse_18 rfl rfl ?_
    refine g_iconst (v := 1) F dX4_rehearse_19 (by decide) ?_
    refine u_callV (k := k) (As := [.int s.1, .int 1]) (rest := []) (sn := fun r2 => [.int r2]) F B (fun _ => wX4_partOf (zl z) E hE bk k s.1 (1 : Int32) hk s.2 J) mX4_partOf q709 rfl hk.1 rfl rfl rfl (Nat.le_of_ble_eq_true rfl) dX4_rehearse_20 (fun _ => rfl) h (fun r2 h => ?_)
    refine g_istore (Ln := [(4, .int r2), (3, .int r1), (0, .ref (E.2.1 k)), (1, .ref (E.2.1 k1)), (2, .int s.1)]) F dX4_rehearse_23 (by decide) rfl ?_
    refine g_aload_n F 2 dX4_rehearse_25 rfl rfl ?_
    refine g_iload_n F 4 dX4_rehearse_26 rfl rfl ?_
    refine g_iconst (v := 2) F dX4_rehearse_27 (by decide) ?_
    refine u_callV (k := k) (As := [.int s.1, .int 2]) (rest := []) (sn := fun r3 => [.int r3]) F B (fun _ => wX4_partOf (zl z) E hE bk k s.1 (2 : Int32) hk s.2 J) mX4_partOf q709 rfl hk.1 rfl rfl rfl (Nat.le_of_ble_eq_true rfl) dX4_rehearse_28 (fun _ => rfl) h (fun r3 h => ?_)
    refine g_istore (Ln := [(5, .int r3), (4, .int r2), (3, .int r1), (0, .ref (E.2.1 k)), (1, .ref (E.2.1 k1)), (2, .int s.1)]) F dX4_rehearse_31 (by decide) rfl ?_
    refine g_aload_n F 3 dX4_rehearse_33 rfl rfl ?_
    refine g_iload_n F 5 dX4_rehearse_34 rfl rfl ?_
    refine g_iconst (v := 3) F dX4_rehearse_35 (by decide) ?_
    refine u_callV (k := k) (As := [.int s.1, .int 3]) (rest := []) (sn := fun r4 => [.int r4]) F B (fun _ => wX4_partOf (zl z) E hE bk k s.1 (3 : Int32) hk s.2 J) mX4_partOf q709 rfl hk.1 rfl rfl rfl (Nat.le_of_ble_eq_true rfl) dX4_rehearse_36 (fun _ => rfl) h (fun r4 h => ?_)
    refine g_istore (Ln := [(6, .int r4), (5, .int r3), (4, .int r2), (3, .int r1), (0, .ref (E.2.1 k)), (1, .ref (E.2.1 k1)), (2, .int s.1)]) F dX4_rehearse_39 (by decide) rfl ?_
    refine g_aload_n F 4 dX4_rehearse_41 rfl rfl ?_
    refine g_iload_n F 6 dX4_rehearse_42 rfl rfl ?_
    refine g_iconst (v := 4) F dX4_rehearse_43 (by decide) ?_
    refine u_callV (k := k) (As := [.int s.1, .int 4]) (rest := []) (sn := fun r5 => [.int r5]) F B (fun _ => wX4_partOf (zl z) E hE bk k s.1 (4 : Int32) hk s.2 J) mX4_partOf q709 rfl hk.1 rfl rfl rfl (Nat.le_of_ble_eq_true rfl) dX4_rehearse_44 (fun _ => rfl) h (fun r5 h => ?_)
    refine g_istore (Ln := [(7, .int r5), (6, .int r4), (5, .int r3), (4, .int r2), (3, .int r1), (0, .ref (E.2.1 k)), (1, .ref (E.2.1 k1)), (2, .int s.1)]) F dX4_rehearse_47 (by decide) rfl ?_
    refine g_aload_n F 6 dX4_rehearse_49 rfl rfl ?_
    refine g_iload_n F 4 dX4_rehearse_50 rfl rfl ?_
    refine g_iload F 3 dX4_rehearse_51 rfl ?_
    refine g_iload F 2 dX4_rehearse_53 rfl ?_
    refine g_iload F 1 dX4_rehearse_55 rfl ?_
    refine g_iload F 0 dX4_rehearse_57 rfl ?_
    refine u_callV (k := k1) (As := [.int r1, .int r2, .int r3, .int r4, .int r5]) (rest := []) (sn := fun r6 => [.int r6]) F B (fun _ => wX5_refusal (zl z) E hE bk k1 r1 r2 r3 r4 r5 hk1 s.2 J) mX5_refusal q710 rfl hk1.1 rfl rfl rfl (Nat.le_of_ble_eq_true rfl) dX4_rehearse_59 (fun _ => rfl) h (fun r6 h => ?_)
    refine g_iconst (v := (-1)) F dX4_rehearse_62 (by decide) ?_
    refine u_icmp_eq (tgt := 68) F dX4_rehearse_63 (by decide) h (fun h => ?_) (fun h => ?_)
    · refine g_aload_n F 6 dX4_rehearse_68 rfl rfl ?_
      refine g_iload_n F 4 dX4_rehearse_69 rfl rfl ?_
      refine g_iload F 3 dX4_rehearse_70 rfl ?_
      refine g_iload F 2 dX4_rehearse_72 rfl ?_
      refine g_iload F 1 dX4_rehearse_74 rfl ?_
      refine g_iload F 0 dX4_rehearse_76 rfl ?_
      refine u_callS (As := [.int r3, .int r4, .int r5]) (rest := [.int r2, .int r1, .ref (E.2.1 k1)]) (sn := fun r7 => [.int r7, .int r2, .int r1, .ref (E.2.1 k1)]) F B (fun _ => wX5_packed (zl z) E hE bk r3 r4 r5 s.2 J) mX5_packed q711 rfl rfl rfl (Nat.le_of_ble_eq_true rfl) dX4_rehearse_78 (fun _ => rfl) h (fun r7 h => ?_)
      refine u_callV (k := k1) (As := [.int r1, .int r2, .int r7]) (rest := []) (sn := fun _ => []) F B (fun _ => wX5_change (zl z) E hE bk k1 r1 r2 r7 hk1 s.2 J) mX5_change q712 rfl hk1.1 rfl rfl rfl (Nat.le_of_ble_eq_true rfl) dX4_rehearse_81 (fun _ => rfl) h (fun r8 h => ?_)
      refine g_iinc (v := s.1 + 1) (Ln := [(2, .int (s.1 + 1)), (7, .int r5), (6, .int r4), (5, .int r3), (4, .int r2), (3, .int r1), (0, .ref (E.2.1 k)), (1, .ref (E.2.1 k1))]) F 7 dX4_rehearse_84 rfl (add_c (by decide)) (by decide) rfl ?_
      refine g_goto (tgt := 2) F dX4_rehearse_87 (by decide) ?_
      obtain rfl := Option.some.inj h
      refine g_sub (Ln := [(0, .ref (E.2.1 k)), (1, .ref (E.2.1 k1)), (2, .int (s.1 + 1))]) [6, 7, 0] rfl ?_
      exact hl (s.1 + 1, r8) rfl
    · obtain rfl := Option.some.inj h
      refine g_sub (Ln := [(2, .int s.1)]) [7] rfl ?_
      exact K2_0 (s.1, s.2) rfl
noncomputable def fX4_rehearse (k : Nat) (k1 : Nat) (I : gM) : Option (Int32 × gM) :=
  (lX4_rehearse_2 k k1 ((0 : Int32), I)).bind fun w9 =>
  Sum.elim (fun w9_0 =>
    some (w9_0.1, w9_0.2))
  (fun w9_1 =>
    some (w9_1 k 0, w9_1)) w9
set_option maxRecDepth 100000 in
set_option maxHeartbeats 4000000 in
theorem wX4_rehearse (l : Launch) (E : gE) (hE : gDist sh E) (bk : Nat) (k : Nat) (k1 : Nat) (hk : shX4 k) (hk1 : shX5 k1) (I : gM) (J : gN) {r : Int32 × gM} (h : fX4_rehearse k k1 I = some r) : Cu l sh E bk yX4_rehearse cX4_rehearse 8 (some .int) (gR 4) [.ref (E.2.1 k), .ref (E.2.1 k1)] I J (fun r1 I1 J1 => r1 = some (.int r.1) ∧ I1 = r.2 ∧ J1 = J) := by
  refine Cu.of "LeapJoin$Script" rfl hE (by decide) (Nat.le_of_ble_eq_true rfl) (fun z F B e hl => ?_)
  subst hl
  unfold fX4_rehearse at h
  refine g_iconst (v := 0) F dX4_rehearse_0 (by decide) ?_
  refine g_istore_n (Ln := [(2, .int 0), (0, .ref (E.2.1 k)), (1, .ref (E.2.1 k1))]) F dX4_rehearse_1 rfl (by decide) rfl ?_
  obtain ⟨w9, ew9, h⟩ := ob h
  refine g_sub (Ln := [(0, .ref (E.2.1 k)), (1, .ref (E.2.1 k1)), (2, .int 0)]) [1, 2, 0] rfl ?_
  refine wlX4_rehearse_2 F B hE k k1 hk hk1 J _ ew9 (fun w9_0 q => ?_) (fun w9_1 q => ?_)
  · subst q
    replace h := oE1 h
    refine g_iload_n F 0 dX4_rehearse_66 rfl rfl ?_
    obtain rfl := Option.some.inj h
    exact g_iret F e dX4_rehearse_67 ⟨rfl, rfl, rfl⟩
  · subst q
    replace h := oE2 h
    refine g_aload_n F 0 dX4_rehearse_90 rfl rfl ?_
    refine g_geti (j := 0) (v := w9_1 k 0) F hk.1 rfl rfl uX4 (by decide) q164 rfl dX4_rehearse_91 ?_
    obtain rfl := Option.some.inj h
    exact g_iret F e dX4_rehearse_94 ⟨rfl, rfl, rfl⟩
theorem DX5_clear_0 : dAre cX5_clear [(0, .aload_n 0, 1), (1, .iconst 0, 1), (2, .putfield 9, 3), (5, .aload_n 0, 1), (6, .iconst 0, 1), (7, .putfield 15, 3), (10, .aload_n 0, 1), (11, .iconst 0, 1), (12, .putfield 18, 3), (15, .aload_n 0, 1), (16, .getfield 21, 3), (19, .iconst 0, 1), (20, .invokestatic 40, 3), (23, .aload_n 0, 1), (24, .getfield 25, 3), (27, .iconst 0, 1)] := dAre0 (by decide +kernel)
theorem dX5_clear_0 : decode cX5_clear 0 = .ok (.aload_n 0, 1) := DX5_clear_0.1
theorem dX5_clear_1 : decode cX5_clear 1 = .ok (.iconst 0, 1) := DX5_clear_0.2.1
theorem dX5_clear_2 : decode cX5_clear 2 = .ok (.putfield 9, 3) := DX5_clear_0.2.2.1
theorem dX5_clear_5 : decode cX5_clear 5 = .ok (.aload_n 0, 1) := DX5_clear_0.2.2.2.1
theorem dX5_clear_6 : decode cX5_clear 6 = .ok (.iconst 0, 1) := DX5_clear_0.2.2.2.2.1
theorem dX5_clear_7 : decode cX5_clear 7 = .ok (.putfield 15, 3) := DX5_clear_0.2.2.2.2.2.1
theorem dX5_clear_10 : decode cX5_clear 10 = .ok (.aload_n 0, 1) := DX5_clear_0.2.2.2.2.2.2.1
theorem dX5_clear_11 : decode cX5_clear 11 = .ok (.iconst 0, 1) := DX5_clear_0.2.2.2.2.2.2.2.1
theorem dX5_clear_12 : decode cX5_clear 12 = .ok (.putfield 18, 3) := DX5_clear_0.2.2.2.2.2.2.2.2.1
theorem dX5_clear_15 : decode cX5_clear 15 = .ok (.aload_n 0, 1) := DX5_clear_0.2.2.2.2.2.2.2.2.2.1
theorem dX5_clear_16 : decode cX5_clear 16 = .ok (.getfield 21, 3) := DX5_clear_0.2.2.2.2.2.2.2.2.2.2.1
theorem dX5_clear_19 : decode cX5_clear 19 = .ok (.iconst 0, 1) := DX5_clear_0.2.2.2.2.2.2.2.2.2.2.2.1
theorem dX5_clear_20 : decode cX5_clear 20 = .ok (.invokestatic 40, 3) := DX5_clear_0.2.2.2.2.2.2.2.2.2.2.2.2.1
theorem dX5_clear_23 : decode cX5_clear 23 = .ok (.aload_n 0, 1) := DX5_clear_0.2.2.2.2.2.2.2.2.2.2.2.2.2.1
theorem dX5_clear_24 : decode cX5_clear 24 = .ok (.getfield 25, 3) := DX5_clear_0.2.2.2.2.2.2.2.2.2.2.2.2.2.2.1
theorem dX5_clear_27 : decode cX5_clear 27 = .ok (.iconst 0, 1) := DX5_clear_0.2.2.2.2.2.2.2.2.2.2.2.2.2.2.2.1
theorem dX5_clear_28 : decode cX5_clear 28 = .ok (.invokestatic 40, 3) := by decide +kernel
theorem dX5_clear_31 : decode cX5_clear 31 = .ok (.return_, 1) := by decide +kernel
theorem mX5_clear : gMv yX5_clear cX5_clear 1 none RX5 0 := ⟨q227, q228, q3, q229, rfl, by decide, by decide, by decide +kernel⟩
noncomputable def fX5_clear (k : Nat) (I : gM) : Option (gM) :=
  (pU I k 0 (0 : Int32)).bind fun I1 =>
  (pU I1 k 1 (0 : Int32)).bind fun I2 =>
  (pU I2 k 2 (0 : Int32)).bind fun I3 =>
  (fJ7_fill_53178 (k + 1) 4 (0 : Int32) I3).bind fun r4 =>
  (fJ7_fill_53178 (k + 2) 4 (0 : Int32) r4).bind fun r5 =>
  some r5
set_option maxRecDepth 100000 in
set_option maxHeartbeats 4000000 in
theorem wX5_clear (l : Launch) (E : gE) (hE : gDist sh E) (bk : Nat) (k : Nat) (hk : shX5 k) (I : gM) (J : gN) {r : gM} (h : fX5_clear k I = some r) : Cu l sh E bk yX5_clear cX5_clear 1 none (gR 1) [.ref (E.2.1 k)] I J (fun r1 I1 J1 => r1 = none ∧ I1 = r ∧ J1 = J) := by
  refine Cu.of "LeapJoin$Tables" rfl hE (by decide) (Nat.le_of_ble_eq_true rfl) (fun z F B e hl => ?_)
  subst hl
  unfold fX5_clear at h
  refine g_aload_n F 0 dX5_clear_0 rfl rfl ?_
  refine g_iconst (v := 0) F dX5_clear_1 (by decide) ?_
  refine u_puti (j := 0) F hk.1 rfl rfl uX5 (by decide) q48 tyX5_ok nmX5 rfl rfl rfl dX5_clear_2 h (fun I1 h => ?_)
  refine g_aload_n F 0 dX5_clear_5 rfl rfl ?_
  refine g_iconst (v := 0) F dX5_clear_6 (by decide) ?_
  refine u_puti (j := 1) F hk.1 rfl rfl uX5 (by decide) q51 tyX5_ok nmX5 rfl rfl rfl dX5_clear_7 h (fun I2 h => ?_)
  refine g_aload_n F 0 dX5_clear_10 rfl rfl ?_
  refine g_iconst (v := 0) F dX5_clear_11 (by decide) ?_
  refine u_puti (j := 2) F hk.1 rfl rfl uX5 (by decide) q53 tyX5_ok nmX5 rfl rfl rfl dX5_clear_12 h (fun I3 h => ?_)
  refine g_aload_n F 0 dX5_clear_15 rfl rfl ?_
  refine g_getr (j := 3) (nn := (k + 1)) F hk.1 rfl rfl uX5 (by decide) q55 dX5_clear_16 ?_
  refine g_iconst (v := 0) F dX5_clear_19 (by decide) ?_
  refine u_callS (As := [.ref (E.2.1 (k + 1)), .int 0]) (rest := []) (sn := fun _ => []) F B (fun _ => wJ7_fill_53178 (zl z) E hE bk (k + 1) 4 (0 : Int32) ⟨hk.2.1, by decide⟩ I3 J) mJ7_fill_53178 q230 rfl rfl rfl (Nat.le_of_ble_eq_true rfl) dX5_clear_20 (fun _ => rfl) h (fun r4 h => ?_)
  refine g_aload_n F 0 dX5_clear_23 rfl rfl ?_
  refine g_getr (j := 4) (nn := (k + 2)) F hk.1 rfl rfl uX5 (by decide) q58 dX5_clear_24 ?_
  refine g_iconst (v := 0) F dX5_clear_27 (by decide) ?_
  refine u_callS (As := [.ref (E.2.1 (k + 2)), .int 0]) (rest := []) (sn := fun _ => []) F B (fun _ => wJ7_fill_53178 (zl z) E hE bk (k + 2) 4 (0 : Int32) ⟨hk.2.2.1, by decide⟩ r4 J) mJ7_fill_53178 q230 rfl rfl rfl (Nat.le_of_ble_eq_true rfl) dX5_clear_28 (fun _ => rfl) h (fun r5 h => ?_)
  obtain rfl := Option.some.inj h
  exact g_vret F e dX5_clear_31 ⟨rfl, rfl, rfl⟩
theorem DX5_copyFrom_0 : dAre cX5_copyFrom [(0, .aload_n 0, 1), (1, .aload_n 1, 1), (2, .getfield 9, 3), (5, .putfield 9, 3), (8, .aload_n 0, 1), (9, .aload_n 1, 1), (10, .getfield 15, 3), (13, .putfield 15, 3), (16, .aload_n 0, 1), (17, .aload_n 1, 1), (18, .getfield 18, 3), (21, .putfield 18, 3), (24, .aload_n 1, 1), (25, .getfield 21, 3), (28, .iconst 0, 1), (29, .aload_n 0, 1)] := dAre0 (by decide +kernel)
theorem dX5_copyFrom_0 : decode cX5_copyFrom 0 = .ok (.aload_n 0, 1) := DX5_copyFrom_0.1
theorem dX5_copyFrom_1 : decode cX5_copyFrom 1 = .ok (.aload_n 1, 1) := DX5_copyFrom_0.2.1
theorem dX5_copyFrom_2 : decode cX5_copyFrom 2 = .ok (.getfield 9, 3) := DX5_copyFrom_0.2.2.1
theorem dX5_copyFrom_5 : decode cX5_copyFrom 5 = .ok (.putfield 9, 3) := DX5_copyFrom_0.2.2.2.1
theorem dX5_copyFrom_8 : decode cX5_copyFrom 8 = .ok (.aload_n 0, 1) := DX5_copyFrom_0.2.2.2.2.1
theorem dX5_copyFrom_9 : decode cX5_copyFrom 9 = .ok (.aload_n 1, 1) := DX5_copyFrom_0.2.2.2.2.2.1
theorem dX5_copyFrom_10 : decode cX5_copyFrom 10 = .ok (.getfield 15, 3) := DX5_copyFrom_0.2.2.2.2.2.2.1
theorem dX5_copyFrom_13 : decode cX5_copyFrom 13 = .ok (.putfield 15, 3) := DX5_copyFrom_0.2.2.2.2.2.2.2.1
theorem dX5_copyFrom_16 : decode cX5_copyFrom 16 = .ok (.aload_n 0, 1) := DX5_copyFrom_0.2.2.2.2.2.2.2.2.1
theorem dX5_copyFrom_17 : decode cX5_copyFrom 17 = .ok (.aload_n 1, 1) := DX5_copyFrom_0.2.2.2.2.2.2.2.2.2.1
theorem dX5_copyFrom_18 : decode cX5_copyFrom 18 = .ok (.getfield 18, 3) := DX5_copyFrom_0.2.2.2.2.2.2.2.2.2.2.1
theorem dX5_copyFrom_21 : decode cX5_copyFrom 21 = .ok (.putfield 18, 3) := DX5_copyFrom_0.2.2.2.2.2.2.2.2.2.2.2.1
theorem dX5_copyFrom_24 : decode cX5_copyFrom 24 = .ok (.aload_n 1, 1) := DX5_copyFrom_0.2.2.2.2.2.2.2.2.2.2.2.2.1
theorem dX5_copyFrom_25 : decode cX5_copyFrom 25 = .ok (.getfield 21, 3) := DX5_copyFrom_0.2.2.2.2.2.2.2.2.2.2.2.2.2.1
theorem dX5_copyFrom_28 : decode cX5_copyFrom 28 = .ok (.iconst 0, 1) := DX5_copyFrom_0.2.2.2.2.2.2.2.2.2.2.2.2.2.2.1
theorem dX5_copyFrom_29 : decode cX5_copyFrom 29 = .ok (.aload_n 0, 1) := DX5_copyFrom_0.2.2.2.2.2.2.2.2.2.2.2.2.2.2.2.1
theorem DX5_copyFrom_30 : dAre cX5_copyFrom [(30, .getfield 21, 3), (33, .iconst 0, 1), (34, .iconst 4, 1), (35, .invokestatic 46, 3), (38, .aload_n 1, 1), (39, .getfield 25, 3), (42, .iconst 0, 1), (43, .aload_n 0, 1), (44, .getfield 25, 3), (47, .iconst 0, 1), (48, .iconst 4, 1), (49, .invokestatic 46, 3), (52, .aload_n 1, 1), (53, .getfield 28, 3), (56, .iconst 0, 1), (57, .aload_n 0, 1)] := dAre0 (by decide +kernel)
theorem dX5_copyFrom_30 : decode cX5_copyFrom 30 = .ok (.getfield 21, 3) := DX5_copyFrom_30.1
theorem dX5_copyFrom_33 : decode cX5_copyFrom 33 = .ok (.iconst 0, 1) := DX5_copyFrom_30.2.1
theorem dX5_copyFrom_34 : decode cX5_copyFrom 34 = .ok (.iconst 4, 1) := DX5_copyFrom_30.2.2.1
theorem dX5_copyFrom_35 : decode cX5_copyFrom 35 = .ok (.invokestatic 46, 3) := DX5_copyFrom_30.2.2.2.1
theorem dX5_copyFrom_38 : decode cX5_copyFrom 38 = .ok (.aload_n 1, 1) := DX5_copyFrom_30.2.2.2.2.1
theorem dX5_copyFrom_39 : decode cX5_copyFrom 39 = .ok (.getfield 25, 3) := DX5_copyFrom_30.2.2.2.2.2.1
theorem dX5_copyFrom_42 : decode cX5_copyFrom 42 = .ok (.iconst 0, 1) := DX5_copyFrom_30.2.2.2.2.2.2.1
theorem dX5_copyFrom_43 : decode cX5_copyFrom 43 = .ok (.aload_n 0, 1) := DX5_copyFrom_30.2.2.2.2.2.2.2.1
theorem dX5_copyFrom_44 : decode cX5_copyFrom 44 = .ok (.getfield 25, 3) := DX5_copyFrom_30.2.2.2.2.2.2.2.2.1
theorem dX5_copyFrom_47 : decode cX5_copyFrom 47 = .ok (.iconst 0, 1) := DX5_copyFrom_30.2.2.2.2.2.2.2.2.2.1
theorem dX5_copyFrom_48 : decode cX5_copyFrom 48 = .ok (.iconst 4, 1) := DX5_copyFrom_30.2.2.2.2.2.2.2.2.2.2.1
theorem dX5_copyFrom_49 : decode cX5_copyFrom 49 = .ok (.invokestatic 46, 3) := DX5_copyFrom_30.2.2.2.2.2.2.2.2.2.2.2.1
theorem dX5_copyFrom_52 : decode cX5_copyFrom 52 = .ok (.aload_n 1, 1) := DX5_copyFrom_30.2.2.2.2.2.2.2.2.2.2.2.2.1
theorem dX5_copyFrom_53 : decode cX5_copyFrom 53 = .ok (.getfield 28, 3) := DX5_copyFrom_30.2.2.2.2.2.2.2.2.2.2.2.2.2.1
theorem dX5_copyFrom_56 : decode cX5_copyFrom 56 = .ok (.iconst 0, 1) := DX5_copyFrom_30.2.2.2.2.2.2.2.2.2.2.2.2.2.2.1
theorem dX5_copyFrom_57 : decode cX5_copyFrom 57 = .ok (.aload_n 0, 1) := DX5_copyFrom_30.2.2.2.2.2.2.2.2.2.2.2.2.2.2.2.1
theorem DX5_copyFrom_58 : dAre cX5_copyFrom [(58, .getfield 28, 3), (61, .iconst 0, 1), (62, .bipush 12, 2), (64, .invokestatic 46, 3), (67, .aload_n 1, 1), (68, .getfield 31, 3), (71, .iconst 0, 1), (72, .aload_n 0, 1), (73, .getfield 31, 3), (76, .iconst 0, 1), (77, .bipush 48, 2), (79, .invokestatic 46, 3), (82, .return_, 1)] := dAre0 (by decide +kernel)
theorem dX5_copyFrom_58 : decode cX5_copyFrom 58 = .ok (.getfield 28, 3) := DX5_copyFrom_58.1
theorem dX5_copyFrom_61 : decode cX5_copyFrom 61 = .ok (.iconst 0, 1) := DX5_copyFrom_58.2.1
theorem dX5_copyFrom_62 : decode cX5_copyFrom 62 = .ok (.bipush 12, 2) := DX5_copyFrom_58.2.2.1
theorem dX5_copyFrom_64 : decode cX5_copyFrom 64 = .ok (.invokestatic 46, 3) := DX5_copyFrom_58.2.2.2.1
theorem dX5_copyFrom_67 : decode cX5_copyFrom 67 = .ok (.aload_n 1, 1) := DX5_copyFrom_58.2.2.2.2.1
theorem dX5_copyFrom_68 : decode cX5_copyFrom 68 = .ok (.getfield 31, 3) := DX5_copyFrom_58.2.2.2.2.2.1
theorem dX5_copyFrom_71 : decode cX5_copyFrom 71 = .ok (.iconst 0, 1) := DX5_copyFrom_58.2.2.2.2.2.2.1
theorem dX5_copyFrom_72 : decode cX5_copyFrom 72 = .ok (.aload_n 0, 1) := DX5_copyFrom_58.2.2.2.2.2.2.2.1
theorem dX5_copyFrom_73 : decode cX5_copyFrom 73 = .ok (.getfield 31, 3) := DX5_copyFrom_58.2.2.2.2.2.2.2.2.1
theorem dX5_copyFrom_76 : decode cX5_copyFrom 76 = .ok (.iconst 0, 1) := DX5_copyFrom_58.2.2.2.2.2.2.2.2.2.1
theorem dX5_copyFrom_77 : decode cX5_copyFrom 77 = .ok (.bipush 48, 2) := DX5_copyFrom_58.2.2.2.2.2.2.2.2.2.2.1
theorem dX5_copyFrom_79 : decode cX5_copyFrom 79 = .ok (.invokestatic 46, 3) := DX5_copyFrom_58.2.2.2.2.2.2.2.2.2.2.2.1
theorem dX5_copyFrom_82 : decode cX5_copyFrom 82 = .ok (.return_, 1) := DX5_copyFrom_58.2.2.2.2.2.2.2.2.2.2.2.2.1
theorem mX5_copyFrom : gMv yX5_copyFrom cX5_copyFrom 2 none RX5 1 := ⟨q315, q316, q3, q317, rfl, by decide, by decide, by decide +kernel⟩
noncomputable def fX5_copyFrom (k : Nat) (k1 : Nat) (I : gM) : Option (gM) :=
  (pU I k 0 (I k1 0)).bind fun I1 =>
  (pU I1 k 1 (I1 k1 1)).bind fun I2 =>
  (pU I2 k 2 (I2 k1 2)).bind fun I3 =>
  (cpI I3 (k1 + 1) 4 (k + 1) 4 0 0 4).bind fun I4 =>
  (cpI I4 (k1 + 2) 4 (k + 2) 4 0 0 4).bind fun I5 =>
  (cpI I5 (k1 + 3) 12 (k + 3) 12 0 0 12).bind fun I6 =>
  (cpI I6 (k1 + 4) 48 (k + 4) 48 0 0 48).bind fun I7 =>
  some I7
set_option maxRecDepth 100000 in
set_option maxHeartbeats 4000000 in
theorem wX5_copyFrom (l : Launch) (E : gE) (hE : gDist sh E) (bk : Nat) (k : Nat) (k1 : Nat) (hk : shX5 k) (hk1 : shX5 k1) (I : gM) (J : gN) {r : gM} (h : fX5_copyFrom k k1 I = some r) : Cu l sh E bk yX5_copyFrom cX5_copyFrom 2 none (gR 1) [.ref (E.2.1 k), .ref (E.2.1 k1)] I J (fun r1 I1 J1 => r1 = none ∧ I1 = r ∧ J1 = J) := by
  refine Cu.of "LeapJoin$Tables" rfl hE (by decide) (Nat.le_of_ble_eq_true rfl) (fun z F B e hl => ?_)
  subst hl
  unfold fX5_copyFrom at h
  refine g_aload_n F 0 dX5_copyFrom_0 rfl rfl ?_
  refine g_aload_n F 1 dX5_copyFrom_1 rfl rfl ?_
  refine g_geti (j := 0) (v := I k1 0) F hk1.1 rfl rfl uX5 (by decide) q48 rfl dX5_copyFrom_2 ?_
  refine u_puti (j := 0) F hk.1 rfl rfl uX5 (by decide) q48 tyX5_ok nmX5 rfl rfl rfl dX5_copyFrom_5 h (fun I1 h => ?_)
  refine g_aload_n F 0 dX5_copyFrom_8 rfl rfl ?_
  refine g_aload_n F 1 dX5_copyFrom_9 rfl rfl ?_
  refine g_geti (j := 1) (v := I1 k1 1) F hk1.1 rfl rfl uX5 (by decide) q51 rfl dX5_copyFrom_10 ?_
  refine u_puti (j := 1) F hk.1 rfl rfl uX5 (by decide) q51 tyX5_ok nmX5 rfl rfl rfl dX5_copyFrom_13 h (fun I2 h => ?_)
  refine g_aload_n F 0 dX5_copyFrom_16 rfl rfl ?_
  refine g_aload_n F 1 dX5_copyFrom_17 rfl rfl ?_
  refine g_geti (j := 2) (v := I2 k1 2) F hk1.1 rfl rfl uX5 (by decide) q53 rfl dX5_copyFrom_18 ?_
  refine u_puti (j := 2) F hk.1 rfl rfl uX5 (by decide) q53 tyX5_ok nmX5 rfl rfl rfl dX5_copyFrom_21 h (fun I3 h => ?_)
  refine g_aload_n F 1 dX5_copyFrom_24 rfl rfl ?_
  refine g_getr (j := 3) (nn := (k1 + 1)) F hk1.1 rfl rfl uX5 (by decide) q55 dX5_copyFrom_25 ?_
  refine g_iconst (v := 0) F dX5_copyFrom_28 (by decide) ?_
  refine g_aload_n F 0 dX5_copyFrom_29 rfl rfl ?_
  refine g_getr (j := 3) (nn := (k + 1)) F hk.1 rfl rfl uX5 (by decide) q55 dX5_copyFrom_30 ?_
  refine g_iconst (v := 0) F dX5_copyFrom_33 (by decide) ?_
  refine g_iconst (v := 4) F dX5_copyFrom_34 (by decide) ?_
  refine u_copy F hk1.2.1 hk.2.1 q318 q1528 q319 q12 (Nat.le_of_ble_eq_true rfl) (Nat.le_of_ble_eq_true rfl) dX5_copyFrom_35 h (fun I4 h => ?_)
  refine g_aload_n F 1 dX5_copyFrom_38 rfl rfl ?_
  refine g_getr (j := 4) (nn := (k1 + 2)) F hk1.1 rfl rfl uX5 (by decide) q58 dX5_copyFrom_39 ?_
  refine g_iconst (v := 0) F dX5_copyFrom_42 (by decide) ?_
  refine g_aload_n F 0 dX5_copyFrom_43 rfl rfl ?_
  refine g_getr (j := 4) (nn := (k + 2)) F hk.1 rfl rfl uX5 (by decide) q58 dX5_copyFrom_44 ?_
  refine g_iconst (v := 0) F dX5_copyFrom_47 (by decide) ?_
  refine g_iconst (v := 4) F dX5_copyFrom_48 (by decide) ?_
  refine u_copy F hk1.2.2.1 hk.2.2.1 q318 q1528 q319 q12 (Nat.le_of_ble_eq_true rfl) (Nat.le_of_ble_eq_true rfl) dX5_copyFrom_49 h (fun I5 h => ?_)
  refine g_aload_n F 1 dX5_copyFrom_52 rfl rfl ?_
  refine g_getr (j := 5) (nn := (k1 + 3)) F hk1.1 rfl rfl uX5 (by decide) q62 dX5_copyFrom_53 ?_
  refine g_iconst (v := 0) F dX5_copyFrom_56 (by decide) ?_
  refine g_aload_n F 0 dX5_copyFrom_57 rfl rfl ?_
  refine g_getr (j := 5) (nn := (k + 3)) F hk.1 rfl rfl uX5 (by decide) q62 dX5_copyFrom_58 ?_
  refine g_iconst (v := 0) F dX5_copyFrom_61 (by decide) ?_
  refine g_bipush (v := 12) F dX5_copyFrom_62 (by decide) ?_
  refine u_copy F hk1.2.2.2.1 hk.2.2.2.1 q318 q1528 q319 q12 (Nat.le_of_ble_eq_true rfl) (Nat.le_of_ble_eq_true rfl) dX5_copyFrom_64 h (fun I6 h => ?_)
  refine g_aload_n F 1 dX5_copyFrom_67 rfl rfl ?_
  refine g_getr (j := 6) (nn := (k1 + 4)) F hk1.1 rfl rfl uX5 (by decide) q63 dX5_copyFrom_68 ?_
  refine g_iconst (v := 0) F dX5_copyFrom_71 (by decide) ?_
  refine g_aload_n F 0 dX5_copyFrom_72 rfl rfl ?_
  refine g_getr (j := 6) (nn := (k + 4)) F hk.1 rfl rfl uX5 (by decide) q63 dX5_copyFrom_73 ?_
  refine g_iconst (v := 0) F dX5_copyFrom_76 (by decide) ?_
  refine g_bipush (v := 48) F dX5_copyFrom_77 (by decide) ?_
  refine u_copy F hk1.2.2.2.2 hk.2.2.2.2 q318 q1528 q319 q12 (Nat.le_of_ble_eq_true rfl) (Nat.le_of_ble_eq_true rfl) dX5_copyFrom_79 h (fun I7 h => ?_)
  obtain rfl := Option.some.inj h
  exact g_vret F e dX5_copyFrom_82 ⟨rfl, rfl, rfl⟩
theorem DX5_open_0 : dAre cX5_open [(0, .aload_n 0, 1), (1, .getfield 9, 3), (4, .iconst 4, 1), (5, .if_icmp .ge 48, 3), (8, .aload_n 0, 1), (9, .getfield 21, 3), (12, .aload_n 0, 1), (13, .getfield 9, 3), (16, .iconst 0, 1), (17, .iastore, 1), (18, .aload_n 0, 1), (19, .getfield 25, 3), (22, .aload_n 0, 1), (23, .getfield 9, 3), (26, .iconst 0, 1), (27, .iastore, 1)] := dAre0 (by decide +kernel)
theorem dX5_open_0 : decode cX5_open 0 = .ok (.aload_n 0, 1) := DX5_open_0.1
theorem dX5_open_1 : decode cX5_open 1 = .ok (.getfield 9, 3) := DX5_open_0.2.1
theorem dX5_open_4 : decode cX5_open 4 = .ok (.iconst 4, 1) := DX5_open_0.2.2.1
theorem dX5_open_5 : decode cX5_open 5 = .ok (.if_icmp .ge 48, 3) := DX5_open_0.2.2.2.1
theorem dX5_open_8 : decode cX5_open 8 = .ok (.aload_n 0, 1) := DX5_open_0.2.2.2.2.1
theorem dX5_open_9 : decode cX5_open 9 = .ok (.getfield 21, 3) := DX5_open_0.2.2.2.2.2.1
theorem dX5_open_12 : decode cX5_open 12 = .ok (.aload_n 0, 1) := DX5_open_0.2.2.2.2.2.2.1
theorem dX5_open_13 : decode cX5_open 13 = .ok (.getfield 9, 3) := DX5_open_0.2.2.2.2.2.2.2.1
theorem dX5_open_16 : decode cX5_open 16 = .ok (.iconst 0, 1) := DX5_open_0.2.2.2.2.2.2.2.2.1
theorem dX5_open_17 : decode cX5_open 17 = .ok (.iastore, 1) := DX5_open_0.2.2.2.2.2.2.2.2.2.1
theorem dX5_open_18 : decode cX5_open 18 = .ok (.aload_n 0, 1) := DX5_open_0.2.2.2.2.2.2.2.2.2.2.1
theorem dX5_open_19 : decode cX5_open 19 = .ok (.getfield 25, 3) := DX5_open_0.2.2.2.2.2.2.2.2.2.2.2.1
theorem dX5_open_22 : decode cX5_open 22 = .ok (.aload_n 0, 1) := DX5_open_0.2.2.2.2.2.2.2.2.2.2.2.2.1
theorem dX5_open_23 : decode cX5_open 23 = .ok (.getfield 9, 3) := DX5_open_0.2.2.2.2.2.2.2.2.2.2.2.2.2.1
theorem dX5_open_26 : decode cX5_open 26 = .ok (.iconst 0, 1) := DX5_open_0.2.2.2.2.2.2.2.2.2.2.2.2.2.2.1
theorem dX5_open_27 : decode cX5_open 27 = .ok (.iastore, 1) := DX5_open_0.2.2.2.2.2.2.2.2.2.2.2.2.2.2.2.1
theorem DX5_open_28 : dAre cX5_open [(28, .aload_n 0, 1), (29, .dup, 1), (30, .getfield 15, 3), (33, .iconst 1, 1), (34, .aload_n 0, 1), (35, .getfield 9, 3), (38, .ishl, 1), (39, .ior, 1), (40, .putfield 15, 3), (43, .aload_n 0, 1), (44, .dup, 1), (45, .getfield 9, 3), (48, .iconst 1, 1), (49, .iadd, 1), (50, .putfield 9, 3), (53, .return_, 1)] := dAre0 (by decide +kernel)
theorem dX5_open_28 : decode cX5_open 28 = .ok (.aload_n 0, 1) := DX5_open_28.1
theorem dX5_open_29 : decode cX5_open 29 = .ok (.dup, 1) := DX5_open_28.2.1
theorem dX5_open_30 : decode cX5_open 30 = .ok (.getfield 15, 3) := DX5_open_28.2.2.1
theorem dX5_open_33 : decode cX5_open 33 = .ok (.iconst 1, 1) := DX5_open_28.2.2.2.1
theorem dX5_open_34 : decode cX5_open 34 = .ok (.aload_n 0, 1) := DX5_open_28.2.2.2.2.1
theorem dX5_open_35 : decode cX5_open 35 = .ok (.getfield 9, 3) := DX5_open_28.2.2.2.2.2.1
theorem dX5_open_38 : decode cX5_open 38 = .ok (.ishl, 1) := DX5_open_28.2.2.2.2.2.2.1
theorem dX5_open_39 : decode cX5_open 39 = .ok (.ior, 1) := DX5_open_28.2.2.2.2.2.2.2.1
theorem dX5_open_40 : decode cX5_open 40 = .ok (.putfield 15, 3) := DX5_open_28.2.2.2.2.2.2.2.2.1
theorem dX5_open_43 : decode cX5_open 43 = .ok (.aload_n 0, 1) := DX5_open_28.2.2.2.2.2.2.2.2.2.1
theorem dX5_open_44 : decode cX5_open 44 = .ok (.dup, 1) := DX5_open_28.2.2.2.2.2.2.2.2.2.2.1
theorem dX5_open_45 : decode cX5_open 45 = .ok (.getfield 9, 3) := DX5_open_28.2.2.2.2.2.2.2.2.2.2.2.1
theorem dX5_open_48 : decode cX5_open 48 = .ok (.iconst 1, 1) := DX5_open_28.2.2.2.2.2.2.2.2.2.2.2.2.1
theorem dX5_open_49 : decode cX5_open 49 = .ok (.iadd, 1) := DX5_open_28.2.2.2.2.2.2.2.2.2.2.2.2.2.1
theorem dX5_open_50 : decode cX5_open 50 = .ok (.putfield 9, 3) := DX5_open_28.2.2.2.2.2.2.2.2.2.2.2.2.2.2.1
theorem dX5_open_53 : decode cX5_open 53 = .ok (.return_, 1) := DX5_open_28.2.2.2.2.2.2.2.2.2.2.2.2.2.2.2.1
theorem mX5_open : gMv yX5_open cX5_open 1 none RX5 0 := ⟨q237, q238, q3, q239, rfl, by decide, by decide, by decide +kernel⟩
noncomputable def fX5_open (k : Nat) (I : gM) : Option (gM) :=
  if (4 : Int32) ≤ (I k 0) then
    some I
  else
    (wI I (k + 1) 4 (I k 0) 0).bind fun I1 =>
    (wI I1 (k + 2) 4 (I1 k 0) 0).bind fun I2 =>
    (pU I2 k 1 ((I2 k 1) ||| ((1 : Int32) <<< ((I2 k 0) &&& 31)))).bind fun I3 =>
    (pU I3 k 0 ((I3 k 0) + 1)).bind fun I4 =>
    some I4
set_option maxRecDepth 100000 in
set_option maxHeartbeats 4000000 in
theorem wX5_open (l : Launch) (E : gE) (hE : gDist sh E) (bk : Nat) (k : Nat) (hk : shX5 k) (I : gM) (J : gN) {r : gM} (h : fX5_open k I = some r) : Cu l sh E bk yX5_open cX5_open 1 none (gR 0) [.ref (E.2.1 k)] I J (fun r1 I1 J1 => r1 = none ∧ I1 = r ∧ J1 = J) := by
  refine Cu.of "LeapJoin$Tables" rfl hE (by decide) (Nat.le_of_ble_eq_true rfl) (fun z F B e hl => ?_)
  subst hl
  unfold fX5_open at h
  refine g_aload_n F 0 dX5_open_0 rfl rfl ?_
  refine g_geti (j := 0) (v := I k 0) F hk.1 rfl rfl uX5 (by decide) q48 rfl dX5_open_1 ?_
  refine g_iconst (v := 4) F dX5_open_4 (by decide) ?_
  refine u_icmp_ge (tgt := 53) F dX5_open_5 (by decide) h (fun h => ?_) (fun h => ?_)
  · obtain rfl := Option.some.inj h
    exact g_vret F e dX5_open_53 ⟨rfl, rfl, rfl⟩
  · refine g_aload_n F 0 dX5_open_8 rfl rfl ?_
    refine g_getr (j := 3) (nn := (k + 1)) F hk.1 rfl rfl uX5 (by decide) q55 dX5_open_9 ?_
    refine g_aload_n F 0 dX5_open_12 rfl rfl ?_
    refine g_geti (j := 0) (v := I k 0) F hk.1 rfl rfl uX5 (by decide) q48 rfl dX5_open_13 ?_
    refine g_iconst (v := 0) F dX5_open_16 (by decide) ?_
    refine u_wI F hk.2.1 (by decide) dX5_open_17 h (fun I1 h => ?_)
    refine g_aload_n F 0 dX5_open_18 rfl rfl ?_
    refine g_getr (j := 4) (nn := (k + 2)) F hk.1 rfl rfl uX5 (by decide) q58 dX5_open_19 ?_
    refine g_aload_n F 0 dX5_open_22 rfl rfl ?_
    refine g_geti (j := 0) (v := I1 k 0) F hk.1 rfl rfl uX5 (by decide) q48 rfl dX5_open_23 ?_
    refine g_iconst (v := 0) F dX5_open_26 (by decide) ?_
    refine u_wI F hk.2.2.1 (by decide) dX5_open_27 h (fun I2 h => ?_)
    refine g_aload_n F 0 dX5_open_28 rfl rfl ?_
    refine g_dup F dX5_open_29 rfl ?_
    refine g_geti (j := 1) (v := I2 k 1) F hk.1 rfl rfl uX5 (by decide) q51 rfl dX5_open_30 ?_
    refine g_iconst (v := 1) F dX5_open_33 (by decide) ?_
    refine g_aload_n F 0 dX5_open_34 rfl rfl ?_
    refine g_geti (j := 0) (v := I2 k 0) F hk.1 rfl rfl uX5 (by decide) q48 rfl dX5_open_35 ?_
    refine g_ishl (v := (1 : Int32) <<< ((I2 k 0) &&& 31)) F dX5_open_38 rfl ?_
    refine g_ior (v := (I2 k 1) ||| ((1 : Int32) <<< ((I2 k 0) &&& 31))) F dX5_open_39 rfl ?_
    refine u_puti (j := 1) F hk.1 rfl rfl uX5 (by decide) q51 tyX5_ok nmX5 rfl rfl rfl dX5_open_40 h (fun I3 h => ?_)
    refine g_aload_n F 0 dX5_open_43 rfl rfl ?_
    refine g_dup F dX5_open_44 rfl ?_
    refine g_geti (j := 0) (v := I3 k 0) F hk.1 rfl rfl uX5 (by decide) q48 rfl dX5_open_45 ?_
    refine g_iconst (v := 1) F dX5_open_48 (by decide) ?_
    refine g_iadd (v := (I3 k 0) + 1) F dX5_open_49 rfl ?_
    refine u_puti (j := 0) F hk.1 rfl rfl uX5 (by decide) q48 tyX5_ok nmX5 rfl rfl rfl dX5_open_50 h (fun I4 h => ?_)
    obtain rfl := Option.some.inj h
    exact g_vret F e dX5_open_53 ⟨rfl, rfl, rfl⟩
theorem DX5_addLetter_0 : dAre cX5_addLetter [(0, .aload_n 0, 1), (1, .getfield 9, 3), (4, .iconst 1, 1), (5, .isub, 1), (6, .istore_n 2, 1), (7, .aload_n 0, 1), (8, .iload_n 2, 1), (9, .invokevirtual 52, 3), (12, .ifCond .eq 23, 3), (15, .aload_n 0, 1), (16, .getfield 21, 3), (19, .iload_n 2, 1), (20, .iaload, 1), (21, .iconst 3, 1), (22, .if_icmp .ge 13, 3), (25, .aload_n 0, 1)] := dAre0 (by decide +kernel)
theorem dX5_addLetter_0 : decode cX5_addLetter 0 = .ok (.aload_n 0, 1) := DX5_addLetter_0.1
theorem dX5_addLetter_1 : decode cX5_addLetter 1 = .ok (.getfield 9, 3) := DX5_addLetter_0.2.1
theorem dX5_addLetter_4 : decode cX5_addLetter 4 = .ok (.iconst 1, 1) := DX5_addLetter_0.2.2.1
theorem dX5_addLetter_5 : decode cX5_addLetter 5 = .ok (.isub, 1) := DX5_addLetter_0.2.2.2.1
theorem dX5_addLetter_6 : decode cX5_addLetter 6 = .ok (.istore_n 2, 1) := DX5_addLetter_0.2.2.2.2.1
theorem dX5_addLetter_7 : decode cX5_addLetter 7 = .ok (.aload_n 0, 1) := DX5_addLetter_0.2.2.2.2.2.1
theorem dX5_addLetter_8 : decode cX5_addLetter 8 = .ok (.iload_n 2, 1) := DX5_addLetter_0.2.2.2.2.2.2.1
theorem dX5_addLetter_9 : decode cX5_addLetter 9 = .ok (.invokevirtual 52, 3) := DX5_addLetter_0.2.2.2.2.2.2.2.1
theorem dX5_addLetter_12 : decode cX5_addLetter 12 = .ok (.ifCond .eq 23, 3) := DX5_addLetter_0.2.2.2.2.2.2.2.2.1
theorem dX5_addLetter_15 : decode cX5_addLetter 15 = .ok (.aload_n 0, 1) := DX5_addLetter_0.2.2.2.2.2.2.2.2.2.1
theorem dX5_addLetter_16 : decode cX5_addLetter 16 = .ok (.getfield 21, 3) := DX5_addLetter_0.2.2.2.2.2.2.2.2.2.2.1
theorem dX5_addLetter_19 : decode cX5_addLetter 19 = .ok (.iload_n 2, 1) := DX5_addLetter_0.2.2.2.2.2.2.2.2.2.2.2.1
theorem dX5_addLetter_20 : decode cX5_addLetter 20 = .ok (.iaload, 1) := DX5_addLetter_0.2.2.2.2.2.2.2.2.2.2.2.2.1
theorem dX5_addLetter_21 : decode cX5_addLetter 21 = .ok (.iconst 3, 1) := DX5_addLetter_0.2.2.2.2.2.2.2.2.2.2.2.2.2.1
theorem dX5_addLetter_22 : decode cX5_addLetter 22 = .ok (.if_icmp .ge 13, 3) := DX5_addLetter_0.2.2.2.2.2.2.2.2.2.2.2.2.2.2.1
theorem dX5_addLetter_25 : decode cX5_addLetter 25 = .ok (.aload_n 0, 1) := DX5_addLetter_0.2.2.2.2.2.2.2.2.2.2.2.2.2.2.2.1
theorem DX5_addLetter_26 : dAre cX5_addLetter [(26, .iload_n 2, 1), (27, .iload_n 1, 1), (28, .invokevirtual 56, 3), (31, .iconst (-1), 1), (32, .if_icmp .eq 5, 3), (35, .iconst 0, 1), (36, .ireturn, 1), (37, .aload_n 0, 1), (38, .getfield 28, 3), (41, .iload_n 2, 1), (42, .iconst 3, 1), (43, .imul, 1), (44, .aload_n 0, 1), (45, .getfield 21, 3), (48, .iload_n 2, 1), (49, .iaload, 1)] := dAre0 (by decide +kernel)
theorem dX5_addLetter_26 : decode cX5_addLetter 26 = .ok (.iload_n 2, 1) := DX5_addLetter_26.1
theorem dX5_addLetter_27 : decode cX5_addLetter 27 = .ok (.iload_n 1, 1) := DX5_addLetter_26.2.1
theorem dX5_addLetter_28 : decode cX5_addLetter 28 = .ok (.invokevirtual 56, 3) := DX5_addLetter_26.2.2.1
theorem dX5_addLetter_31 : decode cX5_addLetter 31 = .ok (.iconst (-1), 1) := DX5_addLetter_26.2.2.2.1
theorem dX5_addLetter_32 : decode cX5_addLetter 32 = .ok (.if_icmp .eq 5, 3) := DX5_addLetter_26.2.2.2.2.1
theorem dX5_addLetter_35 : decode cX5_addLetter 35 = .ok (.iconst 0, 1) := DX5_addLetter_26.2.2.2.2.2.1
theorem dX5_addLetter_36 : decode cX5_addLetter 36 = .ok (.ireturn, 1) := DX5_addLetter_26.2.2.2.2.2.2.1
theorem dX5_addLetter_37 : decode cX5_addLetter 37 = .ok (.aload_n 0, 1) := DX5_addLetter_26.2.2.2.2.2.2.2.1
theorem dX5_addLetter_38 : decode cX5_addLetter 38 = .ok (.getfield 28, 3) := DX5_addLetter_26.2.2.2.2.2.2.2.2.1
theorem dX5_addLetter_41 : decode cX5_addLetter 41 = .ok (.iload_n 2, 1) := DX5_addLetter_26.2.2.2.2.2.2.2.2.2.1
theorem dX5_addLetter_42 : decode cX5_addLetter 42 = .ok (.iconst 3, 1) := DX5_addLetter_26.2.2.2.2.2.2.2.2.2.2.1
theorem dX5_addLetter_43 : decode cX5_addLetter 43 = .ok (.imul, 1) := DX5_addLetter_26.2.2.2.2.2.2.2.2.2.2.2.1
theorem dX5_addLetter_44 : decode cX5_addLetter 44 = .ok (.aload_n 0, 1) := DX5_addLetter_26.2.2.2.2.2.2.2.2.2.2.2.2.1
theorem dX5_addLetter_45 : decode cX5_addLetter 45 = .ok (.getfield 21, 3) := DX5_addLetter_26.2.2.2.2.2.2.2.2.2.2.2.2.2.1
theorem dX5_addLetter_48 : decode cX5_addLetter 48 = .ok (.iload_n 2, 1) := DX5_addLetter_26.2.2.2.2.2.2.2.2.2.2.2.2.2.2.1
theorem dX5_addLetter_49 : decode cX5_addLetter 49 = .ok (.iaload, 1) := DX5_addLetter_26.2.2.2.2.2.2.2.2.2.2.2.2.2.2.2.1
theorem DX5_addLetter_50 : dAre cX5_addLetter [(50, .iadd, 1), (51, .iload_n 1, 1), (52, .iastore, 1), (53, .aload_n 0, 1), (54, .getfield 21, 3), (57, .iload_n 2, 1), (58, .dup2, 1), (59, .iaload, 1), (60, .iconst 1, 1), (61, .iadd, 1), (62, .iastore, 1), (63, .iconst 1, 1), (64, .ireturn, 1)] := dAre0 (by decide +kernel)
theorem dX5_addLetter_50 : decode cX5_addLetter 50 = .ok (.iadd, 1) := DX5_addLetter_50.1
theorem dX5_addLetter_51 : decode cX5_addLetter 51 = .ok (.iload_n 1, 1) := DX5_addLetter_50.2.1
theorem dX5_addLetter_52 : decode cX5_addLetter 52 = .ok (.iastore, 1) := DX5_addLetter_50.2.2.1
theorem dX5_addLetter_53 : decode cX5_addLetter 53 = .ok (.aload_n 0, 1) := DX5_addLetter_50.2.2.2.1
theorem dX5_addLetter_54 : decode cX5_addLetter 54 = .ok (.getfield 21, 3) := DX5_addLetter_50.2.2.2.2.1
theorem dX5_addLetter_57 : decode cX5_addLetter 57 = .ok (.iload_n 2, 1) := DX5_addLetter_50.2.2.2.2.2.1
theorem dX5_addLetter_58 : decode cX5_addLetter 58 = .ok (.dup2, 1) := DX5_addLetter_50.2.2.2.2.2.2.1
theorem dX5_addLetter_59 : decode cX5_addLetter 59 = .ok (.iaload, 1) := DX5_addLetter_50.2.2.2.2.2.2.2.1
theorem dX5_addLetter_60 : decode cX5_addLetter 60 = .ok (.iconst 1, 1) := DX5_addLetter_50.2.2.2.2.2.2.2.2.1
theorem dX5_addLetter_61 : decode cX5_addLetter 61 = .ok (.iadd, 1) := DX5_addLetter_50.2.2.2.2.2.2.2.2.2.1
theorem dX5_addLetter_62 : decode cX5_addLetter 62 = .ok (.iastore, 1) := DX5_addLetter_50.2.2.2.2.2.2.2.2.2.2.1
theorem dX5_addLetter_63 : decode cX5_addLetter 63 = .ok (.iconst 1, 1) := DX5_addLetter_50.2.2.2.2.2.2.2.2.2.2.2.1
theorem dX5_addLetter_64 : decode cX5_addLetter 64 = .ok (.ireturn, 1) := DX5_addLetter_50.2.2.2.2.2.2.2.2.2.2.2.2.1
theorem mX5_addLetter : gMv yX5_addLetter cX5_addLetter 3 (some .boolean) RX5 1 := ⟨q244, q245, q3, q246, rfl, by decide, by decide, by decide +kernel⟩
noncomputable def fX5_addLetter (k : Nat) (v1 : Int32) (I : gM) : Option (Int32 × gM) :=
  (fX5_isTable k ((I k 0) - 1) I).bind fun r1 =>
  if r1 = 0 then
    some ((0 : Int32), I)
  else
    (rI 4 (I (k + 1)) ((I k 0) - 1)).bind fun u2 =>
    if (3 : Int32) ≤ u2 then
      some ((0 : Int32), I)
    else
      (fX5_columnOf k ((I k 0) - 1) v1 I).bind fun r3 =>
      if r3 = (-1) then
        (rI 4 (I (k + 1)) ((I k 0) - 1)).bind fun u4 =>
        (wI I (k + 3) 12 ((((I k 0) - 1) * 3) + u4) v1).bind fun I5 =>
        (rI 4 (I5 (k + 1)) ((I k 0) - 1)).bind fun u6 =>
        (wI I5 (k + 1) 4 ((I k 0) - 1) (u6 + 1)).bind fun I7 =>
        some ((1 : Int32), I7)
      else
        some ((0 : Int32), I)
set_option maxRecDepth 100000 in
set_option maxHeartbeats 4000000 in
theorem wX5_addLetter (l : Launch) (E : gE) (hE : gDist sh E) (bk : Nat) (k : Nat) (v1 : Int32) (hk : shX5 k) (I : gM) (J : gN) {r : Int32 × gM} (h : fX5_addLetter k v1 I = some r) : Cu l sh E bk yX5_addLetter cX5_addLetter 3 (some .boolean) (gR 1) [.ref (E.2.1 k), .int v1] I J (fun r1 I1 J1 => r1 = some (.int r.1) ∧ I1 = r.2 ∧ J1 = J) := by
  refine Cu.of "LeapJoin$Tables" rfl hE (by decide) (Nat.le_of_ble_eq_true rfl) (fun z F B e hl => ?_)
  subst hl
  unfold fX5_addLetter at h
  refine g_aload_n F 0 dX5_addLetter_0 rfl rfl ?_
  refine g_geti (j := 0) (v := I k 0) F hk.1 rfl rfl uX5 (by decide) q48 rfl dX5_addLetter_1 ?_
  refine g_iconst (v := 1) F dX5_addLetter_4 (by decide) ?_
  refine g_isub (v := (I k 0) - 1) F dX5_addLetter_5 rfl ?_
  refine g_istore_n (Ln := [(2, .int ((I k 0) - 1)), (0, .ref (E.2.1 k)), (1, .int v1)]) F dX5_addLetter_6 rfl (by decide) rfl ?_
  refine g_aload_n F 1 dX5_addLetter_7 rfl rfl ?_
  refine g_iload_n F 0 dX5_addLetter_8 rfl rfl ?_
  refine u_callV (k := k) (As := [.int ((I k 0) - 1)]) (rest := []) (sn := fun r1 => [.int r1]) F B (fun _ => wX5_isTable (zl z) E hE bk k ((I k 0) - 1) hk I J) mX5_isTable q247 rfl hk.1 rfl rfl rfl (Nat.le_of_ble_eq_true rfl) dX5_addLetter_9 (fun _ => rfl) h (fun r1 h => ?_)
  refine u_if_eq (tgt := 35) F dX5_addLetter_12 (by decide) h (fun h => ?_) (fun h => ?_)
  · refine g_iconst (v := 0) F dX5_addLetter_35 (by decide) ?_
    obtain rfl := Option.some.inj h
    exact g_zret F rfl e dX5_addLetter_36 ⟨rfl, rfl, rfl⟩
  · refine g_aload_n F 1 dX5_addLetter_15 rfl rfl ?_
    refine g_getr (j := 3) (nn := (k + 1)) F hk.1 rfl rfl uX5 (by decide) q55 dX5_addLetter_16 ?_
    refine g_iload_n F 0 dX5_addLetter_19 rfl rfl ?_
    refine u_rI F hk.2.1 (by decide) dX5_addLetter_20 h (fun u2 h => ?_)
    refine g_iconst (v := 3) F dX5_addLetter_21 (by decide) ?_
    refine u_icmp_ge (tgt := 35) F dX5_addLetter_22 (by decide) h (fun h => ?_) (fun h => ?_)
    · refine g_iconst (v := 0) F dX5_addLetter_35 (by decide) ?_
      obtain rfl := Option.some.inj h
      exact g_zret F rfl e dX5_addLetter_36 ⟨rfl, rfl, rfl⟩
    · refine g_aload_n F 1 dX5_addLetter_25 rfl rfl ?_
      refine g_iload_n F 0 dX5_addLetter_26 rfl rfl ?_
      refine g_iload_n F 2 dX5_addLetter_27 rfl rfl ?_
      refine u_callV (k := k) (As := [.int ((I k 0) - 1), .int v1]) (rest := []) (sn := fun r3 => [.int r3]) F B (fun _ => wX5_columnOf (zl z) E hE bk k ((I k 0) - 1) v1 hk I J) mX5_columnOf q251 rfl hk.1 rfl rfl rfl (Nat.le_of_ble_eq_true rfl) dX5_addLetter_28 (fun _ => rfl) h (fun r3 h => ?_)
      refine g_iconst (v := (-1)) F dX5_addLetter_31 (by decide) ?_
      refine u_icmp_eq (tgt := 37) F dX5_addLetter_32 (by decide) h (fun h => ?_) (fun h => ?_)
      · refine g_aload_n F 1 dX5_addLetter_37 rfl rfl ?_
        refine g_getr (j := 5) (nn := (k + 3)) F hk.1 rfl rfl uX5 (by decide) q62 dX5_addLetter_38 ?_
        refine g_iload_n F 0 dX5_addLetter_41 rfl rfl ?_
        refine g_iconst (v := 3) F dX5_addLetter_42 (by decide) ?_
        refine g_imul (v := ((I k 0) - 1) * 3) F dX5_addLetter_43 rfl ?_
        refine g_aload_n F 1 dX5_addLetter_44 rfl rfl ?_
        refine g_getr (j := 3) (nn := (k + 1)) F hk.1 rfl rfl uX5 (by decide) q55 dX5_addLetter_45 ?_
        refine g_iload_n F 0 dX5_addLetter_48 rfl rfl ?_
        refine u_rI F hk.2.1 (by decide) dX5_addLetter_49 h (fun u4 h => ?_)
        refine g_iadd (v := (((I k 0) - 1) * 3) + u4) F dX5_addLetter_50 rfl ?_
        refine g_iload_n F 2 dX5_addLetter_51 rfl rfl ?_
        refine u_wI F hk.2.2.2.1 (by decide) dX5_addLetter_52 h (fun I5 h => ?_)
        refine g_aload_n F 1 dX5_addLetter_53 rfl rfl ?_
        refine g_getr (j := 3) (nn := (k + 1)) F hk.1 rfl rfl uX5 (by decide) q55 dX5_addLetter_54 ?_
        refine g_iload_n F 0 dX5_addLetter_57 rfl rfl ?_
        refine g_dup2 F dX5_addLetter_58 rfl rfl ?_
        refine u_rI F hk.2.1 (by decide) dX5_addLetter_59 h (fun u6 h => ?_)
        refine g_iconst (v := 1) F dX5_addLetter_60 (by decide) ?_
        refine g_iadd (v := u6 + 1) F dX5_addLetter_61 rfl ?_
        refine u_wI F hk.2.1 (by decide) dX5_addLetter_62 h (fun I7 h => ?_)
        refine g_iconst (v := 1) F dX5_addLetter_63 (by decide) ?_
        obtain rfl := Option.some.inj h
        exact g_zret F rfl e dX5_addLetter_64 ⟨rfl, rfl, rfl⟩
      · refine g_iconst (v := 0) F dX5_addLetter_35 (by decide) ?_
        obtain rfl := Option.some.inj h
        exact g_zret F rfl e dX5_addLetter_36 ⟨rfl, rfl, rfl⟩
theorem DX5_allRows_0 : dAre cX5_allRows [(0, .iconst 0, 1), (1, .istore_n 1, 1), (2, .iconst 0, 1), (3, .istore_n 2, 1), (4, .iload_n 2, 1), (5, .aload_n 0, 1), (6, .getfield 9, 3), (9, .if_icmp .ge 18, 3), (12, .iload_n 1, 1), (13, .aload_n 0, 1), (14, .getfield 25, 3), (17, .iload_n 2, 1), (18, .iaload, 1), (19, .iadd, 1), (20, .istore_n 1, 1), (21, .iinc 2 1, 3)] := dAre0 (by decide +kernel)
theorem dX5_allRows_0 : decode cX5_allRows 0 = .ok (.iconst 0, 1) := DX5_allRows_0.1
theorem dX5_allRows_1 : decode cX5_allRows 1 = .ok (.istore_n 1, 1) := DX5_allRows_0.2.1
theorem dX5_allRows_2 : decode cX5_allRows 2 = .ok (.iconst 0, 1) := DX5_allRows_0.2.2.1
theorem dX5_allRows_3 : decode cX5_allRows 3 = .ok (.istore_n 2, 1) := DX5_allRows_0.2.2.2.1
theorem dX5_allRows_4 : decode cX5_allRows 4 = .ok (.iload_n 2, 1) := DX5_allRows_0.2.2.2.2.1
theorem dX5_allRows_5 : decode cX5_allRows 5 = .ok (.aload_n 0, 1) := DX5_allRows_0.2.2.2.2.2.1
theorem dX5_allRows_6 : decode cX5_allRows 6 = .ok (.getfield 9, 3) := DX5_allRows_0.2.2.2.2.2.2.1
theorem dX5_allRows_9 : decode cX5_allRows 9 = .ok (.if_icmp .ge 18, 3) := DX5_allRows_0.2.2.2.2.2.2.2.1
theorem dX5_allRows_12 : decode cX5_allRows 12 = .ok (.iload_n 1, 1) := DX5_allRows_0.2.2.2.2.2.2.2.2.1
theorem dX5_allRows_13 : decode cX5_allRows 13 = .ok (.aload_n 0, 1) := DX5_allRows_0.2.2.2.2.2.2.2.2.2.1
theorem dX5_allRows_14 : decode cX5_allRows 14 = .ok (.getfield 25, 3) := DX5_allRows_0.2.2.2.2.2.2.2.2.2.2.1
theorem dX5_allRows_17 : decode cX5_allRows 17 = .ok (.iload_n 2, 1) := DX5_allRows_0.2.2.2.2.2.2.2.2.2.2.2.1
theorem dX5_allRows_18 : decode cX5_allRows 18 = .ok (.iaload, 1) := DX5_allRows_0.2.2.2.2.2.2.2.2.2.2.2.2.1
theorem dX5_allRows_19 : decode cX5_allRows 19 = .ok (.iadd, 1) := DX5_allRows_0.2.2.2.2.2.2.2.2.2.2.2.2.2.1
theorem dX5_allRows_20 : decode cX5_allRows 20 = .ok (.istore_n 1, 1) := DX5_allRows_0.2.2.2.2.2.2.2.2.2.2.2.2.2.2.1
theorem dX5_allRows_21 : decode cX5_allRows 21 = .ok (.iinc 2 1, 3) := DX5_allRows_0.2.2.2.2.2.2.2.2.2.2.2.2.2.2.2.1
theorem DX5_allRows_24 : dAre cX5_allRows [(24, .goto (-20), 3), (27, .iload_n 1, 1), (28, .ireturn, 1)] := dAre0 (by decide +kernel)
theorem dX5_allRows_24 : decode cX5_allRows 24 = .ok (.goto (-20), 3) := DX5_allRows_24.1
theorem dX5_allRows_27 : decode cX5_allRows 27 = .ok (.iload_n 1, 1) := DX5_allRows_24.2.1
theorem dX5_allRows_28 : decode cX5_allRows 28 = .ok (.ireturn, 1) := DX5_allRows_24.2.2.1
theorem mX5_allRows : gMv yX5_allRows cX5_allRows 3 (some .int) RX5 0 := ⟨q405, q406, q3, q407, rfl, by decide, by decide, by decide +kernel⟩
noncomputable def lX5_allRows_4 (k : Nat) (I : gM) : (Int32 × Int32) → Option (Int32) :=
  itO fun s =>
    if (I k 0) ≤ s.2 then
      some (.inr s.1)
    else
      (rI 4 (I (k + 2)) s.2).bind fun u1 =>
      some (.inl (s.1 + u1, s.2 + 1))
set_option maxRecDepth 100000 in
set_option maxHeartbeats 4000000 in
theorem wlX5_allRows_4 {z : gZ} {E : gE} {bk : Nat} (F : Fx z sh E "LeapJoin$Tables" cX5_allRows (gR 0) 3) (B : bZ z bk) (hE : gDist sh E) (k : Nat) (hk : shX5 k) (I : gM) (J : gN) {r : Int32} : ∀ s : Int32 × Int32, lX5_allRows_4 k I s = some r → (G z 27 [(1, .int r)] [] I J) → G z 4 [(0, .ref (E.2.1 k)), (1, .int s.1), (2, .int s.2)] [] I J := by
  intro s h X0
  unfold lX5_allRows_4 at h
  revert s
  refine itO_ind (P := fun s : Int32 × Int32 => G z 4 [(0, .ref (E.2.1 k)), (1, .int s.1), (2, .int s.2)] [] I J) (fun s y h hl hr => ?_)
  have K4_0 : ∀ x : Int32, y = .inr x → (G z 27 [(1, .int x)] [] I J) := fun x q => by have q2 := hr _ q; subst q2; exact X0
  refine g_iload_n F 2 dX5_allRows_4 rfl rfl ?_
  refine g_aload_n F 0 dX5_allRows_5 rfl rfl ?_
  refine g_geti (j := 0) (v := I k 0) F hk.1 rfl rfl uX5 (by decide) q48 rfl dX5_allRows_6 ?_
  refine u_icmp_ge (tgt := 27) F dX5_allRows_9 (by decide) h (fun h => ?_) (fun h => ?_)
  · obtain rfl := Option.some.inj h
    refine g_sub (Ln := [(1, .int s.1)]) [1] rfl ?_
    exact K4_0 s.1 rfl
  · refine g_iload_n F 1 dX5_allRows_12 rfl rfl ?_
    refine g_aload_n F 0 dX5_allRows_13 rfl rfl ?_
    refine g_getr (j := 4) (nn := (k + 2)) F hk.1 rfl rfl uX5 (by decide) q58 dX5_allRows_14 ?_
    refine g_iload_n F 2 dX5_allRows_17 rfl rfl ?_
    refine u_rI F hk.2.2.1 (by decide) dX5_allRows_18 h (fun u1 h => ?_)
    refine g_iadd (v := s.1 + u1) F dX5_allRows_19 rfl ?_
    refine g_istore_n (Ln := [(1, .int (s.1 + u1)), (0, .ref (E.2.1 k)), (2, .int s.2)]) F dX5_allRows_20 rfl (by decide) rfl ?_
    refine g_iinc (v := s.2 + 1) (Ln := [(2, .int (s.2 + 1)), (1, .int (s.1 + u1)), (0, .ref (E.2.1 k))]) F 2 dX5_allRows_21 rfl (add_c (by decide)) (by decide) rfl ?_
    refine g_goto (tgt := 4) F dX5_allRows_24 (by decide) ?_
    obtain rfl := Option.some.inj h
    refine g_sub (Ln := [(0, .ref (E.2.1 k)), (1, .int (s.1 + u1)), (2, .int (s.2 + 1))]) [2, 1, 0] rfl ?_
    exact hl (s.1 + u1, s.2 + 1) rfl
noncomputable def fX5_allRows (k : Nat) (I : gM) : Option (Int32) :=
  (lX5_allRows_4 k I ((0 : Int32), (0 : Int32))).bind fun w2 =>
  some w2
set_option maxRecDepth 100000 in
set_option maxHeartbeats 4000000 in
theorem wX5_allRows (l : Launch) (E : gE) (hE : gDist sh E) (bk : Nat) (k : Nat) (hk : shX5 k) (I : gM) (J : gN) {r : Int32} (h : fX5_allRows k I = some r) : Cu l sh E bk yX5_allRows cX5_allRows 3 (some .int) (gR 0) [.ref (E.2.1 k)] I J (fun r1 I1 J1 => r1 = some (.int r) ∧ I1 = I ∧ J1 = J) := by
  refine Cu.of "LeapJoin$Tables" rfl hE (by decide) (Nat.le_of_ble_eq_true rfl) (fun z F B e hl => ?_)
  subst hl
  unfold fX5_allRows at h
  refine g_iconst (v := 0) F dX5_allRows_0 (by decide) ?_
  refine g_istore_n (Ln := [(1, .int 0), (0, .ref (E.2.1 k))]) F dX5_allRows_1 rfl (by decide) rfl ?_
  refine g_iconst (v := 0) F dX5_allRows_2 (by decide) ?_
  refine g_istore_n (Ln := [(2, .int 0), (1, .int 0), (0, .ref (E.2.1 k))]) F dX5_allRows_3 rfl (by decide) rfl ?_
  obtain ⟨w2, ew2, h⟩ := ob h
  refine g_sub (Ln := [(0, .ref (E.2.1 k)), (1, .int 0), (2, .int 0)]) [2, 1, 0] rfl ?_
  refine wlX5_allRows_4 F B hE k hk I J _ ew2 ?_
  refine g_iload_n F 0 dX5_allRows_27 rfl rfl ?_
  obtain rfl := Option.some.inj h
  exact g_iret F e dX5_allRows_28 ⟨rfl, rfl, rfl⟩
theorem DX5_allNumbers_0 : dAre cX5_allNumbers [(0, .iconst 0, 1), (1, .istore_n 1, 1), (2, .iconst 0, 1), (3, .istore_n 2, 1), (4, .iload_n 2, 1), (5, .aload_n 0, 1), (6, .getfield 9, 3), (9, .if_icmp .ge 58, 3), (12, .iconst 0, 1), (13, .istore_n 3, 1), (14, .iload_n 3, 1), (15, .aload_n 0, 1), (16, .getfield 25, 3), (19, .iload_n 2, 1), (20, .iaload, 1), (21, .if_icmp .ge 40, 3)] := dAre0 (by decide +kernel)
theorem dX5_allNumbers_0 : decode cX5_allNumbers 0 = .ok (.iconst 0, 1) := DX5_allNumbers_0.1
theorem dX5_allNumbers_1 : decode cX5_allNumbers 1 = .ok (.istore_n 1, 1) := DX5_allNumbers_0.2.1
theorem dX5_allNumbers_2 : decode cX5_allNumbers 2 = .ok (.iconst 0, 1) := DX5_allNumbers_0.2.2.1
theorem dX5_allNumbers_3 : decode cX5_allNumbers 3 = .ok (.istore_n 2, 1) := DX5_allNumbers_0.2.2.2.1
theorem dX5_allNumbers_4 : decode cX5_allNumbers 4 = .ok (.iload_n 2, 1) := DX5_allNumbers_0.2.2.2.2.1
theorem dX5_allNumbers_5 : decode cX5_allNumbers 5 = .ok (.aload_n 0, 1) := DX5_allNumbers_0.2.2.2.2.2.1
theorem dX5_allNumbers_6 : decode cX5_allNumbers 6 = .ok (.getfield 9, 3) := DX5_allNumbers_0.2.2.2.2.2.2.1
theorem dX5_allNumbers_9 : decode cX5_allNumbers 9 = .ok (.if_icmp .ge 58, 3) := DX5_allNumbers_0.2.2.2.2.2.2.2.1
theorem dX5_allNumbers_12 : decode cX5_allNumbers 12 = .ok (.iconst 0, 1) := DX5_allNumbers_0.2.2.2.2.2.2.2.2.1
theorem dX5_allNumbers_13 : decode cX5_allNumbers 13 = .ok (.istore_n 3, 1) := DX5_allNumbers_0.2.2.2.2.2.2.2.2.2.1
theorem dX5_allNumbers_14 : decode cX5_allNumbers 14 = .ok (.iload_n 3, 1) := DX5_allNumbers_0.2.2.2.2.2.2.2.2.2.2.1
theorem dX5_allNumbers_15 : decode cX5_allNumbers 15 = .ok (.aload_n 0, 1) := DX5_allNumbers_0.2.2.2.2.2.2.2.2.2.2.2.1
theorem dX5_allNumbers_16 : decode cX5_allNumbers 16 = .ok (.getfield 25, 3) := DX5_allNumbers_0.2.2.2.2.2.2.2.2.2.2.2.2.1
theorem dX5_allNumbers_19 : decode cX5_allNumbers 19 = .ok (.iload_n 2, 1) := DX5_allNumbers_0.2.2.2.2.2.2.2.2.2.2.2.2.2.1
theorem dX5_allNumbers_20 : decode cX5_allNumbers 20 = .ok (.iaload, 1) := DX5_allNumbers_0.2.2.2.2.2.2.2.2.2.2.2.2.2.2.1
theorem dX5_allNumbers_21 : decode cX5_allNumbers 21 = .ok (.if_icmp .ge 40, 3) := DX5_allNumbers_0.2.2.2.2.2.2.2.2.2.2.2.2.2.2.2.1
theorem DX5_allNumbers_24 : dAre cX5_allNumbers [(24, .aload_n 0, 1), (25, .iload_n 2, 1), (26, .iload_n 3, 1), (27, .invokevirtual 66, 3), (30, .istore 4, 2), (32, .iload_n 1, 1), (33, .iload 4, 2), (35, .bipush 14, 2), (37, .ishr, 1), (38, .iload 4, 2), (40, .bipush 7, 2), (42, .ishr, 1), (43, .bipush 127, 2), (45, .iand, 1), (46, .iadd, 1), (47, .iload 4, 2)] := dAre0 (by decide +kernel)
theorem dX5_allNumbers_24 : decode cX5_allNumbers 24 = .ok (.aload_n 0, 1) := DX5_allNumbers_24.1
theorem dX5_allNumbers_25 : decode cX5_allNumbers 25 = .ok (.iload_n 2, 1) := DX5_allNumbers_24.2.1
theorem dX5_allNumbers_26 : decode cX5_allNumbers 26 = .ok (.iload_n 3, 1) := DX5_allNumbers_24.2.2.1
theorem dX5_allNumbers_27 : decode cX5_allNumbers 27 = .ok (.invokevirtual 66, 3) := DX5_allNumbers_24.2.2.2.1
theorem dX5_allNumbers_30 : decode cX5_allNumbers 30 = .ok (.istore 4, 2) := DX5_allNumbers_24.2.2.2.2.1
theorem dX5_allNumbers_32 : decode cX5_allNumbers 32 = .ok (.iload_n 1, 1) := DX5_allNumbers_24.2.2.2.2.2.1
theorem dX5_allNumbers_33 : decode cX5_allNumbers 33 = .ok (.iload 4, 2) := DX5_allNumbers_24.2.2.2.2.2.2.1
theorem dX5_allNumbers_35 : decode cX5_allNumbers 35 = .ok (.bipush 14, 2) := DX5_allNumbers_24.2.2.2.2.2.2.2.1
theorem dX5_allNumbers_37 : decode cX5_allNumbers 37 = .ok (.ishr, 1) := DX5_allNumbers_24.2.2.2.2.2.2.2.2.1
theorem dX5_allNumbers_38 : decode cX5_allNumbers 38 = .ok (.iload 4, 2) := DX5_allNumbers_24.2.2.2.2.2.2.2.2.2.1
theorem dX5_allNumbers_40 : decode cX5_allNumbers 40 = .ok (.bipush 7, 2) := DX5_allNumbers_24.2.2.2.2.2.2.2.2.2.2.1
theorem dX5_allNumbers_42 : decode cX5_allNumbers 42 = .ok (.ishr, 1) := DX5_allNumbers_24.2.2.2.2.2.2.2.2.2.2.2.1
theorem dX5_allNumbers_43 : decode cX5_allNumbers 43 = .ok (.bipush 127, 2) := DX5_allNumbers_24.2.2.2.2.2.2.2.2.2.2.2.2.1
theorem dX5_allNumbers_45 : decode cX5_allNumbers 45 = .ok (.iand, 1) := DX5_allNumbers_24.2.2.2.2.2.2.2.2.2.2.2.2.2.1
theorem dX5_allNumbers_46 : decode cX5_allNumbers 46 = .ok (.iadd, 1) := DX5_allNumbers_24.2.2.2.2.2.2.2.2.2.2.2.2.2.2.1
theorem dX5_allNumbers_47 : decode cX5_allNumbers 47 = .ok (.iload 4, 2) := DX5_allNumbers_24.2.2.2.2.2.2.2.2.2.2.2.2.2.2.2.1
theorem DX5_allNumbers_49 : dAre cX5_allNumbers [(49, .bipush 127, 2), (51, .iand, 1), (52, .iadd, 1), (53, .iadd, 1), (54, .istore_n 1, 1), (55, .iinc 3 1, 3), (58, .goto (-44), 3), (61, .iinc 2 1, 3), (64, .goto (-60), 3), (67, .iload_n 1, 1), (68, .ireturn, 1)] := dAre0 (by decide +kernel)
theorem dX5_allNumbers_49 : decode cX5_allNumbers 49 = .ok (.bipush 127, 2) := DX5_allNumbers_49.1
theorem dX5_allNumbers_51 : decode cX5_allNumbers 51 = .ok (.iand, 1) := DX5_allNumbers_49.2.1
theorem dX5_allNumbers_52 : decode cX5_allNumbers 52 = .ok (.iadd, 1) := DX5_allNumbers_49.2.2.1
theorem dX5_allNumbers_53 : decode cX5_allNumbers 53 = .ok (.iadd, 1) := DX5_allNumbers_49.2.2.2.1
theorem dX5_allNumbers_54 : decode cX5_allNumbers 54 = .ok (.istore_n 1, 1) := DX5_allNumbers_49.2.2.2.2.1
theorem dX5_allNumbers_55 : decode cX5_allNumbers 55 = .ok (.iinc 3 1, 3) := DX5_allNumbers_49.2.2.2.2.2.1
theorem dX5_allNumbers_58 : decode cX5_allNumbers 58 = .ok (.goto (-44), 3) := DX5_allNumbers_49.2.2.2.2.2.2.1
theorem dX5_allNumbers_61 : decode cX5_allNumbers 61 = .ok (.iinc 2 1, 3) := DX5_allNumbers_49.2.2.2.2.2.2.2.1
theorem dX5_allNumbers_64 : decode cX5_allNumbers 64 = .ok (.goto (-60), 3) := DX5_allNumbers_49.2.2.2.2.2.2.2.2.1
theorem dX5_allNumbers_67 : decode cX5_allNumbers 67 = .ok (.iload_n 1, 1) := DX5_allNumbers_49.2.2.2.2.2.2.2.2.2.1
theorem dX5_allNumbers_68 : decode cX5_allNumbers 68 = .ok (.ireturn, 1) := DX5_allNumbers_49.2.2.2.2.2.2.2.2.2.2.1
theorem mX5_allNumbers : gMv yX5_allNumbers cX5_allNumbers 5 (some .int) RX5 0 := ⟨q722, q723, q3, q724, rfl, by decide, by decide, by decide +kernel⟩
noncomputable def lX5_allNumbers_14 (k : Nat) (v2 : Int32) (I : gM) : (Int32 × Int32) → Option (Int32) :=
  itO fun s =>
    (rI 4 (I (k + 2)) v2).bind fun u1 =>
    if u1 ≤ s.2 then
      some (.inr s.1)
    else
      (fX5_rowAt k v2 s.2 I).bind fun r2 =>
      some (.inl (s.1 + (((r2 >>> 14) + ((r2 >>> 7) &&& 127)) + (r2 &&& 127)), s.2 + 1))
set_option maxRecDepth 100000 in
set_option maxHeartbeats 4000000 in
theorem wlX5_allNumbers_14 {z : gZ} {E : gE} {bk : Nat} (F : Fx z sh E "LeapJoin$Tables" cX5_allNumbers (gR 1) 5) (B : bZ z bk) (hE : gDist sh E) (k : Nat) (v2 : Int32) (hk : shX5 k) (I : gM) (J : gN) {r : Int32} : ∀ s : Int32 × Int32, lX5_allNumbers_14 k v2 I s = some r → (G z 61 [(0, .ref (E.2.1 k)), (1, .int r), (2, .int v2)] [] I J) → G z 14 [(0, .ref (E.2.1 k)), (1, .int s.1), (2, .int v2), (3, .int s.2)] [] I J := by
  intro s h X0
  unfold lX5_allNumbers_14 at h
  revert s
  refine itO_ind (P := fun s : Int32 × Int32 => G z 14 [(0, .ref (E.2.1 k)), (1, .int s.1), (2, .int v2), (3, .int s.2)] [] I J) (fun s y h hl hr => ?_)
  have K14_0 : ∀ x : Int32, y = .inr x → (G z 61 [(0, .ref (E.2.1 k)), (1, .int x), (2, .int v2)] [] I J) := fun x q => by have q2 := hr _ q; subst q2; exact X0
  refine g_iload_n F 3 dX5_allNumbers_14 rfl rfl ?_
  refine g_aload_n F 0 dX5_allNumbers_15 rfl rfl ?_
  refine g_getr (j := 4) (nn := (k + 2)) F hk.1 rfl rfl uX5 (by decide) q58 dX5_allNumbers_16 ?_
  refine g_iload_n F 2 dX5_allNumbers_19 rfl rfl ?_
  refine u_rI F hk.2.2.1 (by decide) dX5_allNumbers_20 h (fun u1 h => ?_)
  refine u_icmp_ge (tgt := 61) F dX5_allNumbers_21 (by decide) h (fun h => ?_) (fun h => ?_)
  · obtain rfl := Option.some.inj h
    refine g_sub (Ln := [(0, .ref (E.2.1 k)), (1, .int s.1), (2, .int v2)]) [0, 1, 2] rfl ?_
    exact K14_0 s.1 rfl
  · refine g_aload_n F 0 dX5_allNumbers_24 rfl rfl ?_
    refine g_iload_n F 2 dX5_allNumbers_25 rfl rfl ?_
    refine g_iload_n F 3 dX5_allNumbers_26 rfl rfl ?_
    refine u_callV (k := k) (As := [.int v2, .int s.2]) (rest := []) (sn := fun r2 => [.int r2]) F B (fun _ => wX5_rowAt (zl z) E hE bk k v2 s.2 hk I J) mX5_rowAt q272 rfl hk.1 rfl rfl rfl (Nat.le_of_ble_eq_true rfl) dX5_allNumbers_27 (fun _ => rfl) h (fun r2 h => ?_)
    refine g_istore (Ln := [(4, .int r2), (0, .ref (E.2.1 k)), (1, .int s.1), (2, .int v2), (3, .int s.2)]) F dX5_allNumbers_30 (by decide) rfl ?_
    refine g_iload_n F 2 dX5_allNumbers_32 rfl rfl ?_
    refine g_iload F 0 dX5_allNumbers_33 rfl ?_
    refine g_bipush (v := 14) F dX5_allNumbers_35 (by decide) ?_
    refine g_ishr (v := r2 >>> 14) F dX5_allNumbers_37 (shr_c (by decide)) ?_
    refine g_iload F 0 dX5_allNumbers_38 rfl ?_
    refine g_bipush (v := 7) F dX5_allNumbers_40 (by decide) ?_
    refine g_ishr (v := r2 >>> 7) F dX5_allNumbers_42 (shr_c (by decide)) ?_
    refine g_bipush (v := 127) F dX5_allNumbers_43 (by decide) ?_
    refine g_iand (v := (r2 >>> 7) &&& 127) F dX5_allNumbers_45 rfl ?_
    refine g_iadd (v := (r2 >>> 14) + ((r2 >>> 7) &&& 127)) F dX5_allNumbers_46 rfl ?_
    refine g_iload F 0 dX5_allNumbers_47 rfl ?_
    refine g_bipush (v := 127) F dX5_allNumbers_49 (by decide) ?_
    refine g_iand (v := r2 &&& 127) F dX5_allNumbers_51 rfl ?_
    refine g_iadd (v := ((r2 >>> 14) + ((r2 >>> 7) &&& 127)) + (r2 &&& 127)) F dX5_allNumbers_52 rfl ?_
    refine g_iadd (v := s.1 + (((r2 >>> 14) + ((r2 >>> 7) &&& 127)) + (r2 &&& 127))) F dX5_allNumbers_53 rfl ?_
    refine g_istore_n (Ln := [(1, .int (s.1 + (((r2 >>> 14) + ((r2 >>> 7) &&& 127)) + (r2 &&& 127)))), (4, .int r2), (0, .ref (E.2.1 k)), (2, .int v2), (3, .int s.2)]) F dX5_allNumbers_54 rfl (by decide) rfl ?_
    refine g_iinc (v := s.2 + 1) (Ln := [(3, .int (s.2 + 1)), (1, .int (s.1 + (((r2 >>> 14) + ((r2 >>> 7) &&& 127)) + (r2 &&& 127)))), (4, .int r2), (0, .ref (E.2.1 k)), (2, .int v2)]) F 4 dX5_allNumbers_55 rfl (add_c (by decide)) (by decide) rfl ?_
    refine g_goto (tgt := 14) F dX5_allNumbers_58 (by decide) ?_
    obtain rfl := Option.some.inj h
    refine g_sub (Ln := [(0, .ref (E.2.1 k)), (1, .int (s.1 + (((r2 >>> 14) + ((r2 >>> 7) &&& 127)) + (r2 &&& 127)))), (2, .int v2), (3, .int (s.2 + 1))]) [3, 1, 4, 0] rfl ?_
    exact hl (s.1 + (((r2 >>> 14) + ((r2 >>> 7) &&& 127)) + (r2 &&& 127)), s.2 + 1) rfl
noncomputable def lX5_allNumbers_4 (k : Nat) (I : gM) : (Int32 × Int32) → Option (Int32) :=
  itO fun s =>
    if (I k 0) ≤ s.2 then
      some (.inr s.1)
    else
      (lX5_allNumbers_14 k s.2 I (s.1, (0 : Int32))).bind fun w3 =>
      some (.inl (w3, s.2 + 1))
set_option maxRecDepth 100000 in
set_option maxHeartbeats 4000000 in
theorem wlX5_allNumbers_4 {z : gZ} {E : gE} {bk : Nat} (F : Fx z sh E "LeapJoin$Tables" cX5_allNumbers (gR 1) 5) (B : bZ z bk) (hE : gDist sh E) (k : Nat) (hk : shX5 k) (I : gM) (J : gN) {r : Int32} : ∀ s : Int32 × Int32, lX5_allNumbers_4 k I s = some r → (G z 67 [(1, .int r)] [] I J) → G z 4 [(0, .ref (E.2.1 k)), (1, .int s.1), (2, .int s.2)] [] I J := by
  intro s h X0
  unfold lX5_allNumbers_4 at h
  revert s
  refine itO_ind (P := fun s : Int32 × Int32 => G z 4 [(0, .ref (E.2.1 k)), (1, .int s.1), (2, .int s.2)] [] I J) (fun s y h hl hr => ?_)
  have K4_0 : ∀ x : Int32, y = .inr x → (G z 67 [(1, .int x)] [] I J) := fun x q => by have q2 := hr _ q; subst q2; exact X0
  refine g_iload_n F 2 dX5_allNumbers_4 rfl rfl ?_
  refine g_aload_n F 0 dX5_allNumbers_5 rfl rfl ?_
  refine g_geti (j := 0) (v := I k 0) F hk.1 rfl rfl uX5 (by decide) q48 rfl dX5_allNumbers_6 ?_
  refine u_icmp_ge (tgt := 67) F dX5_allNumbers_9 (by decide) h (fun h => ?_) (fun h => ?_)
  · obtain rfl := Option.some.inj h
    refine g_sub (Ln := [(1, .int s.1)]) [1] rfl ?_
    exact K4_0 s.1 rfl
  · refine g_iconst (v := 0) F dX5_allNumbers_12 (by decide) ?_
    refine g_istore_n (Ln := [(3, .int 0), (0, .ref (E.2.1 k)), (1, .int s.1), (2, .int s.2)]) F dX5_allNumbers_13 rfl (by decide) rfl ?_
    obtain ⟨w3, ew3, h⟩ := ob h
    refine g_sub (Ln := [(0, .ref (E.2.1 k)), (1, .int s.1), (2, .int s.2), (3, .int 0)]) [1, 2, 3, 0] rfl ?_
    refine wlX5_allNumbers_14 F B hE k s.2 hk I J _ ew3 ?_
    refine g_iinc (v := s.2 + 1) (Ln := [(2, .int (s.2 + 1)), (0, .ref (E.2.1 k)), (1, .int w3)]) F 2 dX5_allNumbers_61 rfl (add_c (by decide)) (by decide) rfl ?_
    refine g_goto (tgt := 4) F dX5_allNumbers_64 (by decide) ?_
    obtain rfl := Option.some.inj h
    refine g_sub (Ln := [(0, .ref (E.2.1 k)), (1, .int w3), (2, .int (s.2 + 1))]) [1, 2, 0] rfl ?_
    exact hl (w3, s.2 + 1) rfl
noncomputable def fX5_allNumbers (k : Nat) (I : gM) : Option (Int32) :=
  (lX5_allNumbers_4 k I ((0 : Int32), (0 : Int32))).bind fun w4 =>
  some w4
set_option maxRecDepth 100000 in
set_option maxHeartbeats 4000000 in
theorem wX5_allNumbers (l : Launch) (E : gE) (hE : gDist sh E) (bk : Nat) (k : Nat) (hk : shX5 k) (I : gM) (J : gN) {r : Int32} (h : fX5_allNumbers k I = some r) : Cu l sh E bk yX5_allNumbers cX5_allNumbers 5 (some .int) (gR 1) [.ref (E.2.1 k)] I J (fun r1 I1 J1 => r1 = some (.int r) ∧ I1 = I ∧ J1 = J) := by
  refine Cu.of "LeapJoin$Tables" rfl hE (by decide) (Nat.le_of_ble_eq_true rfl) (fun z F B e hl => ?_)
  subst hl
  unfold fX5_allNumbers at h
  refine g_iconst (v := 0) F dX5_allNumbers_0 (by decide) ?_
  refine g_istore_n (Ln := [(1, .int 0), (0, .ref (E.2.1 k))]) F dX5_allNumbers_1 rfl (by decide) rfl ?_
  refine g_iconst (v := 0) F dX5_allNumbers_2 (by decide) ?_
  refine g_istore_n (Ln := [(2, .int 0), (1, .int 0), (0, .ref (E.2.1 k))]) F dX5_allNumbers_3 rfl (by decide) rfl ?_
  obtain ⟨w4, ew4, h⟩ := ob h
  refine g_sub (Ln := [(0, .ref (E.2.1 k)), (1, .int 0), (2, .int 0)]) [2, 1, 0] rfl ?_
  refine wlX5_allNumbers_4 F B hE k hk I J _ ew4 ?_
  refine g_iload_n F 0 dX5_allNumbers_67 rfl rfl ?_
  obtain rfl := Option.some.inj h
  exact g_iret F e dX5_allNumbers_68 ⟨rfl, rfl, rfl⟩
theorem DX5_changeBack_0 : dAre cX5_changeBack [(0, .iload_n 1, 1), (1, .ifCond .ne 12, 3), (4, .aload_n 0, 1), (5, .iload_n 2, 1), (6, .iload_n 3, 1), (7, .invokevirtual 84, 3), (10, .goto 24, 3), (13, .iload_n 1, 1), (14, .iconst 1, 1), (15, .if_icmp .ne 12, 3), (18, .aload_n 0, 1), (19, .iload_n 2, 1), (20, .iload_n 3, 1), (21, .invokevirtual 80, 3), (24, .goto 10, 3), (27, .aload_n 0, 1)] := dAre0 (by decide +kernel)
theorem dX5_changeBack_0 : decode cX5_changeBack 0 = .ok (.iload_n 1, 1) := DX5_changeBack_0.1
theorem dX5_changeBack_1 : decode cX5_changeBack 1 = .ok (.ifCond .ne 12, 3) := DX5_changeBack_0.2.1
theorem dX5_changeBack_4 : decode cX5_changeBack 4 = .ok (.aload_n 0, 1) := DX5_changeBack_0.2.2.1
theorem dX5_changeBack_5 : decode cX5_changeBack 5 = .ok (.iload_n 2, 1) := DX5_changeBack_0.2.2.2.1
theorem dX5_changeBack_6 : decode cX5_changeBack 6 = .ok (.iload_n 3, 1) := DX5_changeBack_0.2.2.2.2.1
theorem dX5_changeBack_7 : decode cX5_changeBack 7 = .ok (.invokevirtual 84, 3) := DX5_changeBack_0.2.2.2.2.2.1
theorem dX5_changeBack_10 : decode cX5_changeBack 10 = .ok (.goto 24, 3) := DX5_changeBack_0.2.2.2.2.2.2.1
theorem dX5_changeBack_13 : decode cX5_changeBack 13 = .ok (.iload_n 1, 1) := DX5_changeBack_0.2.2.2.2.2.2.2.1
theorem dX5_changeBack_14 : decode cX5_changeBack 14 = .ok (.iconst 1, 1) := DX5_changeBack_0.2.2.2.2.2.2.2.2.1
theorem dX5_changeBack_15 : decode cX5_changeBack 15 = .ok (.if_icmp .ne 12, 3) := DX5_changeBack_0.2.2.2.2.2.2.2.2.2.1
theorem dX5_changeBack_18 : decode cX5_changeBack 18 = .ok (.aload_n 0, 1) := DX5_changeBack_0.2.2.2.2.2.2.2.2.2.2.1
theorem dX5_changeBack_19 : decode cX5_changeBack 19 = .ok (.iload_n 2, 1) := DX5_changeBack_0.2.2.2.2.2.2.2.2.2.2.2.1
theorem dX5_changeBack_20 : decode cX5_changeBack 20 = .ok (.iload_n 3, 1) := DX5_changeBack_0.2.2.2.2.2.2.2.2.2.2.2.2.1
theorem dX5_changeBack_21 : decode cX5_changeBack 21 = .ok (.invokevirtual 80, 3) := DX5_changeBack_0.2.2.2.2.2.2.2.2.2.2.2.2.2.1
theorem dX5_changeBack_24 : decode cX5_changeBack 24 = .ok (.goto 10, 3) := DX5_changeBack_0.2.2.2.2.2.2.2.2.2.2.2.2.2.2.1
theorem dX5_changeBack_27 : decode cX5_changeBack 27 = .ok (.aload_n 0, 1) := DX5_changeBack_0.2.2.2.2.2.2.2.2.2.2.2.2.2.2.2.1
theorem DX5_changeBack_28 : dAre cX5_changeBack [(28, .iload_n 1, 1), (29, .iload_n 2, 1), (30, .iload_n 3, 1), (31, .invokevirtual 87, 3), (34, .return_, 1)] := dAre0 (by decide +kernel)
theorem dX5_changeBack_28 : decode cX5_changeBack 28 = .ok (.iload_n 1, 1) := DX5_changeBack_28.1
theorem dX5_changeBack_29 : decode cX5_changeBack 29 = .ok (.iload_n 2, 1) := DX5_changeBack_28.2.1
theorem dX5_changeBack_30 : decode cX5_changeBack 30 = .ok (.iload_n 3, 1) := DX5_changeBack_28.2.2.1
theorem dX5_changeBack_31 : decode cX5_changeBack 31 = .ok (.invokevirtual 87, 3) := DX5_changeBack_28.2.2.2.1
theorem dX5_changeBack_34 : decode cX5_changeBack 34 = .ok (.return_, 1) := DX5_changeBack_28.2.2.2.2.1
theorem mX5_changeBack : gMv yX5_changeBack cX5_changeBack 4 none RX5 3 := ⟨q666, q667, q3, q668, rfl, by decide, by decide, by decide +kernel⟩
noncomputable def fX5_changeBack (k : Nat) (v1 : Int32) (v2 : Int32) (v3 : Int32) (I : gM) : Option (gM) :=
  if v1 = 0 then
    (fX5_remove k v2 v3 I).bind fun r1 =>
    some r1
  else
    if v1 = 1 then
      (fX5_insert k v2 v3 I).bind fun r2 =>
      some r2
    else
      (fX5_change k v1 v2 v3 I).bind fun r3 =>
      some r3
set_option maxRecDepth 100000 in
set_option maxHeartbeats 4000000 in
theorem wX5_changeBack (l : Launch) (E : gE) (hE : gDist sh E) (bk : Nat) (k : Nat) (v1 : Int32) (v2 : Int32) (v3 : Int32) (hk : shX5 k) (I : gM) (J : gN) {r : gM} (h : fX5_changeBack k v1 v2 v3 I = some r) : Cu l sh E bk yX5_changeBack cX5_changeBack 4 none (gR 4) [.ref (E.2.1 k), .int v1, .int v2, .int v3] I J (fun r1 I1 J1 => r1 = none ∧ I1 = r ∧ J1 = J) := by
  refine Cu.of "LeapJoin$Tables" rfl hE (by decide) (Nat.le_of_ble_eq_true rfl) (fun z F B e hl => ?_)
  subst hl
  unfold fX5_changeBack at h
  refine g_iload_n F 1 dX5_changeBack_0 rfl rfl ?_
  refine u_if_ne (tgt := 13) F dX5_changeBack_1 (by decide) h (fun h => ?_) (fun h => ?_)
  · refine g_aload_n F 0 dX5_changeBack_4 rfl rfl ?_
    refine g_iload_n F 2 dX5_changeBack_5 rfl rfl ?_
    refine g_iload_n F 3 dX5_changeBack_6 rfl rfl ?_
    refine u_callV (k := k) (As := [.int v2, .int v3]) (rest := []) (sn := fun _ => []) F B (fun _ => wX5_remove (zl z) E hE bk k v2 v3 hk I J) mX5_remove q608 rfl hk.1 rfl rfl rfl (Nat.le_of_ble_eq_true rfl) dX5_changeBack_7 (fun _ => rfl) h (fun r1 h => ?_)
    refine g_goto (tgt := 34) F dX5_changeBack_10 (by decide) ?_
    obtain rfl := Option.some.inj h
    exact g_vret F e dX5_changeBack_34 ⟨rfl, rfl, rfl⟩
  · refine g_iload_n F 1 dX5_changeBack_13 rfl rfl ?_
    refine g_iconst (v := 1) F dX5_changeBack_14 (by decide) ?_
    refine u_icmp_ne (tgt := 27) F dX5_changeBack_15 (by decide) h (fun h => ?_) (fun h => ?_)
    · refine g_aload_n F 0 dX5_changeBack_18 rfl rfl ?_
      refine g_iload_n F 2 dX5_changeBack_19 rfl rfl ?_
      refine g_iload_n F 3 dX5_changeBack_20 rfl rfl ?_
      refine u_callV (k := k) (As := [.int v2, .int v3]) (rest := []) (sn := fun _ => []) F B (fun _ => wX5_insert (zl z) E hE bk k v2 v3 hk I J) mX5_insert q607 rfl hk.1 rfl rfl rfl (Nat.le_of_ble_eq_true rfl) dX5_changeBack_21 (fun _ => rfl) h (fun r2 h => ?_)
      refine g_goto (tgt := 34) F dX5_changeBack_24 (by decide) ?_
      obtain rfl := Option.some.inj h
      exact g_vret F e dX5_changeBack_34 ⟨rfl, rfl, rfl⟩
    · refine g_aload_n F 0 dX5_changeBack_27 rfl rfl ?_
      refine g_iload_n F 1 dX5_changeBack_28 rfl rfl ?_
      refine g_iload_n F 2 dX5_changeBack_29 rfl rfl ?_
      refine g_iload_n F 3 dX5_changeBack_30 rfl rfl ?_
      refine u_callV (k := k) (As := [.int v1, .int v2, .int v3]) (rest := []) (sn := fun _ => []) F B (fun _ => wX5_change (zl z) E hE bk k v1 v2 v3 hk I J) mX5_change q669 rfl hk.1 rfl rfl rfl (Nat.le_of_ble_eq_true rfl) dX5_changeBack_31 (fun _ => rfl) h (fun r3 h => ?_)
      obtain rfl := Option.some.inj h
      exact g_vret F e dX5_changeBack_34 ⟨rfl, rfl, rfl⟩
theorem DX6_bytesIn_0 : dAre cX6_bytesIn [(0, .iconst 0, 1), (1, .istore_n 1, 1), (2, .bipush 24, 2), (4, .istore_n 2, 1), (5, .iload_n 2, 1), (6, .ifCond .lt 22, 3), (9, .iload_n 0, 1), (10, .iload_n 2, 1), (11, .ishr, 1), (12, .sipush 255, 3), (15, .iand, 1), (16, .ifCond .eq 6, 3), (19, .iinc 1 1, 3), (22, .iinc 2 (-8), 3), (25, .goto (-20), 3), (28, .iload_n 1, 1)] := dAre0 (by decide +kernel)
theorem dX6_bytesIn_0 : decode cX6_bytesIn 0 = .ok (.iconst 0, 1) := DX6_bytesIn_0.1
theorem dX6_bytesIn_1 : decode cX6_bytesIn 1 = .ok (.istore_n 1, 1) := DX6_bytesIn_0.2.1
theorem dX6_bytesIn_2 : decode cX6_bytesIn 2 = .ok (.bipush 24, 2) := DX6_bytesIn_0.2.2.1
theorem dX6_bytesIn_4 : decode cX6_bytesIn 4 = .ok (.istore_n 2, 1) := DX6_bytesIn_0.2.2.2.1
theorem dX6_bytesIn_5 : decode cX6_bytesIn 5 = .ok (.iload_n 2, 1) := DX6_bytesIn_0.2.2.2.2.1
theorem dX6_bytesIn_6 : decode cX6_bytesIn 6 = .ok (.ifCond .lt 22, 3) := DX6_bytesIn_0.2.2.2.2.2.1
theorem dX6_bytesIn_9 : decode cX6_bytesIn 9 = .ok (.iload_n 0, 1) := DX6_bytesIn_0.2.2.2.2.2.2.1
theorem dX6_bytesIn_10 : decode cX6_bytesIn 10 = .ok (.iload_n 2, 1) := DX6_bytesIn_0.2.2.2.2.2.2.2.1
theorem dX6_bytesIn_11 : decode cX6_bytesIn 11 = .ok (.ishr, 1) := DX6_bytesIn_0.2.2.2.2.2.2.2.2.1
theorem dX6_bytesIn_12 : decode cX6_bytesIn 12 = .ok (.sipush 255, 3) := DX6_bytesIn_0.2.2.2.2.2.2.2.2.2.1
theorem dX6_bytesIn_15 : decode cX6_bytesIn 15 = .ok (.iand, 1) := DX6_bytesIn_0.2.2.2.2.2.2.2.2.2.2.1
theorem dX6_bytesIn_16 : decode cX6_bytesIn 16 = .ok (.ifCond .eq 6, 3) := DX6_bytesIn_0.2.2.2.2.2.2.2.2.2.2.2.1
theorem dX6_bytesIn_19 : decode cX6_bytesIn 19 = .ok (.iinc 1 1, 3) := DX6_bytesIn_0.2.2.2.2.2.2.2.2.2.2.2.2.1
theorem dX6_bytesIn_22 : decode cX6_bytesIn 22 = .ok (.iinc 2 (-8), 3) := DX6_bytesIn_0.2.2.2.2.2.2.2.2.2.2.2.2.2.1
theorem dX6_bytesIn_25 : decode cX6_bytesIn 25 = .ok (.goto (-20), 3) := DX6_bytesIn_0.2.2.2.2.2.2.2.2.2.2.2.2.2.2.1
theorem dX6_bytesIn_28 : decode cX6_bytesIn 28 = .ok (.iload_n 1, 1) := DX6_bytesIn_0.2.2.2.2.2.2.2.2.2.2.2.2.2.2.2.1
theorem dX6_bytesIn_29 : decode cX6_bytesIn 29 = .ok (.ireturn, 1) := by decide +kernel
theorem mX6_bytesIn : gMs yX6_bytesIn cX6_bytesIn 3 (some .int) 1 := ⟨q208, q2, q209, by decide, by decide, by decide +kernel⟩
noncomputable def bX6_bytesIn_22 (v1 : Int32) (v2 : Int32) : Option ((Int32 × Int32) ⊕ (Int32)) :=
  some (.inl (v1, v2 + (-8)))
set_option maxRecDepth 100000 in
set_option maxHeartbeats 4000000 in
theorem wbX6_bytesIn_22 {z : gZ} {E : gE} {bk : Nat} (F : Fx z sh E "LeapJoin$Tape" cX6_bytesIn (gR 0) 3) (B : bZ z bk) (hE : gDist sh E) (v0 : Int32) (v1 : Int32) (v2 : Int32) (I : gM) (J : gN) {y : (Int32 × Int32) ⊕ (Int32)} (h : bX6_bytesIn_22 v1 v2 = some y) (hl : ∀ s' : Int32 × Int32, y = .inl s' → G z 5 [(0, .int v0), (1, .int (s'.1)), (2, .int (s'.2))] [] I J) (K5_0 : ∀ x : Int32, y = .inr x → G z 28 [(1, .int x)] [] I J) : G z 22 [(0, .int v0), (1, .int v1), (2, .int v2)] [] I J := by
  unfold bX6_bytesIn_22 at h
  refine g_iinc (v := v2 + (-8)) (Ln := [(2, .int (v2 + (-8))), (0, .int v0), (1, .int v1)]) F 2 dX6_bytesIn_22 rfl (add_c (by decide)) (by decide) rfl ?_
  refine g_goto (tgt := 5) F dX6_bytesIn_25 (by decide) ?_
  obtain rfl := Option.some.inj h
  refine g_sub (Ln := [(0, .int v0), (1, .int v1), (2, .int (v2 + (-8)))]) [1, 2, 0] rfl ?_
  exact hl (v1, v2 + (-8)) rfl
noncomputable def lX6_bytesIn_5 (v0 : Int32) : (Int32 × Int32) → Option (Int32) :=
  itO fun s =>
    if s.2 < 0 then
      some (.inr s.1)
    else
      if ((v0 >>> (s.2 &&& 31)) &&& 255) = 0 then
        bX6_bytesIn_22 s.1 s.2
      else
        bX6_bytesIn_22 (s.1 + 1) s.2
set_option maxRecDepth 100000 in
set_option maxHeartbeats 4000000 in
theorem wlX6_bytesIn_5 {z : gZ} {E : gE} {bk : Nat} (F : Fx z sh E "LeapJoin$Tape" cX6_bytesIn (gR 0) 3) (B : bZ z bk) (hE : gDist sh E) (v0 : Int32) (I : gM) (J : gN) {r : Int32} : ∀ s : Int32 × Int32, lX6_bytesIn_5 v0 s = some r → (G z 28 [(1, .int r)] [] I J) → G z 5 [(0, .int v0), (1, .int s.1), (2, .int s.2)] [] I J := by
  intro s h X0
  unfold lX6_bytesIn_5 at h
  revert s
  refine itO_ind (P := fun s : Int32 × Int32 => G z 5 [(0, .int v0), (1, .int s.1), (2, .int s.2)] [] I J) (fun s y h hl hr => ?_)
  have K5_0 : ∀ x : Int32, y = .inr x → (G z 28 [(1, .int x)] [] I J) := fun x q => by have q2 := hr _ q; subst q2; exact X0
  refine g_iload_n F 2 dX6_bytesIn_5 rfl rfl ?_
  refine u_if_lt (tgt := 28) F dX6_bytesIn_6 (by decide) h (fun h => ?_) (fun h => ?_)
  · obtain rfl := Option.some.inj h
    refine g_sub (Ln := [(1, .int s.1)]) [1] rfl ?_
    exact K5_0 s.1 rfl
  · refine g_iload_n F 0 dX6_bytesIn_9 rfl rfl ?_
    refine g_iload_n F 2 dX6_bytesIn_10 rfl rfl ?_
    refine g_ishr (v := v0 >>> (s.2 &&& 31)) F dX6_bytesIn_11 rfl ?_
    refine g_sipush (v := 255) F dX6_bytesIn_12 (by decide) ?_
    refine g_iand (v := (v0 >>> (s.2 &&& 31)) &&& 255) F dX6_bytesIn_15 rfl ?_
    refine u_if_eq (tgt := 22) F dX6_bytesIn_16 (by decide) h (fun h => ?_) (fun h => ?_)
    · refine g_sub (Ln := [(0, .int v0), (1, .int s.1), (2, .int s.2)]) [0, 1, 2] rfl ?_
      exact wbX6_bytesIn_22 F B hE v0 s.1 s.2 I J h hl K5_0
    · refine g_iinc (v := s.1 + 1) (Ln := [(1, .int (s.1 + 1)), (0, .int v0), (2, .int s.2)]) F 1 dX6_bytesIn_19 rfl (add_c (by decide)) (by decide) rfl ?_
      refine g_sub (Ln := [(0, .int v0), (1, .int (s.1 + 1)), (2, .int s.2)]) [1, 0, 2] rfl ?_
      exact wbX6_bytesIn_22 F B hE v0 (s.1 + 1) s.2 I J h hl K5_0
noncomputable def fX6_bytesIn (v0 : Int32) : Option (Int32) :=
  (lX6_bytesIn_5 v0 ((0 : Int32), (24 : Int32))).bind fun w1 =>
  some w1
set_option maxRecDepth 100000 in
set_option maxHeartbeats 4000000 in
theorem wX6_bytesIn (l : Launch) (E : gE) (hE : gDist sh E) (bk : Nat) (v0 : Int32) (I : gM) (J : gN) {r : Int32} (h : fX6_bytesIn v0 = some r) : Cu l sh E bk yX6_bytesIn cX6_bytesIn 3 (some .int) (gR 0) [.int v0] I J (fun r1 I1 J1 => r1 = some (.int r) ∧ I1 = I ∧ J1 = J) := by
  refine Cu.of "LeapJoin$Tape" rfl hE (by decide) (Nat.le_of_ble_eq_true rfl) (fun z F B e hl => ?_)
  subst hl
  unfold fX6_bytesIn at h
  refine g_iconst (v := 0) F dX6_bytesIn_0 (by decide) ?_
  refine g_istore_n (Ln := [(1, .int 0), (0, .int v0)]) F dX6_bytesIn_1 rfl (by decide) rfl ?_
  refine g_bipush (v := 24) F dX6_bytesIn_2 (by decide) ?_
  refine g_istore_n (Ln := [(2, .int 24), (1, .int 0), (0, .int v0)]) F dX6_bytesIn_4 rfl (by decide) rfl ?_
  obtain ⟨w1, ew1, h⟩ := ob h
  refine g_sub (Ln := [(0, .int v0), (1, .int 0), (2, .int 24)]) [2, 1, 0] rfl ?_
  refine wlX6_bytesIn_5 F B hE v0 I J _ ew1 ?_
  refine g_iload_n F 0 dX6_bytesIn_28 rfl rfl ?_
  obtain rfl := Option.some.inj h
  exact g_iret F e dX6_bytesIn_29 ⟨rfl, rfl, rfl⟩
theorem DX6_append_0 : dAre cX6_append [(0, .bipush 24, 2), (2, .istore_n 2, 1), (3, .iload_n 2, 1), (4, .ifCond .lt 52, 3), (7, .iload_n 1, 1), (8, .iload_n 2, 1), (9, .ishr, 1), (10, .sipush 255, 3), (13, .iand, 1), (14, .istore_n 3, 1), (15, .iload_n 3, 1), (16, .ifCond .eq 34, 3), (19, .aload_n 0, 1), (20, .getfield 9, 3), (23, .sipush 400, 3), (26, .if_icmp .ge 24, 3)] := dAre0 (by decide +kernel)
theorem dX6_append_0 : decode cX6_append 0 = .ok (.bipush 24, 2) := DX6_append_0.1
theorem dX6_append_2 : decode cX6_append 2 = .ok (.istore_n 2, 1) := DX6_append_0.2.1
theorem dX6_append_3 : decode cX6_append 3 = .ok (.iload_n 2, 1) := DX6_append_0.2.2.1
theorem dX6_append_4 : decode cX6_append 4 = .ok (.ifCond .lt 52, 3) := DX6_append_0.2.2.2.1
theorem dX6_append_7 : decode cX6_append 7 = .ok (.iload_n 1, 1) := DX6_append_0.2.2.2.2.1
theorem dX6_append_8 : decode cX6_append 8 = .ok (.iload_n 2, 1) := DX6_append_0.2.2.2.2.2.1
theorem dX6_append_9 : decode cX6_append 9 = .ok (.ishr, 1) := DX6_append_0.2.2.2.2.2.2.1
theorem dX6_append_10 : decode cX6_append 10 = .ok (.sipush 255, 3) := DX6_append_0.2.2.2.2.2.2.2.1
theorem dX6_append_13 : decode cX6_append 13 = .ok (.iand, 1) := DX6_append_0.2.2.2.2.2.2.2.2.1
theorem dX6_append_14 : decode cX6_append 14 = .ok (.istore_n 3, 1) := DX6_append_0.2.2.2.2.2.2.2.2.2.1
theorem dX6_append_15 : decode cX6_append 15 = .ok (.iload_n 3, 1) := DX6_append_0.2.2.2.2.2.2.2.2.2.2.1
theorem dX6_append_16 : decode cX6_append 16 = .ok (.ifCond .eq 34, 3) := DX6_append_0.2.2.2.2.2.2.2.2.2.2.2.1
theorem dX6_append_19 : decode cX6_append 19 = .ok (.aload_n 0, 1) := DX6_append_0.2.2.2.2.2.2.2.2.2.2.2.2.1
theorem dX6_append_20 : decode cX6_append 20 = .ok (.getfield 9, 3) := DX6_append_0.2.2.2.2.2.2.2.2.2.2.2.2.2.1
theorem dX6_append_23 : decode cX6_append 23 = .ok (.sipush 400, 3) := DX6_append_0.2.2.2.2.2.2.2.2.2.2.2.2.2.2.1
theorem dX6_append_26 : decode cX6_append 26 = .ok (.if_icmp .ge 24, 3) := DX6_append_0.2.2.2.2.2.2.2.2.2.2.2.2.2.2.2.1
theorem DX6_append_29 : dAre cX6_append [(29, .aload_n 0, 1), (30, .getfield 15, 3), (33, .aload_n 0, 1), (34, .getfield 9, 3), (37, .iload_n 3, 1), (38, .i2b, 1), (39, .bastore, 1), (40, .aload_n 0, 1), (41, .dup, 1), (42, .getfield 9, 3), (45, .iconst 1, 1), (46, .iadd, 1), (47, .putfield 9, 3), (50, .iinc 2 (-8), 3), (53, .goto (-50), 3), (56, .return_, 1)] := dAre0 (by decide +kernel)
theorem dX6_append_29 : decode cX6_append 29 = .ok (.aload_n 0, 1) := DX6_append_29.1
theorem dX6_append_30 : decode cX6_append 30 = .ok (.getfield 15, 3) := DX6_append_29.2.1
theorem dX6_append_33 : decode cX6_append 33 = .ok (.aload_n 0, 1) := DX6_append_29.2.2.1
theorem dX6_append_34 : decode cX6_append 34 = .ok (.getfield 9, 3) := DX6_append_29.2.2.2.1
theorem dX6_append_37 : decode cX6_append 37 = .ok (.iload_n 3, 1) := DX6_append_29.2.2.2.2.1
theorem dX6_append_38 : decode cX6_append 38 = .ok (.i2b, 1) := DX6_append_29.2.2.2.2.2.1
theorem dX6_append_39 : decode cX6_append 39 = .ok (.bastore, 1) := DX6_append_29.2.2.2.2.2.2.1
theorem dX6_append_40 : decode cX6_append 40 = .ok (.aload_n 0, 1) := DX6_append_29.2.2.2.2.2.2.2.1
theorem dX6_append_41 : decode cX6_append 41 = .ok (.dup, 1) := DX6_append_29.2.2.2.2.2.2.2.2.1
theorem dX6_append_42 : decode cX6_append 42 = .ok (.getfield 9, 3) := DX6_append_29.2.2.2.2.2.2.2.2.2.1
theorem dX6_append_45 : decode cX6_append 45 = .ok (.iconst 1, 1) := DX6_append_29.2.2.2.2.2.2.2.2.2.2.1
theorem dX6_append_46 : decode cX6_append 46 = .ok (.iadd, 1) := DX6_append_29.2.2.2.2.2.2.2.2.2.2.2.1
theorem dX6_append_47 : decode cX6_append 47 = .ok (.putfield 9, 3) := DX6_append_29.2.2.2.2.2.2.2.2.2.2.2.2.1
theorem dX6_append_50 : decode cX6_append 50 = .ok (.iinc 2 (-8), 3) := DX6_append_29.2.2.2.2.2.2.2.2.2.2.2.2.2.1
theorem dX6_append_53 : decode cX6_append 53 = .ok (.goto (-50), 3) := DX6_append_29.2.2.2.2.2.2.2.2.2.2.2.2.2.2.1
theorem dX6_append_56 : decode cX6_append 56 = .ok (.return_, 1) := DX6_append_29.2.2.2.2.2.2.2.2.2.2.2.2.2.2.2.1
theorem mX6_append : gMv yX6_append cX6_append 4 none RX6 1 := ⟨q211, q212, q2, q213, rfl, by decide, by decide, by decide +kernel⟩
noncomputable def bX6_append_50 (v2 : Int32) (I : gM) : Option ((Int32 × gM) ⊕ (gM)) :=
  some (.inl (v2 + (-8), I))
set_option maxRecDepth 100000 in
set_option maxHeartbeats 4000000 in
theorem wbX6_append_50 {z : gZ} {E : gE} {bk : Nat} (F : Fx z sh E "LeapJoin$Tape" cX6_append (gR 0) 4) (B : bZ z bk) (hE : gDist sh E) (v1 : Int32) (v2 : Int32) (I : gM) (J : gN) {y : (Int32 × gM) ⊕ (gM)} (h : bX6_append_50 v2 I = some y) (hl : ∀ s' : Int32 × gM, y = .inl s' → G z 3 [(0, .ref (E.2.1 1)), (1, .int v1), (2, .int (s'.1))] [] s'.2 J) (K3_0 : ∀ x : gM, y = .inr x → G z 56 [] [] x J) : G z 50 [(0, .ref (E.2.1 1)), (1, .int v1), (2, .int v2)] [] I J := by
  unfold bX6_append_50 at h
  refine g_iinc (v := v2 + (-8)) (Ln := [(2, .int (v2 + (-8))), (0, .ref (E.2.1 1)), (1, .int v1)]) F 2 dX6_append_50 rfl (add_c (by decide)) (by decide) rfl ?_
  refine g_goto (tgt := 3) F dX6_append_53 (by decide) ?_
  obtain rfl := Option.some.inj h
  refine g_sub (Ln := [(0, .ref (E.2.1 1)), (1, .int v1), (2, .int (v2 + (-8)))]) [1, 2, 0] rfl ?_
  exact hl (v2 + (-8), I) rfl
noncomputable def lX6_append_3 (v1 : Int32) : (Int32 × gM) → Option (gM) :=
  itO fun s =>
    if s.1 < 0 then
      some (.inr s.2)
    else
      if ((v1 >>> (s.1 &&& 31)) &&& 255) = 0 then
        bX6_append_50 s.1 s.2
      else
        if (400 : Int32) ≤ (s.2 1 0) then
          bX6_append_50 s.1 s.2
        else
          (wI s.2 2 400 (s.2 1 0) (vp_nar .byte (((v1 >>> (s.1 &&& 31)) &&& 255).toInt8.toInt32))).bind fun I1 =>
          (pU I1 1 0 ((I1 1 0) + 1)).bind fun I2 =>
          bX6_append_50 s.1 I2
set_option maxRecDepth 100000 in
set_option maxHeartbeats 4000000 in
theorem wlX6_append_3 {z : gZ} {E : gE} {bk : Nat} (F : Fx z sh E "LeapJoin$Tape" cX6_append (gR 0) 4) (B : bZ z bk) (hE : gDist sh E) (v1 : Int32) (J : gN) {r : gM} : ∀ s : Int32 × gM, lX6_append_3 v1 s = some r → (G z 56 [] [] r J) → G z 3 [(0, .ref (E.2.1 1)), (1, .int v1), (2, .int s.1)] [] s.2 J := by
  intro s h X0
  unfold lX6_append_3 at h
  revert s
  refine itO_ind (P := fun s : Int32 × gM => G z 3 [(0, .ref (E.2.1 1)), (1, .int v1), (2, .int s.1)] [] s.2 J) (fun s y h hl hr => ?_)
  have K3_0 : ∀ x : gM, y = .inr x → (G z 56 [] [] x J) := fun x q => by have q2 := hr _ q; subst q2; exact X0
  refine g_iload_n F 2 dX6_append_3 rfl rfl ?_
  refine u_if_lt (tgt := 56) F dX6_append_4 (by decide) h (fun h => ?_) (fun h => ?_)
  · obtain rfl := Option.some.inj h
    refine g_sub (Ln := []) [] rfl ?_
    exact K3_0 s.2 rfl
  · refine g_iload_n F 1 dX6_append_7 rfl rfl ?_
    refine g_iload_n F 2 dX6_append_8 rfl rfl ?_
    refine g_ishr (v := v1 >>> (s.1 &&& 31)) F dX6_append_9 rfl ?_
    refine g_sipush (v := 255) F dX6_append_10 (by decide) ?_
    refine g_iand (v := (v1 >>> (s.1 &&& 31)) &&& 255) F dX6_append_13 rfl ?_
    refine g_istore_n (Ln := [(3, .int ((v1 >>> (s.1 &&& 31)) &&& 255)), (0, .ref (E.2.1 1)), (1, .int v1), (2, .int s.1)]) F dX6_append_14 rfl (by decide) rfl ?_
    refine g_iload_n F 0 dX6_append_15 rfl rfl ?_
    refine u_if_eq (tgt := 50) F dX6_append_16 (by decide) h (fun h => ?_) (fun h => ?_)
    · refine g_sub (Ln := [(0, .ref (E.2.1 1)), (1, .int v1), (2, .int s.1)]) [1, 2, 3] rfl ?_
      exact wbX6_append_50 F B hE v1 s.1 s.2 J h hl K3_0
    · refine g_aload_n F 1 dX6_append_19 rfl rfl ?_
      refine g_geti (j := 0) (v := s.2 1 0) F s1 rfl rfl uX6 (by decide) q35 rfl dX6_append_20 ?_
      refine g_sipush (v := 400) F dX6_append_23 (by decide) ?_
      refine u_icmp_ge (tgt := 50) F dX6_append_26 (by decide) h (fun h => ?_) (fun h => ?_)
      · refine g_sub (Ln := [(0, .ref (E.2.1 1)), (1, .int v1), (2, .int s.1)]) [1, 2, 3] rfl ?_
        exact wbX6_append_50 F B hE v1 s.1 s.2 J h hl K3_0
      · refine g_aload_n F 1 dX6_append_29 rfl rfl ?_
        refine g_getr (j := 1) (nn := 2) F s1 rfl rfl uX6 (by decide) q37 dX6_append_30 ?_
        refine g_aload_n F 1 dX6_append_33 rfl rfl ?_
        refine g_geti (j := 0) (v := s.2 1 0) F s1 rfl rfl uX6 (by decide) q35 rfl dX6_append_34 ?_
        refine g_iload_n F 0 dX6_append_37 rfl rfl ?_
        refine g_i2b (v := ((v1 >>> (s.1 &&& 31)) &&& 255).toInt8.toInt32) F dX6_append_38 rfl ?_
        refine u_wB F s2 (by decide) dX6_append_39 h (fun I1 h => ?_)
        refine g_aload_n F 1 dX6_append_40 rfl rfl ?_
        refine g_dup F dX6_append_41 rfl ?_
        refine g_geti (j := 0) (v := I1 1 0) F s1 rfl rfl uX6 (by decide) q35 rfl dX6_append_42 ?_
        refine g_iconst (v := 1) F dX6_append_45 (by decide) ?_
        refine g_iadd (v := (I1 1 0) + 1) F dX6_append_46 rfl ?_
        refine u_puti (j := 0) F s1 rfl rfl uX6 (by decide) q35 tyX6_ok nmX6 rfl rfl rfl dX6_append_47 h (fun I2 h => ?_)
        refine g_sub (Ln := [(0, .ref (E.2.1 1)), (1, .int v1), (2, .int s.1)]) [1, 2, 3] rfl ?_
        exact wbX6_append_50 F B hE v1 s.1 I2 J h hl K3_0
noncomputable def fX6_append (v1 : Int32) (I : gM) : Option (gM) :=
  (lX6_append_3 v1 ((24 : Int32), I)).bind fun w3 =>
  some w3
set_option maxRecDepth 100000 in
set_option maxHeartbeats 4000000 in
theorem wX6_append (l : Launch) (E : gE) (hE : gDist sh E) (bk : Nat) (v1 : Int32) (I : gM) (J : gN) {r : gM} (h : fX6_append v1 I = some r) : Cu l sh E bk yX6_append cX6_append 4 none (gR 0) [.ref (E.2.1 1), .int v1] I J (fun r1 I1 J1 => r1 = none ∧ I1 = r ∧ J1 = J) := by
  refine Cu.of "LeapJoin$Tape" rfl hE (by decide) (Nat.le_of_ble_eq_true rfl) (fun z F B e hl => ?_)
  subst hl
  unfold fX6_append at h
  refine g_bipush (v := 24) F dX6_append_0 (by decide) ?_
  refine g_istore_n (Ln := [(2, .int 24), (0, .ref (E.2.1 1)), (1, .int v1)]) F dX6_append_2 rfl (by decide) rfl ?_
  obtain ⟨w3, ew3, h⟩ := ob h
  refine g_sub (Ln := [(0, .ref (E.2.1 1)), (1, .int v1), (2, .int 24)]) [1, 2, 0] rfl ?_
  refine wlX6_append_3 F B hE v1 J _ ew3 ?_
  obtain rfl := Option.some.inj h
  exact g_vret F e dX6_append_56 ⟨rfl, rfl, rfl⟩
theorem DX6_peek_0 : dAre cX6_peek [(0, .aload_n 0, 1), (1, .getfield 19, 3), (4, .aload_n 0, 1), (5, .getfield 9, 3), (8, .if_icmp .ge 40, 3), (11, .aload_n 0, 1), (12, .getfield 19, 3), (15, .sipush 400, 3), (18, .if_icmp .ge 30, 3), (21, .aload_n 0, 1), (22, .getfield 15, 3), (25, .aload_n 0, 1), (26, .getfield 19, 3), (29, .baload, 1), (30, .bipush 32, 2), (32, .if_icmp .ne 16, 3)] := dAre0 (by decide +kernel)
theorem dX6_peek_0 : decode cX6_peek 0 = .ok (.aload_n 0, 1) := DX6_peek_0.1
theorem dX6_peek_1 : decode cX6_peek 1 = .ok (.getfield 19, 3) := DX6_peek_0.2.1
theorem dX6_peek_4 : decode cX6_peek 4 = .ok (.aload_n 0, 1) := DX6_peek_0.2.2.1
theorem dX6_peek_5 : decode cX6_peek 5 = .ok (.getfield 9, 3) := DX6_peek_0.2.2.2.1
theorem dX6_peek_8 : decode cX6_peek 8 = .ok (.if_icmp .ge 40, 3) := DX6_peek_0.2.2.2.2.1
theorem dX6_peek_11 : decode cX6_peek 11 = .ok (.aload_n 0, 1) := DX6_peek_0.2.2.2.2.2.1
theorem dX6_peek_12 : decode cX6_peek 12 = .ok (.getfield 19, 3) := DX6_peek_0.2.2.2.2.2.2.1
theorem dX6_peek_15 : decode cX6_peek 15 = .ok (.sipush 400, 3) := DX6_peek_0.2.2.2.2.2.2.2.1
theorem dX6_peek_18 : decode cX6_peek 18 = .ok (.if_icmp .ge 30, 3) := DX6_peek_0.2.2.2.2.2.2.2.2.1
theorem dX6_peek_21 : decode cX6_peek 21 = .ok (.aload_n 0, 1) := DX6_peek_0.2.2.2.2.2.2.2.2.2.1
theorem dX6_peek_22 : decode cX6_peek 22 = .ok (.getfield 15, 3) := DX6_peek_0.2.2.2.2.2.2.2.2.2.2.1
theorem dX6_peek_25 : decode cX6_peek 25 = .ok (.aload_n 0, 1) := DX6_peek_0.2.2.2.2.2.2.2.2.2.2.2.1
theorem dX6_peek_26 : decode cX6_peek 26 = .ok (.getfield 19, 3) := DX6_peek_0.2.2.2.2.2.2.2.2.2.2.2.2.1
theorem dX6_peek_29 : decode cX6_peek 29 = .ok (.baload, 1) := DX6_peek_0.2.2.2.2.2.2.2.2.2.2.2.2.2.1
theorem dX6_peek_30 : decode cX6_peek 30 = .ok (.bipush 32, 2) := DX6_peek_0.2.2.2.2.2.2.2.2.2.2.2.2.2.2.1
theorem dX6_peek_32 : decode cX6_peek 32 = .ok (.if_icmp .ne 16, 3) := DX6_peek_0.2.2.2.2.2.2.2.2.2.2.2.2.2.2.2.1
theorem DX6_peek_35 : dAre cX6_peek [(35, .aload_n 0, 1), (36, .dup, 1), (37, .getfield 19, 3), (40, .iconst 1, 1), (41, .iadd, 1), (42, .putfield 19, 3), (45, .goto (-45), 3), (48, .aload_n 0, 1), (49, .getfield 19, 3), (52, .aload_n 0, 1), (53, .getfield 9, 3), (56, .if_icmp .ge 29, 3), (59, .aload_n 0, 1), (60, .getfield 19, 3), (63, .sipush 400, 3), (66, .if_icmp .ge 19, 3)] := dAre0 (by decide +kernel)
theorem dX6_peek_35 : decode cX6_peek 35 = .ok (.aload_n 0, 1) := DX6_peek_35.1
theorem dX6_peek_36 : decode cX6_peek 36 = .ok (.dup, 1) := DX6_peek_35.2.1
theorem dX6_peek_37 : decode cX6_peek 37 = .ok (.getfield 19, 3) := DX6_peek_35.2.2.1
theorem dX6_peek_40 : decode cX6_peek 40 = .ok (.iconst 1, 1) := DX6_peek_35.2.2.2.1
theorem dX6_peek_41 : decode cX6_peek 41 = .ok (.iadd, 1) := DX6_peek_35.2.2.2.2.1
theorem dX6_peek_42 : decode cX6_peek 42 = .ok (.putfield 19, 3) := DX6_peek_35.2.2.2.2.2.1
theorem dX6_peek_45 : decode cX6_peek 45 = .ok (.goto (-45), 3) := DX6_peek_35.2.2.2.2.2.2.1
theorem dX6_peek_48 : decode cX6_peek 48 = .ok (.aload_n 0, 1) := DX6_peek_35.2.2.2.2.2.2.2.1
theorem dX6_peek_49 : decode cX6_peek 49 = .ok (.getfield 19, 3) := DX6_peek_35.2.2.2.2.2.2.2.2.1
theorem dX6_peek_52 : decode cX6_peek 52 = .ok (.aload_n 0, 1) := DX6_peek_35.2.2.2.2.2.2.2.2.2.1
theorem dX6_peek_53 : decode cX6_peek 53 = .ok (.getfield 9, 3) := DX6_peek_35.2.2.2.2.2.2.2.2.2.2.1
theorem dX6_peek_56 : decode cX6_peek 56 = .ok (.if_icmp .ge 29, 3) := DX6_peek_35.2.2.2.2.2.2.2.2.2.2.2.1
theorem dX6_peek_59 : decode cX6_peek 59 = .ok (.aload_n 0, 1) := DX6_peek_35.2.2.2.2.2.2.2.2.2.2.2.2.1
theorem dX6_peek_60 : decode cX6_peek 60 = .ok (.getfield 19, 3) := DX6_peek_35.2.2.2.2.2.2.2.2.2.2.2.2.2.1
theorem dX6_peek_63 : decode cX6_peek 63 = .ok (.sipush 400, 3) := DX6_peek_35.2.2.2.2.2.2.2.2.2.2.2.2.2.2.1
theorem dX6_peek_66 : decode cX6_peek 66 = .ok (.if_icmp .ge 19, 3) := DX6_peek_35.2.2.2.2.2.2.2.2.2.2.2.2.2.2.2.1
theorem DX6_peek_69 : dAre cX6_peek [(69, .aload_n 0, 1), (70, .getfield 15, 3), (73, .aload_n 0, 1), (74, .getfield 19, 3), (77, .baload, 1), (78, .sipush 255, 3), (81, .iand, 1), (82, .goto 4, 3), (85, .iconst (-1), 1), (86, .ireturn, 1)] := dAre0 (by decide +kernel)
theorem dX6_peek_69 : decode cX6_peek 69 = .ok (.aload_n 0, 1) := DX6_peek_69.1
theorem dX6_peek_70 : decode cX6_peek 70 = .ok (.getfield 15, 3) := DX6_peek_69.2.1
theorem dX6_peek_73 : decode cX6_peek 73 = .ok (.aload_n 0, 1) := DX6_peek_69.2.2.1
theorem dX6_peek_74 : decode cX6_peek 74 = .ok (.getfield 19, 3) := DX6_peek_69.2.2.2.1
theorem dX6_peek_77 : decode cX6_peek 77 = .ok (.baload, 1) := DX6_peek_69.2.2.2.2.1
theorem dX6_peek_78 : decode cX6_peek 78 = .ok (.sipush 255, 3) := DX6_peek_69.2.2.2.2.2.1
theorem dX6_peek_81 : decode cX6_peek 81 = .ok (.iand, 1) := DX6_peek_69.2.2.2.2.2.2.1
theorem dX6_peek_82 : decode cX6_peek 82 = .ok (.goto 4, 3) := DX6_peek_69.2.2.2.2.2.2.2.1
theorem dX6_peek_85 : decode cX6_peek 85 = .ok (.iconst (-1), 1) := DX6_peek_69.2.2.2.2.2.2.2.2.1
theorem dX6_peek_86 : decode cX6_peek 86 = .ok (.ireturn, 1) := DX6_peek_69.2.2.2.2.2.2.2.2.2.1
theorem mX6_peek : gMv yX6_peek cX6_peek 1 (some .int) RX6 0 := ⟨q241, q1348, q2, q242, rfl, by decide, by decide, by decide +kernel⟩
noncomputable def lX6_peek_0 : gM → Option (gM) :=
  itO fun s =>
    if (s 1 0) ≤ (s 1 2) then
      some (.inr s)
    else
      if (400 : Int32) ≤ (s 1 2) then
        some (.inr s)
      else
        (rI 400 (s 2) (s 1 2)).bind fun u1 =>
        if u1 = 32 then
          (pU s 1 2 ((s 1 2) + 1)).bind fun I2 =>
          some (.inl I2)
        else
          some (.inr s)
set_option maxRecDepth 100000 in
set_option maxHeartbeats 4000000 in
theorem wlX6_peek_0 {z : gZ} {E : gE} {bk : Nat} (F : Fx z sh E "LeapJoin$Tape" cX6_peek (gR 0) 1) (B : bZ z bk) (hE : gDist sh E) (J : gN) {r : gM} : ∀ s : gM, lX6_peek_0 s = some r → (G z 48 [(0, .ref (E.2.1 1))] [] r J) → G z 0 [(0, .ref (E.2.1 1))] [] s J := by
  intro s h X0
  unfold lX6_peek_0 at h
  revert s
  refine itO_ind (P := fun s : gM => G z 0 [(0, .ref (E.2.1 1))] [] s J) (fun s y h hl hr => ?_)
  have K0_0 : ∀ x : gM, y = .inr x → (G z 48 [(0, .ref (E.2.1 1))] [] x J) := fun x q => by have q2 := hr _ q; subst q2; exact X0
  refine g_aload_n F 0 dX6_peek_0 rfl rfl ?_
  refine g_geti (j := 2) (v := s 1 2) F s1 rfl rfl uX6 (by decide) q38 rfl dX6_peek_1 ?_
  refine g_aload_n F 0 dX6_peek_4 rfl rfl ?_
  refine g_geti (j := 0) (v := s 1 0) F s1 rfl rfl uX6 (by decide) q35 rfl dX6_peek_5 ?_
  refine u_icmp_ge (tgt := 48) F dX6_peek_8 (by decide) h (fun h => ?_) (fun h => ?_)
  · obtain rfl := Option.some.inj h
    refine g_sub (Ln := [(0, .ref (E.2.1 1))]) [0] rfl ?_
    exact K0_0 s rfl
  · refine g_aload_n F 0 dX6_peek_11 rfl rfl ?_
    refine g_geti (j := 2) (v := s 1 2) F s1 rfl rfl uX6 (by decide) q38 rfl dX6_peek_12 ?_
    refine g_sipush (v := 400) F dX6_peek_15 (by decide) ?_
    refine u_icmp_ge (tgt := 48) F dX6_peek_18 (by decide) h (fun h => ?_) (fun h => ?_)
    · obtain rfl := Option.some.inj h
      refine g_sub (Ln := [(0, .ref (E.2.1 1))]) [0] rfl ?_
      exact K0_0 s rfl
    · refine g_aload_n F 0 dX6_peek_21 rfl rfl ?_
      refine g_getr (j := 1) (nn := 2) F s1 rfl rfl uX6 (by decide) q37 dX6_peek_22 ?_
      refine g_aload_n F 0 dX6_peek_25 rfl rfl ?_
      refine g_geti (j := 2) (v := s 1 2) F s1 rfl rfl uX6 (by decide) q38 rfl dX6_peek_26 ?_
      refine u_rB F s2 (by decide) dX6_peek_29 h (fun u1 h => ?_)
      refine g_bipush (v := 32) F dX6_peek_30 (by decide) ?_
      refine u_icmp_ne (tgt := 48) F dX6_peek_32 (by decide) h (fun h => ?_) (fun h => ?_)
      · refine g_aload_n F 0 dX6_peek_35 rfl rfl ?_
        refine g_dup F dX6_peek_36 rfl ?_
        refine g_geti (j := 2) (v := s 1 2) F s1 rfl rfl uX6 (by decide) q38 rfl dX6_peek_37 ?_
        refine g_iconst (v := 1) F dX6_peek_40 (by decide) ?_
        refine g_iadd (v := (s 1 2) + 1) F dX6_peek_41 rfl ?_
        refine u_puti (j := 2) F s1 rfl rfl uX6 (by decide) q38 tyX6_ok nmX6 rfl rfl rfl dX6_peek_42 h (fun I2 h => ?_)
        refine g_goto (tgt := 0) F dX6_peek_45 (by decide) ?_
        obtain rfl := Option.some.inj h
        refine g_sub (Ln := [(0, .ref (E.2.1 1))]) [0] rfl ?_
        exact hl I2 rfl
      · obtain rfl := Option.some.inj h
        refine g_sub (Ln := [(0, .ref (E.2.1 1))]) [0] rfl ?_
        exact K0_0 s rfl
noncomputable def bX6_peek_48 (I : gM) : Option (Int32 × gM) :=
  if (I 1 0) ≤ (I 1 2) then
    some (((-1) : Int32), I)
  else
    if (400 : Int32) ≤ (I 1 2) then
      some (((-1) : Int32), I)
    else
      (rI 400 (I 2) (I 1 2)).bind fun u4 =>
      some (u4 &&& 255, I)
set_option maxRecDepth 100000 in
set_option maxHeartbeats 4000000 in
theorem wbX6_peek_48 {z : gZ} {E : gE} {bk : Nat} (F : Fx z sh E "LeapJoin$Tape" cX6_peek (gR 0) 1) (B : bZ z bk) (hE : gDist sh E) (I : gM) (J : gN) {y : Int32 × gM} (h : bX6_peek_48 I = some y) (e : Fe z sh E (some .int) (fun r1 I1 J1 => r1 = some (.int y.1) ∧ I1 = y.2 ∧ J1 = J)) : G z 48 [(0, .ref (E.2.1 1))] [] I J := by
  unfold bX6_peek_48 at h
  refine g_aload_n F 0 dX6_peek_48 rfl rfl ?_
  refine g_geti (j := 2) (v := I 1 2) F s1 rfl rfl uX6 (by decide) q38 rfl dX6_peek_49 ?_
  refine g_aload_n F 0 dX6_peek_52 rfl rfl ?_
  refine g_geti (j := 0) (v := I 1 0) F s1 rfl rfl uX6 (by decide) q35 rfl dX6_peek_53 ?_
  refine u_icmp_ge (tgt := 85) F dX6_peek_56 (by decide) h (fun h => ?_) (fun h => ?_)
  · refine g_iconst (v := (-1)) F dX6_peek_85 (by decide) ?_
    obtain rfl := Option.some.inj h
    exact g_iret F e dX6_peek_86 ⟨rfl, rfl, rfl⟩
  · refine g_aload_n F 0 dX6_peek_59 rfl rfl ?_
    refine g_geti (j := 2) (v := I 1 2) F s1 rfl rfl uX6 (by decide) q38 rfl dX6_peek_60 ?_
    refine g_sipush (v := 400) F dX6_peek_63 (by decide) ?_
    refine u_icmp_ge (tgt := 85) F dX6_peek_66 (by decide) h (fun h => ?_) (fun h => ?_)
    · refine g_iconst (v := (-1)) F dX6_peek_85 (by decide) ?_
      obtain rfl := Option.some.inj h
      exact g_iret F e dX6_peek_86 ⟨rfl, rfl, rfl⟩
    · refine g_aload_n F 0 dX6_peek_69 rfl rfl ?_
      refine g_getr (j := 1) (nn := 2) F s1 rfl rfl uX6 (by decide) q37 dX6_peek_70 ?_
      refine g_aload_n F 0 dX6_peek_73 rfl rfl ?_
      refine g_geti (j := 2) (v := I 1 2) F s1 rfl rfl uX6 (by decide) q38 rfl dX6_peek_74 ?_
      refine u_rB F s2 (by decide) dX6_peek_77 h (fun u4 h => ?_)
      refine g_sipush (v := 255) F dX6_peek_78 (by decide) ?_
      refine g_iand (v := u4 &&& 255) F dX6_peek_81 rfl ?_
      refine g_goto (tgt := 86) F dX6_peek_82 (by decide) ?_
      obtain rfl := Option.some.inj h
      exact g_iret F e dX6_peek_86 ⟨rfl, rfl, rfl⟩
noncomputable def fX6_peek (I : gM) : Option (Int32 × gM) :=
  (lX6_peek_0 I).bind fun w3 =>
  bX6_peek_48 w3
set_option maxRecDepth 100000 in
set_option maxHeartbeats 4000000 in
theorem wX6_peek (l : Launch) (E : gE) (hE : gDist sh E) (bk : Nat) (I : gM) (J : gN) {r : Int32 × gM} (h : fX6_peek I = some r) : Cu l sh E bk yX6_peek cX6_peek 1 (some .int) (gR 0) [.ref (E.2.1 1)] I J (fun r1 I1 J1 => r1 = some (.int r.1) ∧ I1 = r.2 ∧ J1 = J) := by
  refine Cu.of "LeapJoin$Tape" rfl hE (by decide) (Nat.le_of_ble_eq_true rfl) (fun z F B e hl => ?_)
  subst hl
  unfold fX6_peek at h
  obtain ⟨w3, ew3, h⟩ := ob h
  refine g_sub (Ln := [(0, .ref (E.2.1 1))]) [0] rfl ?_
  refine wlX6_peek_0 F B hE J _ ew3 ?_
  refine g_sub (Ln := [(0, .ref (E.2.1 1))]) [0] rfl ?_
  exact wbX6_peek_48 F B hE w3 J h e
