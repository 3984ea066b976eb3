theorem DX1_greatestKey_0 : dAre cX1_greatestKey [(0, .iconst (-1), 1), (1, .istore_n 2, 1), (2, .iload_n 1, 1), (3, .iconst 4, 1), (4, .imul, 1), (5, .istore_n 3, 1), (6, .iload_n 3, 1), (7, .iload_n 1, 1), (8, .iconst 1, 1), (9, .iadd, 1), (10, .iconst 4, 1), (11, .imul, 1), (12, .if_icmp .ge 45, 3), (15, .aload_n 0, 1), (16, .getfield 40, 3), (19, .iload_n 3, 1)] := dAre0 (by decide +kernel)
theorem dX1_greatestKey_0 : decode cX1_greatestKey 0 = .ok (.iconst (-1), 1) := DX1_greatestKey_0.1
theorem dX1_greatestKey_1 : decode cX1_greatestKey 1 = .ok (.istore_n 2, 1) := DX1_greatestKey_0.2.1
theorem dX1_greatestKey_2 : decode cX1_greatestKey 2 = .ok (.iload_n 1, 1) := DX1_greatestKey_0.2.2.1
theorem dX1_greatestKey_3 : decode cX1_greatestKey 3 = .ok (.iconst 4, 1) := DX1_greatestKey_0.2.2.2.1
theorem dX1_greatestKey_4 : decode cX1_greatestKey 4 = .ok (.imul, 1) := DX1_greatestKey_0.2.2.2.2.1
theorem dX1_greatestKey_5 : decode cX1_greatestKey 5 = .ok (.istore_n 3, 1) := DX1_greatestKey_0.2.2.2.2.2.1
theorem dX1_greatestKey_6 : decode cX1_greatestKey 6 = .ok (.iload_n 3, 1) := DX1_greatestKey_0.2.2.2.2.2.2.1
theorem dX1_greatestKey_7 : decode cX1_greatestKey 7 = .ok (.iload_n 1, 1) := DX1_greatestKey_0.2.2.2.2.2.2.2.1
theorem dX1_greatestKey_8 : decode cX1_greatestKey 8 = .ok (.iconst 1, 1) := DX1_greatestKey_0.2.2.2.2.2.2.2.2.1
theorem dX1_greatestKey_9 : decode cX1_greatestKey 9 = .ok (.iadd, 1) := DX1_greatestKey_0.2.2.2.2.2.2.2.2.2.1
theorem dX1_greatestKey_10 : decode cX1_greatestKey 10 = .ok (.iconst 4, 1) := DX1_greatestKey_0.2.2.2.2.2.2.2.2.2.2.1
theorem dX1_greatestKey_11 : decode cX1_greatestKey 11 = .ok (.imul, 1) := DX1_greatestKey_0.2.2.2.2.2.2.2.2.2.2.2.1
theorem dX1_greatestKey_12 : decode cX1_greatestKey 12 = .ok (.if_icmp .ge 45, 3) := DX1_greatestKey_0.2.2.2.2.2.2.2.2.2.2.2.2.1
theorem dX1_greatestKey_15 : decode cX1_greatestKey 15 = .ok (.aload_n 0, 1) := DX1_greatestKey_0.2.2.2.2.2.2.2.2.2.2.2.2.2.1
theorem dX1_greatestKey_16 : decode cX1_greatestKey 16 = .ok (.getfield 40, 3) := DX1_greatestKey_0.2.2.2.2.2.2.2.2.2.2.2.2.2.2.1
theorem dX1_greatestKey_19 : decode cX1_greatestKey 19 = .ok (.iload_n 3, 1) := DX1_greatestKey_0.2.2.2.2.2.2.2.2.2.2.2.2.2.2.2.1
theorem DX1_greatestKey_20 : dAre cX1_greatestKey [(20, .iaload, 1), (21, .iconst (-1), 1), (22, .if_icmp .eq 29, 3), (25, .iload_n 2, 1), (26, .aload_n 0, 1), (27, .getfield 34, 3), (30, .aload_n 0, 1), (31, .getfield 49, 3), (34, .iload_n 3, 1), (35, .iaload, 1), (36, .iaload, 1), (37, .aload_n 0, 1), (38, .getfield 40, 3), (41, .iload_n 3, 1), (42, .iaload, 1), (43, .ishr, 1)] := dAre0 (by decide +kernel)
theorem dX1_greatestKey_20 : decode cX1_greatestKey 20 = .ok (.iaload, 1) := DX1_greatestKey_20.1
theorem dX1_greatestKey_21 : decode cX1_greatestKey 21 = .ok (.iconst (-1), 1) := DX1_greatestKey_20.2.1
theorem dX1_greatestKey_22 : decode cX1_greatestKey 22 = .ok (.if_icmp .eq 29, 3) := DX1_greatestKey_20.2.2.1
theorem dX1_greatestKey_25 : decode cX1_greatestKey 25 = .ok (.iload_n 2, 1) := DX1_greatestKey_20.2.2.2.1
theorem dX1_greatestKey_26 : decode cX1_greatestKey 26 = .ok (.aload_n 0, 1) := DX1_greatestKey_20.2.2.2.2.1
theorem dX1_greatestKey_27 : decode cX1_greatestKey 27 = .ok (.getfield 34, 3) := DX1_greatestKey_20.2.2.2.2.2.1
theorem dX1_greatestKey_30 : decode cX1_greatestKey 30 = .ok (.aload_n 0, 1) := DX1_greatestKey_20.2.2.2.2.2.2.1
theorem dX1_greatestKey_31 : decode cX1_greatestKey 31 = .ok (.getfield 49, 3) := DX1_greatestKey_20.2.2.2.2.2.2.2.1
theorem dX1_greatestKey_34 : decode cX1_greatestKey 34 = .ok (.iload_n 3, 1) := DX1_greatestKey_20.2.2.2.2.2.2.2.2.1
theorem dX1_greatestKey_35 : decode cX1_greatestKey 35 = .ok (.iaload, 1) := DX1_greatestKey_20.2.2.2.2.2.2.2.2.2.1
theorem dX1_greatestKey_36 : decode cX1_greatestKey 36 = .ok (.iaload, 1) := DX1_greatestKey_20.2.2.2.2.2.2.2.2.2.2.1
theorem dX1_greatestKey_37 : decode cX1_greatestKey 37 = .ok (.aload_n 0, 1) := DX1_greatestKey_20.2.2.2.2.2.2.2.2.2.2.2.1
theorem dX1_greatestKey_38 : decode cX1_greatestKey 38 = .ok (.getfield 40, 3) := DX1_greatestKey_20.2.2.2.2.2.2.2.2.2.2.2.2.1
theorem dX1_greatestKey_41 : decode cX1_greatestKey 41 = .ok (.iload_n 3, 1) := DX1_greatestKey_20.2.2.2.2.2.2.2.2.2.2.2.2.2.1
theorem dX1_greatestKey_42 : decode cX1_greatestKey 42 = .ok (.iaload, 1) := DX1_greatestKey_20.2.2.2.2.2.2.2.2.2.2.2.2.2.2.1
theorem dX1_greatestKey_43 : decode cX1_greatestKey 43 = .ok (.ishr, 1) := DX1_greatestKey_20.2.2.2.2.2.2.2.2.2.2.2.2.2.2.2.1
theorem DX1_greatestKey_44 : dAre cX1_greatestKey [(44, .bipush 127, 2), (46, .iand, 1), (47, .invokestatic 123, 3), (50, .istore_n 2, 1), (51, .iinc 3 1, 3), (54, .goto (-48), 3), (57, .iload_n 2, 1), (58, .ireturn, 1)] := dAre0 (by decide +kernel)
theorem dX1_greatestKey_44 : decode cX1_greatestKey 44 = .ok (.bipush 127, 2) := DX1_greatestKey_44.1
theorem dX1_greatestKey_46 : decode cX1_greatestKey 46 = .ok (.iand, 1) := DX1_greatestKey_44.2.1
theorem dX1_greatestKey_47 : decode cX1_greatestKey 47 = .ok (.invokestatic 123, 3) := DX1_greatestKey_44.2.2.1
theorem dX1_greatestKey_50 : decode cX1_greatestKey 50 = .ok (.istore_n 2, 1) := DX1_greatestKey_44.2.2.2.1
theorem dX1_greatestKey_51 : decode cX1_greatestKey 51 = .ok (.iinc 3 1, 3) := DX1_greatestKey_44.2.2.2.2.1
theorem dX1_greatestKey_54 : decode cX1_greatestKey 54 = .ok (.goto (-48), 3) := DX1_greatestKey_44.2.2.2.2.2.1
theorem dX1_greatestKey_57 : decode cX1_greatestKey 57 = .ok (.iload_n 2, 1) := DX1_greatestKey_44.2.2.2.2.2.2.1
theorem dX1_greatestKey_58 : decode cX1_greatestKey 58 = .ok (.ireturn, 1) := DX1_greatestKey_44.2.2.2.2.2.2.2.1
theorem mX1_greatestKey : gMv yX1_greatestKey cX1_greatestKey 4 (some .int) RX1 1 := ⟨q374, q1362, q4, q375, rfl, by decide, by decide, by decide +kernel⟩
noncomputable def bX1_greatestKey_51 (v2 : Int32) (v3 : Int32) : Option ((Int32 × Int32) ⊕ (Int32)) :=
  some (.inl (v2, v3 + 1))
set_option maxRecDepth 100000 in
set_option maxHeartbeats 4000000 in
theorem wbX1_greatestKey_51 {z : gZ} {E : gE} {bk : Nat} (F : Fx z sh E "LeapJoin$Join" cX1_greatestKey (gR 1) 4) (B : bZ z bk) (hE : gDist sh E) (k : Nat) (v1 : Int32) (v2 : Int32) (v3 : Int32) (hk : shX1 k) (I : gM) (J : gN) {y : (Int32 × Int32) ⊕ (Int32)} (h : bX1_greatestKey_51 v2 v3 = some y) (hl : ∀ s' : Int32 × Int32, y = .inl s' → G z 6 [(0, .ref (E.2.1 k)), (1, .int v1), (2, .int (s'.1)), (3, .int (s'.2))] [] I J) (K6_0 : ∀ x : Int32, y = .inr x → G z 57 [(2, .int x)] [] I J) : G z 51 [(0, .ref (E.2.1 k)), (1, .int v1), (2, .int v2), (3, .int v3)] [] I J := by
  unfold bX1_greatestKey_51 at h
  refine g_iinc (v := v3 + 1) (Ln := [(3, .int (v3 + 1)), (0, .ref (E.2.1 k)), (1, .int v1), (2, .int v2)]) F 3 dX1_greatestKey_51 rfl (add_c (by decide)) (by decide) rfl ?_
  refine g_goto (tgt := 6) F dX1_greatestKey_54 (by decide) ?_
  obtain rfl := Option.some.inj h
  refine g_sub (Ln := [(0, .ref (E.2.1 k)), (1, .int v1), (2, .int v2), (3, .int (v3 + 1))]) [1, 2, 3, 0] rfl ?_
  exact hl (v2, v3 + 1) rfl
noncomputable def lX1_greatestKey_6 (k : Nat) (v1 : Int32) (I : gM) : (Int32 × Int32) → Option (Int32) :=
  itO fun s =>
    if ((v1 + 1) * 4) ≤ s.2 then
      some (.inr s.1)
    else
      (rI 16 (I (k + 7)) s.2).bind fun u1 =>
      if u1 = (-1) then
        bX1_greatestKey_51 s.1 s.2
      else
        (rI 16 (I (k + 10)) s.2).bind fun u2 =>
        (rI 48 (I (k + 5)) u2).bind fun u3 =>
        (rI 16 (I (k + 7)) s.2).bind fun u4 =>
        bX1_greatestKey_51 (mX s.1 ((u3 >>> (u4 &&& 31)) &&& 127)) s.2
set_option maxRecDepth 100000 in
set_option maxHeartbeats 4000000 in
theorem wlX1_greatestKey_6 {z : gZ} {E : gE} {bk : Nat} (F : Fx z sh E "LeapJoin$Join" cX1_greatestKey (gR 1) 4) (B : bZ z bk) (hE : gDist sh E) (k : Nat) (v1 : Int32) (hk : shX1 k) (I : gM) (J : gN) {r : Int32} : ∀ s : Int32 × Int32, lX1_greatestKey_6 k v1 I s = some r → (G z 57 [(2, .int r)] [] I J) → G z 6 [(0, .ref (E.2.1 k)), (1, .int v1), (2, .int s.1), (3, .int s.2)] [] I J := by
  intro s h X0
  unfold lX1_greatestKey_6 at h
  revert s
  refine itO_ind (P := fun s : Int32 × Int32 => G z 6 [(0, .ref (E.2.1 k)), (1, .int v1), (2, .int s.1), (3, .int s.2)] [] I J) (fun s y h hl hr => ?_)
  have K6_0 : ∀ x : Int32, y = .inr x → (G z 57 [(2, .int x)] [] I J) := fun x q => by have q2 := hr _ q; subst q2; exact X0
  refine g_iload_n F 3 dX1_greatestKey_6 rfl rfl ?_
  refine g_iload_n F 1 dX1_greatestKey_7 rfl rfl ?_
  refine g_iconst (v := 1) F dX1_greatestKey_8 (by decide) ?_
  refine g_iadd (v := v1 + 1) F dX1_greatestKey_9 rfl ?_
  refine g_iconst (v := 4) F dX1_greatestKey_10 (by decide) ?_
  refine g_imul (v := (v1 + 1) * 4) F dX1_greatestKey_11 rfl ?_
  refine u_icmp_ge (tgt := 57) F dX1_greatestKey_12 (by decide) h (fun h => ?_) (fun h => ?_)
  · obtain rfl := Option.some.inj h
    refine g_sub (Ln := [(2, .int s.1)]) [2] rfl ?_
    exact K6_0 s.1 rfl
  · refine g_aload_n F 0 dX1_greatestKey_15 rfl rfl ?_
    refine g_getr (j := 9) (nn := (k + 7)) F hk.1 rfl rfl uX1 (by decide) q92 dX1_greatestKey_16 ?_
    refine g_iload_n F 3 dX1_greatestKey_19 rfl rfl ?_
    refine u_rI F hk.2.2.2.2.2.2.2.1 (by decide) dX1_greatestKey_20 h (fun u1 h => ?_)
    refine g_iconst (v := (-1)) F dX1_greatestKey_21 (by decide) ?_
    refine u_icmp_eq (tgt := 51) F dX1_greatestKey_22 (by decide) h (fun h => ?_) (fun h => ?_)
    · refine g_sub (Ln := [(0, .ref (E.2.1 k)), (1, .int v1), (2, .int s.1), (3, .int s.2)]) [0, 1, 2, 3] rfl ?_
      exact wbX1_greatestKey_51 F B hE k v1 s.1 s.2 hk I J h hl K6_0
    · refine g_iload_n F 2 dX1_greatestKey_25 rfl rfl ?_
      refine g_aload_n F 0 dX1_greatestKey_26 rfl rfl ?_
      refine g_getr (j := 7) (nn := (k + 5)) F hk.1 rfl rfl uX1 (by decide) q90 dX1_greatestKey_27 ?_
      refine g_aload_n F 0 dX1_greatestKey_30 rfl rfl ?_
      refine g_getr (j := 12) (nn := (k + 10)) F hk.1 rfl rfl uX1 (by decide) q95 dX1_greatestKey_31 ?_
      refine g_iload_n F 3 dX1_greatestKey_34 rfl rfl ?_
      refine u_rI F hk.2.2.2.2.2.2.2.2.2.2 (by decide) dX1_greatestKey_35 h (fun u2 h => ?_)
      refine u_rI F hk.2.2.2.2.2.1 (by decide) dX1_greatestKey_36 h (fun u3 h => ?_)
      refine g_aload_n F 0 dX1_greatestKey_37 rfl rfl ?_
      refine g_getr (j := 9) (nn := (k + 7)) F hk.1 rfl rfl uX1 (by decide) q92 dX1_greatestKey_38 ?_
      refine g_iload_n F 3 dX1_greatestKey_41 rfl rfl ?_
      refine u_rI F hk.2.2.2.2.2.2.2.1 (by decide) dX1_greatestKey_42 h (fun u4 h => ?_)
      refine g_ishr (v := u3 >>> (u4 &&& 31)) F dX1_greatestKey_43 rfl ?_
      refine g_bipush (v := 127) F dX1_greatestKey_44 (by decide) ?_
      refine g_iand (v := (u3 >>> (u4 &&& 31)) &&& 127) F dX1_greatestKey_46 rfl ?_
      refine g_mmax (v := mX s.1 ((u3 >>> (u4 &&& 31)) &&& 127)) F q376 rfl (Nat.le_of_ble_eq_true rfl) (Nat.le_of_ble_eq_true rfl) (Nat.le_of_ble_eq_true rfl) dX1_greatestKey_47 ?_
      refine g_istore_n (Ln := [(2, .int (mX s.1 ((u3 >>> (u4 &&& 31)) &&& 127))), (0, .ref (E.2.1 k)), (1, .int v1), (3, .int s.2)]) F dX1_greatestKey_50 rfl (by decide) rfl ?_
      refine g_sub (Ln := [(0, .ref (E.2.1 k)), (1, .int v1), (2, .int (mX s.1 ((u3 >>> (u4 &&& 31)) &&& 127))), (3, .int s.2)]) [1, 2, 0, 3] rfl ?_
      exact wbX1_greatestKey_51 F B hE k v1 (mX s.1 ((u3 >>> (u4 &&& 31)) &&& 127)) s.2 hk I J h hl K6_0
noncomputable def fX1_greatestKey (k : Nat) (v1 : Int32) (I : gM) : Option (Int32) :=
  (lX1_greatestKey_6 k v1 I (((-1) : Int32), v1 * 4)).bind fun w5 =>
  some w5
set_option maxRecDepth 100000 in
set_option maxHeartbeats 4000000 in
theorem wX1_greatestKey (l : Launch) (E : gE) (hE : gDist sh E) (bk : Nat) (k : Nat) (v1 : Int32) (hk : shX1 k) (I : gM) (J : gN) {r : Int32} (h : fX1_greatestKey k v1 I = some r) : Cu l sh E bk yX1_greatestKey cX1_greatestKey 4 (some .int) (gR 1) [.ref (E.2.1 k), .int v1] I J (fun r1 I1 J1 => r1 = some (.int r) ∧ I1 = I ∧ J1 = J) := by
  refine Cu.of "LeapJoin$Join" rfl hE (by decide) (Nat.le_of_ble_eq_true rfl) (fun z F B e hl => ?_)
  subst hl
  unfold fX1_greatestKey at h
  refine g_iconst (v := (-1)) F dX1_greatestKey_0 (by decide) ?_
  refine g_istore_n (Ln := [(2, .int (-1)), (0, .ref (E.2.1 k)), (1, .int v1)]) F dX1_greatestKey_1 rfl (by decide) rfl ?_
  refine g_iload_n F 2 dX1_greatestKey_2 rfl rfl ?_
  refine g_iconst (v := 4) F dX1_greatestKey_3 (by decide) ?_
  refine g_imul (v := v1 * 4) F dX1_greatestKey_4 rfl ?_
  refine g_istore_n (Ln := [(3, .int (v1 * 4)), (2, .int (-1)), (0, .ref (E.2.1 k)), (1, .int v1)]) F dX1_greatestKey_5 rfl (by decide) rfl ?_
  obtain ⟨w5, ew5, h⟩ := ob h
  refine g_sub (Ln := [(0, .ref (E.2.1 k)), (1, .int v1), (2, .int (-1)), (3, .int (v1 * 4))]) [2, 3, 1, 0] rfl ?_
  refine wlX1_greatestKey_6 F B hE k v1 hk I J _ ew5 ?_
  refine g_iload_n F 0 dX1_greatestKey_57 rfl rfl ?_
  obtain rfl := Option.some.inj h
  exact g_iret F e dX1_greatestKey_58 ⟨rfl, rfl, rfl⟩
theorem DX1_lowestBelow_0 : dAre cX1_lowestBelow [(0, .iconst 0, 1), (1, .istore_n 3, 1), (2, .iload_n 3, 1), (3, .iconst 4, 1), (4, .if_icmp .ge 56, 3), (7, .iload_n 1, 1), (8, .iconst 4, 1), (9, .imul, 1), (10, .iload_n 3, 1), (11, .iadd, 1), (12, .istore 4, 2), (14, .aload_n 0, 1), (15, .getfield 40, 3), (18, .iload 4, 2), (20, .iaload, 1), (21, .iconst (-1), 1)] := dAre0 (by decide +kernel)
theorem dX1_lowestBelow_0 : decode cX1_lowestBelow 0 = .ok (.iconst 0, 1) := DX1_lowestBelow_0.1
theorem dX1_lowestBelow_1 : decode cX1_lowestBelow 1 = .ok (.istore_n 3, 1) := DX1_lowestBelow_0.2.1
theorem dX1_lowestBelow_2 : decode cX1_lowestBelow 2 = .ok (.iload_n 3, 1) := DX1_lowestBelow_0.2.2.1
theorem dX1_lowestBelow_3 : decode cX1_lowestBelow 3 = .ok (.iconst 4, 1) := DX1_lowestBelow_0.2.2.2.1
theorem dX1_lowestBelow_4 : decode cX1_lowestBelow 4 = .ok (.if_icmp .ge 56, 3) := DX1_lowestBelow_0.2.2.2.2.1
theorem dX1_lowestBelow_7 : decode cX1_lowestBelow 7 = .ok (.iload_n 1, 1) := DX1_lowestBelow_0.2.2.2.2.2.1
theorem dX1_lowestBelow_8 : decode cX1_lowestBelow 8 = .ok (.iconst 4, 1) := DX1_lowestBelow_0.2.2.2.2.2.2.1
theorem dX1_lowestBelow_9 : decode cX1_lowestBelow 9 = .ok (.imul, 1) := DX1_lowestBelow_0.2.2.2.2.2.2.2.1
theorem dX1_lowestBelow_10 : decode cX1_lowestBelow 10 = .ok (.iload_n 3, 1) := DX1_lowestBelow_0.2.2.2.2.2.2.2.2.1
theorem dX1_lowestBelow_11 : decode cX1_lowestBelow 11 = .ok (.iadd, 1) := DX1_lowestBelow_0.2.2.2.2.2.2.2.2.2.1
theorem dX1_lowestBelow_12 : decode cX1_lowestBelow 12 = .ok (.istore 4, 2) := DX1_lowestBelow_0.2.2.2.2.2.2.2.2.2.2.1
theorem dX1_lowestBelow_14 : decode cX1_lowestBelow 14 = .ok (.aload_n 0, 1) := DX1_lowestBelow_0.2.2.2.2.2.2.2.2.2.2.2.1
theorem dX1_lowestBelow_15 : decode cX1_lowestBelow 15 = .ok (.getfield 40, 3) := DX1_lowestBelow_0.2.2.2.2.2.2.2.2.2.2.2.2.1
theorem dX1_lowestBelow_18 : decode cX1_lowestBelow 18 = .ok (.iload 4, 2) := DX1_lowestBelow_0.2.2.2.2.2.2.2.2.2.2.2.2.2.1
theorem dX1_lowestBelow_20 : decode cX1_lowestBelow 20 = .ok (.iaload, 1) := DX1_lowestBelow_0.2.2.2.2.2.2.2.2.2.2.2.2.2.2.1
theorem dX1_lowestBelow_21 : decode cX1_lowestBelow 21 = .ok (.iconst (-1), 1) := DX1_lowestBelow_0.2.2.2.2.2.2.2.2.2.2.2.2.2.2.2.1
theorem DX1_lowestBelow_22 : dAre cX1_lowestBelow [(22, .if_icmp .eq 32, 3), (25, .aload_n 0, 1), (26, .getfield 34, 3), (29, .aload_n 0, 1), (30, .getfield 49, 3), (33, .iload 4, 2), (35, .iaload, 1), (36, .iaload, 1), (37, .aload_n 0, 1), (38, .getfield 40, 3), (41, .iload 4, 2), (43, .iaload, 1), (44, .ishr, 1), (45, .bipush 127, 2), (47, .iand, 1), (48, .iload_n 2, 1)] := dAre0 (by decide +kernel)
theorem dX1_lowestBelow_22 : decode cX1_lowestBelow 22 = .ok (.if_icmp .eq 32, 3) := DX1_lowestBelow_22.1
theorem dX1_lowestBelow_25 : decode cX1_lowestBelow 25 = .ok (.aload_n 0, 1) := DX1_lowestBelow_22.2.1
theorem dX1_lowestBelow_26 : decode cX1_lowestBelow 26 = .ok (.getfield 34, 3) := DX1_lowestBelow_22.2.2.1
theorem dX1_lowestBelow_29 : decode cX1_lowestBelow 29 = .ok (.aload_n 0, 1) := DX1_lowestBelow_22.2.2.2.1
theorem dX1_lowestBelow_30 : decode cX1_lowestBelow 30 = .ok (.getfield 49, 3) := DX1_lowestBelow_22.2.2.2.2.1
theorem dX1_lowestBelow_33 : decode cX1_lowestBelow 33 = .ok (.iload 4, 2) := DX1_lowestBelow_22.2.2.2.2.2.1
theorem dX1_lowestBelow_35 : decode cX1_lowestBelow 35 = .ok (.iaload, 1) := DX1_lowestBelow_22.2.2.2.2.2.2.1
theorem dX1_lowestBelow_36 : decode cX1_lowestBelow 36 = .ok (.iaload, 1) := DX1_lowestBelow_22.2.2.2.2.2.2.2.1
theorem dX1_lowestBelow_37 : decode cX1_lowestBelow 37 = .ok (.aload_n 0, 1) := DX1_lowestBelow_22.2.2.2.2.2.2.2.2.1
theorem dX1_lowestBelow_38 : decode cX1_lowestBelow 38 = .ok (.getfield 40, 3) := DX1_lowestBelow_22.2.2.2.2.2.2.2.2.2.1
theorem dX1_lowestBelow_41 : decode cX1_lowestBelow 41 = .ok (.iload 4, 2) := DX1_lowestBelow_22.2.2.2.2.2.2.2.2.2.2.1
theorem dX1_lowestBelow_43 : decode cX1_lowestBelow 43 = .ok (.iaload, 1) := DX1_lowestBelow_22.2.2.2.2.2.2.2.2.2.2.2.1
theorem dX1_lowestBelow_44 : decode cX1_lowestBelow 44 = .ok (.ishr, 1) := DX1_lowestBelow_22.2.2.2.2.2.2.2.2.2.2.2.2.1
theorem dX1_lowestBelow_45 : decode cX1_lowestBelow 45 = .ok (.bipush 127, 2) := DX1_lowestBelow_22.2.2.2.2.2.2.2.2.2.2.2.2.2.1
theorem dX1_lowestBelow_47 : decode cX1_lowestBelow 47 = .ok (.iand, 1) := DX1_lowestBelow_22.2.2.2.2.2.2.2.2.2.2.2.2.2.2.1
theorem dX1_lowestBelow_48 : decode cX1_lowestBelow 48 = .ok (.iload_n 2, 1) := DX1_lowestBelow_22.2.2.2.2.2.2.2.2.2.2.2.2.2.2.2.1
theorem DX1_lowestBelow_49 : dAre cX1_lowestBelow [(49, .if_icmp .ge 5, 3), (52, .iload_n 3, 1), (53, .ireturn, 1), (54, .iinc 3 1, 3), (57, .goto (-55), 3), (60, .iconst (-1), 1), (61, .ireturn, 1)] := dAre0 (by decide +kernel)
theorem dX1_lowestBelow_49 : decode cX1_lowestBelow 49 = .ok (.if_icmp .ge 5, 3) := DX1_lowestBelow_49.1
theorem dX1_lowestBelow_52 : decode cX1_lowestBelow 52 = .ok (.iload_n 3, 1) := DX1_lowestBelow_49.2.1
theorem dX1_lowestBelow_53 : decode cX1_lowestBelow 53 = .ok (.ireturn, 1) := DX1_lowestBelow_49.2.2.1
theorem dX1_lowestBelow_54 : decode cX1_lowestBelow 54 = .ok (.iinc 3 1, 3) := DX1_lowestBelow_49.2.2.2.1
theorem dX1_lowestBelow_57 : decode cX1_lowestBelow 57 = .ok (.goto (-55), 3) := DX1_lowestBelow_49.2.2.2.2.1
theorem dX1_lowestBelow_60 : decode cX1_lowestBelow 60 = .ok (.iconst (-1), 1) := DX1_lowestBelow_49.2.2.2.2.2.1
theorem dX1_lowestBelow_61 : decode cX1_lowestBelow 61 = .ok (.ireturn, 1) := DX1_lowestBelow_49.2.2.2.2.2.2.1
theorem mX1_lowestBelow : gMv yX1_lowestBelow cX1_lowestBelow 5 (some .int) RX1 2 := ⟨q380, q1363, q4, q381, rfl, by decide, by decide, by decide +kernel⟩
noncomputable def bX1_lowestBelow_54 (v3 : Int32) : Option ((Int32) ⊕ ((Int32) ⊕ (Unit))) :=
  some (.inl (v3 + 1))
set_option maxRecDepth 100000 in
set_option maxHeartbeats 4000000 in
theorem wbX1_lowestBelow_54 {z : gZ} {E : gE} {bk : Nat} (F : Fx z sh E "LeapJoin$Join" cX1_lowestBelow (gR 0) 5) (B : bZ z bk) (hE : gDist sh E) (k : Nat) (v1 : Int32) (v2 : Int32) (v3 : Int32) (hk : shX1 k) (I : gM) (J : gN) {y : (Int32) ⊕ ((Int32) ⊕ (Unit))} (h : bX1_lowestBelow_54 v3 = some y) (hl : ∀ s' : Int32, y = .inl s' → G z 2 [(0, .ref (E.2.1 k)), (1, .int v1), (2, .int v2), (3, .int (s'))] [] I J) (K2_0 : ∀ x : Int32, y = .inr (.inl x) → G z 52 [(3, .int x)] [] I J) (K2_1 : ∀ x : Unit, y = .inr (.inr x) → G z 60 [] [] I J) : G z 54 [(0, .ref (E.2.1 k)), (1, .int v1), (2, .int v2), (3, .int v3)] [] I J := by
  unfold bX1_lowestBelow_54 at h
  refine g_iinc (v := v3 + 1) (Ln := [(3, .int (v3 + 1)), (0, .ref (E.2.1 k)), (1, .int v1), (2, .int v2)]) F 3 dX1_lowestBelow_54 rfl (add_c (by decide)) (by decide) rfl ?_
  refine g_goto (tgt := 2) F dX1_lowestBelow_57 (by decide) ?_
  obtain rfl := Option.some.inj h
  refine g_sub (Ln := [(0, .ref (E.2.1 k)), (1, .int v1), (2, .int v2), (3, .int (v3 + 1))]) [1, 2, 3, 0] rfl ?_
  exact hl (v3 + 1) rfl
noncomputable def lX1_lowestBelow_2 (k : Nat) (v1 : Int32) (v2 : Int32) (I : gM) : Int32 → Option ((Int32) ⊕ (Unit)) :=
  itO fun s =>
    if (4 : Int32) ≤ s then
      some (.inr (.inr ()))
    else
      (rI 16 (I (k + 7)) ((v1 * 4) + s)).bind fun u1 =>
      if u1 = (-1) then
        bX1_lowestBelow_54 s
      else
        (rI 16 (I (k + 10)) ((v1 * 4) + s)).bind fun u2 =>
        (rI 48 (I (k + 5)) u2).bind fun u3 =>
        (rI 16 (I (k + 7)) ((v1 * 4) + s)).bind fun u4 =>
        if v2 ≤ ((u3 >>> (u4 &&& 31)) &&& 127) then
          bX1_lowestBelow_54 s
        else
          some (.inr (.inl s))
set_option maxRecDepth 100000 in
set_option maxHeartbeats 4000000 in
theorem wlX1_lowestBelow_2 {z : gZ} {E : gE} {bk : Nat} (F : Fx z sh E "LeapJoin$Join" cX1_lowestBelow (gR 0) 5) (B : bZ z bk) (hE : gDist sh E) (k : Nat) (v1 : Int32) (v2 : Int32) (hk : shX1 k) (I : gM) (J : gN) {r : (Int32) ⊕ (Unit)} : ∀ s : Int32, lX1_lowestBelow_2 k v1 v2 I s = some r → (∀ x : Int32, r = .inl x → G z 52 [(3, .int x)] [] I J) → (∀ x : Unit, r = .inr x → G z 60 [] [] I J) → G z 2 [(0, .ref (E.2.1 k)), (1, .int v1), (2, .int v2), (3, .int s)] [] I J := by
  intro s h X0 X1
  unfold lX1_lowestBelow_2 at h
  revert s
  refine itO_ind (P := fun s : Int32 => G z 2 [(0, .ref (E.2.1 k)), (1, .int v1), (2, .int v2), (3, .int s)] [] I J) (fun s y h hl hr => ?_)
  have K2_0 := fun (x : Int32) (q : y = .inr (.inl x)) => X0 x (hr _ q).symm
  have K2_1 := fun (x : Unit) (q : y = .inr (.inr x)) => X1 x (hr _ q).symm
  refine g_iload_n F 3 dX1_lowestBelow_2 rfl rfl ?_
  refine g_iconst (v := 4) F dX1_lowestBelow_3 (by decide) ?_
  refine u_icmp_ge (tgt := 60) F dX1_lowestBelow_4 (by decide) h (fun h => ?_) (fun h => ?_)
  · obtain rfl := Option.some.inj h
    refine g_sub (Ln := []) [] rfl ?_
    exact K2_1 () rfl
  · refine g_iload_n F 1 dX1_lowestBelow_7 rfl rfl ?_
    refine g_iconst (v := 4) F dX1_lowestBelow_8 (by decide) ?_
    refine g_imul (v := v1 * 4) F dX1_lowestBelow_9 rfl ?_
    refine g_iload_n F 3 dX1_lowestBelow_10 rfl rfl ?_
    refine g_iadd (v := (v1 * 4) + s) F dX1_lowestBelow_11 rfl ?_
    refine g_istore (Ln := [(4, .int ((v1 * 4) + s)), (0, .ref (E.2.1 k)), (1, .int v1), (2, .int v2), (3, .int s)]) F dX1_lowestBelow_12 (by decide) rfl ?_
    refine g_aload_n F 1 dX1_lowestBelow_14 rfl rfl ?_
    refine g_getr (j := 9) (nn := (k + 7)) F hk.1 rfl rfl uX1 (by decide) q92 dX1_lowestBelow_15 ?_
    refine g_iload F 0 dX1_lowestBelow_18 rfl ?_
    refine u_rI F hk.2.2.2.2.2.2.2.1 (by decide) dX1_lowestBelow_20 h (fun u1 h => ?_)
    refine g_iconst (v := (-1)) F dX1_lowestBelow_21 (by decide) ?_
    refine u_icmp_eq (tgt := 54) F dX1_lowestBelow_22 (by decide) h (fun h => ?_) (fun h => ?_)
    · refine g_sub (Ln := [(0, .ref (E.2.1 k)), (1, .int v1), (2, .int v2), (3, .int s)]) [1, 2, 3, 4] rfl ?_
      exact wbX1_lowestBelow_54 F B hE k v1 v2 s hk I J h hl K2_0 K2_1
    · refine g_aload_n F 1 dX1_lowestBelow_25 rfl rfl ?_
      refine g_getr (j := 7) (nn := (k + 5)) F hk.1 rfl rfl uX1 (by decide) q90 dX1_lowestBelow_26 ?_
      refine g_aload_n F 1 dX1_lowestBelow_29 rfl rfl ?_
      refine g_getr (j := 12) (nn := (k + 10)) F hk.1 rfl rfl uX1 (by decide) q95 dX1_lowestBelow_30 ?_
      refine g_iload F 0 dX1_lowestBelow_33 rfl ?_
      refine u_rI F hk.2.2.2.2.2.2.2.2.2.2 (by decide) dX1_lowestBelow_35 h (fun u2 h => ?_)
      refine u_rI F hk.2.2.2.2.2.1 (by decide) dX1_lowestBelow_36 h (fun u3 h => ?_)
      refine g_aload_n F 1 dX1_lowestBelow_37 rfl rfl ?_
      refine g_getr (j := 9) (nn := (k + 7)) F hk.1 rfl rfl uX1 (by decide) q92 dX1_lowestBelow_38 ?_
      refine g_iload F 0 dX1_lowestBelow_41 rfl ?_
      refine u_rI F hk.2.2.2.2.2.2.2.1 (by decide) dX1_lowestBelow_43 h (fun u4 h => ?_)
      refine g_ishr (v := u3 >>> (u4 &&& 31)) F dX1_lowestBelow_44 rfl ?_
      refine g_bipush (v := 127) F dX1_lowestBelow_45 (by decide) ?_
      refine g_iand (v := (u3 >>> (u4 &&& 31)) &&& 127) F dX1_lowestBelow_47 rfl ?_
      refine g_iload_n F 3 dX1_lowestBelow_48 rfl rfl ?_
      refine u_icmp_ge (tgt := 54) F dX1_lowestBelow_49 (by decide) h (fun h => ?_) (fun h => ?_)
      · refine g_sub (Ln := [(0, .ref (E.2.1 k)), (1, .int v1), (2, .int v2), (3, .int s)]) [1, 2, 3, 4] rfl ?_
        exact wbX1_lowestBelow_54 F B hE k v1 v2 s hk I J h hl K2_0 K2_1
      · obtain rfl := Option.some.inj h
        refine g_sub (Ln := [(3, .int s)]) [4] rfl ?_
        exact K2_0 s rfl
noncomputable def fX1_lowestBelow (k : Nat) (v1 : Int32) (v2 : Int32) (I : gM) : Option (Int32) :=
  (lX1_lowestBelow_2 k v1 v2 I (0 : Int32)).bind fun w5 =>
  Sum.elim (fun w5_0 =>
    some w5_0)
  (fun w5_1 =>
    some ((-1) : Int32)) w5
set_option maxRecDepth 100000 in
set_option maxHeartbeats 4000000 in
theorem wX1_lowestBelow (l : Launch) (E : gE) (hE : gDist sh E) (bk : Nat) (k : Nat) (v1 : Int32) (v2 : Int32) (hk : shX1 k) (I : gM) (J : gN) {r : Int32} (h : fX1_lowestBelow k v1 v2 I = some r) : Cu l sh E bk yX1_lowestBelow cX1_lowestBelow 5 (some .int) (gR 0) [.ref (E.2.1 k), .int v1, .int v2] I J (fun r1 I1 J1 => r1 = some (.int r) ∧ I1 = I ∧ J1 = J) := by
  refine Cu.of "LeapJoin$Join" rfl hE (by decide) (Nat.le_of_ble_eq_true rfl) (fun z F B e hl => ?_)
  subst hl
  unfold fX1_lowestBelow at h
  refine g_iconst (v := 0) F dX1_lowestBelow_0 (by decide) ?_
  refine g_istore_n (Ln := [(3, .int 0), (0, .ref (E.2.1 k)), (1, .int v1), (2, .int v2)]) F dX1_lowestBelow_1 rfl (by decide) rfl ?_
  obtain ⟨w5, ew5, h⟩ := ob h
  refine g_sub (Ln := [(0, .ref (E.2.1 k)), (1, .int v1), (2, .int v2), (3, .int 0)]) [1, 2, 3, 0] rfl ?_
  refine wlX1_lowestBelow_2 F B hE k v1 v2 hk I J _ ew5 (fun w5_0 q => ?_) (fun w5_1 q => ?_)
  · subst q
    replace h := oE1 h
    refine g_iload_n F 0 dX1_lowestBelow_52 rfl rfl ?_
    obtain rfl := Option.some.inj h
    exact g_iret F e dX1_lowestBelow_53 ⟨rfl, rfl, rfl⟩
  · subst q
    replace h := oE2 h
    refine g_iconst (v := (-1)) F dX1_lowestBelow_60 (by decide) ?_
    obtain rfl := Option.some.inj h
    exact g_iret F e dX1_lowestBelow_61 ⟨rfl, rfl, rfl⟩
theorem DX1_narrow_0 : dAre cX1_narrow [(0, .iload_n 1, 1), (1, .iconst 4, 1), (2, .imul, 1), (3, .istore_n 3, 1), (4, .iload_n 3, 1), (5, .iload_n 1, 1), (6, .iconst 1, 1), (7, .iadd, 1), (8, .iconst 4, 1), (9, .imul, 1), (10, .if_icmp .ge 105, 3), (13, .iload_n 3, 1), (14, .iconst 4, 1), (15, .iadd, 1), (16, .istore 4, 2), (18, .aload_n 0, 1)] := dAre0 (by decide +kernel)
theorem dX1_narrow_0 : decode cX1_narrow 0 = .ok (.iload_n 1, 1) := DX1_narrow_0.1
theorem dX1_narrow_1 : decode cX1_narrow 1 = .ok (.iconst 4, 1) := DX1_narrow_0.2.1
theorem dX1_narrow_2 : decode cX1_narrow 2 = .ok (.imul, 1) := DX1_narrow_0.2.2.1
theorem dX1_narrow_3 : decode cX1_narrow 3 = .ok (.istore_n 3, 1) := DX1_narrow_0.2.2.2.1
theorem dX1_narrow_4 : decode cX1_narrow 4 = .ok (.iload_n 3, 1) := DX1_narrow_0.2.2.2.2.1
theorem dX1_narrow_5 : decode cX1_narrow 5 = .ok (.iload_n 1, 1) := DX1_narrow_0.2.2.2.2.2.1
theorem dX1_narrow_6 : decode cX1_narrow 6 = .ok (.iconst 1, 1) := DX1_narrow_0.2.2.2.2.2.2.1
theorem dX1_narrow_7 : decode cX1_narrow 7 = .ok (.iadd, 1) := DX1_narrow_0.2.2.2.2.2.2.2.1
theorem dX1_narrow_8 : decode cX1_narrow 8 = .ok (.iconst 4, 1) := DX1_narrow_0.2.2.2.2.2.2.2.2.1
theorem dX1_narrow_9 : decode cX1_narrow 9 = .ok (.imul, 1) := DX1_narrow_0.2.2.2.2.2.2.2.2.2.1
theorem dX1_narrow_10 : decode cX1_narrow 10 = .ok (.if_icmp .ge 105, 3) := DX1_narrow_0.2.2.2.2.2.2.2.2.2.2.1
theorem dX1_narrow_13 : decode cX1_narrow 13 = .ok (.iload_n 3, 1) := DX1_narrow_0.2.2.2.2.2.2.2.2.2.2.2.1
theorem dX1_narrow_14 : decode cX1_narrow 14 = .ok (.iconst 4, 1) := DX1_narrow_0.2.2.2.2.2.2.2.2.2.2.2.2.1
theorem dX1_narrow_15 : decode cX1_narrow 15 = .ok (.iadd, 1) := DX1_narrow_0.2.2.2.2.2.2.2.2.2.2.2.2.2.1
theorem dX1_narrow_16 : decode cX1_narrow 16 = .ok (.istore 4, 2) := DX1_narrow_0.2.2.2.2.2.2.2.2.2.2.2.2.2.2.1
theorem dX1_narrow_18 : decode cX1_narrow 18 = .ok (.aload_n 0, 1) := DX1_narrow_0.2.2.2.2.2.2.2.2.2.2.2.2.2.2.2.1
theorem DX1_narrow_19 : dAre cX1_narrow [(19, .getfield 43, 3), (22, .iload 4, 2), (24, .aload_n 0, 1), (25, .getfield 49, 3), (28, .iload_n 3, 1), (29, .iaload, 1), (30, .iastore, 1), (31, .aload_n 0, 1), (32, .getfield 46, 3), (35, .iload 4, 2), (37, .aload_n 0, 1), (38, .getfield 46, 3), (41, .iload_n 3, 1), (42, .iaload, 1), (43, .iastore, 1), (44, .aload_n 0, 1)] := dAre0 (by decide +kernel)
theorem dX1_narrow_19 : decode cX1_narrow 19 = .ok (.getfield 43, 3) := DX1_narrow_19.1
theorem dX1_narrow_22 : decode cX1_narrow 22 = .ok (.iload 4, 2) := DX1_narrow_19.2.1
theorem dX1_narrow_24 : decode cX1_narrow 24 = .ok (.aload_n 0, 1) := DX1_narrow_19.2.2.1
theorem dX1_narrow_25 : decode cX1_narrow 25 = .ok (.getfield 49, 3) := DX1_narrow_19.2.2.2.1
theorem dX1_narrow_28 : decode cX1_narrow 28 = .ok (.iload_n 3, 1) := DX1_narrow_19.2.2.2.2.1
theorem dX1_narrow_29 : decode cX1_narrow 29 = .ok (.iaload, 1) := DX1_narrow_19.2.2.2.2.2.1
theorem dX1_narrow_30 : decode cX1_narrow 30 = .ok (.iastore, 1) := DX1_narrow_19.2.2.2.2.2.2.1
theorem dX1_narrow_31 : decode cX1_narrow 31 = .ok (.aload_n 0, 1) := DX1_narrow_19.2.2.2.2.2.2.2.1
theorem dX1_narrow_32 : decode cX1_narrow 32 = .ok (.getfield 46, 3) := DX1_narrow_19.2.2.2.2.2.2.2.2.1
theorem dX1_narrow_35 : decode cX1_narrow 35 = .ok (.iload 4, 2) := DX1_narrow_19.2.2.2.2.2.2.2.2.2.1
theorem dX1_narrow_37 : decode cX1_narrow 37 = .ok (.aload_n 0, 1) := DX1_narrow_19.2.2.2.2.2.2.2.2.2.2.1
theorem dX1_narrow_38 : decode cX1_narrow 38 = .ok (.getfield 46, 3) := DX1_narrow_19.2.2.2.2.2.2.2.2.2.2.2.1
theorem dX1_narrow_41 : decode cX1_narrow 41 = .ok (.iload_n 3, 1) := DX1_narrow_19.2.2.2.2.2.2.2.2.2.2.2.2.1
theorem dX1_narrow_42 : decode cX1_narrow 42 = .ok (.iaload, 1) := DX1_narrow_19.2.2.2.2.2.2.2.2.2.2.2.2.2.1
theorem dX1_narrow_43 : decode cX1_narrow 43 = .ok (.iastore, 1) := DX1_narrow_19.2.2.2.2.2.2.2.2.2.2.2.2.2.2.1
theorem dX1_narrow_44 : decode cX1_narrow 44 = .ok (.aload_n 0, 1) := DX1_narrow_19.2.2.2.2.2.2.2.2.2.2.2.2.2.2.2.1
theorem DX1_narrow_45 : dAre cX1_narrow [(45, .getfield 40, 3), (48, .iload_n 3, 1), (49, .iaload, 1), (50, .iconst (-1), 1), (51, .if_icmp .eq 58, 3), (54, .aload_n 0, 1), (55, .getfield 49, 3), (58, .iload_n 3, 1), (59, .iaload, 1), (60, .istore 5, 2), (62, .iload 5, 2), (64, .aload_n 0, 1), (65, .getfield 46, 3), (68, .iload_n 3, 1), (69, .iaload, 1), (70, .if_icmp .ge 30, 3)] := dAre0 (by decide +kernel)
theorem dX1_narrow_45 : decode cX1_narrow 45 = .ok (.getfield 40, 3) := DX1_narrow_45.1
theorem dX1_narrow_48 : decode cX1_narrow 48 = .ok (.iload_n 3, 1) := DX1_narrow_45.2.1
theorem dX1_narrow_49 : decode cX1_narrow 49 = .ok (.iaload, 1) := DX1_narrow_45.2.2.1
theorem dX1_narrow_50 : decode cX1_narrow 50 = .ok (.iconst (-1), 1) := DX1_narrow_45.2.2.2.1
theorem dX1_narrow_51 : decode cX1_narrow 51 = .ok (.if_icmp .eq 58, 3) := DX1_narrow_45.2.2.2.2.1
theorem dX1_narrow_54 : decode cX1_narrow 54 = .ok (.aload_n 0, 1) := DX1_narrow_45.2.2.2.2.2.1
theorem dX1_narrow_55 : decode cX1_narrow 55 = .ok (.getfield 49, 3) := DX1_narrow_45.2.2.2.2.2.2.1
theorem dX1_narrow_58 : decode cX1_narrow 58 = .ok (.iload_n 3, 1) := DX1_narrow_45.2.2.2.2.2.2.2.1
theorem dX1_narrow_59 : decode cX1_narrow 59 = .ok (.iaload, 1) := DX1_narrow_45.2.2.2.2.2.2.2.2.1
theorem dX1_narrow_60 : decode cX1_narrow 60 = .ok (.istore 5, 2) := DX1_narrow_45.2.2.2.2.2.2.2.2.2.1
theorem dX1_narrow_62 : decode cX1_narrow 62 = .ok (.iload 5, 2) := DX1_narrow_45.2.2.2.2.2.2.2.2.2.2.1
theorem dX1_narrow_64 : decode cX1_narrow 64 = .ok (.aload_n 0, 1) := DX1_narrow_45.2.2.2.2.2.2.2.2.2.2.2.1
theorem dX1_narrow_65 : decode cX1_narrow 65 = .ok (.getfield 46, 3) := DX1_narrow_45.2.2.2.2.2.2.2.2.2.2.2.2.1
theorem dX1_narrow_68 : decode cX1_narrow 68 = .ok (.iload_n 3, 1) := DX1_narrow_45.2.2.2.2.2.2.2.2.2.2.2.2.2.1
theorem dX1_narrow_69 : decode cX1_narrow 69 = .ok (.iaload, 1) := DX1_narrow_45.2.2.2.2.2.2.2.2.2.2.2.2.2.2.1
theorem dX1_narrow_70 : decode cX1_narrow 70 = .ok (.if_icmp .ge 30, 3) := DX1_narrow_45.2.2.2.2.2.2.2.2.2.2.2.2.2.2.2.1
theorem DX1_narrow_73 : dAre cX1_narrow [(73, .aload_n 0, 1), (74, .getfield 34, 3), (77, .iload 5, 2), (79, .iaload, 1), (80, .aload_n 0, 1), (81, .getfield 40, 3), (84, .iload_n 3, 1), (85, .iaload, 1), (86, .ishr, 1), (87, .bipush 127, 2), (89, .iand, 1), (90, .iload_n 2, 1), (91, .if_icmp .ne 9, 3), (94, .iinc 5 1, 3), (97, .goto (-35), 3), (100, .aload_n 0, 1)] := dAre0 (by decide +kernel)
theorem dX1_narrow_73 : decode cX1_narrow 73 = .ok (.aload_n 0, 1) := DX1_narrow_73.1
theorem dX1_narrow_74 : decode cX1_narrow 74 = .ok (.getfield 34, 3) := DX1_narrow_73.2.1
theorem dX1_narrow_77 : decode cX1_narrow 77 = .ok (.iload 5, 2) := DX1_narrow_73.2.2.1
theorem dX1_narrow_79 : decode cX1_narrow 79 = .ok (.iaload, 1) := DX1_narrow_73.2.2.2.1
theorem dX1_narrow_80 : decode cX1_narrow 80 = .ok (.aload_n 0, 1) := DX1_narrow_73.2.2.2.2.1
theorem dX1_narrow_81 : decode cX1_narrow 81 = .ok (.getfield 40, 3) := DX1_narrow_73.2.2.2.2.2.1
theorem dX1_narrow_84 : decode cX1_narrow 84 = .ok (.iload_n 3, 1) := DX1_narrow_73.2.2.2.2.2.2.1
theorem dX1_narrow_85 : decode cX1_narrow 85 = .ok (.iaload, 1) := DX1_narrow_73.2.2.2.2.2.2.2.1
theorem dX1_narrow_86 : decode cX1_narrow 86 = .ok (.ishr, 1) := DX1_narrow_73.2.2.2.2.2.2.2.2.1
theorem dX1_narrow_87 : decode cX1_narrow 87 = .ok (.bipush 127, 2) := DX1_narrow_73.2.2.2.2.2.2.2.2.2.1
theorem dX1_narrow_89 : decode cX1_narrow 89 = .ok (.iand, 1) := DX1_narrow_73.2.2.2.2.2.2.2.2.2.2.1
theorem dX1_narrow_90 : decode cX1_narrow 90 = .ok (.iload_n 2, 1) := DX1_narrow_73.2.2.2.2.2.2.2.2.2.2.2.1
theorem dX1_narrow_91 : decode cX1_narrow 91 = .ok (.if_icmp .ne 9, 3) := DX1_narrow_73.2.2.2.2.2.2.2.2.2.2.2.2.1
theorem dX1_narrow_94 : decode cX1_narrow 94 = .ok (.iinc 5 1, 3) := DX1_narrow_73.2.2.2.2.2.2.2.2.2.2.2.2.2.1
theorem dX1_narrow_97 : decode cX1_narrow 97 = .ok (.goto (-35), 3) := DX1_narrow_73.2.2.2.2.2.2.2.2.2.2.2.2.2.2.1
theorem dX1_narrow_100 : decode cX1_narrow 100 = .ok (.aload_n 0, 1) := DX1_narrow_73.2.2.2.2.2.2.2.2.2.2.2.2.2.2.2.1
theorem DX1_narrow_101 : dAre cX1_narrow [(101, .getfield 46, 3), (104, .iload 4, 2), (106, .iload 5, 2), (108, .iastore, 1), (109, .iinc 3 1, 3), (112, .goto (-108), 3), (115, .return_, 1)] := dAre0 (by decide +kernel)
theorem dX1_narrow_101 : decode cX1_narrow 101 = .ok (.getfield 46, 3) := DX1_narrow_101.1
theorem dX1_narrow_104 : decode cX1_narrow 104 = .ok (.iload 4, 2) := DX1_narrow_101.2.1
theorem dX1_narrow_106 : decode cX1_narrow 106 = .ok (.iload 5, 2) := DX1_narrow_101.2.2.1
theorem dX1_narrow_108 : decode cX1_narrow 108 = .ok (.iastore, 1) := DX1_narrow_101.2.2.2.1
theorem dX1_narrow_109 : decode cX1_narrow 109 = .ok (.iinc 3 1, 3) := DX1_narrow_101.2.2.2.2.1
theorem dX1_narrow_112 : decode cX1_narrow 112 = .ok (.goto (-108), 3) := DX1_narrow_101.2.2.2.2.2.1
theorem dX1_narrow_115 : decode cX1_narrow 115 = .ok (.return_, 1) := DX1_narrow_101.2.2.2.2.2.2.1
theorem mX1_narrow : gMv yX1_narrow cX1_narrow 6 none RX1 2 := ⟨q386, q1365, q4, q387, rfl, by decide, by decide, by decide +kernel⟩
noncomputable def bX1_narrow_109 (v3 : Int32) (I : gM) : Option ((Int32 × gM) ⊕ (gM)) :=
  some (.inl (v3 + 1, I))
set_option maxRecDepth 100000 in
set_option maxHeartbeats 4000000 in
theorem wbX1_narrow_109 {z : gZ} {E : gE} {bk : Nat} (F : Fx z sh E "LeapJoin$Join" cX1_narrow (gR 0) 6) (B : bZ z bk) (hE : gDist sh E) (k : Nat) (v1 : Int32) (v2 : Int32) (v3 : Int32) (hk : shX1 k) (I : gM) (J : gN) {y : (Int32 × gM) ⊕ (gM)} (h : bX1_narrow_109 v3 I = some y) (hl : ∀ s' : Int32 × gM, y = .inl s' → G z 4 [(0, .ref (E.2.1 k)), (1, .int v1), (2, .int v2), (3, .int (s'.1))] [] s'.2 J) (K4_0 : ∀ x : gM, y = .inr x → G z 115 [] [] x J) : G z 109 [(0, .ref (E.2.1 k)), (1, .int v1), (2, .int v2), (3, .int v3)] [] I J := by
  unfold bX1_narrow_109 at h
  refine g_iinc (v := v3 + 1) (Ln := [(3, .int (v3 + 1)), (0, .ref (E.2.1 k)), (1, .int v1), (2, .int v2)]) F 3 dX1_narrow_109 rfl (add_c (by decide)) (by decide) rfl ?_
  refine g_goto (tgt := 4) F dX1_narrow_112 (by decide) ?_
  obtain rfl := Option.some.inj h
  refine g_sub (Ln := [(0, .ref (E.2.1 k)), (1, .int v1), (2, .int v2), (3, .int (v3 + 1))]) [1, 2, 3, 0] rfl ?_
  exact hl (v3 + 1, I) rfl
noncomputable def lX1_narrow_62 (k : Nat) (v2 : Int32) (v3 : Int32) (I : gM) : Int32 → Option (Int32) :=
  itO fun s =>
    (rI 16 (I (k + 9)) v3).bind fun u7 =>
    if u7 ≤ s then
      some (.inr s)
    else
      (rI 48 (I (k + 5)) s).bind fun u8 =>
      (rI 16 (I (k + 7)) v3).bind fun u9 =>
      if ((u8 >>> (u9 &&& 31)) &&& 127) = v2 then
        some (.inl (s + 1))
      else
        some (.inr s)
set_option maxRecDepth 100000 in
set_option maxHeartbeats 4000000 in
theorem wlX1_narrow_62 {z : gZ} {E : gE} {bk : Nat} (F : Fx z sh E "LeapJoin$Join" cX1_narrow (gR 0) 6) (B : bZ z bk) (hE : gDist sh E) (k : Nat) (v1 : Int32) (v2 : Int32) (v3 : Int32) (v4 : Int32) (hk : shX1 k) (I : gM) (J : gN) {r : Int32} : ∀ s : Int32, lX1_narrow_62 k v2 v3 I s = some r → (G z 100 [(0, .ref (E.2.1 k)), (1, .int v1), (2, .int v2), (3, .int v3), (4, .int v4), (5, .int r)] [] I J) → G z 62 [(0, .ref (E.2.1 k)), (1, .int v1), (2, .int v2), (3, .int v3), (4, .int v4), (5, .int s)] [] I J := by
  intro s h X0
  unfold lX1_narrow_62 at h
  revert s
  refine itO_ind (P := fun s : Int32 => G z 62 [(0, .ref (E.2.1 k)), (1, .int v1), (2, .int v2), (3, .int v3), (4, .int v4), (5, .int s)] [] I J) (fun s y h hl hr => ?_)
  have K62_0 : ∀ x : Int32, y = .inr x → (G z 100 [(0, .ref (E.2.1 k)), (1, .int v1), (2, .int v2), (3, .int v3), (4, .int v4), (5, .int x)] [] I J) := fun x q => by have q2 := hr _ q; subst q2; exact X0
  refine g_iload F 5 dX1_narrow_62 rfl ?_
  refine g_aload_n F 0 dX1_narrow_64 rfl rfl ?_
  refine g_getr (j := 11) (nn := (k + 9)) F hk.1 rfl rfl uX1 (by decide) q94 dX1_narrow_65 ?_
  refine g_iload_n F 3 dX1_narrow_68 rfl rfl ?_
  refine u_rI F hk.2.2.2.2.2.2.2.2.2.1 (by decide) dX1_narrow_69 h (fun u7 h => ?_)
  refine u_icmp_ge (tgt := 100) F dX1_narrow_70 (by decide) h (fun h => ?_) (fun h => ?_)
  · obtain rfl := Option.some.inj h
    refine g_sub (Ln := [(0, .ref (E.2.1 k)), (1, .int v1), (2, .int v2), (3, .int v3), (4, .int v4), (5, .int s)]) [0, 1, 2, 3, 4, 5] rfl ?_
    exact K62_0 s rfl
  · refine g_aload_n F 0 dX1_narrow_73 rfl rfl ?_
    refine g_getr (j := 7) (nn := (k + 5)) F hk.1 rfl rfl uX1 (by decide) q90 dX1_narrow_74 ?_
    refine g_iload F 5 dX1_narrow_77 rfl ?_
    refine u_rI F hk.2.2.2.2.2.1 (by decide) dX1_narrow_79 h (fun u8 h => ?_)
    refine g_aload_n F 0 dX1_narrow_80 rfl rfl ?_
    refine g_getr (j := 9) (nn := (k + 7)) F hk.1 rfl rfl uX1 (by decide) q92 dX1_narrow_81 ?_
    refine g_iload_n F 3 dX1_narrow_84 rfl rfl ?_
    refine u_rI F hk.2.2.2.2.2.2.2.1 (by decide) dX1_narrow_85 h (fun u9 h => ?_)
    refine g_ishr (v := u8 >>> (u9 &&& 31)) F dX1_narrow_86 rfl ?_
    refine g_bipush (v := 127) F dX1_narrow_87 (by decide) ?_
    refine g_iand (v := (u8 >>> (u9 &&& 31)) &&& 127) F dX1_narrow_89 rfl ?_
    refine g_iload_n F 2 dX1_narrow_90 rfl rfl ?_
    refine u_icmp_ne (tgt := 100) F dX1_narrow_91 (by decide) h (fun h => ?_) (fun h => ?_)
    · refine g_iinc (v := s + 1) (Ln := [(5, .int (s + 1)), (0, .ref (E.2.1 k)), (1, .int v1), (2, .int v2), (3, .int v3), (4, .int v4)]) F 5 dX1_narrow_94 rfl (add_c (by decide)) (by decide) rfl ?_
      refine g_goto (tgt := 62) F dX1_narrow_97 (by decide) ?_
      obtain rfl := Option.some.inj h
      refine g_sub (Ln := [(0, .ref (E.2.1 k)), (1, .int v1), (2, .int v2), (3, .int v3), (4, .int v4), (5, .int (s + 1))]) [1, 2, 3, 4, 5, 0] rfl ?_
      exact hl (s + 1) rfl
    · obtain rfl := Option.some.inj h
      refine g_sub (Ln := [(0, .ref (E.2.1 k)), (1, .int v1), (2, .int v2), (3, .int v3), (4, .int v4), (5, .int s)]) [0, 1, 2, 3, 4, 5] rfl ?_
      exact K62_0 s rfl
noncomputable def bX1_narrow_100 (k : Nat) (v3 : Int32) (v4 : Int32) (v5 : Int32) (I : gM) : Option ((Int32 × gM) ⊕ (gM)) :=
  (wI I (k + 9) 16 v4 v5).bind fun I11 =>
  bX1_narrow_109 v3 I11
set_option maxRecDepth 100000 in
set_option maxHeartbeats 4000000 in
theorem wbX1_narrow_100 {z : gZ} {E : gE} {bk : Nat} (F : Fx z sh E "LeapJoin$Join" cX1_narrow (gR 0) 6) (B : bZ z bk) (hE : gDist sh E) (k : Nat) (v1 : Int32) (v2 : Int32) (v3 : Int32) (v4 : Int32) (v5 : Int32) (hk : shX1 k) (I : gM) (J : gN) {y : (Int32 × gM) ⊕ (gM)} (h : bX1_narrow_100 k v3 v4 v5 I = some y) (hl : ∀ s' : Int32 × gM, y = .inl s' → G z 4 [(0, .ref (E.2.1 k)), (1, .int v1), (2, .int v2), (3, .int (s'.1))] [] s'.2 J) (K4_0 : ∀ x : gM, y = .inr x → G z 115 [] [] x J) : G z 100 [(0, .ref (E.2.1 k)), (1, .int v1), (2, .int v2), (3, .int v3), (4, .int v4), (5, .int v5)] [] I J := by
  unfold bX1_narrow_100 at h
  refine g_aload_n F 0 dX1_narrow_100 rfl rfl ?_
  refine g_getr (j := 11) (nn := (k + 9)) F hk.1 rfl rfl uX1 (by decide) q94 dX1_narrow_101 ?_
  refine g_iload F 4 dX1_narrow_104 rfl ?_
  refine g_iload F 5 dX1_narrow_106 rfl ?_
  refine u_wI F hk.2.2.2.2.2.2.2.2.2.1 (by decide) dX1_narrow_108 h (fun I11 h => ?_)
  refine g_sub (Ln := [(0, .ref (E.2.1 k)), (1, .int v1), (2, .int v2), (3, .int v3)]) [0, 1, 2, 3] rfl ?_
  exact wbX1_narrow_109 F B hE k v1 v2 v3 hk I11 J h hl K4_0
noncomputable def lX1_narrow_4 (k : Nat) (v1 : Int32) (v2 : Int32) : (Int32 × gM) → Option (gM) :=
  itO fun s =>
    if ((v1 + 1) * 4) ≤ s.1 then
      some (.inr s.2)
    else
      (rI 16 (s.2 (k + 10)) s.1).bind fun u1 =>
      (wI s.2 (k + 8) 16 (s.1 + 4) u1).bind fun I2 =>
      (rI 16 (I2 (k + 9)) s.1).bind fun u3 =>
      (wI I2 (k + 9) 16 (s.1 + 4) u3).bind fun I4 =>
      (rI 16 (I4 (k + 7)) s.1).bind fun u5 =>
      if u5 = (-1) then
        bX1_narrow_109 s.1 I4
      else
        (rI 16 (I4 (k + 10)) s.1).bind fun u6 =>
        (lX1_narrow_62 k v2 s.1 I4 u6).bind fun w10 =>
        bX1_narrow_100 k s.1 (s.1 + 4) w10 I4
set_option maxRecDepth 100000 in
set_option maxHeartbeats 4000000 in
theorem wlX1_narrow_4 {z : gZ} {E : gE} {bk : Nat} (F : Fx z sh E "LeapJoin$Join" cX1_narrow (gR 0) 6) (B : bZ z bk) (hE : gDist sh E) (k : Nat) (v1 : Int32) (v2 : Int32) (hk : shX1 k) (J : gN) {r : gM} : ∀ s : Int32 × gM, lX1_narrow_4 k v1 v2 s = some r → (G z 115 [] [] r J) → G z 4 [(0, .ref (E.2.1 k)), (1, .int v1), (2, .int v2), (3, .int s.1)] [] s.2 J := by
  intro s h X0
  unfold lX1_narrow_4 at h
  revert s
  refine itO_ind (P := fun s : Int32 × gM => G z 4 [(0, .ref (E.2.1 k)), (1, .int v1), (2, .int v2), (3, .int s.1)] [] s.2 J) (fun s y h hl hr => ?_)
  have K4_0 : ∀ x : gM, y = .inr x → (G z 115 [] [] x J) := fun x q => by have q2 := hr _ q; subst q2; exact X0
  refine g_iload_n F 3 dX1_narrow_4 rfl rfl ?_
  refine g_iload_n F 1 dX1_narrow_5 rfl rfl ?_
  refine g_iconst (v := 1) F dX1_narrow_6 (by decide) ?_
  refine g_iadd (v := v1 + 1) F dX1_narrow_7 rfl ?_
  refine g_iconst (v := 4) F dX1_narrow_8 (by decide) ?_
  refine g_imul (v := (v1 + 1) * 4) F dX1_narrow_9 rfl ?_
  refine u_icmp_ge (tgt := 115) F dX1_narrow_10 (by decide) h (fun h => ?_) (fun h => ?_)
  · obtain rfl := Option.some.inj h
    refine g_sub (Ln := []) [] rfl ?_
    exact K4_0 s.2 rfl
  · refine g_iload_n F 3 dX1_narrow_13 rfl rfl ?_
    refine g_iconst (v := 4) F dX1_narrow_14 (by decide) ?_
    refine g_iadd (v := s.1 + 4) F dX1_narrow_15 rfl ?_
    refine g_istore (Ln := [(4, .int (s.1 + 4)), (0, .ref (E.2.1 k)), (1, .int v1), (2, .int v2), (3, .int s.1)]) F dX1_narrow_16 (by decide) rfl ?_
    refine g_aload_n F 1 dX1_narrow_18 rfl rfl ?_
    refine g_getr (j := 10) (nn := (k + 8)) F hk.1 rfl rfl uX1 (by decide) q93 dX1_narrow_19 ?_
    refine g_iload F 0 dX1_narrow_22 rfl ?_
    refine g_aload_n F 1 dX1_narrow_24 rfl rfl ?_
    refine g_getr (j := 12) (nn := (k + 10)) F hk.1 rfl rfl uX1 (by decide) q95 dX1_narrow_25 ?_
    refine g_iload_n F 4 dX1_narrow_28 rfl rfl ?_
    refine u_rI F hk.2.2.2.2.2.2.2.2.2.2 (by decide) dX1_narrow_29 h (fun u1 h => ?_)
    refine u_wI F hk.2.2.2.2.2.2.2.2.1 (by decide) dX1_narrow_30 h (fun I2 h => ?_)
    refine g_aload_n F 1 dX1_narrow_31 rfl rfl ?_
    refine g_getr (j := 11) (nn := (k + 9)) F hk.1 rfl rfl uX1 (by decide) q94 dX1_narrow_32 ?_
    refine g_iload F 0 dX1_narrow_35 rfl ?_
    refine g_aload_n F 1 dX1_narrow_37 rfl rfl ?_
    refine g_getr (j := 11) (nn := (k + 9)) F hk.1 rfl rfl uX1 (by decide) q94 dX1_narrow_38 ?_
    refine g_iload_n F 4 dX1_narrow_41 rfl rfl ?_
    refine u_rI F hk.2.2.2.2.2.2.2.2.2.1 (by decide) dX1_narrow_42 h (fun u3 h => ?_)
    refine u_wI F hk.2.2.2.2.2.2.2.2.2.1 (by decide) dX1_narrow_43 h (fun I4 h => ?_)
    refine g_aload_n F 1 dX1_narrow_44 rfl rfl ?_
    refine g_getr (j := 9) (nn := (k + 7)) F hk.1 rfl rfl uX1 (by decide) q92 dX1_narrow_45 ?_
    refine g_iload_n F 4 dX1_narrow_48 rfl rfl ?_
    refine u_rI F hk.2.2.2.2.2.2.2.1 (by decide) dX1_narrow_49 h (fun u5 h => ?_)
    refine g_iconst (v := (-1)) F dX1_narrow_50 (by decide) ?_
    refine u_icmp_eq (tgt := 109) F dX1_narrow_51 (by decide) h (fun h => ?_) (fun h => ?_)
    · refine g_sub (Ln := [(0, .ref (E.2.1 k)), (1, .int v1), (2, .int v2), (3, .int s.1)]) [1, 2, 3, 4] rfl ?_
      exact wbX1_narrow_109 F B hE k v1 v2 s.1 hk I4 J h hl K4_0
    · refine g_aload_n F 1 dX1_narrow_54 rfl rfl ?_
      refine g_getr (j := 12) (nn := (k + 10)) F hk.1 rfl rfl uX1 (by decide) q95 dX1_narrow_55 ?_
      refine g_iload_n F 4 dX1_narrow_58 rfl rfl ?_
      refine u_rI F hk.2.2.2.2.2.2.2.2.2.2 (by decide) dX1_narrow_59 h (fun u6 h => ?_)
      refine g_istore (Ln := [(5, .int u6), (4, .int (s.1 + 4)), (0, .ref (E.2.1 k)), (1, .int v1), (2, .int v2), (3, .int s.1)]) F dX1_narrow_60 (by decide) rfl ?_
      obtain ⟨w10, ew10, h⟩ := ob h
      refine g_sub (Ln := [(0, .ref (E.2.1 k)), (1, .int v1), (2, .int v2), (3, .int s.1), (4, .int (s.1 + 4)), (5, .int u6)]) [2, 3, 4, 5, 1, 0] rfl ?_
      refine wlX1_narrow_62 F B hE k v1 v2 s.1 (s.1 + 4) hk I4 J _ ew10 ?_
      refine g_sub (Ln := [(0, .ref (E.2.1 k)), (1, .int v1), (2, .int v2), (3, .int s.1), (4, .int (s.1 + 4)), (5, .int w10)]) [0, 1, 2, 3, 4, 5] rfl ?_
      exact wbX1_narrow_100 F B hE k v1 v2 s.1 (s.1 + 4) w10 hk I4 J h hl K4_0
noncomputable def fX1_narrow (k : Nat) (v1 : Int32) (v2 : Int32) (I : gM) : Option (gM) :=
  (lX1_narrow_4 k v1 v2 (v1 * 4, I)).bind fun w12 =>
  some w12
set_option maxRecDepth 100000 in
set_option maxHeartbeats 4000000 in
theorem wX1_narrow (l : Launch) (E : gE) (hE : gDist sh E) (bk : Nat) (k : Nat) (v1 : Int32) (v2 : Int32) (hk : shX1 k) (I : gM) (J : gN) {r : gM} (h : fX1_narrow k v1 v2 I = some r) : Cu l sh E bk yX1_narrow cX1_narrow 6 none (gR 0) [.ref (E.2.1 k), .int v1, .int v2] I J (fun r1 I1 J1 => r1 = none ∧ I1 = r ∧ J1 = J) := by
  refine Cu.of "LeapJoin$Join" rfl hE (by decide) (Nat.le_of_ble_eq_true rfl) (fun z F B e hl => ?_)
  subst hl
  unfold fX1_narrow at h
  refine g_iload_n F 1 dX1_narrow_0 rfl rfl ?_
  refine g_iconst (v := 4) F dX1_narrow_1 (by decide) ?_
  refine g_imul (v := v1 * 4) F dX1_narrow_2 rfl ?_
  refine g_istore_n (Ln := [(3, .int (v1 * 4)), (0, .ref (E.2.1 k)), (1, .int v1), (2, .int v2)]) F dX1_narrow_3 rfl (by decide) rfl ?_
  obtain ⟨w12, ew12, h⟩ := ob h
  refine g_sub (Ln := [(0, .ref (E.2.1 k)), (1, .int v1), (2, .int v2), (3, .int (v1 * 4))]) [1, 2, 3, 0] rfl ?_
  refine wlX1_narrow_4 F B hE k v1 v2 hk J _ ew12 ?_
  obtain rfl := Option.some.inj h
  exact g_vret F e dX1_narrow_115 ⟨rfl, rfl, rfl⟩
theorem DX1_deepen_0 : dAre cX1_deepen [(0, .iload_n 1, 1), (1, .iconst 1, 1), (2, .iadd, 1), (3, .istore_n 3, 1), (4, .aload_n 0, 1), (5, .getfield 21, 3), (8, .iload_n 1, 1), (9, .dup2, 1), (10, .iaload, 1), (11, .iconst 1, 1), (12, .iadd, 1), (13, .iastore, 1), (14, .aload_n 0, 1), (15, .getfield 31, 3), (18, .iload_n 3, 1), (19, .aload_n 0, 1)] := dAre0 (by decide +kernel)
theorem dX1_deepen_0 : decode cX1_deepen 0 = .ok (.iload_n 1, 1) := DX1_deepen_0.1
theorem dX1_deepen_1 : decode cX1_deepen 1 = .ok (.iconst 1, 1) := DX1_deepen_0.2.1
theorem dX1_deepen_2 : decode cX1_deepen 2 = .ok (.iadd, 1) := DX1_deepen_0.2.2.1
theorem dX1_deepen_3 : decode cX1_deepen 3 = .ok (.istore_n 3, 1) := DX1_deepen_0.2.2.2.1
theorem dX1_deepen_4 : decode cX1_deepen 4 = .ok (.aload_n 0, 1) := DX1_deepen_0.2.2.2.2.1
theorem dX1_deepen_5 : decode cX1_deepen 5 = .ok (.getfield 21, 3) := DX1_deepen_0.2.2.2.2.2.1
theorem dX1_deepen_8 : decode cX1_deepen 8 = .ok (.iload_n 1, 1) := DX1_deepen_0.2.2.2.2.2.2.1
theorem dX1_deepen_9 : decode cX1_deepen 9 = .ok (.dup2, 1) := DX1_deepen_0.2.2.2.2.2.2.2.1
theorem dX1_deepen_10 : decode cX1_deepen 10 = .ok (.iaload, 1) := DX1_deepen_0.2.2.2.2.2.2.2.2.1
theorem dX1_deepen_11 : decode cX1_deepen 11 = .ok (.iconst 1, 1) := DX1_deepen_0.2.2.2.2.2.2.2.2.2.1
theorem dX1_deepen_12 : decode cX1_deepen 12 = .ok (.iadd, 1) := DX1_deepen_0.2.2.2.2.2.2.2.2.2.2.1
theorem dX1_deepen_13 : decode cX1_deepen 13 = .ok (.iastore, 1) := DX1_deepen_0.2.2.2.2.2.2.2.2.2.2.2.1
theorem dX1_deepen_14 : decode cX1_deepen 14 = .ok (.aload_n 0, 1) := DX1_deepen_0.2.2.2.2.2.2.2.2.2.2.2.2.1
theorem dX1_deepen_15 : decode cX1_deepen 15 = .ok (.getfield 31, 3) := DX1_deepen_0.2.2.2.2.2.2.2.2.2.2.2.2.2.1
theorem dX1_deepen_18 : decode cX1_deepen 18 = .ok (.iload_n 3, 1) := DX1_deepen_0.2.2.2.2.2.2.2.2.2.2.2.2.2.2.1
theorem dX1_deepen_19 : decode cX1_deepen 19 = .ok (.aload_n 0, 1) := DX1_deepen_0.2.2.2.2.2.2.2.2.2.2.2.2.2.2.2.1
theorem DX1_deepen_20 : dAre cX1_deepen [(20, .getfield 31, 3), (23, .iload_n 1, 1), (24, .iaload, 1), (25, .iload_n 2, 1), (26, .bipush 21, 2), (28, .bipush 7, 2), (30, .aload_n 0, 1), (31, .getfield 25, 3), (34, .iload_n 1, 1), (35, .iaload, 1), (36, .imul, 1), (37, .isub, 1), (38, .ishl, 1), (39, .ior, 1), (40, .iastore, 1), (41, .iload_n 3, 1)] := dAre0 (by decide +kernel)
theorem dX1_deepen_20 : decode cX1_deepen 20 = .ok (.getfield 31, 3) := DX1_deepen_20.1
theorem dX1_deepen_23 : decode cX1_deepen 23 = .ok (.iload_n 1, 1) := DX1_deepen_20.2.1
theorem dX1_deepen_24 : decode cX1_deepen 24 = .ok (.iaload, 1) := DX1_deepen_20.2.2.1
theorem dX1_deepen_25 : decode cX1_deepen 25 = .ok (.iload_n 2, 1) := DX1_deepen_20.2.2.2.1
theorem dX1_deepen_26 : decode cX1_deepen 26 = .ok (.bipush 21, 2) := DX1_deepen_20.2.2.2.2.1
theorem dX1_deepen_28 : decode cX1_deepen 28 = .ok (.bipush 7, 2) := DX1_deepen_20.2.2.2.2.2.1
theorem dX1_deepen_30 : decode cX1_deepen 30 = .ok (.aload_n 0, 1) := DX1_deepen_20.2.2.2.2.2.2.1
theorem dX1_deepen_31 : decode cX1_deepen 31 = .ok (.getfield 25, 3) := DX1_deepen_20.2.2.2.2.2.2.2.1
theorem dX1_deepen_34 : decode cX1_deepen 34 = .ok (.iload_n 1, 1) := DX1_deepen_20.2.2.2.2.2.2.2.2.1
theorem dX1_deepen_35 : decode cX1_deepen 35 = .ok (.iaload, 1) := DX1_deepen_20.2.2.2.2.2.2.2.2.2.1
theorem dX1_deepen_36 : decode cX1_deepen 36 = .ok (.imul, 1) := DX1_deepen_20.2.2.2.2.2.2.2.2.2.2.1
theorem dX1_deepen_37 : decode cX1_deepen 37 = .ok (.isub, 1) := DX1_deepen_20.2.2.2.2.2.2.2.2.2.2.2.1
theorem dX1_deepen_38 : decode cX1_deepen 38 = .ok (.ishl, 1) := DX1_deepen_20.2.2.2.2.2.2.2.2.2.2.2.2.1
theorem dX1_deepen_39 : decode cX1_deepen 39 = .ok (.ior, 1) := DX1_deepen_20.2.2.2.2.2.2.2.2.2.2.2.2.2.1
theorem dX1_deepen_40 : decode cX1_deepen 40 = .ok (.iastore, 1) := DX1_deepen_20.2.2.2.2.2.2.2.2.2.2.2.2.2.2.1
theorem dX1_deepen_41 : decode cX1_deepen 41 = .ok (.iload_n 3, 1) := DX1_deepen_20.2.2.2.2.2.2.2.2.2.2.2.2.2.2.2.1
theorem DX1_deepen_42 : dAre cX1_deepen [(42, .aload_n 0, 1), (43, .getfield 18, 3), (46, .if_icmp .ge 17, 3), (49, .aload_n 0, 1), (50, .iload_n 1, 1), (51, .iload_n 2, 1), (52, .invokevirtual 120, 3), (55, .aload_n 0, 1), (56, .iload_n 3, 1), (57, .invokevirtual 73, 3), (60, .goto 38, 3), (63, .aload_n 0, 1), (64, .getfield 9, 3), (67, .sipush 20736, 3), (70, .if_icmp .ge 28, 3), (73, .aload_n 0, 1)] := dAre0 (by decide +kernel)
theorem dX1_deepen_42 : decode cX1_deepen 42 = .ok (.aload_n 0, 1) := DX1_deepen_42.1
theorem dX1_deepen_43 : decode cX1_deepen 43 = .ok (.getfield 18, 3) := DX1_deepen_42.2.1
theorem dX1_deepen_46 : decode cX1_deepen 46 = .ok (.if_icmp .ge 17, 3) := DX1_deepen_42.2.2.1
theorem dX1_deepen_49 : decode cX1_deepen 49 = .ok (.aload_n 0, 1) := DX1_deepen_42.2.2.2.1
theorem dX1_deepen_50 : decode cX1_deepen 50 = .ok (.iload_n 1, 1) := DX1_deepen_42.2.2.2.2.1
theorem dX1_deepen_51 : decode cX1_deepen 51 = .ok (.iload_n 2, 1) := DX1_deepen_42.2.2.2.2.2.1
theorem dX1_deepen_52 : decode cX1_deepen 52 = .ok (.invokevirtual 120, 3) := DX1_deepen_42.2.2.2.2.2.2.1
theorem dX1_deepen_55 : decode cX1_deepen 55 = .ok (.aload_n 0, 1) := DX1_deepen_42.2.2.2.2.2.2.2.1
theorem dX1_deepen_56 : decode cX1_deepen 56 = .ok (.iload_n 3, 1) := DX1_deepen_42.2.2.2.2.2.2.2.2.1
theorem dX1_deepen_57 : decode cX1_deepen 57 = .ok (.invokevirtual 73, 3) := DX1_deepen_42.2.2.2.2.2.2.2.2.2.1
theorem dX1_deepen_60 : decode cX1_deepen 60 = .ok (.goto 38, 3) := DX1_deepen_42.2.2.2.2.2.2.2.2.2.2.1
theorem dX1_deepen_63 : decode cX1_deepen 63 = .ok (.aload_n 0, 1) := DX1_deepen_42.2.2.2.2.2.2.2.2.2.2.2.1
theorem dX1_deepen_64 : decode cX1_deepen 64 = .ok (.getfield 9, 3) := DX1_deepen_42.2.2.2.2.2.2.2.2.2.2.2.2.1
theorem dX1_deepen_67 : decode cX1_deepen 67 = .ok (.sipush 20736, 3) := DX1_deepen_42.2.2.2.2.2.2.2.2.2.2.2.2.2.1
theorem dX1_deepen_70 : decode cX1_deepen 70 = .ok (.if_icmp .ge 28, 3) := DX1_deepen_42.2.2.2.2.2.2.2.2.2.2.2.2.2.2.1
theorem dX1_deepen_73 : decode cX1_deepen 73 = .ok (.aload_n 0, 1) := DX1_deepen_42.2.2.2.2.2.2.2.2.2.2.2.2.2.2.2.1
theorem DX1_deepen_74 : dAre cX1_deepen [(74, .getfield 28, 3), (77, .aload_n 0, 1), (78, .getfield 9, 3), (81, .aload_n 0, 1), (82, .getfield 31, 3), (85, .iload_n 3, 1), (86, .iaload, 1), (87, .iastore, 1), (88, .aload_n 0, 1), (89, .dup, 1), (90, .getfield 9, 3), (93, .iconst 1, 1), (94, .iadd, 1), (95, .putfield 9, 3), (98, .return_, 1)] := dAre0 (by decide +kernel)
theorem dX1_deepen_74 : decode cX1_deepen 74 = .ok (.getfield 28, 3) := DX1_deepen_74.1
theorem dX1_deepen_77 : decode cX1_deepen 77 = .ok (.aload_n 0, 1) := DX1_deepen_74.2.1
theorem dX1_deepen_78 : decode cX1_deepen 78 = .ok (.getfield 9, 3) := DX1_deepen_74.2.2.1
theorem dX1_deepen_81 : decode cX1_deepen 81 = .ok (.aload_n 0, 1) := DX1_deepen_74.2.2.2.1
theorem dX1_deepen_82 : decode cX1_deepen 82 = .ok (.getfield 31, 3) := DX1_deepen_74.2.2.2.2.1
theorem dX1_deepen_85 : decode cX1_deepen 85 = .ok (.iload_n 3, 1) := DX1_deepen_74.2.2.2.2.2.1
theorem dX1_deepen_86 : decode cX1_deepen 86 = .ok (.iaload, 1) := DX1_deepen_74.2.2.2.2.2.2.1
theorem dX1_deepen_87 : decode cX1_deepen 87 = .ok (.iastore, 1) := DX1_deepen_74.2.2.2.2.2.2.2.1
theorem dX1_deepen_88 : decode cX1_deepen 88 = .ok (.aload_n 0, 1) := DX1_deepen_74.2.2.2.2.2.2.2.2.1
theorem dX1_deepen_89 : decode cX1_deepen 89 = .ok (.dup, 1) := DX1_deepen_74.2.2.2.2.2.2.2.2.2.1
theorem dX1_deepen_90 : decode cX1_deepen 90 = .ok (.getfield 9, 3) := DX1_deepen_74.2.2.2.2.2.2.2.2.2.2.1
theorem dX1_deepen_93 : decode cX1_deepen 93 = .ok (.iconst 1, 1) := DX1_deepen_74.2.2.2.2.2.2.2.2.2.2.2.1
theorem dX1_deepen_94 : decode cX1_deepen 94 = .ok (.iadd, 1) := DX1_deepen_74.2.2.2.2.2.2.2.2.2.2.2.2.1
theorem dX1_deepen_95 : decode cX1_deepen 95 = .ok (.putfield 9, 3) := DX1_deepen_74.2.2.2.2.2.2.2.2.2.2.2.2.2.1
theorem dX1_deepen_98 : decode cX1_deepen 98 = .ok (.return_, 1) := DX1_deepen_74.2.2.2.2.2.2.2.2.2.2.2.2.2.2.1
theorem mX1_search : gMv yX1_search cX1_search 5 none RX1 1 := ⟨q368, q1360, q4, q369, rfl, by decide, by decide, by decide +kernel⟩
theorem mX1_deepen : gMv yX1_deepen cX1_deepen 4 none RX1 2 := ⟨q383, q1364, q4, q384, rfl, by decide, by decide, by decide +kernel⟩
noncomputable def fX1_deepen (rec : Int32 → gM → Option gM) (k : Nat) (v1 : Int32) (v2 : Int32) (I : gM) : Option (gM) :=
  (rI 4 (I (k + 1)) v1).bind fun u1 =>
  (wI I (k + 1) 4 v1 (u1 + 1)).bind fun I2 =>
  (rI 5 (I2 (k + 4)) v1).bind fun u3 =>
  (rI 4 (I2 (k + 2)) v1).bind fun u4 =>
  (wI I2 (k + 4) 5 (v1 + 1) (u3 ||| (v2 <<< (((21 : Int32) - ((7 : Int32) * u4)) &&& 31)))).bind fun I5 =>
  if (I5 k 2) ≤ (v1 + 1) then
    if (20736 : Int32) ≤ (I5 k 0) then
      some I5
    else
      (rI 5 (I5 (k + 4)) (v1 + 1)).bind fun u6 =>
      (wI I5 (k + 3) 20736 (I5 k 0) u6).bind fun I7 =>
      (pU I7 k 0 ((I7 k 0) + 1)).bind fun I8 =>
      some I8
  else
    (fX1_narrow k v1 v2 I5).bind fun r9 =>
    (rec (v1 + 1) r9).bind fun r10 =>
    some r10
set_option maxRecDepth 100000 in
set_option maxHeartbeats 4000000 in
theorem wX1_deepen (l : Launch) (E : gE) (hE : gDist sh E) (bk : Nat) {hh : Nat} {k : Nat} (hhc : 2 ≤ hh) {rec : Int32 → gM → Option gM} (hrec : ∀ (d : Int32) (I : gM) (J : gN) (r : gM), rec d I = some r → Cu l sh E bk yX1_search cX1_search 5 none (gR hh) [.ref (E.2.1 k), .int d] I J (fun r1 I1 J1 => r1 = none ∧ I1 = r ∧ J1 = J)) (v1 : Int32) (v2 : Int32) (hk : shX1 k) (I : gM) (J : gN) {r : gM} (h : fX1_deepen rec k v1 v2 I = some r) : Cu l sh E bk yX1_deepen cX1_deepen 4 none (gR (hh + 1)) [.ref (E.2.1 k), .int v1, .int v2] I J (fun r1 I1 J1 => r1 = none ∧ I1 = r ∧ J1 = J) := by
  refine Cu.of "LeapJoin$Join" rfl hE (by decide) (Nat.le_of_ble_eq_true rfl) (fun z F B e hl => ?_)
  subst hl
  unfold fX1_deepen at h
  refine g_iload_n F 1 dX1_deepen_0 rfl rfl ?_
  refine g_iconst (v := 1) F dX1_deepen_1 (by decide) ?_
  refine g_iadd (v := v1 + 1) F dX1_deepen_2 rfl ?_
  refine g_istore_n (Ln := [(3, .int (v1 + 1)), (0, .ref (E.2.1 k)), (1, .int v1), (2, .int v2)]) F dX1_deepen_3 rfl (by decide) rfl ?_
  refine g_aload_n F 1 dX1_deepen_4 rfl rfl ?_
  refine g_getr (j := 3) (nn := (k + 1)) F hk.1 rfl rfl uX1 (by decide) q85 dX1_deepen_5 ?_
  refine g_iload_n F 2 dX1_deepen_8 rfl rfl ?_
  refine g_dup2 F dX1_deepen_9 rfl rfl ?_
  refine u_rI F hk.2.1 (by decide) dX1_deepen_10 h (fun u1 h => ?_)
  refine g_iconst (v := 1) F dX1_deepen_11 (by decide) ?_
  refine g_iadd (v := u1 + 1) F dX1_deepen_12 rfl ?_
  refine u_wI F hk.2.1 (by decide) dX1_deepen_13 h (fun I2 h => ?_)
  refine g_aload_n F 1 dX1_deepen_14 rfl rfl ?_
  refine g_getr (j := 6) (nn := (k + 4)) F hk.1 rfl rfl uX1 (by decide) q89 dX1_deepen_15 ?_
  refine g_iload_n F 0 dX1_deepen_18 rfl rfl ?_
  refine g_aload_n F 1 dX1_deepen_19 rfl rfl ?_
  refine g_getr (j := 6) (nn := (k + 4)) F hk.1 rfl rfl uX1 (by decide) q89 dX1_deepen_20 ?_
  refine g_iload_n F 2 dX1_deepen_23 rfl rfl ?_
  refine u_rI F hk.2.2.2.2.1 (by decide) dX1_deepen_24 h (fun u3 h => ?_)
  refine g_iload_n F 3 dX1_deepen_25 rfl rfl ?_
  refine g_bipush (v := 21) F dX1_deepen_26 (by decide) ?_
  refine g_bipush (v := 7) F dX1_deepen_28 (by decide) ?_
  refine g_aload_n F 1 dX1_deepen_30 rfl rfl ?_
  refine g_getr (j := 4) (nn := (k + 2)) F hk.1 rfl rfl uX1 (by decide) q87 dX1_deepen_31 ?_
  refine g_iload_n F 2 dX1_deepen_34 rfl rfl ?_
  refine u_rI F hk.2.2.1 (by decide) dX1_deepen_35 h (fun u4 h => ?_)
  refine g_imul (v := (7 : Int32) * u4) F dX1_deepen_36 rfl ?_
  refine g_isub (v := (21 : Int32) - ((7 : Int32) * u4)) F dX1_deepen_37 rfl ?_
  refine g_ishl (v := v2 <<< (((21 : Int32) - ((7 : Int32) * u4)) &&& 31)) F dX1_deepen_38 rfl ?_
  refine g_ior (v := u3 ||| (v2 <<< (((21 : Int32) - ((7 : Int32) * u4)) &&& 31))) F dX1_deepen_39 rfl ?_
  refine u_wI F hk.2.2.2.2.1 (by decide) dX1_deepen_40 h (fun I5 h => ?_)
  refine g_iload_n F 0 dX1_deepen_41 rfl rfl ?_
  refine g_aload_n F 1 dX1_deepen_42 rfl rfl ?_
  refine g_geti (j := 2) (v := I5 k 2) F hk.1 rfl rfl uX1 (by decide) q83 rfl dX1_deepen_43 ?_
  refine u_icmp_ge (tgt := 63) F dX1_deepen_46 (by decide) h (fun h => ?_) (fun h => ?_)
  · refine g_aload_n F 1 dX1_deepen_63 rfl rfl ?_
    refine g_geti (j := 0) (v := I5 k 0) F hk.1 rfl rfl uX1 (by decide) q77 rfl dX1_deepen_64 ?_
    refine g_sipush (v := 20736) F dX1_deepen_67 (by decide) ?_
    refine u_icmp_ge (tgt := 98) F dX1_deepen_70 (by decide) h (fun h => ?_) (fun h => ?_)
    · obtain rfl := Option.some.inj h
      exact g_vret F e dX1_deepen_98 ⟨rfl, rfl, rfl⟩
    · refine g_aload_n F 1 dX1_deepen_73 rfl rfl ?_
      refine g_getr (j := 5) (nn := (k + 3)) F hk.1 rfl rfl uX1 (by decide) q88 dX1_deepen_74 ?_
      refine g_aload_n F 1 dX1_deepen_77 rfl rfl ?_
      refine g_geti (j := 0) (v := I5 k 0) F hk.1 rfl rfl uX1 (by decide) q77 rfl dX1_deepen_78 ?_
      refine g_aload_n F 1 dX1_deepen_81 rfl rfl ?_
      refine g_getr (j := 6) (nn := (k + 4)) F hk.1 rfl rfl uX1 (by decide) q89 dX1_deepen_82 ?_
      refine g_iload_n F 0 dX1_deepen_85 rfl rfl ?_
      refine u_rI F hk.2.2.2.2.1 (by decide) dX1_deepen_86 h (fun u6 h => ?_)
      refine u_wI F hk.2.2.2.1 (by decide) dX1_deepen_87 h (fun I7 h => ?_)
      refine g_aload_n F 1 dX1_deepen_88 rfl rfl ?_
      refine g_dup F dX1_deepen_89 rfl ?_
      refine g_geti (j := 0) (v := I7 k 0) F hk.1 rfl rfl uX1 (by decide) q77 rfl dX1_deepen_90 ?_
      refine g_iconst (v := 1) F dX1_deepen_93 (by decide) ?_
      refine g_iadd (v := (I7 k 0) + 1) F dX1_deepen_94 rfl ?_
      refine u_puti (j := 0) F hk.1 rfl rfl uX1 (by decide) q77 tyX1_ok nmX1 rfl rfl rfl dX1_deepen_95 h (fun I8 h => ?_)
      obtain rfl := Option.some.inj h
      exact g_vret F e dX1_deepen_98 ⟨rfl, rfl, rfl⟩
  · refine g_aload_n F 1 dX1_deepen_49 rfl rfl ?_
    refine g_iload_n F 2 dX1_deepen_50 rfl rfl ?_
    refine g_iload_n F 3 dX1_deepen_51 rfl rfl ?_
    refine u_callV (k := k) (As := [.int v1, .int v2]) (rest := []) (sn := fun _ => []) F B (fun _ => wX1_narrow (zl z) E hE bk k v1 v2 hk I5 J) mX1_narrow q385 (gRok_of (by omega) (by decide)) hk.1 rfl rfl rfl (Nat.le_of_ble_eq_true rfl) dX1_deepen_52 (fun _ => rfl) h (fun r9 h => ?_)
    refine g_aload_n F 1 dX1_deepen_55 rfl rfl ?_
    refine g_iload_n F 0 dX1_deepen_56 rfl rfl ?_
    refine u_callV (k := k) (As := [.int (v1 + 1)]) (rest := []) (sn := fun _ => []) F B (fun _ => hrec (v1 + 1) _ _ _) mX1_search q367 (gRok_of (by omega) (by decide)) hk.1 rfl rfl rfl (Nat.le_of_ble_eq_true rfl) dX1_deepen_57 (fun _ => rfl) h (fun r10 h => ?_)
    refine g_goto (tgt := 98) F dX1_deepen_60 (by decide) ?_
    obtain rfl := Option.some.inj h
    exact g_vret F e dX1_deepen_98 ⟨rfl, rfl, rfl⟩
theorem DX1_isLeapt_0 : dAre cX1_isLeapt [(0, .aload_n 0, 1), (1, .getfield 49, 3), (4, .iload_n 1, 1), (5, .iaload, 1), (6, .istore_n 3, 1), (7, .iload_n 3, 1), (8, .aload_n 0, 1), (9, .getfield 46, 3), (12, .iload_n 1, 1), (13, .iaload, 1), (14, .if_icmp .ge 29, 3), (17, .aload_n 0, 1), (18, .getfield 34, 3), (21, .iload_n 3, 1), (22, .iaload, 1), (23, .aload_n 0, 1)] := dAre0 (by decide +kernel)
theorem dX1_isLeapt_0 : decode cX1_isLeapt 0 = .ok (.aload_n 0, 1) := DX1_isLeapt_0.1
theorem dX1_isLeapt_1 : decode cX1_isLeapt 1 = .ok (.getfield 49, 3) := DX1_isLeapt_0.2.1
theorem dX1_isLeapt_4 : decode cX1_isLeapt 4 = .ok (.iload_n 1, 1) := DX1_isLeapt_0.2.2.1
theorem dX1_isLeapt_5 : decode cX1_isLeapt 5 = .ok (.iaload, 1) := DX1_isLeapt_0.2.2.2.1
theorem dX1_isLeapt_6 : decode cX1_isLeapt 6 = .ok (.istore_n 3, 1) := DX1_isLeapt_0.2.2.2.2.1
theorem dX1_isLeapt_7 : decode cX1_isLeapt 7 = .ok (.iload_n 3, 1) := DX1_isLeapt_0.2.2.2.2.2.1
theorem dX1_isLeapt_8 : decode cX1_isLeapt 8 = .ok (.aload_n 0, 1) := DX1_isLeapt_0.2.2.2.2.2.2.1
theorem dX1_isLeapt_9 : decode cX1_isLeapt 9 = .ok (.getfield 46, 3) := DX1_isLeapt_0.2.2.2.2.2.2.2.1
theorem dX1_isLeapt_12 : decode cX1_isLeapt 12 = .ok (.iload_n 1, 1) := DX1_isLeapt_0.2.2.2.2.2.2.2.2.1
theorem dX1_isLeapt_13 : decode cX1_isLeapt 13 = .ok (.iaload, 1) := DX1_isLeapt_0.2.2.2.2.2.2.2.2.2.1
theorem dX1_isLeapt_14 : decode cX1_isLeapt 14 = .ok (.if_icmp .ge 29, 3) := DX1_isLeapt_0.2.2.2.2.2.2.2.2.2.2.1
theorem dX1_isLeapt_17 : decode cX1_isLeapt 17 = .ok (.aload_n 0, 1) := DX1_isLeapt_0.2.2.2.2.2.2.2.2.2.2.2.1
theorem dX1_isLeapt_18 : decode cX1_isLeapt 18 = .ok (.getfield 34, 3) := DX1_isLeapt_0.2.2.2.2.2.2.2.2.2.2.2.2.1
theorem dX1_isLeapt_21 : decode cX1_isLeapt 21 = .ok (.iload_n 3, 1) := DX1_isLeapt_0.2.2.2.2.2.2.2.2.2.2.2.2.2.1
theorem dX1_isLeapt_22 : decode cX1_isLeapt 22 = .ok (.iaload, 1) := DX1_isLeapt_0.2.2.2.2.2.2.2.2.2.2.2.2.2.2.1
theorem dX1_isLeapt_23 : decode cX1_isLeapt 23 = .ok (.aload_n 0, 1) := DX1_isLeapt_0.2.2.2.2.2.2.2.2.2.2.2.2.2.2.2.1
theorem DX1_isLeapt_24 : dAre cX1_isLeapt [(24, .getfield 40, 3), (27, .iload_n 1, 1), (28, .iaload, 1), (29, .ishr, 1), (30, .bipush 127, 2), (32, .iand, 1), (33, .iload_n 2, 1), (34, .if_icmp .ge 9, 3), (37, .iinc 3 1, 3), (40, .goto (-33), 3), (43, .aload_n 0, 1), (44, .getfield 49, 3), (47, .iload_n 1, 1), (48, .iload_n 3, 1), (49, .iastore, 1), (50, .aload_n 0, 1)] := dAre0 (by decide +kernel)
theorem dX1_isLeapt_24 : decode cX1_isLeapt 24 = .ok (.getfield 40, 3) := DX1_isLeapt_24.1
theorem dX1_isLeapt_27 : decode cX1_isLeapt 27 = .ok (.iload_n 1, 1) := DX1_isLeapt_24.2.1
theorem dX1_isLeapt_28 : decode cX1_isLeapt 28 = .ok (.iaload, 1) := DX1_isLeapt_24.2.2.1
theorem dX1_isLeapt_29 : decode cX1_isLeapt 29 = .ok (.ishr, 1) := DX1_isLeapt_24.2.2.2.1
theorem dX1_isLeapt_30 : decode cX1_isLeapt 30 = .ok (.bipush 127, 2) := DX1_isLeapt_24.2.2.2.2.1
theorem dX1_isLeapt_32 : decode cX1_isLeapt 32 = .ok (.iand, 1) := DX1_isLeapt_24.2.2.2.2.2.1
theorem dX1_isLeapt_33 : decode cX1_isLeapt 33 = .ok (.iload_n 2, 1) := DX1_isLeapt_24.2.2.2.2.2.2.1
theorem dX1_isLeapt_34 : decode cX1_isLeapt 34 = .ok (.if_icmp .ge 9, 3) := DX1_isLeapt_24.2.2.2.2.2.2.2.1
theorem dX1_isLeapt_37 : decode cX1_isLeapt 37 = .ok (.iinc 3 1, 3) := DX1_isLeapt_24.2.2.2.2.2.2.2.2.1
theorem dX1_isLeapt_40 : decode cX1_isLeapt 40 = .ok (.goto (-33), 3) := DX1_isLeapt_24.2.2.2.2.2.2.2.2.2.1
theorem dX1_isLeapt_43 : decode cX1_isLeapt 43 = .ok (.aload_n 0, 1) := DX1_isLeapt_24.2.2.2.2.2.2.2.2.2.2.1
theorem dX1_isLeapt_44 : decode cX1_isLeapt 44 = .ok (.getfield 49, 3) := DX1_isLeapt_24.2.2.2.2.2.2.2.2.2.2.2.1
theorem dX1_isLeapt_47 : decode cX1_isLeapt 47 = .ok (.iload_n 1, 1) := DX1_isLeapt_24.2.2.2.2.2.2.2.2.2.2.2.2.1
theorem dX1_isLeapt_48 : decode cX1_isLeapt 48 = .ok (.iload_n 3, 1) := DX1_isLeapt_24.2.2.2.2.2.2.2.2.2.2.2.2.2.1
theorem dX1_isLeapt_49 : decode cX1_isLeapt 49 = .ok (.iastore, 1) := DX1_isLeapt_24.2.2.2.2.2.2.2.2.2.2.2.2.2.2.1
theorem dX1_isLeapt_50 : decode cX1_isLeapt 50 = .ok (.aload_n 0, 1) := DX1_isLeapt_24.2.2.2.2.2.2.2.2.2.2.2.2.2.2.2.1
theorem DX1_isLeapt_51 : dAre cX1_isLeapt [(51, .dup, 1), (52, .getfield 15, 3), (55, .iconst 1, 1), (56, .iadd, 1), (57, .putfield 15, 3), (60, .iload_n 3, 1), (61, .aload_n 0, 1), (62, .getfield 46, 3), (65, .iload_n 1, 1), (66, .iaload, 1), (67, .if_icmp .ge 7, 3), (70, .iconst 1, 1), (71, .goto 4, 3), (74, .iconst 0, 1), (75, .ireturn, 1)] := dAre0 (by decide +kernel)
theorem dX1_isLeapt_51 : decode cX1_isLeapt 51 = .ok (.dup, 1) := DX1_isLeapt_51.1
theorem dX1_isLeapt_52 : decode cX1_isLeapt 52 = .ok (.getfield 15, 3) := DX1_isLeapt_51.2.1
theorem dX1_isLeapt_55 : decode cX1_isLeapt 55 = .ok (.iconst 1, 1) := DX1_isLeapt_51.2.2.1
theorem dX1_isLeapt_56 : decode cX1_isLeapt 56 = .ok (.iadd, 1) := DX1_isLeapt_51.2.2.2.1
theorem dX1_isLeapt_57 : decode cX1_isLeapt 57 = .ok (.putfield 15, 3) := DX1_isLeapt_51.2.2.2.2.1
theorem dX1_isLeapt_60 : decode cX1_isLeapt 60 = .ok (.iload_n 3, 1) := DX1_isLeapt_51.2.2.2.2.2.1
theorem dX1_isLeapt_61 : decode cX1_isLeapt 61 = .ok (.aload_n 0, 1) := DX1_isLeapt_51.2.2.2.2.2.2.1
theorem dX1_isLeapt_62 : decode cX1_isLeapt 62 = .ok (.getfield 46, 3) := DX1_isLeapt_51.2.2.2.2.2.2.2.1
theorem dX1_isLeapt_65 : decode cX1_isLeapt 65 = .ok (.iload_n 1, 1) := DX1_isLeapt_51.2.2.2.2.2.2.2.2.1
theorem dX1_isLeapt_66 : decode cX1_isLeapt 66 = .ok (.iaload, 1) := DX1_isLeapt_51.2.2.2.2.2.2.2.2.2.1
theorem dX1_isLeapt_67 : decode cX1_isLeapt 67 = .ok (.if_icmp .ge 7, 3) := DX1_isLeapt_51.2.2.2.2.2.2.2.2.2.2.1
theorem dX1_isLeapt_70 : decode cX1_isLeapt 70 = .ok (.iconst 1, 1) := DX1_isLeapt_51.2.2.2.2.2.2.2.2.2.2.2.1
theorem dX1_isLeapt_71 : decode cX1_isLeapt 71 = .ok (.goto 4, 3) := DX1_isLeapt_51.2.2.2.2.2.2.2.2.2.2.2.2.1
theorem dX1_isLeapt_74 : decode cX1_isLeapt 74 = .ok (.iconst 0, 1) := DX1_isLeapt_51.2.2.2.2.2.2.2.2.2.2.2.2.2.1
theorem dX1_isLeapt_75 : decode cX1_isLeapt 75 = .ok (.ireturn, 1) := DX1_isLeapt_51.2.2.2.2.2.2.2.2.2.2.2.2.2.2.1
theorem mX1_isLeapt : gMv yX1_isLeapt cX1_isLeapt 4 (some .boolean) RX1 2 := ⟨q389, q1366, q4, q390, rfl, by decide, by decide, by decide +kernel⟩
noncomputable def lX1_isLeapt_7 (k : Nat) (v1 : Int32) (v2 : Int32) (I : gM) : Int32 → Option (Int32) :=
  itO fun s =>
    (rI 16 (I (k + 9)) v1).bind fun u2 =>
    if u2 ≤ s then
      some (.inr s)
    else
      (rI 48 (I (k + 5)) s).bind fun u3 =>
      (rI 16 (I (k + 7)) v1).bind fun u4 =>
      if v2 ≤ ((u3 >>> (u4 &&& 31)) &&& 127) then
        some (.inr s)
      else
        some (.inl (s + 1))
set_option maxRecDepth 100000 in
set_option maxHeartbeats 4000000 in
theorem wlX1_isLeapt_7 {z : gZ} {E : gE} {bk : Nat} (F : Fx z sh E "LeapJoin$Join" cX1_isLeapt (gR 0) 4) (B : bZ z bk) (hE : gDist sh E) (k : Nat) (v1 : Int32) (v2 : Int32) (hk : shX1 k) (I : gM) (J : gN) {r : Int32} : ∀ s : Int32, lX1_isLeapt_7 k v1 v2 I s = some r → (G z 43 [(0, .ref (E.2.1 k)), (1, .int v1), (3, .int r)] [] I J) → G z 7 [(0, .ref (E.2.1 k)), (1, .int v1), (2, .int v2), (3, .int s)] [] I J := by
  intro s h X0
  unfold lX1_isLeapt_7 at h
  revert s
  refine itO_ind (P := fun s : Int32 => G z 7 [(0, .ref (E.2.1 k)), (1, .int v1), (2, .int v2), (3, .int s)] [] I J) (fun s y h hl hr => ?_)
  have K7_0 : ∀ x : Int32, y = .inr x → (G z 43 [(0, .ref (E.2.1 k)), (1, .int v1), (3, .int x)] [] I J) := fun x q => by have q2 := hr _ q; subst q2; exact X0
  refine g_iload_n F 3 dX1_isLeapt_7 rfl rfl ?_
  refine g_aload_n F 0 dX1_isLeapt_8 rfl rfl ?_
  refine g_getr (j := 11) (nn := (k + 9)) F hk.1 rfl rfl uX1 (by decide) q94 dX1_isLeapt_9 ?_
  refine g_iload_n F 1 dX1_isLeapt_12 rfl rfl ?_
  refine u_rI F hk.2.2.2.2.2.2.2.2.2.1 (by decide) dX1_isLeapt_13 h (fun u2 h => ?_)
  refine u_icmp_ge (tgt := 43) F dX1_isLeapt_14 (by decide) h (fun h => ?_) (fun h => ?_)
  · obtain rfl := Option.some.inj h
    refine g_sub (Ln := [(0, .ref (E.2.1 k)), (1, .int v1), (3, .int s)]) [0, 1, 3] rfl ?_
    exact K7_0 s rfl
  · refine g_aload_n F 0 dX1_isLeapt_17 rfl rfl ?_
    refine g_getr (j := 7) (nn := (k + 5)) F hk.1 rfl rfl uX1 (by decide) q90 dX1_isLeapt_18 ?_
    refine g_iload_n F 3 dX1_isLeapt_21 rfl rfl ?_
    refine u_rI F hk.2.2.2.2.2.1 (by decide) dX1_isLeapt_22 h (fun u3 h => ?_)
    refine g_aload_n F 0 dX1_isLeapt_23 rfl rfl ?_
    refine g_getr (j := 9) (nn := (k + 7)) F hk.1 rfl rfl uX1 (by decide) q92 dX1_isLeapt_24 ?_
    refine g_iload_n F 1 dX1_isLeapt_27 rfl rfl ?_
    refine u_rI F hk.2.2.2.2.2.2.2.1 (by decide) dX1_isLeapt_28 h (fun u4 h => ?_)
    refine g_ishr (v := u3 >>> (u4 &&& 31)) F dX1_isLeapt_29 rfl ?_
    refine g_bipush (v := 127) F dX1_isLeapt_30 (by decide) ?_
    refine g_iand (v := (u3 >>> (u4 &&& 31)) &&& 127) F dX1_isLeapt_32 rfl ?_
    refine g_iload_n F 2 dX1_isLeapt_33 rfl rfl ?_
    refine u_icmp_ge (tgt := 43) F dX1_isLeapt_34 (by decide) h (fun h => ?_) (fun h => ?_)
    · obtain rfl := Option.some.inj h
      refine g_sub (Ln := [(0, .ref (E.2.1 k)), (1, .int v1), (3, .int s)]) [0, 1, 3] rfl ?_
      exact K7_0 s rfl
    · refine g_iinc (v := s + 1) (Ln := [(3, .int (s + 1)), (0, .ref (E.2.1 k)), (1, .int v1), (2, .int v2)]) F 3 dX1_isLeapt_37 rfl (add_c (by decide)) (by decide) rfl ?_
      refine g_goto (tgt := 7) F dX1_isLeapt_40 (by decide) ?_
      obtain rfl := Option.some.inj h
      refine g_sub (Ln := [(0, .ref (E.2.1 k)), (1, .int v1), (2, .int v2), (3, .int (s + 1))]) [1, 2, 3, 0] rfl ?_
      exact hl (s + 1) rfl
noncomputable def bX1_isLeapt_43 (k : Nat) (v1 : Int32) (v3 : Int32) (I : gM) : Option (Int32 × gM) :=
  (wI I (k + 10) 16 v1 v3).bind fun I6 =>
  (pU I6 k 1 ((I6 k 1) + 1)).bind fun I7 =>
  (rI 16 (I7 (k + 9)) v1).bind fun u8 =>
  if u8 ≤ v3 then
    some ((0 : Int32), I7)
  else
    some ((1 : Int32), I7)
set_option maxRecDepth 100000 in
set_option maxHeartbeats 4000000 in
theorem wbX1_isLeapt_43 {z : gZ} {E : gE} {bk : Nat} (F : Fx z sh E "LeapJoin$Join" cX1_isLeapt (gR 0) 4) (B : bZ z bk) (hE : gDist sh E) (k : Nat) (v1 : Int32) (v3 : Int32) (hk : shX1 k) (I : gM) (J : gN) {y : Int32 × gM} (h : bX1_isLeapt_43 k v1 v3 I = some y) (e : Fe z sh E (some .boolean) (fun r1 I1 J1 => r1 = some (.int y.1) ∧ I1 = y.2 ∧ J1 = J)) : G z 43 [(0, .ref (E.2.1 k)), (1, .int v1), (3, .int v3)] [] I J := by
  unfold bX1_isLeapt_43 at h
  refine g_aload_n F 0 dX1_isLeapt_43 rfl rfl ?_
  refine g_getr (j := 12) (nn := (k + 10)) F hk.1 rfl rfl uX1 (by decide) q95 dX1_isLeapt_44 ?_
  refine g_iload_n F 1 dX1_isLeapt_47 rfl rfl ?_
  refine g_iload_n F 2 dX1_isLeapt_48 rfl rfl ?_
  refine u_wI F hk.2.2.2.2.2.2.2.2.2.2 (by decide) dX1_isLeapt_49 h (fun I6 h => ?_)
  refine g_aload_n F 0 dX1_isLeapt_50 rfl rfl ?_
  refine g_dup F dX1_isLeapt_51 rfl ?_
  refine g_geti (j := 1) (v := I6 k 1) F hk.1 rfl rfl uX1 (by decide) q80 rfl dX1_isLeapt_52 ?_
  refine g_iconst (v := 1) F dX1_isLeapt_55 (by decide) ?_
  refine g_iadd (v := (I6 k 1) + 1) F dX1_isLeapt_56 rfl ?_
  refine u_puti (j := 1) F hk.1 rfl rfl uX1 (by decide) q80 tyX1_ok nmX1 rfl rfl rfl dX1_isLeapt_57 h (fun I7 h => ?_)
  refine g_iload_n F 2 dX1_isLeapt_60 rfl rfl ?_
  refine g_aload_n F 0 dX1_isLeapt_61 rfl rfl ?_
  refine g_getr (j := 11) (nn := (k + 9)) F hk.1 rfl rfl uX1 (by decide) q94 dX1_isLeapt_62 ?_
  refine g_iload_n F 1 dX1_isLeapt_65 rfl rfl ?_
  refine u_rI F hk.2.2.2.2.2.2.2.2.2.1 (by decide) dX1_isLeapt_66 h (fun u8 h => ?_)
  refine u_icmp_ge (tgt := 74) F dX1_isLeapt_67 (by decide) h (fun h => ?_) (fun h => ?_)
  · refine g_iconst (v := 0) F dX1_isLeapt_74 (by decide) ?_
    obtain rfl := Option.some.inj h
    exact g_zret F rfl e dX1_isLeapt_75 ⟨rfl, rfl, rfl⟩
  · refine g_iconst (v := 1) F dX1_isLeapt_70 (by decide) ?_
    refine g_goto (tgt := 75) F dX1_isLeapt_71 (by decide) ?_
    obtain rfl := Option.some.inj h
    exact g_zret F rfl e dX1_isLeapt_75 ⟨rfl, rfl, rfl⟩
noncomputable def fX1_isLeapt (k : Nat) (v1 : Int32) (v2 : Int32) (I : gM) : Option (Int32 × gM) :=
  (rI 16 (I (k + 10)) v1).bind fun u1 =>
  (lX1_isLeapt_7 k v1 v2 I u1).bind fun w5 =>
  bX1_isLeapt_43 k v1 w5 I
set_option maxRecDepth 100000 in
set_option maxHeartbeats 4000000 in
theorem wX1_isLeapt (l : Launch) (E : gE) (hE : gDist sh E) (bk : Nat) (k : Nat) (v1 : Int32) (v2 : Int32) (hk : shX1 k) (I : gM) (J : gN) {r : Int32 × gM} (h : fX1_isLeapt k v1 v2 I = some r) : Cu l sh E bk yX1_isLeapt cX1_isLeapt 4 (some .boolean) (gR 0) [.ref (E.2.1 k), .int v1, .int v2] I J (fun r1 I1 J1 => r1 = some (.int r.1) ∧ I1 = r.2 ∧ J1 = J) := by
  refine Cu.of "LeapJoin$Join" rfl hE (by decide) (Nat.le_of_ble_eq_true rfl) (fun z F B e hl => ?_)
  subst hl
  unfold fX1_isLeapt at h
  refine g_aload_n F 0 dX1_isLeapt_0 rfl rfl ?_
  refine g_getr (j := 12) (nn := (k + 10)) F hk.1 rfl rfl uX1 (by decide) q95 dX1_isLeapt_1 ?_
  refine g_iload_n F 1 dX1_isLeapt_4 rfl rfl ?_
  refine u_rI F hk.2.2.2.2.2.2.2.2.2.2 (by decide) dX1_isLeapt_5 h (fun u1 h => ?_)
  refine g_istore_n (Ln := [(3, .int u1), (0, .ref (E.2.1 k)), (1, .int v1), (2, .int v2)]) F dX1_isLeapt_6 rfl (by decide) rfl ?_
  obtain ⟨w5, ew5, h⟩ := ob h
  refine g_sub (Ln := [(0, .ref (E.2.1 k)), (1, .int v1), (2, .int v2), (3, .int u1)]) [1, 2, 3, 0] rfl ?_
  refine wlX1_isLeapt_7 F B hE k v1 v2 hk I J _ ew5 ?_
  refine g_sub (Ln := [(0, .ref (E.2.1 k)), (1, .int v1), (3, .int w5)]) [0, 1, 2] rfl ?_
  exact wbX1_isLeapt_43 F B hE k v1 w5 hk I J h e
theorem DX1_search_0 : dAre cX1_search [(0, .iload_n 1, 1), (1, .aload_n 0, 1), (2, .getfield 18, 3), (5, .if_icmp .ge 11, 3), (8, .aload_n 0, 1), (9, .iload_n 1, 1), (10, .invokevirtual 103, 3), (13, .ifCond .ne 4, 3), (16, .return_, 1), (17, .iconst 0, 1), (18, .istore_n 2, 1), (19, .iload_n 2, 1), (20, .bipush 48, 2), (22, .if_icmp .ge 68, 3), (25, .aload_n 0, 1), (26, .iload_n 1, 1)] := dAre0 (by decide +kernel)
theorem dX1_search_0 : decode cX1_search 0 = .ok (.iload_n 1, 1) := DX1_search_0.1
theorem dX1_search_1 : decode cX1_search 1 = .ok (.aload_n 0, 1) := DX1_search_0.2.1
theorem dX1_search_2 : decode cX1_search 2 = .ok (.getfield 18, 3) := DX1_search_0.2.2.1
theorem dX1_search_5 : decode cX1_search 5 = .ok (.if_icmp .ge 11, 3) := DX1_search_0.2.2.2.1
theorem dX1_search_8 : decode cX1_search 8 = .ok (.aload_n 0, 1) := DX1_search_0.2.2.2.2.1
theorem dX1_search_9 : decode cX1_search 9 = .ok (.iload_n 1, 1) := DX1_search_0.2.2.2.2.2.1
theorem dX1_search_10 : decode cX1_search 10 = .ok (.invokevirtual 103, 3) := DX1_search_0.2.2.2.2.2.2.1
theorem dX1_search_13 : decode cX1_search 13 = .ok (.ifCond .ne 4, 3) := DX1_search_0.2.2.2.2.2.2.2.1
theorem dX1_search_16 : decode cX1_search 16 = .ok (.return_, 1) := DX1_search_0.2.2.2.2.2.2.2.2.1
theorem dX1_search_17 : decode cX1_search 17 = .ok (.iconst 0, 1) := DX1_search_0.2.2.2.2.2.2.2.2.2.1
theorem dX1_search_18 : decode cX1_search 18 = .ok (.istore_n 2, 1) := DX1_search_0.2.2.2.2.2.2.2.2.2.2.1
theorem dX1_search_19 : decode cX1_search 19 = .ok (.iload_n 2, 1) := DX1_search_0.2.2.2.2.2.2.2.2.2.2.2.1
theorem dX1_search_20 : decode cX1_search 20 = .ok (.bipush 48, 2) := DX1_search_0.2.2.2.2.2.2.2.2.2.2.2.2.1
theorem dX1_search_22 : decode cX1_search 22 = .ok (.if_icmp .ge 68, 3) := DX1_search_0.2.2.2.2.2.2.2.2.2.2.2.2.2.1
theorem dX1_search_25 : decode cX1_search 25 = .ok (.aload_n 0, 1) := DX1_search_0.2.2.2.2.2.2.2.2.2.2.2.2.2.2.1
theorem dX1_search_26 : decode cX1_search 26 = .ok (.iload_n 1, 1) := DX1_search_0.2.2.2.2.2.2.2.2.2.2.2.2.2.2.2.1
theorem DX1_search_27 : dAre cX1_search [(27, .invokevirtual 106, 3), (30, .istore_n 3, 1), (31, .aload_n 0, 1), (32, .iload_n 1, 1), (33, .iload_n 3, 1), (34, .invokevirtual 110, 3), (37, .istore 4, 2), (39, .iload 4, 2), (41, .iconst (-1), 1), (42, .if_icmp .ne 21, 3), (45, .aload_n 0, 1), (46, .iload_n 1, 1), (47, .iload_n 3, 1), (48, .invokevirtual 113, 3), (51, .aload_n 0, 1), (52, .iload_n 1, 1)] := dAre0 (by decide +kernel)
theorem dX1_search_27 : decode cX1_search 27 = .ok (.invokevirtual 106, 3) := DX1_search_27.1
theorem dX1_search_30 : decode cX1_search 30 = .ok (.istore_n 3, 1) := DX1_search_27.2.1
theorem dX1_search_31 : decode cX1_search 31 = .ok (.aload_n 0, 1) := DX1_search_27.2.2.1
theorem dX1_search_32 : decode cX1_search 32 = .ok (.iload_n 1, 1) := DX1_search_27.2.2.2.1
theorem dX1_search_33 : decode cX1_search 33 = .ok (.iload_n 3, 1) := DX1_search_27.2.2.2.2.1
theorem dX1_search_34 : decode cX1_search 34 = .ok (.invokevirtual 110, 3) := DX1_search_27.2.2.2.2.2.1
theorem dX1_search_37 : decode cX1_search 37 = .ok (.istore 4, 2) := DX1_search_27.2.2.2.2.2.2.1
theorem dX1_search_39 : decode cX1_search 39 = .ok (.iload 4, 2) := DX1_search_27.2.2.2.2.2.2.2.1
theorem dX1_search_41 : decode cX1_search 41 = .ok (.iconst (-1), 1) := DX1_search_27.2.2.2.2.2.2.2.2.1
theorem dX1_search_42 : decode cX1_search 42 = .ok (.if_icmp .ne 21, 3) := DX1_search_27.2.2.2.2.2.2.2.2.2.1
theorem dX1_search_45 : decode cX1_search 45 = .ok (.aload_n 0, 1) := DX1_search_27.2.2.2.2.2.2.2.2.2.2.1
theorem dX1_search_46 : decode cX1_search 46 = .ok (.iload_n 1, 1) := DX1_search_27.2.2.2.2.2.2.2.2.2.2.2.1
theorem dX1_search_47 : decode cX1_search 47 = .ok (.iload_n 3, 1) := DX1_search_27.2.2.2.2.2.2.2.2.2.2.2.2.1
theorem dX1_search_48 : decode cX1_search 48 = .ok (.invokevirtual 113, 3) := DX1_search_27.2.2.2.2.2.2.2.2.2.2.2.2.2.1
theorem dX1_search_51 : decode cX1_search 51 = .ok (.aload_n 0, 1) := DX1_search_27.2.2.2.2.2.2.2.2.2.2.2.2.2.2.1
theorem dX1_search_52 : decode cX1_search 52 = .ok (.iload_n 1, 1) := DX1_search_27.2.2.2.2.2.2.2.2.2.2.2.2.2.2.2.1
theorem DX1_search_53 : dAre cX1_search [(53, .bipush 100, 2), (55, .invokevirtual 110, 3), (58, .istore 4, 2), (60, .iinc 3 1, 3), (63, .iload 4, 2), (65, .iconst (-1), 1), (66, .if_icmp .eq 17, 3), (69, .aload_n 0, 1), (70, .iload_n 1, 1), (71, .iconst 4, 1), (72, .imul, 1), (73, .iload 4, 2), (75, .iadd, 1), (76, .iload_n 3, 1), (77, .invokevirtual 116, 3), (80, .ifCond .ne 4, 3)] := dAre0 (by decide +kernel)
theorem dX1_search_53 : decode cX1_search 53 = .ok (.bipush 100, 2) := DX1_search_53.1
theorem dX1_search_55 : decode cX1_search 55 = .ok (.invokevirtual 110, 3) := DX1_search_53.2.1
theorem dX1_search_58 : decode cX1_search 58 = .ok (.istore 4, 2) := DX1_search_53.2.2.1
theorem dX1_search_60 : decode cX1_search 60 = .ok (.iinc 3 1, 3) := DX1_search_53.2.2.2.1
theorem dX1_search_63 : decode cX1_search 63 = .ok (.iload 4, 2) := DX1_search_53.2.2.2.2.1
theorem dX1_search_65 : decode cX1_search 65 = .ok (.iconst (-1), 1) := DX1_search_53.2.2.2.2.2.1
theorem dX1_search_66 : decode cX1_search 66 = .ok (.if_icmp .eq 17, 3) := DX1_search_53.2.2.2.2.2.2.1
theorem dX1_search_69 : decode cX1_search 69 = .ok (.aload_n 0, 1) := DX1_search_53.2.2.2.2.2.2.2.1
theorem dX1_search_70 : decode cX1_search 70 = .ok (.iload_n 1, 1) := DX1_search_53.2.2.2.2.2.2.2.2.1
theorem dX1_search_71 : decode cX1_search 71 = .ok (.iconst 4, 1) := DX1_search_53.2.2.2.2.2.2.2.2.2.1
theorem dX1_search_72 : decode cX1_search 72 = .ok (.imul, 1) := DX1_search_53.2.2.2.2.2.2.2.2.2.2.1
theorem dX1_search_73 : decode cX1_search 73 = .ok (.iload 4, 2) := DX1_search_53.2.2.2.2.2.2.2.2.2.2.2.1
theorem dX1_search_75 : decode cX1_search 75 = .ok (.iadd, 1) := DX1_search_53.2.2.2.2.2.2.2.2.2.2.2.2.1
theorem dX1_search_76 : decode cX1_search 76 = .ok (.iload_n 3, 1) := DX1_search_53.2.2.2.2.2.2.2.2.2.2.2.2.2.1
theorem dX1_search_77 : decode cX1_search 77 = .ok (.invokevirtual 116, 3) := DX1_search_53.2.2.2.2.2.2.2.2.2.2.2.2.2.2.1
theorem dX1_search_80 : decode cX1_search 80 = .ok (.ifCond .ne 4, 3) := DX1_search_53.2.2.2.2.2.2.2.2.2.2.2.2.2.2.2.1
theorem DX1_search_83 : dAre cX1_search [(83, .return_, 1), (84, .iinc 2 1, 3), (87, .goto (-68), 3), (90, .return_, 1)] := dAre0 (by decide +kernel)
theorem dX1_search_83 : decode cX1_search 83 = .ok (.return_, 1) := DX1_search_83.1
theorem dX1_search_84 : decode cX1_search 84 = .ok (.iinc 2 1, 3) := DX1_search_83.2.1
theorem dX1_search_87 : decode cX1_search 87 = .ok (.goto (-68), 3) := DX1_search_83.2.2.1
theorem dX1_search_90 : decode cX1_search 90 = .ok (.return_, 1) := DX1_search_83.2.2.2.1
noncomputable def bX1_search_63 (rec : Int32 → gM → Option gM) (k : Nat) (v1 : Int32) (v2 : Int32) (v3 : Int32) (v4 : Int32) (I : gM) : Option ((Int32 × gM) ⊕ ((gM) ⊕ (gM))) :=
  if v4 = (-1) then
    some (.inr (.inl I))
  else
    (fX1_isLeapt k ((v1 * 4) + v4) v3 I).bind fun r6 =>
    if r6.1 = 0 then
      some (.inr (.inl r6.2))
    else
      some (.inl (v2 + 1, r6.2))
set_option maxRecDepth 100000 in
set_option maxHeartbeats 4000000 in
theorem wbX1_search_63 {z : gZ} {E : gE} {bk : Nat} {hh : Nat} (F : Fx z sh E "LeapJoin$Join" cX1_search (gR (hh + 2)) 5) (B : bZ z bk) (hE : gDist sh E) {k : Nat} (hhc : 2 ≤ hh) {rec : Int32 → gM → Option gM} (hrec : ∀ (d : Int32) (I : gM) (J : gN) (r : gM), rec d I = some r → Cu (zl z) sh E bk yX1_search cX1_search 5 none (gR hh) [.ref (E.2.1 k), .int d] I J (fun r1 I1 J1 => r1 = none ∧ I1 = r ∧ J1 = J)) (v1 : Int32) (v2 : Int32) (v3 : Int32) (v4 : Int32) (hk : shX1 k) (I : gM) (J : gN) {y : (Int32 × gM) ⊕ ((gM) ⊕ (gM))} (h : bX1_search_63 rec k v1 v2 v3 v4 I = some y) (hl : ∀ s' : Int32 × gM, y = .inl s' → G z 19 [(0, .ref (E.2.1 k)), (1, .int v1), (2, .int (s'.1))] [] s'.2 J) (K19_0 : ∀ x : gM, y = .inr (.inl x) → G z 83 [] [] x J) (K19_1 : ∀ x : gM, y = .inr (.inr x) → G z 90 [] [] x J) : G z 63 [(0, .ref (E.2.1 k)), (1, .int v1), (2, .int v2), (3, .int v3), (4, .int v4)] [] I J := by
  unfold bX1_search_63 at h
  refine g_iload F 4 dX1_search_63 rfl ?_
  refine g_iconst (v := (-1)) F dX1_search_65 (by decide) ?_
  refine u_icmp_eq (tgt := 83) F dX1_search_66 (by decide) h (fun h => ?_) (fun h => ?_)
  · obtain rfl := Option.some.inj h
    refine g_sub (Ln := []) [] rfl ?_
    exact K19_0 I rfl
  · refine g_aload_n F 0 dX1_search_69 rfl rfl ?_
    refine g_iload_n F 1 dX1_search_70 rfl rfl ?_
    refine g_iconst (v := 4) F dX1_search_71 (by decide) ?_
    refine g_imul (v := v1 * 4) F dX1_search_72 rfl ?_
    refine g_iload F 4 dX1_search_73 rfl ?_
    refine g_iadd (v := (v1 * 4) + v4) F dX1_search_75 rfl ?_
    refine g_iload_n F 3 dX1_search_76 rfl rfl ?_
    refine u_callV (k := k) (As := [.int ((v1 * 4) + v4), .int v3]) (rest := []) (sn := fun r6 => [.int r6.1]) F B (fun _ => wX1_isLeapt (zl z) E hE bk k ((v1 * 4) + v4) v3 hk I J) mX1_isLeapt q388 (gRok_of (by omega) (by decide)) hk.1 rfl rfl rfl (Nat.le_of_ble_eq_true rfl) dX1_search_77 (fun _ => rfl) h (fun r6 h => ?_)
    refine u_if_ne (tgt := 84) F dX1_search_80 (by decide) h (fun h => ?_) (fun h => ?_)
    · obtain rfl := Option.some.inj h
      refine g_sub (Ln := []) [] rfl ?_
      exact K19_0 r6.2 rfl
    · refine g_iinc (v := v2 + 1) (Ln := [(2, .int (v2 + 1)), (0, .ref (E.2.1 k)), (1, .int v1), (3, .int v3), (4, .int v4)]) F 2 dX1_search_84 rfl (add_c (by decide)) (by decide) rfl ?_
      refine g_goto (tgt := 19) F dX1_search_87 (by decide) ?_
      obtain rfl := Option.some.inj h
      refine g_sub (Ln := [(0, .ref (E.2.1 k)), (1, .int v1), (2, .int (v2 + 1))]) [1, 2, 0] rfl ?_
      exact hl (v2 + 1, r6.2) rfl
noncomputable def lX1_search_19 (rec : Int32 → gM → Option gM) (k : Nat) (v1 : Int32) : (Int32 × gM) → Option ((gM) ⊕ (gM)) :=
  itO fun s =>
    if (48 : Int32) ≤ s.1 then
      some (.inr (.inr s.2))
    else
      (fX1_greatestKey k v1 s.2).bind fun r2 =>
      (fX1_lowestBelow k v1 r2 s.2).bind fun r3 =>
      if r3 = (-1) then
        (fX1_deepen rec k v1 r2 s.2).bind fun r4 =>
        (fX1_lowestBelow k v1 (100 : Int32) r4).bind fun r5 =>
        bX1_search_63 rec k v1 s.1 (r2 + 1) r5 r4
      else
        bX1_search_63 rec k v1 s.1 r2 r3 s.2
set_option maxRecDepth 100000 in
set_option maxHeartbeats 4000000 in
theorem wlX1_search_19 {z : gZ} {E : gE} {bk : Nat} {hh : Nat} (F : Fx z sh E "LeapJoin$Join" cX1_search (gR (hh + 2)) 5) (B : bZ z bk) (hE : gDist sh E) {k : Nat} (hhc : 2 ≤ hh) {rec : Int32 → gM → Option gM} (hrec : ∀ (d : Int32) (I : gM) (J : gN) (r : gM), rec d I = some r → Cu (zl z) sh E bk yX1_search cX1_search 5 none (gR hh) [.ref (E.2.1 k), .int d] I J (fun r1 I1 J1 => r1 = none ∧ I1 = r ∧ J1 = J)) (v1 : Int32) (hk : shX1 k) (J : gN) {r : (gM) ⊕ (gM)} : ∀ s : Int32 × gM, lX1_search_19 rec k v1 s = some r → (∀ x : gM, r = .inl x → G z 83 [] [] x J) → (∀ x : gM, r = .inr x → G z 90 [] [] x J) → G z 19 [(0, .ref (E.2.1 k)), (1, .int v1), (2, .int s.1)] [] s.2 J := by
  intro s h X0 X1
  unfold lX1_search_19 at h
  revert s
  refine itO_ind (P := fun s : Int32 × gM => G z 19 [(0, .ref (E.2.1 k)), (1, .int v1), (2, .int s.1)] [] s.2 J) (fun s y h hl hr => ?_)
  have K19_0 := fun (x : gM) (q : y = .inr (.inl x)) => X0 x (hr _ q).symm
  have K19_1 := fun (x : gM) (q : y = .inr (.inr x)) => X1 x (hr _ q).symm
  refine g_iload_n F 2 dX1_search_19 rfl rfl ?_
  refine g_bipush (v := 48) F dX1_search_20 (by decide) ?_
  refine u_icmp_ge (tgt := 90) F dX1_search_22 (by decide) h (fun h => ?_) (fun h => ?_)
  · obtain rfl := Option.some.inj h
    refine g_sub (Ln := []) [] rfl ?_
    exact K19_1 s.2 rfl
  · refine g_aload_n F 0 dX1_search_25 rfl rfl ?_
    refine g_iload_n F 1 dX1_search_26 rfl rfl ?_
    refine u_callV (k := k) (As := [.int v1]) (rest := []) (sn := fun r2 => [.int r2]) F B (fun _ => wX1_greatestKey (zl z) E hE bk k v1 hk s.2 J) mX1_greatestKey q373 (gRok_of (by omega) (by decide)) hk.1 rfl rfl rfl (Nat.le_of_ble_eq_true rfl) dX1_search_27 (fun _ => rfl) h (fun r2 h => ?_)
    refine g_istore_n (Ln := [(3, .int r2), (0, .ref (E.2.1 k)), (1, .int v1), (2, .int s.1)]) F dX1_search_30 rfl (by decide) rfl ?_
    refine g_aload_n F 1 dX1_search_31 rfl rfl ?_
    refine g_iload_n F 2 dX1_search_32 rfl rfl ?_
    refine g_iload_n F 0 dX1_search_33 rfl rfl ?_
    refine u_callV (k := k) (As := [.int v1, .int r2]) (rest := []) (sn := fun r3 => [.int r3]) F B (fun _ => wX1_lowestBelow (zl z) E hE bk k v1 r2 hk s.2 J) mX1_lowestBelow q379 (gRok_of (by omega) (by decide)) hk.1 rfl rfl rfl (Nat.le_of_ble_eq_true rfl) dX1_search_34 (fun _ => rfl) h (fun r3 h => ?_)
    refine g_istore (Ln := [(4, .int r3), (3, .int r2), (0, .ref (E.2.1 k)), (1, .int v1), (2, .int s.1)]) F dX1_search_37 (by decide) rfl ?_
    refine g_iload F 0 dX1_search_39 rfl ?_
    refine g_iconst (v := (-1)) F dX1_search_41 (by decide) ?_
    refine u_icmp_ne (tgt := 63) F dX1_search_42 (by decide) h (fun h => ?_) (fun h => ?_)
    · refine g_aload_n F 2 dX1_search_45 rfl rfl ?_
      refine g_iload_n F 3 dX1_search_46 rfl rfl ?_
      refine g_iload_n F 1 dX1_search_47 rfl rfl ?_
      refine u_callV (k := k) (As := [.int v1, .int r2]) (rest := []) (sn := fun _ => []) F B (fun _ => wX1_deepen (zl z) E hE bk hhc hrec v1 r2 hk s.2 J) mX1_deepen q382 (gRok_of (by omega) (by decide)) hk.1 rfl rfl rfl (Nat.le_of_ble_eq_true rfl) dX1_search_48 (fun _ => rfl) h (fun r4 h => ?_)
      refine g_aload_n F 2 dX1_search_51 rfl rfl ?_
      refine g_iload_n F 3 dX1_search_52 rfl rfl ?_
      refine g_bipush (v := 100) F dX1_search_53 (by decide) ?_
      refine u_callV (k := k) (As := [.int v1, .int 100]) (rest := []) (sn := fun r5 => [.int r5]) F B (fun _ => wX1_lowestBelow (zl z) E hE bk k v1 (100 : Int32) hk r4 J) mX1_lowestBelow q379 (gRok_of (by omega) (by decide)) hk.1 rfl rfl rfl (Nat.le_of_ble_eq_true rfl) dX1_search_55 (fun _ => rfl) h (fun r5 h => ?_)
      refine g_istore (Ln := [(4, .int r5), (3, .int r2), (0, .ref (E.2.1 k)), (1, .int v1), (2, .int s.1)]) F dX1_search_58 (by decide) rfl ?_
      refine g_iinc (v := r2 + 1) (Ln := [(3, .int (r2 + 1)), (4, .int r5), (0, .ref (E.2.1 k)), (1, .int v1), (2, .int s.1)]) F 1 dX1_search_60 rfl (add_c (by decide)) (by decide) rfl ?_
      refine g_sub (Ln := [(0, .ref (E.2.1 k)), (1, .int v1), (2, .int s.1), (3, .int (r2 + 1)), (4, .int r5)]) [2, 3, 4, 0, 1] rfl ?_
      exact wbX1_search_63 F B hE hhc hrec v1 s.1 (r2 + 1) r5 hk r4 J h hl K19_0 K19_1
    · refine g_sub (Ln := [(0, .ref (E.2.1 k)), (1, .int v1), (2, .int s.1), (3, .int r2), (4, .int r3)]) [2, 3, 4, 1, 0] rfl ?_
      exact wbX1_search_63 F B hE hhc hrec v1 s.1 r2 r3 hk s.2 J h hl K19_0 K19_1
noncomputable def fX1_searchB (rec : Int32 → gM → Option gM) (k : Nat) (v1 : Int32) (I : gM) : Option (gM) :=
  if (I k 2) ≤ v1 then
    some I
  else
    (fX1_isOpened k v1 I).bind fun r1 =>
    if r1.1 = 0 then
      some r1.2
    else
      (lX1_search_19 rec k v1 ((0 : Int32), r1.2)).bind fun w7 =>
      Sum.elim (fun w7_0 =>
        some w7_0)
      (fun w7_1 =>
        some w7_1) w7
set_option maxRecDepth 100000 in
set_option maxHeartbeats 4000000 in
theorem wX1_searchB (l : Launch) (E : gE) (hE : gDist sh E) (bk : Nat) {hh : Nat} {k : Nat} (hhc : 2 ≤ hh) {rec : Int32 → gM → Option gM} (hrec : ∀ (d : Int32) (I : gM) (J : gN) (r : gM), rec d I = some r → Cu l sh E bk yX1_search cX1_search 5 none (gR hh) [.ref (E.2.1 k), .int d] I J (fun r1 I1 J1 => r1 = none ∧ I1 = r ∧ J1 = J)) (v1 : Int32) (hk : shX1 k) (I : gM) (J : gN) {r : gM} (h : fX1_searchB rec k v1 I = some r) : Cu l sh E bk yX1_search cX1_search 5 none (gR (hh + 2)) [.ref (E.2.1 k), .int v1] I J (fun r1 I1 J1 => r1 = none ∧ I1 = r ∧ J1 = J) := by
  refine Cu.of "LeapJoin$Join" rfl hE (by decide) (Nat.le_of_ble_eq_true rfl) (fun z F B e hl => ?_)
  subst hl
  unfold fX1_searchB at h
  refine g_iload_n F 1 dX1_search_0 rfl rfl ?_
  refine g_aload_n F 0 dX1_search_1 rfl rfl ?_
  refine g_geti (j := 2) (v := I k 2) F hk.1 rfl rfl uX1 (by decide) q83 rfl dX1_search_2 ?_
  refine u_icmp_ge (tgt := 16) F dX1_search_5 (by decide) h (fun h => ?_) (fun h => ?_)
  · obtain rfl := Option.some.inj h
    exact g_vret F e dX1_search_16 ⟨rfl, rfl, rfl⟩
  · refine g_aload_n F 0 dX1_search_8 rfl rfl ?_
    refine g_iload_n F 1 dX1_search_9 rfl rfl ?_
    refine u_callV (k := k) (As := [.int v1]) (rest := []) (sn := fun r1 => [.int r1.1]) F B (fun _ => wX1_isOpened (zl z) E hE bk k v1 hk I J) mX1_isOpened q370 (gRok_of (by omega) (by decide)) hk.1 rfl rfl rfl (Nat.le_of_ble_eq_true rfl) dX1_search_10 (fun _ => rfl) h (fun r1 h => ?_)
    refine u_if_ne (tgt := 17) F dX1_search_13 (by decide) h (fun h => ?_) (fun h => ?_)
    · obtain rfl := Option.some.inj h
      exact g_vret F e dX1_search_16 ⟨rfl, rfl, rfl⟩
    · refine g_iconst (v := 0) F dX1_search_17 (by decide) ?_
      refine g_istore_n (Ln := [(2, .int 0), (0, .ref (E.2.1 k)), (1, .int v1)]) F dX1_search_18 rfl (by decide) rfl ?_
      obtain ⟨w7, ew7, h⟩ := ob h
      refine g_sub (Ln := [(0, .ref (E.2.1 k)), (1, .int v1), (2, .int 0)]) [1, 2, 0] rfl ?_
      refine wlX1_search_19 F B hE hhc hrec v1 hk J _ ew7 (fun w7_0 q => ?_) (fun w7_1 q => ?_)
      · subst q
        replace h := oE1 h
        obtain rfl := Option.some.inj h
        exact g_vret F e dX1_search_83 ⟨rfl, rfl, rfl⟩
      · subst q
        replace h := oE2 h
        obtain rfl := Option.some.inj h
        exact g_vret F e dX1_search_90 ⟨rfl, rfl, rfl⟩
noncomputable def fX1_search : Nat → Nat → Int32 → gM → Option gM
  | 0, _, _, _ => none
  | n + 1, k, d, I => fX1_searchB (fun d I => fX1_search n k d I) k d I
theorem wX1_search (l : Launch) (E : gE) (hE : gDist sh E) (bk n : Nat) : ∀ (k : Nat) (d : Int32) (_ : shX1 k) (I : gM) (J : gN) {r : gM} (_ : fX1_search n k d I = some r), Cu l sh E bk yX1_search cX1_search 5 none (gR (2 + 2 * n)) [.ref (E.2.1 k), .int d] I J (fun r1 I1 J1 => r1 = none ∧ I1 = r ∧ J1 = J) := by
  induction n with
  | zero => intro k d hk I J r h; cases h
  | succ n ih => intro k d hk I J r h; exact wX1_searchB l E hE bk (k := k) (hh := 2 + 2 * n) (Nat.le_add_right _ _) (fun d I J r h => ih k d hk I J h) d hk I J h
theorem DX1_findBy_0 : dAre cX1_findBy [(0, .aload_n 1, 1), (1, .invokevirtual 52, 3), (4, .istore_n 3, 1), (5, .bipush 15, 2), (7, .istore 4, 2), (9, .iload_n 2, 1), (10, .istore 5, 2), (12, .aload_n 0, 1), (13, .iconst 0, 1), (14, .putfield 18, 3), (17, .iconst 0, 1), (18, .istore 6, 2), (20, .iload 6, 2), (22, .iconst 4, 1), (23, .if_icmp .ge 57, 3), (26, .iload 4, 2)] := dAre0 (by decide +kernel)
theorem dX1_findBy_0 : decode cX1_findBy 0 = .ok (.aload_n 1, 1) := DX1_findBy_0.1
theorem dX1_findBy_1 : decode cX1_findBy 1 = .ok (.invokevirtual 52, 3) := DX1_findBy_0.2.1
theorem dX1_findBy_4 : decode cX1_findBy 4 = .ok (.istore_n 3, 1) := DX1_findBy_0.2.2.1
theorem dX1_findBy_5 : decode cX1_findBy 5 = .ok (.bipush 15, 2) := DX1_findBy_0.2.2.2.1
theorem dX1_findBy_7 : decode cX1_findBy 7 = .ok (.istore 4, 2) := DX1_findBy_0.2.2.2.2.1
theorem dX1_findBy_9 : decode cX1_findBy 9 = .ok (.iload_n 2, 1) := DX1_findBy_0.2.2.2.2.2.1
theorem dX1_findBy_10 : decode cX1_findBy 10 = .ok (.istore 5, 2) := DX1_findBy_0.2.2.2.2.2.2.1
theorem dX1_findBy_12 : decode cX1_findBy 12 = .ok (.aload_n 0, 1) := DX1_findBy_0.2.2.2.2.2.2.2.1
theorem dX1_findBy_13 : decode cX1_findBy 13 = .ok (.iconst 0, 1) := DX1_findBy_0.2.2.2.2.2.2.2.2.1
theorem dX1_findBy_14 : decode cX1_findBy 14 = .ok (.putfield 18, 3) := DX1_findBy_0.2.2.2.2.2.2.2.2.2.1
theorem dX1_findBy_17 : decode cX1_findBy 17 = .ok (.iconst 0, 1) := DX1_findBy_0.2.2.2.2.2.2.2.2.2.2.1
theorem dX1_findBy_18 : decode cX1_findBy 18 = .ok (.istore 6, 2) := DX1_findBy_0.2.2.2.2.2.2.2.2.2.2.2.1
theorem dX1_findBy_20 : decode cX1_findBy 20 = .ok (.iload 6, 2) := DX1_findBy_0.2.2.2.2.2.2.2.2.2.2.2.2.1
theorem dX1_findBy_22 : decode cX1_findBy 22 = .ok (.iconst 4, 1) := DX1_findBy_0.2.2.2.2.2.2.2.2.2.2.2.2.2.1
theorem dX1_findBy_23 : decode cX1_findBy 23 = .ok (.if_icmp .ge 57, 3) := DX1_findBy_0.2.2.2.2.2.2.2.2.2.2.2.2.2.2.1
theorem dX1_findBy_26 : decode cX1_findBy 26 = .ok (.iload 4, 2) := DX1_findBy_0.2.2.2.2.2.2.2.2.2.2.2.2.2.2.2.1
theorem DX1_findBy_28 : dAre cX1_findBy [(28, .iload 5, 2), (30, .getstatic 58, 3), (33, .iload 6, 2), (35, .iaload, 1), (36, .idiv, 1), (37, .invokestatic 61, 3), (40, .istore 7, 2), (42, .iload 5, 2), (44, .getstatic 58, 3), (47, .iload 6, 2), (49, .iaload, 1), (50, .irem, 1), (51, .istore 5, 2), (53, .iload 4, 2), (55, .iconst 1, 1), (56, .iload 7, 2)] := dAre0 (by decide +kernel)
theorem dX1_findBy_28 : decode cX1_findBy 28 = .ok (.iload 5, 2) := DX1_findBy_28.1
theorem dX1_findBy_30 : decode cX1_findBy 30 = .ok (.getstatic 58, 3) := DX1_findBy_28.2.1
theorem dX1_findBy_33 : decode cX1_findBy 33 = .ok (.iload 6, 2) := DX1_findBy_28.2.2.1
theorem dX1_findBy_35 : decode cX1_findBy 35 = .ok (.iaload, 1) := DX1_findBy_28.2.2.2.1
theorem dX1_findBy_36 : decode cX1_findBy 36 = .ok (.idiv, 1) := DX1_findBy_28.2.2.2.2.1
theorem dX1_findBy_37 : decode cX1_findBy 37 = .ok (.invokestatic 61, 3) := DX1_findBy_28.2.2.2.2.2.1
theorem dX1_findBy_40 : decode cX1_findBy 40 = .ok (.istore 7, 2) := DX1_findBy_28.2.2.2.2.2.2.1
theorem dX1_findBy_42 : decode cX1_findBy 42 = .ok (.iload 5, 2) := DX1_findBy_28.2.2.2.2.2.2.2.1
theorem dX1_findBy_44 : decode cX1_findBy 44 = .ok (.getstatic 58, 3) := DX1_findBy_28.2.2.2.2.2.2.2.2.1
theorem dX1_findBy_47 : decode cX1_findBy 47 = .ok (.iload 6, 2) := DX1_findBy_28.2.2.2.2.2.2.2.2.2.1
theorem dX1_findBy_49 : decode cX1_findBy 49 = .ok (.iaload, 1) := DX1_findBy_28.2.2.2.2.2.2.2.2.2.2.1
theorem dX1_findBy_50 : decode cX1_findBy 50 = .ok (.irem, 1) := DX1_findBy_28.2.2.2.2.2.2.2.2.2.2.2.1
theorem dX1_findBy_51 : decode cX1_findBy 51 = .ok (.istore 5, 2) := DX1_findBy_28.2.2.2.2.2.2.2.2.2.2.2.2.1
theorem dX1_findBy_53 : decode cX1_findBy 53 = .ok (.iload 4, 2) := DX1_findBy_28.2.2.2.2.2.2.2.2.2.2.2.2.2.1
theorem dX1_findBy_55 : decode cX1_findBy 55 = .ok (.iconst 1, 1) := DX1_findBy_28.2.2.2.2.2.2.2.2.2.2.2.2.2.2.1
theorem dX1_findBy_56 : decode cX1_findBy 56 = .ok (.iload 7, 2) := DX1_findBy_28.2.2.2.2.2.2.2.2.2.2.2.2.2.2.2.1
theorem DX1_findBy_58 : dAre cX1_findBy [(58, .ishl, 1), (59, .iconst (-1), 1), (60, .ixor, 1), (61, .iand, 1), (62, .istore 4, 2), (64, .aload_n 0, 1), (65, .iload_n 3, 1), (66, .iconst 1, 1), (67, .iload 7, 2), (69, .ishl, 1), (70, .iand, 1), (71, .invokevirtual 65, 3), (74, .iinc 6 1, 3), (77, .goto (-57), 3), (80, .aload_n 0, 1), (81, .aload_n 1, 1)] := dAre0 (by decide +kernel)
theorem dX1_findBy_58 : decode cX1_findBy 58 = .ok (.ishl, 1) := DX1_findBy_58.1
theorem dX1_findBy_59 : decode cX1_findBy 59 = .ok (.iconst (-1), 1) := DX1_findBy_58.2.1
theorem dX1_findBy_60 : decode cX1_findBy 60 = .ok (.ixor, 1) := DX1_findBy_58.2.2.1
theorem dX1_findBy_61 : decode cX1_findBy 61 = .ok (.iand, 1) := DX1_findBy_58.2.2.2.1
theorem dX1_findBy_62 : decode cX1_findBy 62 = .ok (.istore 4, 2) := DX1_findBy_58.2.2.2.2.1
theorem dX1_findBy_64 : decode cX1_findBy 64 = .ok (.aload_n 0, 1) := DX1_findBy_58.2.2.2.2.2.1
theorem dX1_findBy_65 : decode cX1_findBy 65 = .ok (.iload_n 3, 1) := DX1_findBy_58.2.2.2.2.2.2.1
theorem dX1_findBy_66 : decode cX1_findBy 66 = .ok (.iconst 1, 1) := DX1_findBy_58.2.2.2.2.2.2.2.1
theorem dX1_findBy_67 : decode cX1_findBy 67 = .ok (.iload 7, 2) := DX1_findBy_58.2.2.2.2.2.2.2.2.1
theorem dX1_findBy_69 : decode cX1_findBy 69 = .ok (.ishl, 1) := DX1_findBy_58.2.2.2.2.2.2.2.2.2.1
theorem dX1_findBy_70 : decode cX1_findBy 70 = .ok (.iand, 1) := DX1_findBy_58.2.2.2.2.2.2.2.2.2.2.1
theorem dX1_findBy_71 : decode cX1_findBy 71 = .ok (.invokevirtual 65, 3) := DX1_findBy_58.2.2.2.2.2.2.2.2.2.2.2.1
theorem dX1_findBy_74 : decode cX1_findBy 74 = .ok (.iinc 6 1, 3) := DX1_findBy_58.2.2.2.2.2.2.2.2.2.2.2.2.1
theorem dX1_findBy_77 : decode cX1_findBy 77 = .ok (.goto (-57), 3) := DX1_findBy_58.2.2.2.2.2.2.2.2.2.2.2.2.2.1
theorem dX1_findBy_80 : decode cX1_findBy 80 = .ok (.aload_n 0, 1) := DX1_findBy_58.2.2.2.2.2.2.2.2.2.2.2.2.2.2.1
theorem dX1_findBy_81 : decode cX1_findBy 81 = .ok (.aload_n 1, 1) := DX1_findBy_58.2.2.2.2.2.2.2.2.2.2.2.2.2.2.2.1
theorem DX1_findBy_82 : dAre cX1_findBy [(82, .invokevirtual 69, 3), (85, .aload_n 0, 1), (86, .iconst 0, 1), (87, .invokevirtual 73, 3), (90, .return_, 1)] := dAre0 (by decide +kernel)
theorem dX1_findBy_82 : decode cX1_findBy 82 = .ok (.invokevirtual 69, 3) := DX1_findBy_82.1
theorem dX1_findBy_85 : decode cX1_findBy 85 = .ok (.aload_n 0, 1) := DX1_findBy_82.2.1
theorem dX1_findBy_86 : decode cX1_findBy 86 = .ok (.iconst 0, 1) := DX1_findBy_82.2.2.1
theorem dX1_findBy_87 : decode cX1_findBy 87 = .ok (.invokevirtual 73, 3) := DX1_findBy_82.2.2.2.1
theorem dX1_findBy_90 : decode cX1_findBy 90 = .ok (.return_, 1) := DX1_findBy_82.2.2.2.2.1
theorem mX1_findBy : gMv yX1_findBy cX1_findBy 8 none RX1 2 := ⟨q332, q333, q4, q334, rfl, by decide, by decide, by decide +kernel⟩
noncomputable def lX1_findBy_20 (k : Nat) (v3 : Int32) : (Int32 × Int32 × Int32 × gM) → Option (gM) :=
  itO fun s =>
    if (4 : Int32) ≤ s.2.2.1 then
      some (.inr s.2.2.2)
    else
      (rI 4 blk s.2.2.1).bind fun u3 =>
      (dV s.2.1 u3).bind fun u4 =>
      (fX1_letterOf s.1 u4).bind fun r5 =>
      (rI 4 blk s.2.2.1).bind fun u6 =>
      (rM s.2.1 u6).bind fun u7 =>
      (fX1_addLetters k (v3 &&& ((1 : Int32) <<< (r5 &&& 31))) s.2.2.2).bind fun r8 =>
      some (.inl (s.1 &&& (((1 : Int32) <<< (r5 &&& 31)) ^^^ (-1)), u7, s.2.2.1 + 1, r8))
set_option maxRecDepth 100000 in
set_option maxHeartbeats 4000000 in
theorem wlX1_findBy_20 {z : gZ} {E : gE} {bk : Nat} (F : Fx z sh E "LeapJoin$Join" cX1_findBy (gR 15) 8) (B : bZ z bk) (hE : gDist sh E) (k : Nat) (k1 : Nat) (v3 : Int32) (hk : shX1 k) (hk1 : shX5 k1) (J : gN) {r : gM} : ∀ s : Int32 × Int32 × Int32 × gM, lX1_findBy_20 k v3 s = some r → (G z 80 [(0, .ref (E.2.1 k)), (1, .ref (E.2.1 k1))] [] r J) → G z 20 [(0, .ref (E.2.1 k)), (1, .ref (E.2.1 k1)), (3, .int v3), (4, .int s.1), (5, .int s.2.1), (6, .int s.2.2.1)] [] s.2.2.2 J := by
  intro s h X0
  unfold lX1_findBy_20 at h
  revert s
  refine itO_ind (P := fun s : Int32 × Int32 × Int32 × gM => G z 20 [(0, .ref (E.2.1 k)), (1, .ref (E.2.1 k1)), (3, .int v3), (4, .int s.1), (5, .int s.2.1), (6, .int s.2.2.1)] [] s.2.2.2 J) (fun s y h hl hr => ?_)
  have K20_0 : ∀ x : gM, y = .inr x → (G z 80 [(0, .ref (E.2.1 k)), (1, .ref (E.2.1 k1))] [] x J) := fun x q => by have q2 := hr _ q; subst q2; exact X0
  refine g_iload F 5 dX1_findBy_20 rfl ?_
  refine g_iconst (v := 4) F dX1_findBy_22 (by decide) ?_
  refine u_icmp_ge (tgt := 80) F dX1_findBy_23 (by decide) h (fun h => ?_) (fun h => ?_)
  · obtain rfl := Option.some.inj h
    refine g_sub (Ln := [(0, .ref (E.2.1 k)), (1, .ref (E.2.1 k1))]) [0, 1] rfl ?_
    exact K20_0 s.2.2.2 rfl
  · refine g_iload F 3 dX1_findBy_26 rfl ?_
    refine g_iload F 4 dX1_findBy_28 rfl ?_
    refine u_blk F B q347 dX1_findBy_30 ?_
    refine g_iload F 5 dX1_findBy_33 rfl ?_
    refine u_blkld F B dX1_findBy_35 h (fun u3 h => ?_)
    refine u_idiv F dX1_findBy_36 h (fun u4 h => ?_)
    refine u_callS (As := [.int s.1, .int u4]) (rest := []) (sn := fun r5 => [.int r5]) F B (fun _ => wX1_letterOf (zl z) E hE bk s.1 u4 s.2.2.2 J) mX1_letterOf q348 rfl rfl rfl (Nat.le_of_ble_eq_true rfl) dX1_findBy_37 (fun _ => rfl) h (fun r5 h => ?_)
    refine g_istore (Ln := [(7, .int r5), (0, .ref (E.2.1 k)), (1, .ref (E.2.1 k1)), (3, .int v3), (4, .int s.1), (5, .int s.2.1), (6, .int s.2.2.1)]) F dX1_findBy_40 (by decide) rfl ?_
    refine g_iload F 5 dX1_findBy_42 rfl ?_
    refine u_blk F B q347 dX1_findBy_44 ?_
    refine g_iload F 6 dX1_findBy_47 rfl ?_
    refine u_blkld F B dX1_findBy_49 h (fun u6 h => ?_)
    refine u_irem F dX1_findBy_50 h (fun u7 h => ?_)
    refine g_istore (Ln := [(5, .int u7), (7, .int r5), (0, .ref (E.2.1 k)), (1, .ref (E.2.1 k1)), (3, .int v3), (4, .int s.1), (6, .int s.2.2.1)]) F dX1_findBy_51 (by decide) rfl ?_
    refine g_iload F 5 dX1_findBy_53 rfl ?_
    refine g_iconst (v := 1) F dX1_findBy_55 (by decide) ?_
    refine g_iload F 1 dX1_findBy_56 rfl ?_
    refine g_ishl (v := (1 : Int32) <<< (r5 &&& 31)) F dX1_findBy_58 rfl ?_
    refine g_iconst (v := (-1)) F dX1_findBy_59 (by decide) ?_
    refine g_ixor (v := ((1 : Int32) <<< (r5 &&& 31)) ^^^ (-1)) F dX1_findBy_60 rfl ?_
    refine g_iand (v := s.1 &&& (((1 : Int32) <<< (r5 &&& 31)) ^^^ (-1))) F dX1_findBy_61 rfl ?_
    refine g_istore (Ln := [(4, .int (s.1 &&& (((1 : Int32) <<< (r5 &&& 31)) ^^^ (-1)))), (5, .int u7), (7, .int r5), (0, .ref (E.2.1 k)), (1, .ref (E.2.1 k1)), (3, .int v3), (6, .int s.2.2.1)]) F dX1_findBy_62 (by decide) rfl ?_
    refine g_aload_n F 3 dX1_findBy_64 rfl rfl ?_
    refine g_iload_n F 5 dX1_findBy_65 rfl rfl ?_
    refine g_iconst (v := 1) F dX1_findBy_66 (by decide) ?_
    refine g_iload F 2 dX1_findBy_67 rfl ?_
    refine g_ishl (v := (1 : Int32) <<< (r5 &&& 31)) F dX1_findBy_69 rfl ?_
    refine g_iand (v := v3 &&& ((1 : Int32) <<< (r5 &&& 31))) F dX1_findBy_70 rfl ?_
    refine u_callV (k := k) (As := [.int (v3 &&& ((1 : Int32) <<< (r5 &&& 31)))]) (rest := []) (sn := fun _ => []) F B (fun _ => wX1_addLetters (zl z) E hE bk k (v3 &&& ((1 : Int32) <<< (r5 &&& 31))) hk s.2.2.2 J) mX1_addLetters q351 rfl hk.1 rfl rfl rfl (Nat.le_of_ble_eq_true rfl) dX1_findBy_71 (fun _ => rfl) h (fun r8 h => ?_)
    refine g_iinc (v := s.2.2.1 + 1) (Ln := [(6, .int (s.2.2.1 + 1)), (4, .int (s.1 &&& (((1 : Int32) <<< (r5 &&& 31)) ^^^ (-1)))), (5, .int u7), (7, .int r5), (0, .ref (E.2.1 k)), (1, .ref (E.2.1 k1)), (3, .int v3)]) F 6 dX1_findBy_74 rfl (add_c (by decide)) (by decide) rfl ?_
    refine g_goto (tgt := 20) F dX1_findBy_77 (by decide) ?_
    obtain rfl := Option.some.inj h
    refine g_sub (Ln := [(0, .ref (E.2.1 k)), (1, .ref (E.2.1 k1)), (3, .int v3), (4, .int (s.1 &&& (((1 : Int32) <<< (r5 &&& 31)) ^^^ (-1)))), (5, .int u7), (6, .int (s.2.2.1 + 1))]) [4, 5, 6, 1, 2, 0] rfl ?_
    exact hl (s.1 &&& (((1 : Int32) <<< (r5 &&& 31)) ^^^ (-1)), u7, s.2.2.1 + 1, r8) rfl
noncomputable def fX1_findBy (k : Nat) (k1 : Nat) (v2 : Int32) (I : gM) : Option (gM) :=
  (fX5_asked k1 I).bind fun r1 =>
  (pU I k 2 (0 : Int32)).bind fun I2 =>
  (lX1_findBy_20 k r1 ((15 : Int32), v2, (0 : Int32), I2)).bind fun w9 =>
  (fX1_open k k1 w9).bind fun r10 =>
  (fX1_search 6 k (0 : Int32) r10).bind fun r11 =>
  some r11
set_option maxRecDepth 100000 in
set_option maxHeartbeats 4000000 in
theorem wX1_findBy (l : Launch) (E : gE) (hE : gDist sh E) (bk : Nat) (k : Nat) (k1 : Nat) (v2 : Int32) (hk : shX1 k) (hk1 : shX5 k1) (I : gM) (J : gN) {r : gM} (h : fX1_findBy k k1 v2 I = some r) : Cu l sh E bk yX1_findBy cX1_findBy 8 none (gR 15) [.ref (E.2.1 k), .ref (E.2.1 k1), .int v2] I J (fun r1 I1 J1 => r1 = none ∧ I1 = r ∧ J1 = J) := by
  refine Cu.of "LeapJoin$Join" rfl hE (by decide) (Nat.le_of_ble_eq_true rfl) (fun z F B e hl => ?_)
  subst hl
  unfold fX1_findBy at h
  refine g_aload_n F 1 dX1_findBy_0 rfl rfl ?_
  refine u_callV (k := k1) (As := []) (rest := []) (sn := fun r1 => [.int r1]) F B (fun _ => wX5_asked (zl z) E hE bk k1 hk1 I J) mX5_asked q335 rfl hk1.1 rfl rfl rfl (Nat.le_of_ble_eq_true rfl) dX1_findBy_1 (fun _ => rfl) h (fun r1 h => ?_)
  refine g_istore_n (Ln := [(3, .int r1), (0, .ref (E.2.1 k)), (1, .ref (E.2.1 k1)), (2, .int v2)]) F dX1_findBy_4 rfl (by decide) rfl ?_
  refine g_bipush (v := 15) F dX1_findBy_5 (by decide) ?_
  refine g_istore (Ln := [(4, .int 15), (3, .int r1), (0, .ref (E.2.1 k)), (1, .ref (E.2.1 k1)), (2, .int v2)]) F dX1_findBy_7 (by decide) rfl ?_
  refine g_iload_n F 4 dX1_findBy_9 rfl rfl ?_
  refine g_istore (Ln := [(5, .int v2), (4, .int 15), (3, .int r1), (0, .ref (E.2.1 k)), (1, .ref (E.2.1 k1)), (2, .int v2)]) F dX1_findBy_10 (by decide) rfl ?_
  refine g_aload_n F 3 dX1_findBy_12 rfl rfl ?_
  refine g_iconst (v := 0) F dX1_findBy_13 (by decide) ?_
  refine u_puti (j := 2) F hk.1 rfl rfl uX1 (by decide) q83 tyX1_ok nmX1 rfl rfl rfl dX1_findBy_14 h (fun I2 h => ?_)
  refine g_iconst (v := 0) F dX1_findBy_17 (by decide) ?_
  refine g_istore (Ln := [(6, .int 0), (5, .int v2), (4, .int 15), (3, .int r1), (0, .ref (E.2.1 k)), (1, .ref (E.2.1 k1)), (2, .int v2)]) F dX1_findBy_18 (by decide) rfl ?_
  obtain ⟨w9, ew9, h⟩ := ob h
  refine g_sub (Ln := [(0, .ref (E.2.1 k)), (1, .ref (E.2.1 k1)), (3, .int r1), (4, .int 15), (5, .int v2), (6, .int 0)]) [4, 5, 3, 2, 1, 0] rfl ?_
  refine wlX1_findBy_20 F B hE k k1 r1 hk hk1 J _ ew9 ?_
  refine g_aload_n F 0 dX1_findBy_80 rfl rfl ?_
  refine g_aload_n F 1 dX1_findBy_81 rfl rfl ?_
  refine u_callV (k := k) (As := [.ref (E.2.1 k1)]) (rest := []) (sn := fun _ => []) F B (fun _ => wX1_open (zl z) E hE bk k k1 hk hk1 w9 J) mX1_open q354 rfl hk.1 rfl rfl rfl (Nat.le_of_ble_eq_true rfl) dX1_findBy_82 (fun _ => rfl) h (fun r10 h => ?_)
  refine g_aload_n F 0 dX1_findBy_85 rfl rfl ?_
  refine g_iconst (v := 0) F dX1_findBy_86 (by decide) ?_
  refine u_callV (k := k) (As := [.int 0]) (rest := []) (sn := fun _ => []) F B (fun _ => wX1_search (zl z) E hE bk 6 k (0 : Int32) hk r10 J) mX1_search q367 rfl hk.1 rfl rfl rfl (Nat.le_of_ble_eq_true rfl) dX1_findBy_87 (fun _ => rfl) h (fun r11 h => ?_)
  obtain rfl := Option.some.inj h
  exact g_vret F e dX1_findBy_90 ⟨rfl, rfl, rfl⟩
theorem DX1_findLeading_0 : dAre cX1_findLeading [(0, .aload_n 1, 1), (1, .invokevirtual 52, 3), (4, .istore_n 3, 1), (5, .aload_n 0, 1), (6, .iconst 0, 1), (7, .putfield 18, 3), (10, .aload_n 0, 1), (11, .iload_n 3, 1), (12, .iload_n 2, 1), (13, .iand, 1), (14, .invokevirtual 65, 3), (17, .aload_n 0, 1), (18, .iload_n 3, 1), (19, .iload_n 2, 1), (20, .iconst (-1), 1), (21, .ixor, 1)] := dAre0 (by decide +kernel)
theorem dX1_findLeading_0 : decode cX1_findLeading 0 = .ok (.aload_n 1, 1) := DX1_findLeading_0.1
theorem dX1_findLeading_1 : decode cX1_findLeading 1 = .ok (.invokevirtual 52, 3) := DX1_findLeading_0.2.1
theorem dX1_findLeading_4 : decode cX1_findLeading 4 = .ok (.istore_n 3, 1) := DX1_findLeading_0.2.2.1
theorem dX1_findLeading_5 : decode cX1_findLeading 5 = .ok (.aload_n 0, 1) := DX1_findLeading_0.2.2.2.1
theorem dX1_findLeading_6 : decode cX1_findLeading 6 = .ok (.iconst 0, 1) := DX1_findLeading_0.2.2.2.2.1
theorem dX1_findLeading_7 : decode cX1_findLeading 7 = .ok (.putfield 18, 3) := DX1_findLeading_0.2.2.2.2.2.1
theorem dX1_findLeading_10 : decode cX1_findLeading 10 = .ok (.aload_n 0, 1) := DX1_findLeading_0.2.2.2.2.2.2.1
theorem dX1_findLeading_11 : decode cX1_findLeading 11 = .ok (.iload_n 3, 1) := DX1_findLeading_0.2.2.2.2.2.2.2.1
theorem dX1_findLeading_12 : decode cX1_findLeading 12 = .ok (.iload_n 2, 1) := DX1_findLeading_0.2.2.2.2.2.2.2.2.1
theorem dX1_findLeading_13 : decode cX1_findLeading 13 = .ok (.iand, 1) := DX1_findLeading_0.2.2.2.2.2.2.2.2.2.1
theorem dX1_findLeading_14 : decode cX1_findLeading 14 = .ok (.invokevirtual 65, 3) := DX1_findLeading_0.2.2.2.2.2.2.2.2.2.2.1
theorem dX1_findLeading_17 : decode cX1_findLeading 17 = .ok (.aload_n 0, 1) := DX1_findLeading_0.2.2.2.2.2.2.2.2.2.2.2.1
theorem dX1_findLeading_18 : decode cX1_findLeading 18 = .ok (.iload_n 3, 1) := DX1_findLeading_0.2.2.2.2.2.2.2.2.2.2.2.2.1
theorem dX1_findLeading_19 : decode cX1_findLeading 19 = .ok (.iload_n 2, 1) := DX1_findLeading_0.2.2.2.2.2.2.2.2.2.2.2.2.2.1
theorem dX1_findLeading_20 : decode cX1_findLeading 20 = .ok (.iconst (-1), 1) := DX1_findLeading_0.2.2.2.2.2.2.2.2.2.2.2.2.2.2.1
theorem dX1_findLeading_21 : decode cX1_findLeading 21 = .ok (.ixor, 1) := DX1_findLeading_0.2.2.2.2.2.2.2.2.2.2.2.2.2.2.2.1
theorem DX1_findLeading_22 : dAre cX1_findLeading [(22, .iand, 1), (23, .invokevirtual 65, 3), (26, .aload_n 0, 1), (27, .aload_n 1, 1), (28, .invokevirtual 69, 3), (31, .aload_n 0, 1), (32, .iconst 0, 1), (33, .invokevirtual 73, 3), (36, .return_, 1)] := dAre0 (by decide +kernel)
theorem dX1_findLeading_22 : decode cX1_findLeading 22 = .ok (.iand, 1) := DX1_findLeading_22.1
theorem dX1_findLeading_23 : decode cX1_findLeading 23 = .ok (.invokevirtual 65, 3) := DX1_findLeading_22.2.1
theorem dX1_findLeading_26 : decode cX1_findLeading 26 = .ok (.aload_n 0, 1) := DX1_findLeading_22.2.2.1
theorem dX1_findLeading_27 : decode cX1_findLeading 27 = .ok (.aload_n 1, 1) := DX1_findLeading_22.2.2.2.1
theorem dX1_findLeading_28 : decode cX1_findLeading 28 = .ok (.invokevirtual 69, 3) := DX1_findLeading_22.2.2.2.2.1
theorem dX1_findLeading_31 : decode cX1_findLeading 31 = .ok (.aload_n 0, 1) := DX1_findLeading_22.2.2.2.2.2.1
theorem dX1_findLeading_32 : decode cX1_findLeading 32 = .ok (.iconst 0, 1) := DX1_findLeading_22.2.2.2.2.2.2.1
theorem dX1_findLeading_33 : decode cX1_findLeading 33 = .ok (.invokevirtual 73, 3) := DX1_findLeading_22.2.2.2.2.2.2.2.1
theorem dX1_findLeading_36 : decode cX1_findLeading 36 = .ok (.return_, 1) := DX1_findLeading_22.2.2.2.2.2.2.2.2.1
theorem mX1_findLeading : gMv yX1_findLeading cX1_findLeading 4 none RX1 2 := ⟨q479, q480, q4, q481, rfl, by decide, by decide, by decide +kernel⟩
noncomputable def fX1_findLeading (k : Nat) (k1 : Nat) (v2 : Int32) (I : gM) : Option (gM) :=
  (fX5_asked k1 I).bind fun r1 =>
  (pU I k 2 (0 : Int32)).bind fun I2 =>
  (fX1_addLetters k (r1 &&& v2) I2).bind fun r3 =>
  (fX1_addLetters k (r1 &&& (v2 ^^^ (-1))) r3).bind fun r4 =>
  (fX1_open k k1 r4).bind fun r5 =>
  (fX1_search 6 k (0 : Int32) r5).bind fun r6 =>
  some r6
set_option maxRecDepth 100000 in
set_option maxHeartbeats 4000000 in
theorem wX1_findLeading (l : Launch) (E : gE) (hE : gDist sh E) (bk : Nat) (k : Nat) (k1 : Nat) (v2 : Int32) (hk : shX1 k) (hk1 : shX5 k1) (I : gM) (J : gN) {r : gM} (h : fX1_findLeading k k1 v2 I = some r) : Cu l sh E bk yX1_findLeading cX1_findLeading 4 none (gR 15) [.ref (E.2.1 k), .ref (E.2.1 k1), .int v2] I J (fun r1 I1 J1 => r1 = none ∧ I1 = r ∧ J1 = J) := by
  refine Cu.of "LeapJoin$Join" rfl hE (by decide) (Nat.le_of_ble_eq_true rfl) (fun z F B e hl => ?_)
  subst hl
  unfold fX1_findLeading at h
  refine g_aload_n F 1 dX1_findLeading_0 rfl rfl ?_
  refine u_callV (k := k1) (As := []) (rest := []) (sn := fun r1 => [.int r1]) F B (fun _ => wX5_asked (zl z) E hE bk k1 hk1 I J) mX5_asked q335 rfl hk1.1 rfl rfl rfl (Nat.le_of_ble_eq_true rfl) dX1_findLeading_1 (fun _ => rfl) h (fun r1 h => ?_)
  refine g_istore_n (Ln := [(3, .int r1), (0, .ref (E.2.1 k)), (1, .ref (E.2.1 k1)), (2, .int v2)]) F dX1_findLeading_4 rfl (by decide) rfl ?_
  refine g_aload_n F 1 dX1_findLeading_5 rfl rfl ?_
  refine g_iconst (v := 0) F dX1_findLeading_6 (by decide) ?_
  refine u_puti (j := 2) F hk.1 rfl rfl uX1 (by decide) q83 tyX1_ok nmX1 rfl rfl rfl dX1_findLeading_7 h (fun I2 h => ?_)
  refine g_aload_n F 1 dX1_findLeading_10 rfl rfl ?_
  refine g_iload_n F 0 dX1_findLeading_11 rfl rfl ?_
  refine g_iload_n F 3 dX1_findLeading_12 rfl rfl ?_
  refine g_iand (v := r1 &&& v2) F dX1_findLeading_13 rfl ?_
  refine u_callV (k := k) (As := [.int (r1 &&& v2)]) (rest := []) (sn := fun _ => []) F B (fun _ => wX1_addLetters (zl z) E hE bk k (r1 &&& v2) hk I2 J) mX1_addLetters q351 rfl hk.1 rfl rfl rfl (Nat.le_of_ble_eq_true rfl) dX1_findLeading_14 (fun _ => rfl) h (fun r3 h => ?_)
  refine g_aload_n F 1 dX1_findLeading_17 rfl rfl ?_
  refine g_iload_n F 0 dX1_findLeading_18 rfl rfl ?_
  refine g_iload_n F 3 dX1_findLeading_19 rfl rfl ?_
  refine g_iconst (v := (-1)) F dX1_findLeading_20 (by decide) ?_
  refine g_ixor (v := v2 ^^^ (-1)) F dX1_findLeading_21 rfl ?_
  refine g_iand (v := r1 &&& (v2 ^^^ (-1))) F dX1_findLeading_22 rfl ?_
  refine u_callV (k := k) (As := [.int (r1 &&& (v2 ^^^ (-1)))]) (rest := []) (sn := fun _ => []) F B (fun _ => wX1_addLetters (zl z) E hE bk k (r1 &&& (v2 ^^^ (-1))) hk r3 J) mX1_addLetters q351 rfl hk.1 rfl rfl rfl (Nat.le_of_ble_eq_true rfl) dX1_findLeading_23 (fun _ => rfl) h (fun r4 h => ?_)
  refine g_aload_n F 1 dX1_findLeading_26 rfl rfl ?_
  refine g_aload_n F 2 dX1_findLeading_27 rfl rfl ?_
  refine u_callV (k := k) (As := [.ref (E.2.1 k1)]) (rest := []) (sn := fun _ => []) F B (fun _ => wX1_open (zl z) E hE bk k k1 hk hk1 r4 J) mX1_open q354 rfl hk.1 rfl rfl rfl (Nat.le_of_ble_eq_true rfl) dX1_findLeading_28 (fun _ => rfl) h (fun r5 h => ?_)
  refine g_aload_n F 1 dX1_findLeading_31 rfl rfl ?_
  refine g_iconst (v := 0) F dX1_findLeading_32 (by decide) ?_
  refine u_callV (k := k) (As := [.int 0]) (rest := []) (sn := fun _ => []) F B (fun _ => wX1_search (zl z) E hE bk 6 k (0 : Int32) hk r5 J) mX1_search q367 rfl hk.1 rfl rfl rfl (Nat.le_of_ble_eq_true rfl) dX1_findLeading_33 (fun _ => rfl) h (fun r6 h => ?_)
  obtain rfl := Option.some.inj h
  exact g_vret F e dX1_findLeading_36 ⟨rfl, rfl, rfl⟩
theorem DX1_compareAt_0 : dAre cX1_compareAt [(0, .iconst 0, 1), (1, .istore 6, 2), (3, .iload 6, 2), (5, .aload_n 0, 1), (6, .getfield 18, 3), (9, .if_icmp .ge 81, 3), (12, .aload_n 0, 1), (13, .getfield 25, 3), (16, .iload 6, 2), (18, .iaload, 1), (19, .istore 7, 2), (21, .iload 7, 2), (23, .ifCond .ne 7, 3), (26, .iload_n 2, 1), (27, .goto 26, 3), (30, .iload 7, 2)] := dAre0 (by decide +kernel)
theorem dX1_compareAt_0 : decode cX1_compareAt 0 = .ok (.iconst 0, 1) := DX1_compareAt_0.1
theorem dX1_compareAt_1 : decode cX1_compareAt 1 = .ok (.istore 6, 2) := DX1_compareAt_0.2.1
theorem dX1_compareAt_3 : decode cX1_compareAt 3 = .ok (.iload 6, 2) := DX1_compareAt_0.2.2.1
theorem dX1_compareAt_5 : decode cX1_compareAt 5 = .ok (.aload_n 0, 1) := DX1_compareAt_0.2.2.2.1
theorem dX1_compareAt_6 : decode cX1_compareAt 6 = .ok (.getfield 18, 3) := DX1_compareAt_0.2.2.2.2.1
theorem dX1_compareAt_9 : decode cX1_compareAt 9 = .ok (.if_icmp .ge 81, 3) := DX1_compareAt_0.2.2.2.2.2.1
theorem dX1_compareAt_12 : decode cX1_compareAt 12 = .ok (.aload_n 0, 1) := DX1_compareAt_0.2.2.2.2.2.2.1
theorem dX1_compareAt_13 : decode cX1_compareAt 13 = .ok (.getfield 25, 3) := DX1_compareAt_0.2.2.2.2.2.2.2.1
theorem dX1_compareAt_16 : decode cX1_compareAt 16 = .ok (.iload 6, 2) := DX1_compareAt_0.2.2.2.2.2.2.2.2.1
theorem dX1_compareAt_18 : decode cX1_compareAt 18 = .ok (.iaload, 1) := DX1_compareAt_0.2.2.2.2.2.2.2.2.2.1
theorem dX1_compareAt_19 : decode cX1_compareAt 19 = .ok (.istore 7, 2) := DX1_compareAt_0.2.2.2.2.2.2.2.2.2.2.1
theorem dX1_compareAt_21 : decode cX1_compareAt 21 = .ok (.iload 7, 2) := DX1_compareAt_0.2.2.2.2.2.2.2.2.2.2.2.1
theorem dX1_compareAt_23 : decode cX1_compareAt 23 = .ok (.ifCond .ne 7, 3) := DX1_compareAt_0.2.2.2.2.2.2.2.2.2.2.2.2.1
theorem dX1_compareAt_26 : decode cX1_compareAt 26 = .ok (.iload_n 2, 1) := DX1_compareAt_0.2.2.2.2.2.2.2.2.2.2.2.2.2.1
theorem dX1_compareAt_27 : decode cX1_compareAt 27 = .ok (.goto 26, 3) := DX1_compareAt_0.2.2.2.2.2.2.2.2.2.2.2.2.2.2.1
theorem dX1_compareAt_30 : decode cX1_compareAt 30 = .ok (.iload 7, 2) := DX1_compareAt_0.2.2.2.2.2.2.2.2.2.2.2.2.2.2.2.1
theorem DX1_compareAt_32 : dAre cX1_compareAt [(32, .iconst 1, 1), (33, .if_icmp .ne 7, 3), (36, .iload_n 3, 1), (37, .goto 16, 3), (40, .iload 7, 2), (42, .iconst 2, 1), (43, .if_icmp .ne 8, 3), (46, .iload 4, 2), (48, .goto 5, 3), (51, .iload 5, 2), (53, .istore 8, 2), (55, .aload_n 0, 1), (56, .iload_n 1, 1), (57, .iload 7, 2), (59, .invokevirtual 130, 3), (62, .istore 9, 2)] := dAre0 (by decide +kernel)
theorem dX1_compareAt_32 : decode cX1_compareAt 32 = .ok (.iconst 1, 1) := DX1_compareAt_32.1
theorem dX1_compareAt_33 : decode cX1_compareAt 33 = .ok (.if_icmp .ne 7, 3) := DX1_compareAt_32.2.1
theorem dX1_compareAt_36 : decode cX1_compareAt 36 = .ok (.iload_n 3, 1) := DX1_compareAt_32.2.2.1
theorem dX1_compareAt_37 : decode cX1_compareAt 37 = .ok (.goto 16, 3) := DX1_compareAt_32.2.2.2.1
theorem dX1_compareAt_40 : decode cX1_compareAt 40 = .ok (.iload 7, 2) := DX1_compareAt_32.2.2.2.2.1
theorem dX1_compareAt_42 : decode cX1_compareAt 42 = .ok (.iconst 2, 1) := DX1_compareAt_32.2.2.2.2.2.1
theorem dX1_compareAt_43 : decode cX1_compareAt 43 = .ok (.if_icmp .ne 8, 3) := DX1_compareAt_32.2.2.2.2.2.2.1
theorem dX1_compareAt_46 : decode cX1_compareAt 46 = .ok (.iload 4, 2) := DX1_compareAt_32.2.2.2.2.2.2.2.1
theorem dX1_compareAt_48 : decode cX1_compareAt 48 = .ok (.goto 5, 3) := DX1_compareAt_32.2.2.2.2.2.2.2.2.1
theorem dX1_compareAt_51 : decode cX1_compareAt 51 = .ok (.iload 5, 2) := DX1_compareAt_32.2.2.2.2.2.2.2.2.2.1
theorem dX1_compareAt_53 : decode cX1_compareAt 53 = .ok (.istore 8, 2) := DX1_compareAt_32.2.2.2.2.2.2.2.2.2.2.1
theorem dX1_compareAt_55 : decode cX1_compareAt 55 = .ok (.aload_n 0, 1) := DX1_compareAt_32.2.2.2.2.2.2.2.2.2.2.2.1
theorem dX1_compareAt_56 : decode cX1_compareAt 56 = .ok (.iload_n 1, 1) := DX1_compareAt_32.2.2.2.2.2.2.2.2.2.2.2.2.1
theorem dX1_compareAt_57 : decode cX1_compareAt 57 = .ok (.iload 7, 2) := DX1_compareAt_32.2.2.2.2.2.2.2.2.2.2.2.2.2.1
theorem dX1_compareAt_59 : decode cX1_compareAt 59 = .ok (.invokevirtual 130, 3) := DX1_compareAt_32.2.2.2.2.2.2.2.2.2.2.2.2.2.2.1
theorem dX1_compareAt_62 : decode cX1_compareAt 62 = .ok (.istore 9, 2) := DX1_compareAt_32.2.2.2.2.2.2.2.2.2.2.2.2.2.2.2.1
theorem DX1_compareAt_64 : dAre cX1_compareAt [(64, .iload 9, 2), (66, .iload 8, 2), (68, .if_icmp .eq 16, 3), (71, .iload 9, 2), (73, .iload 8, 2), (75, .if_icmp .le 7, 3), (78, .iconst 1, 1), (79, .goto 4, 3), (82, .iconst (-1), 1), (83, .ireturn, 1), (84, .iinc 6 1, 3), (87, .goto (-84), 3), (90, .iconst 0, 1), (91, .ireturn, 1)] := dAre0 (by decide +kernel)
theorem dX1_compareAt_64 : decode cX1_compareAt 64 = .ok (.iload 9, 2) := DX1_compareAt_64.1
theorem dX1_compareAt_66 : decode cX1_compareAt 66 = .ok (.iload 8, 2) := DX1_compareAt_64.2.1
theorem dX1_compareAt_68 : decode cX1_compareAt 68 = .ok (.if_icmp .eq 16, 3) := DX1_compareAt_64.2.2.1
theorem dX1_compareAt_71 : decode cX1_compareAt 71 = .ok (.iload 9, 2) := DX1_compareAt_64.2.2.2.1
theorem dX1_compareAt_73 : decode cX1_compareAt 73 = .ok (.iload 8, 2) := DX1_compareAt_64.2.2.2.2.1
theorem dX1_compareAt_75 : decode cX1_compareAt 75 = .ok (.if_icmp .le 7, 3) := DX1_compareAt_64.2.2.2.2.2.1
theorem dX1_compareAt_78 : decode cX1_compareAt 78 = .ok (.iconst 1, 1) := DX1_compareAt_64.2.2.2.2.2.2.1
theorem dX1_compareAt_79 : decode cX1_compareAt 79 = .ok (.goto 4, 3) := DX1_compareAt_64.2.2.2.2.2.2.2.1
theorem dX1_compareAt_82 : decode cX1_compareAt 82 = .ok (.iconst (-1), 1) := DX1_compareAt_64.2.2.2.2.2.2.2.2.1
theorem dX1_compareAt_83 : decode cX1_compareAt 83 = .ok (.ireturn, 1) := DX1_compareAt_64.2.2.2.2.2.2.2.2.2.1
theorem dX1_compareAt_84 : decode cX1_compareAt 84 = .ok (.iinc 6 1, 3) := DX1_compareAt_64.2.2.2.2.2.2.2.2.2.2.1
theorem dX1_compareAt_87 : decode cX1_compareAt 87 = .ok (.goto (-84), 3) := DX1_compareAt_64.2.2.2.2.2.2.2.2.2.2.2.1
theorem dX1_compareAt_90 : decode cX1_compareAt 90 = .ok (.iconst 0, 1) := DX1_compareAt_64.2.2.2.2.2.2.2.2.2.2.2.2.1
theorem dX1_compareAt_91 : decode cX1_compareAt 91 = .ok (.ireturn, 1) := DX1_compareAt_64.2.2.2.2.2.2.2.2.2.2.2.2.2.1
theorem mX1_compareAt : gMv yX1_compareAt cX1_compareAt 10 (some .int) RX1 5 := ⟨q529, q530, q4, q531, rfl, by decide, by decide, by decide +kernel⟩
noncomputable def bX1_compareAt_53 (k : Nat) (v1 : Int32) (v6 : Int32) (v7 : Int32) (t0 : Int32) (I : gM) : Option ((Int32) ⊕ ((Int32 × Int32) ⊕ (Unit))) :=
  (fX1_numberAt k v1 v7 I).bind fun r2 =>
  if r2 = t0 then
    some (.inl (v6 + 1))
  else
    some (.inr (.inl (t0, r2)))
set_option maxRecDepth 100000 in
set_option maxHeartbeats 4000000 in
theorem wbX1_compareAt_53 {z : gZ} {E : gE} {bk : Nat} (F : Fx z sh E "LeapJoin$Join" cX1_compareAt (gR 2) 10) (B : bZ z bk) (hE : gDist sh E) (k : Nat) (v1 : Int32) (v2 : Int32) (v3 : Int32) (v4 : Int32) (v5 : Int32) (v6 : Int32) (v7 : Int32) (t0 : Int32) (hk : shX1 k) (I : gM) (J : gN) {y : (Int32) ⊕ ((Int32 × Int32) ⊕ (Unit))} (h : bX1_compareAt_53 k v1 v6 v7 t0 I = some y) (hl : ∀ s' : Int32, y = .inl s' → G z 3 [(0, .ref (E.2.1 k)), (1, .int v1), (2, .int v2), (3, .int v3), (4, .int v4), (5, .int v5), (6, .int (s'))] [] I J) (K3_0 : ∀ x : Int32 × Int32, y = .inr (.inl x) → G z 71 [(8, .int x.1), (9, .int x.2)] [] I J) (K3_1 : ∀ x : Unit, y = .inr (.inr x) → G z 90 [] [] I J) : G z 53 [(0, .ref (E.2.1 k)), (1, .int v1), (2, .int v2), (3, .int v3), (4, .int v4), (5, .int v5), (6, .int v6), (7, .int v7)] [.int t0] I J := by
  unfold bX1_compareAt_53 at h
  refine g_istore (Ln := [(8, .int t0), (0, .ref (E.2.1 k)), (1, .int v1), (2, .int v2), (3, .int v3), (4, .int v4), (5, .int v5), (6, .int v6), (7, .int v7)]) F dX1_compareAt_53 (by decide) rfl ?_
  refine g_aload_n F 1 dX1_compareAt_55 rfl rfl ?_
  refine g_iload_n F 2 dX1_compareAt_56 rfl rfl ?_
  refine g_iload F 8 dX1_compareAt_57 rfl ?_
  refine u_callV (k := k) (As := [.int v1, .int v7]) (rest := []) (sn := fun r2 => [.int r2]) F B (fun _ => wX1_numberAt (zl z) E hE bk k v1 v7 hk I J) mX1_numberAt q532 rfl hk.1 rfl rfl rfl (Nat.le_of_ble_eq_true rfl) dX1_compareAt_59 (fun _ => rfl) h (fun r2 h => ?_)
  refine g_istore (Ln := [(9, .int r2), (8, .int t0), (0, .ref (E.2.1 k)), (1, .int v1), (2, .int v2), (3, .int v3), (4, .int v4), (5, .int v5), (6, .int v6), (7, .int v7)]) F dX1_compareAt_62 (by decide) rfl ?_
  refine g_iload F 0 dX1_compareAt_64 rfl ?_
  refine g_iload F 1 dX1_compareAt_66 rfl ?_
  refine u_icmp_eq (tgt := 84) F dX1_compareAt_68 (by decide) h (fun h => ?_) (fun h => ?_)
  · refine g_iinc (v := v6 + 1) (Ln := [(6, .int (v6 + 1)), (9, .int r2), (8, .int t0), (0, .ref (E.2.1 k)), (1, .int v1), (2, .int v2), (3, .int v3), (4, .int v4), (5, .int v5), (7, .int v7)]) F 8 dX1_compareAt_84 rfl (add_c (by decide)) (by decide) rfl ?_
    refine g_goto (tgt := 3) F dX1_compareAt_87 (by decide) ?_
    obtain rfl := Option.some.inj h
    refine g_sub (Ln := [(0, .ref (E.2.1 k)), (1, .int v1), (2, .int v2), (3, .int v3), (4, .int v4), (5, .int v5), (6, .int (v6 + 1))]) [3, 4, 5, 6, 7, 8, 0] rfl ?_
    exact hl (v6 + 1) rfl
  · obtain rfl := Option.some.inj h
    refine g_sub (Ln := [(8, .int t0), (9, .int r2)]) [1, 0] rfl ?_
    exact K3_0 (t0, r2) rfl
noncomputable def lX1_compareAt_3 (k : Nat) (v1 : Int32) (v2 : Int32) (v3 : Int32) (v4 : Int32) (v5 : Int32) (I : gM) : Int32 → Option ((Int32 × Int32) ⊕ (Unit)) :=
  itO fun s =>
    if (I k 2) ≤ s then
      some (.inr (.inr ()))
    else
      (rI 4 (I (k + 2)) s).bind fun u1 =>
      if u1 = 0 then
        bX1_compareAt_53 k v1 s u1 v2 I
      else
        if u1 = 1 then
          bX1_compareAt_53 k v1 s u1 v3 I
        else
          if u1 = 2 then
            bX1_compareAt_53 k v1 s u1 v4 I
          else
            bX1_compareAt_53 k v1 s u1 v5 I
set_option maxRecDepth 100000 in
set_option maxHeartbeats 4000000 in
theorem wlX1_compareAt_3 {z : gZ} {E : gE} {bk : Nat} (F : Fx z sh E "LeapJoin$Join" cX1_compareAt (gR 2) 10) (B : bZ z bk) (hE : gDist sh E) (k : Nat) (v1 : Int32) (v2 : Int32) (v3 : Int32) (v4 : Int32) (v5 : Int32) (hk : shX1 k) (I : gM) (J : gN) {r : (Int32 × Int32) ⊕ (Unit)} : ∀ s : Int32, lX1_compareAt_3 k v1 v2 v3 v4 v5 I s = some r → (∀ x : Int32 × Int32, r = .inl x → G z 71 [(8, .int x.1), (9, .int x.2)] [] I J) → (∀ x : Unit, r = .inr x → G z 90 [] [] I J) → G z 3 [(0, .ref (E.2.1 k)), (1, .int v1), (2, .int v2), (3, .int v3), (4, .int v4), (5, .int v5), (6, .int s)] [] I J := by
  intro s h X0 X1
  unfold lX1_compareAt_3 at h
  revert s
  refine itO_ind (P := fun s : Int32 => G z 3 [(0, .ref (E.2.1 k)), (1, .int v1), (2, .int v2), (3, .int v3), (4, .int v4), (5, .int v5), (6, .int s)] [] I J) (fun s y h hl hr => ?_)
  have K3_0 := fun (x : Int32 × Int32) (q : y = .inr (.inl x)) => X0 x (hr _ q).symm
  have K3_1 := fun (x : Unit) (q : y = .inr (.inr x)) => X1 x (hr _ q).symm
  refine g_iload F 6 dX1_compareAt_3 rfl ?_
  refine g_aload_n F 0 dX1_compareAt_5 rfl rfl ?_
  refine g_geti (j := 2) (v := I k 2) F hk.1 rfl rfl uX1 (by decide) q83 rfl dX1_compareAt_6 ?_
  refine u_icmp_ge (tgt := 90) F dX1_compareAt_9 (by decide) h (fun h => ?_) (fun h => ?_)
  · obtain rfl := Option.some.inj h
    refine g_sub (Ln := []) [] rfl ?_
    exact K3_1 () rfl
  · refine g_aload_n F 0 dX1_compareAt_12 rfl rfl ?_
    refine g_getr (j := 4) (nn := (k + 2)) F hk.1 rfl rfl uX1 (by decide) q87 dX1_compareAt_13 ?_
    refine g_iload F 6 dX1_compareAt_16 rfl ?_
    refine u_rI F hk.2.2.1 (by decide) dX1_compareAt_18 h (fun u1 h => ?_)
    refine g_istore (Ln := [(7, .int u1), (0, .ref (E.2.1 k)), (1, .int v1), (2, .int v2), (3, .int v3), (4, .int v4), (5, .int v5), (6, .int s)]) F dX1_compareAt_19 (by decide) rfl ?_
    refine g_iload F 0 dX1_compareAt_21 rfl ?_
    refine u_if_ne (tgt := 30) F dX1_compareAt_23 (by decide) h (fun h => ?_) (fun h => ?_)
    · refine g_iload_n F 3 dX1_compareAt_26 rfl rfl ?_
      refine g_goto (tgt := 53) F dX1_compareAt_27 (by decide) ?_
      refine g_sub (Ln := [(0, .ref (E.2.1 k)), (1, .int v1), (2, .int v2), (3, .int v3), (4, .int v4), (5, .int v5), (6, .int s), (7, .int u1)]) [1, 2, 3, 4, 5, 6, 7, 0] rfl ?_
      exact wbX1_compareAt_53 F B hE k v1 v2 v3 v4 v5 s u1 v2 hk I J h hl K3_0 K3_1
    · refine g_iload F 0 dX1_compareAt_30 rfl ?_
      refine g_iconst (v := 1) F dX1_compareAt_32 (by decide) ?_
      refine u_icmp_ne (tgt := 40) F dX1_compareAt_33 (by decide) h (fun h => ?_) (fun h => ?_)
      · refine g_iload_n F 4 dX1_compareAt_36 rfl rfl ?_
        refine g_goto (tgt := 53) F dX1_compareAt_37 (by decide) ?_
        refine g_sub (Ln := [(0, .ref (E.2.1 k)), (1, .int v1), (2, .int v2), (3, .int v3), (4, .int v4), (5, .int v5), (6, .int s), (7, .int u1)]) [1, 2, 3, 4, 5, 6, 7, 0] rfl ?_
        exact wbX1_compareAt_53 F B hE k v1 v2 v3 v4 v5 s u1 v3 hk I J h hl K3_0 K3_1
      · refine g_iload F 0 dX1_compareAt_40 rfl ?_
        refine g_iconst (v := 2) F dX1_compareAt_42 (by decide) ?_
        refine u_icmp_ne (tgt := 51) F dX1_compareAt_43 (by decide) h (fun h => ?_) (fun h => ?_)
        · refine g_iload F 5 dX1_compareAt_46 rfl ?_
          refine g_goto (tgt := 53) F dX1_compareAt_48 (by decide) ?_
          refine g_sub (Ln := [(0, .ref (E.2.1 k)), (1, .int v1), (2, .int v2), (3, .int v3), (4, .int v4), (5, .int v5), (6, .int s), (7, .int u1)]) [1, 2, 3, 4, 5, 6, 7, 0] rfl ?_
          exact wbX1_compareAt_53 F B hE k v1 v2 v3 v4 v5 s u1 v4 hk I J h hl K3_0 K3_1
        · refine g_iload F 6 dX1_compareAt_51 rfl ?_
          refine g_sub (Ln := [(0, .ref (E.2.1 k)), (1, .int v1), (2, .int v2), (3, .int v3), (4, .int v4), (5, .int v5), (6, .int s), (7, .int u1)]) [1, 2, 3, 4, 5, 6, 7, 0] rfl ?_
          exact wbX1_compareAt_53 F B hE k v1 v2 v3 v4 v5 s u1 v5 hk I J h hl K3_0 K3_1
noncomputable def fX1_compareAt (k : Nat) (v1 : Int32) (v2 : Int32) (v3 : Int32) (v4 : Int32) (v5 : Int32) (I : gM) : Option (Int32) :=
  (lX1_compareAt_3 k v1 v2 v3 v4 v5 I (0 : Int32)).bind fun w3 =>
  Sum.elim (fun w3_0 =>
    if w3_0.2 ≤ w3_0.1 then
      some ((-1) : Int32)
    else
      some (1 : Int32))
  (fun w3_1 =>
    some (0 : Int32)) w3
set_option maxRecDepth 100000 in
set_option maxHeartbeats 4000000 in
theorem wX1_compareAt (l : Launch) (E : gE) (hE : gDist sh E) (bk : Nat) (k : Nat) (v1 : Int32) (v2 : Int32) (v3 : Int32) (v4 : Int32) (v5 : Int32) (hk : shX1 k) (I : gM) (J : gN) {r : Int32} (h : fX1_compareAt k v1 v2 v3 v4 v5 I = some r) : Cu l sh E bk yX1_compareAt cX1_compareAt 10 (some .int) (gR 2) [.ref (E.2.1 k), .int v1, .int v2, .int v3, .int v4, .int v5] I J (fun r1 I1 J1 => r1 = some (.int r) ∧ I1 = I ∧ J1 = J) := by
  refine Cu.of "LeapJoin$Join" rfl hE (by decide) (Nat.le_of_ble_eq_true rfl) (fun z F B e hl => ?_)
  subst hl
  unfold fX1_compareAt at h
  refine g_iconst (v := 0) F dX1_compareAt_0 (by decide) ?_
  refine g_istore (Ln := [(6, .int 0), (0, .ref (E.2.1 k)), (1, .int v1), (2, .int v2), (3, .int v3), (4, .int v4), (5, .int v5)]) F dX1_compareAt_1 (by decide) rfl ?_
  obtain ⟨w3, ew3, h⟩ := ob h
  refine g_sub (Ln := [(0, .ref (E.2.1 k)), (1, .int v1), (2, .int v2), (3, .int v3), (4, .int v4), (5, .int v5), (6, .int 0)]) [1, 2, 3, 4, 5, 6, 0] rfl ?_
  refine wlX1_compareAt_3 F B hE k v1 v2 v3 v4 v5 hk I J _ ew3 (fun w3_0 q => ?_) (fun w3_1 q => ?_)
  · subst q
    replace h := oE1 h
    refine g_iload F 1 dX1_compareAt_71 rfl ?_
    refine g_iload F 0 dX1_compareAt_73 rfl ?_
    refine u_icmp_le (tgt := 82) F dX1_compareAt_75 (by decide) h (fun h => ?_) (fun h => ?_)
    · refine g_iconst (v := (-1)) F dX1_compareAt_82 (by decide) ?_
      obtain rfl := Option.some.inj h
      exact g_iret F e dX1_compareAt_83 ⟨rfl, rfl, rfl⟩
    · refine g_iconst (v := 1) F dX1_compareAt_78 (by decide) ?_
      refine g_goto (tgt := 83) F dX1_compareAt_79 (by decide) ?_
      obtain rfl := Option.some.inj h
      exact g_iret F e dX1_compareAt_83 ⟨rfl, rfl, rfl⟩
  · subst q
    replace h := oE2 h
    refine g_iconst (v := 0) F dX1_compareAt_90 (by decide) ?_
    obtain rfl := Option.some.inj h
    exact g_iret F e dX1_compareAt_91 ⟨rfl, rfl, rfl⟩
theorem DX2_clear_0 : dAre cX2_clear [(0, .aload_n 0, 1), (1, .iconst 0, 1), (2, .putfield 15, 3), (5, .aload_n 0, 1), (6, .iconst 0, 1), (7, .putfield 19, 3), (10, .return_, 1)] := dAre0 (by decide +kernel)
theorem dX2_clear_0 : decode cX2_clear 0 = .ok (.aload_n 0, 1) := DX2_clear_0.1
theorem dX2_clear_1 : decode cX2_clear 1 = .ok (.iconst 0, 1) := DX2_clear_0.2.1
theorem dX2_clear_2 : decode cX2_clear 2 = .ok (.putfield 15, 3) := DX2_clear_0.2.2.1
theorem dX2_clear_5 : decode cX2_clear 5 = .ok (.aload_n 0, 1) := DX2_clear_0.2.2.2.1
theorem dX2_clear_6 : decode cX2_clear 6 = .ok (.iconst 0, 1) := DX2_clear_0.2.2.2.2.1
theorem dX2_clear_7 : decode cX2_clear 7 = .ok (.putfield 19, 3) := DX2_clear_0.2.2.2.2.2.1
theorem dX2_clear_10 : decode cX2_clear 10 = .ok (.return_, 1) := DX2_clear_0.2.2.2.2.2.2.1
theorem mX2_clear : gMv yX2_clear cX2_clear 1 none RX2 0 := ⟨q321, q322, q7, q323, rfl, by decide, by decide, by decide +kernel⟩
noncomputable def fX2_clear (k : Nat) (I : gM) : Option (gM) :=
  (pU I k 1 (0 : Int32)).bind fun I1 =>
  (pU I1 k 2 (0 : Int32)).bind fun I2 =>
  some I2
set_option maxRecDepth 100000 in
set_option maxHeartbeats 4000000 in
theorem wX2_clear (l : Launch) (E : gE) (hE : gDist sh E) (bk : Nat) (k : Nat) (hk : shX2 k) (I : gM) (J : gN) {r : gM} (h : fX2_clear k I = some r) : Cu l sh E bk yX2_clear cX2_clear 1 none (gR 0) [.ref (E.2.1 k)] I J (fun r1 I1 J1 => r1 = none ∧ I1 = r ∧ J1 = J) := by
  refine Cu.of "LeapJoin$Log" rfl hE (by decide) (Nat.le_of_ble_eq_true rfl) (fun z F B e hl => ?_)
  subst hl
  unfold fX2_clear at h
  refine g_aload_n F 0 dX2_clear_0 rfl rfl ?_
  refine g_iconst (v := 0) F dX2_clear_1 (by decide) ?_
  refine u_puti (j := 1) F hk.1 rfl rfl uX2 (by decide) q142 tyX2_ok nmX2 rfl rfl rfl dX2_clear_2 h (fun I1 h => ?_)
  refine g_aload_n F 0 dX2_clear_5 rfl rfl ?_
  refine g_iconst (v := 0) F dX2_clear_6 (by decide) ?_
  refine u_puti (j := 2) F hk.1 rfl rfl uX2 (by decide) q143 tyX2_ok nmX2 rfl rfl rfl dX2_clear_7 h (fun I2 h => ?_)
  obtain rfl := Option.some.inj h
  exact g_vret F e dX2_clear_10 ⟨rfl, rfl, rfl⟩
theorem DX2_copyFrom_0 : dAre cX2_copyFrom [(0, .aload_n 1, 1), (1, .getfield 11, 3), (4, .iconst 0, 1), (5, .aload_n 0, 1), (6, .getfield 11, 3), (9, .iconst 0, 1), (10, .sipush 300, 3), (13, .invokestatic 22, 3), (16, .aload_n 0, 1), (17, .aload_n 1, 1), (18, .getfield 15, 3), (21, .putfield 15, 3), (24, .aload_n 0, 1), (25, .aload_n 1, 1), (26, .getfield 19, 3), (29, .putfield 19, 3)] := dAre0 (by decide +kernel)
theorem dX2_copyFrom_0 : decode cX2_copyFrom 0 = .ok (.aload_n 1, 1) := DX2_copyFrom_0.1
theorem dX2_copyFrom_1 : decode cX2_copyFrom 1 = .ok (.getfield 11, 3) := DX2_copyFrom_0.2.1
theorem dX2_copyFrom_4 : decode cX2_copyFrom 4 = .ok (.iconst 0, 1) := DX2_copyFrom_0.2.2.1
theorem dX2_copyFrom_5 : decode cX2_copyFrom 5 = .ok (.aload_n 0, 1) := DX2_copyFrom_0.2.2.2.1
theorem dX2_copyFrom_6 : decode cX2_copyFrom 6 = .ok (.getfield 11, 3) := DX2_copyFrom_0.2.2.2.2.1
theorem dX2_copyFrom_9 : decode cX2_copyFrom 9 = .ok (.iconst 0, 1) := DX2_copyFrom_0.2.2.2.2.2.1
theorem dX2_copyFrom_10 : decode cX2_copyFrom 10 = .ok (.sipush 300, 3) := DX2_copyFrom_0.2.2.2.2.2.2.1
theorem dX2_copyFrom_13 : decode cX2_copyFrom 13 = .ok (.invokestatic 22, 3) := DX2_copyFrom_0.2.2.2.2.2.2.2.1
theorem dX2_copyFrom_16 : decode cX2_copyFrom 16 = .ok (.aload_n 0, 1) := DX2_copyFrom_0.2.2.2.2.2.2.2.2.1
theorem dX2_copyFrom_17 : decode cX2_copyFrom 17 = .ok (.aload_n 1, 1) := DX2_copyFrom_0.2.2.2.2.2.2.2.2.2.1
theorem dX2_copyFrom_18 : decode cX2_copyFrom 18 = .ok (.getfield 15, 3) := DX2_copyFrom_0.2.2.2.2.2.2.2.2.2.2.1
theorem dX2_copyFrom_21 : decode cX2_copyFrom 21 = .ok (.putfield 15, 3) := DX2_copyFrom_0.2.2.2.2.2.2.2.2.2.2.2.1
theorem dX2_copyFrom_24 : decode cX2_copyFrom 24 = .ok (.aload_n 0, 1) := DX2_copyFrom_0.2.2.2.2.2.2.2.2.2.2.2.2.1
theorem dX2_copyFrom_25 : decode cX2_copyFrom 25 = .ok (.aload_n 1, 1) := DX2_copyFrom_0.2.2.2.2.2.2.2.2.2.2.2.2.2.1
theorem dX2_copyFrom_26 : decode cX2_copyFrom 26 = .ok (.getfield 19, 3) := DX2_copyFrom_0.2.2.2.2.2.2.2.2.2.2.2.2.2.2.1
theorem dX2_copyFrom_29 : decode cX2_copyFrom 29 = .ok (.putfield 19, 3) := DX2_copyFrom_0.2.2.2.2.2.2.2.2.2.2.2.2.2.2.2.1
theorem dX2_copyFrom_32 : decode cX2_copyFrom 32 = .ok (.return_, 1) := by decide +kernel
theorem mX2_copyFrom : gMv yX2_copyFrom cX2_copyFrom 2 none RX2 1 := ⟨q752, q753, q7, q754, rfl, by decide, by decide, by decide +kernel⟩
noncomputable def fX2_copyFrom (k : Nat) (k1 : Nat) (I : gM) : Option (gM) :=
  (cpI I (k1 + 1) 300 (k + 1) 300 0 0 300).bind fun I1 =>
  (pU I1 k 1 (I1 k1 1)).bind fun I2 =>
  (pU I2 k 2 (I2 k1 2)).bind fun I3 =>
  some I3
set_option maxRecDepth 100000 in
set_option maxHeartbeats 4000000 in
theorem wX2_copyFrom (l : Launch) (E : gE) (hE : gDist sh E) (bk : Nat) (k : Nat) (k1 : Nat) (hk : shX2 k) (hk1 : shX2 k1) (I : gM) (J : gN) {r : gM} (h : fX2_copyFrom k k1 I = some r) : Cu l sh E bk yX2_copyFrom cX2_copyFrom 2 none (gR 1) [.ref (E.2.1 k), .ref (E.2.1 k1)] I J (fun r1 I1 J1 => r1 = none ∧ I1 = r ∧ J1 = J) := by
  refine Cu.of "LeapJoin$Log" rfl hE (by decide) (Nat.le_of_ble_eq_true rfl) (fun z F B e hl => ?_)
  subst hl
  unfold fX2_copyFrom at h
  refine g_aload_n F 1 dX2_copyFrom_0 rfl rfl ?_
  refine g_getr (j := 0) (nn := (k1 + 1)) F hk1.1 rfl rfl uX2 (by decide) q141 dX2_copyFrom_1 ?_
  refine g_iconst (v := 0) F dX2_copyFrom_4 (by decide) ?_
  refine g_aload_n F 0 dX2_copyFrom_5 rfl rfl ?_
  refine g_getr (j := 0) (nn := (k + 1)) F hk.1 rfl rfl uX2 (by decide) q141 dX2_copyFrom_6 ?_
  refine g_iconst (v := 0) F dX2_copyFrom_9 (by decide) ?_
  refine g_sipush (v := 300) F dX2_copyFrom_10 (by decide) ?_
  refine u_copy F hk1.2 hk.2 q755 q1528 q319 q12 (Nat.le_of_ble_eq_true rfl) (Nat.le_of_ble_eq_true rfl) dX2_copyFrom_13 h (fun I1 h => ?_)
  refine g_aload_n F 0 dX2_copyFrom_16 rfl rfl ?_
  refine g_aload_n F 1 dX2_copyFrom_17 rfl rfl ?_
  refine g_geti (j := 1) (v := I1 k1 1) F hk1.1 rfl rfl uX2 (by decide) q142 rfl dX2_copyFrom_18 ?_
  refine u_puti (j := 1) F hk.1 rfl rfl uX2 (by decide) q142 tyX2_ok nmX2 rfl rfl rfl dX2_copyFrom_21 h (fun I2 h => ?_)
  refine g_aload_n F 0 dX2_copyFrom_24 rfl rfl ?_
  refine g_aload_n F 1 dX2_copyFrom_25 rfl rfl ?_
  refine g_geti (j := 2) (v := I2 k1 2) F hk1.1 rfl rfl uX2 (by decide) q143 rfl dX2_copyFrom_26 ?_
  refine u_puti (j := 2) F hk.1 rfl rfl uX2 (by decide) q143 tyX2_ok nmX2 rfl rfl rfl dX2_copyFrom_29 h (fun I3 h => ?_)
  obtain rfl := Option.some.inj h
  exact g_vret F e dX2_copyFrom_32 ⟨rfl, rfl, rfl⟩
theorem DX2_add_0 : dAre cX2_add [(0, .aload_n 0, 1), (1, .getfield 11, 3), (4, .aload_n 0, 1), (5, .getfield 15, 3), (8, .iconst 3, 1), (9, .imul, 1), (10, .iload_n 1, 1), (11, .iastore, 1), (12, .aload_n 0, 1), (13, .getfield 11, 3), (16, .aload_n 0, 1), (17, .getfield 15, 3), (20, .iconst 3, 1), (21, .imul, 1), (22, .iconst 1, 1), (23, .iadd, 1)] := dAre0 (by decide +kernel)
theorem dX2_add_0 : decode cX2_add 0 = .ok (.aload_n 0, 1) := DX2_add_0.1
theorem dX2_add_1 : decode cX2_add 1 = .ok (.getfield 11, 3) := DX2_add_0.2.1
theorem dX2_add_4 : decode cX2_add 4 = .ok (.aload_n 0, 1) := DX2_add_0.2.2.1
theorem dX2_add_5 : decode cX2_add 5 = .ok (.getfield 15, 3) := DX2_add_0.2.2.2.1
theorem dX2_add_8 : decode cX2_add 8 = .ok (.iconst 3, 1) := DX2_add_0.2.2.2.2.1
theorem dX2_add_9 : decode cX2_add 9 = .ok (.imul, 1) := DX2_add_0.2.2.2.2.2.1
theorem dX2_add_10 : decode cX2_add 10 = .ok (.iload_n 1, 1) := DX2_add_0.2.2.2.2.2.2.1
theorem dX2_add_11 : decode cX2_add 11 = .ok (.iastore, 1) := DX2_add_0.2.2.2.2.2.2.2.1
theorem dX2_add_12 : decode cX2_add 12 = .ok (.aload_n 0, 1) := DX2_add_0.2.2.2.2.2.2.2.2.1
theorem dX2_add_13 : decode cX2_add 13 = .ok (.getfield 11, 3) := DX2_add_0.2.2.2.2.2.2.2.2.2.1
theorem dX2_add_16 : decode cX2_add 16 = .ok (.aload_n 0, 1) := DX2_add_0.2.2.2.2.2.2.2.2.2.2.1
theorem dX2_add_17 : decode cX2_add 17 = .ok (.getfield 15, 3) := DX2_add_0.2.2.2.2.2.2.2.2.2.2.2.1
theorem dX2_add_20 : decode cX2_add 20 = .ok (.iconst 3, 1) := DX2_add_0.2.2.2.2.2.2.2.2.2.2.2.2.1
theorem dX2_add_21 : decode cX2_add 21 = .ok (.imul, 1) := DX2_add_0.2.2.2.2.2.2.2.2.2.2.2.2.2.1
theorem dX2_add_22 : decode cX2_add 22 = .ok (.iconst 1, 1) := DX2_add_0.2.2.2.2.2.2.2.2.2.2.2.2.2.2.1
theorem dX2_add_23 : decode cX2_add 23 = .ok (.iadd, 1) := DX2_add_0.2.2.2.2.2.2.2.2.2.2.2.2.2.2.2.1
theorem DX2_add_24 : dAre cX2_add [(24, .iload_n 2, 1), (25, .iastore, 1), (26, .aload_n 0, 1), (27, .getfield 11, 3), (30, .aload_n 0, 1), (31, .getfield 15, 3), (34, .iconst 3, 1), (35, .imul, 1), (36, .iconst 2, 1), (37, .iadd, 1), (38, .iload_n 3, 1), (39, .iastore, 1), (40, .aload_n 0, 1), (41, .aload_n 0, 1), (42, .getfield 15, 3), (45, .iconst 1, 1)] := dAre0 (by decide +kernel)
theorem dX2_add_24 : decode cX2_add 24 = .ok (.iload_n 2, 1) := DX2_add_24.1
theorem dX2_add_25 : decode cX2_add 25 = .ok (.iastore, 1) := DX2_add_24.2.1
theorem dX2_add_26 : decode cX2_add 26 = .ok (.aload_n 0, 1) := DX2_add_24.2.2.1
theorem dX2_add_27 : decode cX2_add 27 = .ok (.getfield 11, 3) := DX2_add_24.2.2.2.1
theorem dX2_add_30 : decode cX2_add 30 = .ok (.aload_n 0, 1) := DX2_add_24.2.2.2.2.1
theorem dX2_add_31 : decode cX2_add 31 = .ok (.getfield 15, 3) := DX2_add_24.2.2.2.2.2.1
theorem dX2_add_34 : decode cX2_add 34 = .ok (.iconst 3, 1) := DX2_add_24.2.2.2.2.2.2.1
theorem dX2_add_35 : decode cX2_add 35 = .ok (.imul, 1) := DX2_add_24.2.2.2.2.2.2.2.1
theorem dX2_add_36 : decode cX2_add 36 = .ok (.iconst 2, 1) := DX2_add_24.2.2.2.2.2.2.2.2.1
theorem dX2_add_37 : decode cX2_add 37 = .ok (.iadd, 1) := DX2_add_24.2.2.2.2.2.2.2.2.2.1
theorem dX2_add_38 : decode cX2_add 38 = .ok (.iload_n 3, 1) := DX2_add_24.2.2.2.2.2.2.2.2.2.2.1
theorem dX2_add_39 : decode cX2_add 39 = .ok (.iastore, 1) := DX2_add_24.2.2.2.2.2.2.2.2.2.2.2.1
theorem dX2_add_40 : decode cX2_add 40 = .ok (.aload_n 0, 1) := DX2_add_24.2.2.2.2.2.2.2.2.2.2.2.2.1
theorem dX2_add_41 : decode cX2_add 41 = .ok (.aload_n 0, 1) := DX2_add_24.2.2.2.2.2.2.2.2.2.2.2.2.2.1
theorem dX2_add_42 : decode cX2_add 42 = .ok (.getfield 15, 3) := DX2_add_24.2.2.2.2.2.2.2.2.2.2.2.2.2.2.1
theorem dX2_add_45 : decode cX2_add 45 = .ok (.iconst 1, 1) := DX2_add_24.2.2.2.2.2.2.2.2.2.2.2.2.2.2.2.1
theorem DX2_add_46 : dAre cX2_add [(46, .iadd, 1), (47, .bipush 100, 2), (49, .irem, 1), (50, .putfield 15, 3), (53, .aload_n 0, 1), (54, .aload_n 0, 1), (55, .getfield 19, 3), (58, .iconst 1, 1), (59, .iadd, 1), (60, .bipush 100, 2), (62, .invokestatic 28, 3), (65, .putfield 19, 3), (68, .return_, 1)] := dAre0 (by decide +kernel)
theorem dX2_add_46 : decode cX2_add 46 = .ok (.iadd, 1) := DX2_add_46.1
theorem dX2_add_47 : decode cX2_add 47 = .ok (.bipush 100, 2) := DX2_add_46.2.1
theorem dX2_add_49 : decode cX2_add 49 = .ok (.irem, 1) := DX2_add_46.2.2.1
theorem dX2_add_50 : decode cX2_add 50 = .ok (.putfield 15, 3) := DX2_add_46.2.2.2.1
theorem dX2_add_53 : decode cX2_add 53 = .ok (.aload_n 0, 1) := DX2_add_46.2.2.2.2.1
theorem dX2_add_54 : decode cX2_add 54 = .ok (.aload_n 0, 1) := DX2_add_46.2.2.2.2.2.1
theorem dX2_add_55 : decode cX2_add 55 = .ok (.getfield 19, 3) := DX2_add_46.2.2.2.2.2.2.1
theorem dX2_add_58 : decode cX2_add 58 = .ok (.iconst 1, 1) := DX2_add_46.2.2.2.2.2.2.2.1
theorem dX2_add_59 : decode cX2_add 59 = .ok (.iadd, 1) := DX2_add_46.2.2.2.2.2.2.2.2.1
theorem dX2_add_60 : decode cX2_add 60 = .ok (.bipush 100, 2) := DX2_add_46.2.2.2.2.2.2.2.2.2.1
theorem dX2_add_62 : decode cX2_add 62 = .ok (.invokestatic 28, 3) := DX2_add_46.2.2.2.2.2.2.2.2.2.2.1
theorem dX2_add_65 : decode cX2_add 65 = .ok (.putfield 19, 3) := DX2_add_46.2.2.2.2.2.2.2.2.2.2.2.1
theorem dX2_add_68 : decode cX2_add 68 = .ok (.return_, 1) := DX2_add_46.2.2.2.2.2.2.2.2.2.2.2.2.1
theorem mX2_add : gMv yX2_add cX2_add 4 none RX2 3 := ⟨q612, q613, q7, q614, rfl, by decide, by decide, by decide +kernel⟩
noncomputable def fX2_add (k : Nat) (v1 : Int32) (v2 : Int32) (v3 : Int32) (I : gM) : Option (gM) :=
  (wI I (k + 1) 300 ((I k 1) * 3) v1).bind fun I1 =>
  (wI I1 (k + 1) 300 (((I1 k 1) * 3) + 1) v2).bind fun I2 =>
  (wI I2 (k + 1) 300 (((I2 k 1) * 3) + 2) v3).bind fun I3 =>
  (pU I3 k 1 (iR ((I3 k 1) + 1) 100)).bind fun I4 =>
  (pU I4 k 2 (mN ((I4 k 2) + 1) 100)).bind fun I5 =>
  some I5
set_option maxRecDepth 100000 in
set_option maxHeartbeats 4000000 in
theorem wX2_add (l : Launch) (E : gE) (hE : gDist sh E) (bk : Nat) (k : Nat) (v1 : Int32) (v2 : Int32) (v3 : Int32) (hk : shX2 k) (I : gM) (J : gN) {r : gM} (h : fX2_add k v1 v2 v3 I = some r) : Cu l sh E bk yX2_add cX2_add 4 none (gR 1) [.ref (E.2.1 k), .int v1, .int v2, .int v3] I J (fun r1 I1 J1 => r1 = none ∧ I1 = r ∧ J1 = J) := by
  refine Cu.of "LeapJoin$Log" rfl hE (by decide) (Nat.le_of_ble_eq_true rfl) (fun z F B e hl => ?_)
  subst hl
  unfold fX2_add at h
  refine g_aload_n F 0 dX2_add_0 rfl rfl ?_
  refine g_getr (j := 0) (nn := (k + 1)) F hk.1 rfl rfl uX2 (by decide) q141 dX2_add_1 ?_
  refine g_aload_n F 0 dX2_add_4 rfl rfl ?_
  refine g_geti (j := 1) (v := I k 1) F hk.1 rfl rfl uX2 (by decide) q142 rfl dX2_add_5 ?_
  refine g_iconst (v := 3) F dX2_add_8 (by decide) ?_
  refine g_imul (v := (I k 1) * 3) F dX2_add_9 rfl ?_
  refine g_iload_n F 1 dX2_add_10 rfl rfl ?_
  refine u_wI F hk.2 (by decide) dX2_add_11 h (fun I1 h => ?_)
  refine g_aload_n F 0 dX2_add_12 rfl rfl ?_
  refine g_getr (j := 0) (nn := (k + 1)) F hk.1 rfl rfl uX2 (by decide) q141 dX2_add_13 ?_
  refine g_aload_n F 0 dX2_add_16 rfl rfl ?_
  refine g_geti (j := 1) (v := I1 k 1) F hk.1 rfl rfl uX2 (by decide) q142 rfl dX2_add_17 ?_
  refine g_iconst (v := 3) F dX2_add_20 (by decide) ?_
  refine g_imul (v := (I1 k 1) * 3) F dX2_add_21 rfl ?_
  refine g_iconst (v := 1) F dX2_add_22 (by decide) ?_
  refine g_iadd (v := ((I1 k 1) * 3) + 1) F dX2_add_23 rfl ?_
  refine g_iload_n F 2 dX2_add_24 rfl rfl ?_
  refine u_wI F hk.2 (by decide) dX2_add_25 h (fun I2 h => ?_)
  refine g_aload_n F 0 dX2_add_26 rfl rfl ?_
  refine g_getr (j := 0) (nn := (k + 1)) F hk.1 rfl rfl uX2 (by decide) q141 dX2_add_27 ?_
  refine g_aload_n F 0 dX2_add_30 rfl rfl ?_
  refine g_geti (j := 1) (v := I2 k 1) F hk.1 rfl rfl uX2 (by decide) q142 rfl dX2_add_31 ?_
  refine g_iconst (v := 3) F dX2_add_34 (by decide) ?_
  refine g_imul (v := (I2 k 1) * 3) F dX2_add_35 rfl ?_
  refine g_iconst (v := 2) F dX2_add_36 (by decide) ?_
  refine g_iadd (v := ((I2 k 1) * 3) + 2) F dX2_add_37 rfl ?_
  refine g_iload_n F 3 dX2_add_38 rfl rfl ?_
  refine u_wI F hk.2 (by decide) dX2_add_39 h (fun I3 h => ?_)
  refine g_aload_n F 0 dX2_add_40 rfl rfl ?_
  refine g_aload_n F 0 dX2_add_41 rfl rfl ?_
  refine g_geti (j := 1) (v := I3 k 1) F hk.1 rfl rfl uX2 (by decide) q142 rfl dX2_add_42 ?_
  refine g_iconst (v := 1) F dX2_add_45 (by decide) ?_
  refine g_iadd (v := (I3 k 1) + 1) F dX2_add_46 rfl ?_
  refine g_bipush (v := 100) F dX2_add_47 (by decide) ?_
  refine g_irem (v := iR ((I3 k 1) + 1) 100) F dX2_add_49 (by decide) rfl ?_
  refine u_puti (j := 1) F hk.1 rfl rfl uX2 (by decide) q142 tyX2_ok nmX2 rfl rfl rfl dX2_add_50 h (fun I4 h => ?_)
  refine g_aload_n F 0 dX2_add_53 rfl rfl ?_
  refine g_aload_n F 0 dX2_add_54 rfl rfl ?_
  refine g_geti (j := 2) (v := I4 k 2) F hk.1 rfl rfl uX2 (by decide) q143 rfl dX2_add_55 ?_
  refine g_iconst (v := 1) F dX2_add_58 (by decide) ?_
  refine g_iadd (v := (I4 k 2) + 1) F dX2_add_59 rfl ?_
  refine g_bipush (v := 100) F dX2_add_60 (by decide) ?_
  refine g_mmin (v := mN ((I4 k 2) + 1) 100) F q615 rfl (Nat.le_of_ble_eq_true rfl) (Nat.le_of_ble_eq_true rfl) (Nat.le_of_ble_eq_true rfl) dX2_add_62 ?_
  refine u_puti (j := 2) F hk.1 rfl rfl uX2 (by decide) q143 tyX2_ok nmX2 rfl rfl rfl dX2_add_65 h (fun I5 h => ?_)
  obtain rfl := Option.some.inj h
  exact g_vret F e dX2_add_68 ⟨rfl, rfl, rfl⟩
theorem DX2_dropLatest_0 : dAre cX2_dropLatest [(0, .aload_n 0, 1), (1, .getfield 19, 3), (4, .ifCond .le 29, 3), (7, .aload_n 0, 1), (8, .aload_n 0, 1), (9, .getfield 15, 3), (12, .bipush 100, 2), (14, .iadd, 1), (15, .iconst 1, 1), (16, .isub, 1), (17, .bipush 100, 2), (19, .irem, 1), (20, .putfield 15, 3), (23, .aload_n 0, 1), (24, .dup, 1), (25, .getfield 19, 3)] := dAre0 (by decide +kernel)
theorem dX2_dropLatest_0 : decode cX2_dropLatest 0 = .ok (.aload_n 0, 1) := DX2_dropLatest_0.1
theorem dX2_dropLatest_1 : decode cX2_dropLatest 1 = .ok (.getfield 19, 3) := DX2_dropLatest_0.2.1
theorem dX2_dropLatest_4 : decode cX2_dropLatest 4 = .ok (.ifCond .le 29, 3) := DX2_dropLatest_0.2.2.1
theorem dX2_dropLatest_7 : decode cX2_dropLatest 7 = .ok (.aload_n 0, 1) := DX2_dropLatest_0.2.2.2.1
theorem dX2_dropLatest_8 : decode cX2_dropLatest 8 = .ok (.aload_n 0, 1) := DX2_dropLatest_0.2.2.2.2.1
theorem dX2_dropLatest_9 : decode cX2_dropLatest 9 = .ok (.getfield 15, 3) := DX2_dropLatest_0.2.2.2.2.2.1
theorem dX2_dropLatest_12 : decode cX2_dropLatest 12 = .ok (.bipush 100, 2) := DX2_dropLatest_0.2.2.2.2.2.2.1
theorem dX2_dropLatest_14 : decode cX2_dropLatest 14 = .ok (.iadd, 1) := DX2_dropLatest_0.2.2.2.2.2.2.2.1
theorem dX2_dropLatest_15 : decode cX2_dropLatest 15 = .ok (.iconst 1, 1) := DX2_dropLatest_0.2.2.2.2.2.2.2.2.1
theorem dX2_dropLatest_16 : decode cX2_dropLatest 16 = .ok (.isub, 1) := DX2_dropLatest_0.2.2.2.2.2.2.2.2.2.1
theorem dX2_dropLatest_17 : decode cX2_dropLatest 17 = .ok (.bipush 100, 2) := DX2_dropLatest_0.2.2.2.2.2.2.2.2.2.2.1
theorem dX2_dropLatest_19 : decode cX2_dropLatest 19 = .ok (.irem, 1) := DX2_dropLatest_0.2.2.2.2.2.2.2.2.2.2.2.1
theorem dX2_dropLatest_20 : decode cX2_dropLatest 20 = .ok (.putfield 15, 3) := DX2_dropLatest_0.2.2.2.2.2.2.2.2.2.2.2.2.1
theorem dX2_dropLatest_23 : decode cX2_dropLatest 23 = .ok (.aload_n 0, 1) := DX2_dropLatest_0.2.2.2.2.2.2.2.2.2.2.2.2.2.1
theorem dX2_dropLatest_24 : decode cX2_dropLatest 24 = .ok (.dup, 1) := DX2_dropLatest_0.2.2.2.2.2.2.2.2.2.2.2.2.2.2.1
theorem dX2_dropLatest_25 : decode cX2_dropLatest 25 = .ok (.getfield 19, 3) := DX2_dropLatest_0.2.2.2.2.2.2.2.2.2.2.2.2.2.2.2.1
theorem DX2_dropLatest_28 : dAre cX2_dropLatest [(28, .iconst 1, 1), (29, .isub, 1), (30, .putfield 19, 3), (33, .return_, 1)] := dAre0 (by decide +kernel)
theorem dX2_dropLatest_28 : decode cX2_dropLatest 28 = .ok (.iconst 1, 1) := DX2_dropLatest_28.1
theorem dX2_dropLatest_29 : decode cX2_dropLatest 29 = .ok (.isub, 1) := DX2_dropLatest_28.2.1
theorem dX2_dropLatest_30 : decode cX2_dropLatest 30 = .ok (.putfield 19, 3) := DX2_dropLatest_28.2.2.1
theorem dX2_dropLatest_33 : decode cX2_dropLatest 33 = .ok (.return_, 1) := DX2_dropLatest_28.2.2.2.1
theorem mX2_dropLatest : gMv yX2_dropLatest cX2_dropLatest 1 none RX2 0 := ⟨q671, q672, q7, q673, rfl, by decide, by decide, by decide +kernel⟩
noncomputable def fX2_dropLatest (k : Nat) (I : gM) : Option (gM) :=
  if (I k 2) ≤ 0 then
    some I
  else
    (pU I k 1 (iR (((I k 1) + 100) - 1) 100)).bind fun I1 =>
    (pU I1 k 2 ((I1 k 2) - 1)).bind fun I2 =>
    some I2
set_option maxRecDepth 100000 in
set_option maxHeartbeats 4000000 in
theorem wX2_dropLatest (l : Launch) (E : gE) (hE : gDist sh E) (bk : Nat) (k : Nat) (hk : shX2 k) (I : gM) (J : gN) {r : gM} (h : fX2_dropLatest k I = some r) : Cu l sh E bk yX2_dropLatest cX2_dropLatest 1 none (gR 0) [.ref (E.2.1 k)] I J (fun r1 I1 J1 => r1 = none ∧ I1 = r ∧ J1 = J) := by
  refine Cu.of "LeapJoin$Log" rfl hE (by decide) (Nat.le_of_ble_eq_true rfl) (fun z F B e hl => ?_)
  subst hl
  unfold fX2_dropLatest at h
  refine g_aload_n F 0 dX2_dropLatest_0 rfl rfl ?_
  refine g_geti (j := 2) (v := I k 2) F hk.1 rfl rfl uX2 (by decide) q143 rfl dX2_dropLatest_1 ?_
  refine u_if_le (tgt := 33) F dX2_dropLatest_4 (by decide) h (fun h => ?_) (fun h => ?_)
  · obtain rfl := Option.some.inj h
    exact g_vret F e dX2_dropLatest_33 ⟨rfl, rfl, rfl⟩
  · refine g_aload_n F 0 dX2_dropLatest_7 rfl rfl ?_
    refine g_aload_n F 0 dX2_dropLatest_8 rfl rfl ?_
    refine g_geti (j := 1) (v := I k 1) F hk.1 rfl rfl uX2 (by decide) q142 rfl dX2_dropLatest_9 ?_
    refine g_bipush (v := 100) F dX2_dropLatest_12 (by decide) ?_
    refine g_iadd (v := (I k 1) + 100) F dX2_dropLatest_14 rfl ?_
    refine g_iconst (v := 1) F dX2_dropLatest_15 (by decide) ?_
    refine g_isub (v := ((I k 1) + 100) - 1) F dX2_dropLatest_16 rfl ?_
    refine g_bipush (v := 100) F dX2_dropLatest_17 (by decide) ?_
    refine g_irem (v := iR (((I k 1) + 100) - 1) 100) F dX2_dropLatest_19 (by decide) rfl ?_
    refine u_puti (j := 1) F hk.1 rfl rfl uX2 (by decide) q142 tyX2_ok nmX2 rfl rfl rfl dX2_dropLatest_20 h (fun I1 h => ?_)
    refine g_aload_n F 0 dX2_dropLatest_23 rfl rfl ?_
    refine g_dup F dX2_dropLatest_24 rfl ?_
    refine g_geti (j := 2) (v := I1 k 2) F hk.1 rfl rfl uX2 (by decide) q143 rfl dX2_dropLatest_25 ?_
    refine g_iconst (v := 1) F dX2_dropLatest_28 (by decide) ?_
    refine g_isub (v := (I1 k 2) - 1) F dX2_dropLatest_29 rfl ?_
    refine u_puti (j := 2) F hk.1 rfl rfl uX2 (by decide) q143 tyX2_ok nmX2 rfl rfl rfl dX2_dropLatest_30 h (fun I2 h => ?_)
    obtain rfl := Option.some.inj h
    exact g_vret F e dX2_dropLatest_33 ⟨rfl, rfl, rfl⟩
theorem DX2_shown_0 : dAre cX2_shown [(0, .aload_n 0, 1), (1, .getfield 19, 3), (4, .bipush 60, 2), (6, .invokestatic 28, 3), (9, .ireturn, 1)] := dAre0 (by decide +kernel)
theorem dX2_shown_0 : decode cX2_shown 0 = .ok (.aload_n 0, 1) := DX2_shown_0.1
theorem dX2_shown_1 : decode cX2_shown 1 = .ok (.getfield 19, 3) := DX2_shown_0.2.1
theorem dX2_shown_4 : decode cX2_shown 4 = .ok (.bipush 60, 2) := DX2_shown_0.2.2.1
theorem dX2_shown_6 : decode cX2_shown 6 = .ok (.invokestatic 28, 3) := DX2_shown_0.2.2.2.1
theorem dX2_shown_9 : decode cX2_shown 9 = .ok (.ireturn, 1) := DX2_shown_0.2.2.2.2.1
theorem mX2_shown : gMv yX2_shown cX2_shown 1 (some .int) RX2 0 := ⟨q679, q680, q7, q681, rfl, by decide, by decide, by decide +kernel⟩
noncomputable def fX2_shown (k : Nat) (I : gM) : Option (Int32) :=
  some (mN (I k 2) 60)
set_option maxRecDepth 100000 in
set_option maxHeartbeats 4000000 in
theorem wX2_shown (l : Launch) (E : gE) (hE : gDist sh E) (bk : Nat) (k : Nat) (hk : shX2 k) (I : gM) (J : gN) {r : Int32} (h : fX2_shown k I = some r) : Cu l sh E bk yX2_shown cX2_shown 1 (some .int) (gR 1) [.ref (E.2.1 k)] I J (fun r1 I1 J1 => r1 = some (.int r) ∧ I1 = I ∧ J1 = J) := by
  refine Cu.of "LeapJoin$Log" rfl hE (by decide) (Nat.le_of_ble_eq_true rfl) (fun z F B e hl => ?_)
  subst hl
  unfold fX2_shown at h
  refine g_aload_n F 0 dX2_shown_0 rfl rfl ?_
  refine g_geti (j := 2) (v := I k 2) F hk.1 rfl rfl uX2 (by decide) q143 rfl dX2_shown_1 ?_
  refine g_bipush (v := 60) F dX2_shown_4 (by decide) ?_
  refine g_mmin (v := mN (I k 2) 60) F q615 rfl (Nat.le_of_ble_eq_true rfl) (Nat.le_of_ble_eq_true rfl) (Nat.le_of_ble_eq_true rfl) dX2_shown_6 ?_
  obtain rfl := Option.some.inj h
  exact g_iret F e dX2_shown_9 ⟨rfl, rfl, rfl⟩
theorem DX2_partOf_0 : dAre cX2_partOf [(0, .aload_n 0, 1), (1, .getfield 11, 3), (4, .aload_n 0, 1), (5, .getfield 15, 3), (8, .bipush 100, 2), (10, .iadd, 1), (11, .iconst 1, 1), (12, .isub, 1), (13, .iload_n 1, 1), (14, .isub, 1), (15, .bipush 100, 2), (17, .irem, 1), (18, .iconst 3, 1), (19, .imul, 1), (20, .iload_n 2, 1), (21, .iadd, 1)] := dAre0 (by decide +kernel)
theorem dX2_partOf_0 : decode cX2_partOf 0 = .ok (.aload_n 0, 1) := DX2_partOf_0.1
theorem dX2_partOf_1 : decode cX2_partOf 1 = .ok (.getfield 11, 3) := DX2_partOf_0.2.1
theorem dX2_partOf_4 : decode cX2_partOf 4 = .ok (.aload_n 0, 1) := DX2_partOf_0.2.2.1
theorem dX2_partOf_5 : decode cX2_partOf 5 = .ok (.getfield 15, 3) := DX2_partOf_0.2.2.2.1
theorem dX2_partOf_8 : decode cX2_partOf 8 = .ok (.bipush 100, 2) := DX2_partOf_0.2.2.2.2.1
theorem dX2_partOf_10 : decode cX2_partOf 10 = .ok (.iadd, 1) := DX2_partOf_0.2.2.2.2.2.1
theorem dX2_partOf_11 : decode cX2_partOf 11 = .ok (.iconst 1, 1) := DX2_partOf_0.2.2.2.2.2.2.1
theorem dX2_partOf_12 : decode cX2_partOf 12 = .ok (.isub, 1) := DX2_partOf_0.2.2.2.2.2.2.2.1
theorem dX2_partOf_13 : decode cX2_partOf 13 = .ok (.iload_n 1, 1) := DX2_partOf_0.2.2.2.2.2.2.2.2.1
theorem dX2_partOf_14 : decode cX2_partOf 14 = .ok (.isub, 1) := DX2_partOf_0.2.2.2.2.2.2.2.2.2.1
theorem dX2_partOf_15 : decode cX2_partOf 15 = .ok (.bipush 100, 2) := DX2_partOf_0.2.2.2.2.2.2.2.2.2.2.1
theorem dX2_partOf_17 : decode cX2_partOf 17 = .ok (.irem, 1) := DX2_partOf_0.2.2.2.2.2.2.2.2.2.2.2.1
theorem dX2_partOf_18 : decode cX2_partOf 18 = .ok (.iconst 3, 1) := DX2_partOf_0.2.2.2.2.2.2.2.2.2.2.2.2.1
theorem dX2_partOf_19 : decode cX2_partOf 19 = .ok (.imul, 1) := DX2_partOf_0.2.2.2.2.2.2.2.2.2.2.2.2.2.1
theorem dX2_partOf_20 : decode cX2_partOf 20 = .ok (.iload_n 2, 1) := DX2_partOf_0.2.2.2.2.2.2.2.2.2.2.2.2.2.2.1
theorem dX2_partOf_21 : decode cX2_partOf 21 = .ok (.iadd, 1) := DX2_partOf_0.2.2.2.2.2.2.2.2.2.2.2.2.2.2.2.1
theorem dX2_partOf_22 : decode cX2_partOf 22 = .ok (.iaload, 1) := by decide +kernel
theorem dX2_partOf_23 : decode cX2_partOf 23 = .ok (.ireturn, 1) := by decide +kernel
theorem mX2_partOf : gMv yX2_partOf cX2_partOf 3 (some .int) RX2 2 := ⟨q683, q684, q7, q685, rfl, by decide, by decide, by decide +kernel⟩
noncomputable def fX2_partOf (k : Nat) (v1 : Int32) (v2 : Int32) (I : gM) : Option (Int32) :=
  (rI 300 (I (k + 1)) (((iR ((((I k 1) + 100) - 1) - v1) 100) * 3) + v2)).bind fun u1 =>
  some u1
set_option maxRecDepth 100000 in
set_option maxHeartbeats 4000000 in
theorem wX2_partOf (l : Launch) (E : gE) (hE : gDist sh E) (bk : Nat) (k : Nat) (v1 : Int32) (v2 : Int32) (hk : shX2 k) (I : gM) (J : gN) {r : Int32} (h : fX2_partOf k v1 v2 I = some r) : Cu l sh E bk yX2_partOf cX2_partOf 3 (some .int) (gR 0) [.ref (E.2.1 k), .int v1, .int v2] I J (fun r1 I1 J1 => r1 = some (.int r) ∧ I1 = I ∧ J1 = J) := by
  refine Cu.of "LeapJoin$Log" rfl hE (by decide) (Nat.le_of_ble_eq_true rfl) (fun z F B e hl => ?_)
  subst hl
  unfold fX2_partOf at h
  refine g_aload_n F 0 dX2_partOf_0 rfl rfl ?_
  refine g_getr (j := 0) (nn := (k + 1)) F hk.1 rfl rfl uX2 (by decide) q141 dX2_partOf_1 ?_
  refine g_aload_n F 0 dX2_partOf_4 rfl rfl ?_
  refine g_geti (j := 1) (v := I k 1) F hk.1 rfl rfl uX2 (by decide) q142 rfl dX2_partOf_5 ?_
  refine g_bipush (v := 100) F dX2_partOf_8 (by decide) ?_
  refine g_iadd (v := (I k 1) + 100) F dX2_partOf_10 rfl ?_
  refine g_iconst (v := 1) F dX2_partOf_11 (by decide) ?_
  refine g_isub (v := ((I k 1) + 100) - 1) F dX2_partOf_12 rfl ?_
  refine g_iload_n F 1 dX2_partOf_13 rfl rfl ?_
  refine g_isub (v := (((I k 1) + 100) - 1) - v1) F dX2_partOf_14 rfl ?_
  refine g_bipush (v := 100) F dX2_partOf_15 (by decide) ?_
  refine g_irem (v := iR ((((I k 1) + 100) - 1) - v1) 100) F dX2_partOf_17 (by decide) rfl ?_
  refine g_iconst (v := 3) F dX2_partOf_18 (by decide) ?_
  refine g_imul (v := (iR ((((I k 1) + 100) - 1) - v1) 100) * 3) F dX2_partOf_19 rfl ?_
  refine g_iload_n F 2 dX2_partOf_20 rfl rfl ?_
  refine g_iadd (v := ((iR ((((I k 1) + 100) - 1) - v1) 100) * 3) + v2) F dX2_partOf_21 rfl ?_
  refine u_rI F hk.2 (by decide) dX2_partOf_22 h (fun u1 h => ?_)
  obtain rfl := Option.some.inj h
  exact g_iret F e dX2_partOf_23 ⟨rfl, rfl, rfl⟩
theorem DX3_clear_0 : dAre cX3_clear [(0, .aload_n 0, 1), (1, .iconst 0, 1), (2, .putfield 9, 3), (5, .aload_n 0, 1), (6, .iconst 0, 1), (7, .putfield 19, 3), (10, .return_, 1)] := dAre0 (by decide +kernel)
theorem dX3_clear_0 : decode cX3_clear 0 = .ok (.aload_n 0, 1) := DX3_clear_0.1
theorem dX3_clear_1 : decode cX3_clear 1 = .ok (.iconst 0, 1) := DX3_clear_0.2.1
theorem dX3_clear_2 : decode cX3_clear 2 = .ok (.putfield 9, 3) := DX3_clear_0.2.2.1
theorem dX3_clear_5 : decode cX3_clear 5 = .ok (.aload_n 0, 1) := DX3_clear_0.2.2.2.1
theorem dX3_clear_6 : decode cX3_clear 6 = .ok (.iconst 0, 1) := DX3_clear_0.2.2.2.2.1
theorem dX3_clear_7 : decode cX3_clear 7 = .ok (.putfield 19, 3) := DX3_clear_0.2.2.2.2.2.1
theorem dX3_clear_10 : decode cX3_clear 10 = .ok (.return_, 1) := DX3_clear_0.2.2.2.2.2.2.1
theorem mX3_clear : gMv yX3_clear cX3_clear 1 none RX3 0 := ⟨q325, q326, q8, q327, rfl, by decide, by decide, by decide +kernel⟩
noncomputable def fX3_clear (I : gM) : Option (gM) :=
  (pU I 48 0 (0 : Int32)).bind fun I1 =>
  (pU I1 48 2 (0 : Int32)).bind fun I2 =>
  some I2
set_option maxRecDepth 100000 in
set_option maxHeartbeats 4000000 in
theorem wX3_clear (l : Launch) (E : gE) (hE : gDist sh E) (bk : Nat) (I : gM) (J : gN) {r : gM} (h : fX3_clear I = some r) : Cu l sh E bk yX3_clear cX3_clear 1 none (gR 0) [.ref (E.2.1 48)] I J (fun r1 I1 J1 => r1 = none ∧ I1 = r ∧ J1 = J) := by
  refine Cu.of "LeapJoin$Past" rfl hE (by decide) (Nat.le_of_ble_eq_true rfl) (fun z F B e hl => ?_)
  subst hl
  unfold fX3_clear at h
  refine g_aload_n F 0 dX3_clear_0 rfl rfl ?_
  refine g_iconst (v := 0) F dX3_clear_1 (by decide) ?_
  refine u_puti (j := 0) F s48 rfl rfl uX3 (by decide) q152 tyX3_ok nmX3 rfl rfl rfl dX3_clear_2 h (fun I1 h => ?_)
  refine g_aload_n F 0 dX3_clear_5 rfl rfl ?_
  refine g_iconst (v := 0) F dX3_clear_6 (by decide) ?_
  refine u_puti (j := 2) F s48 rfl rfl uX3 (by decide) q155 tyX3_ok nmX3 rfl rfl rfl dX3_clear_7 h (fun I2 h => ?_)
  obtain rfl := Option.some.inj h
  exact g_vret F e dX3_clear_10 ⟨rfl, rfl, rfl⟩
theorem DX3_add_0 : dAre cX3_add [(0, .aload_n 0, 1), (1, .getfield 15, 3), (4, .aload_n 0, 1), (5, .getfield 19, 3), (8, .iconst 3, 1), (9, .imul, 1), (10, .iload_n 1, 1), (11, .iastore, 1), (12, .aload_n 0, 1), (13, .getfield 15, 3), (16, .aload_n 0, 1), (17, .getfield 19, 3), (20, .iconst 3, 1), (21, .imul, 1), (22, .iconst 1, 1), (23, .iadd, 1)] := dAre0 (by decide +kernel)
theorem dX3_add_0 : decode cX3_add 0 = .ok (.aload_n 0, 1) := DX3_add_0.1
theorem dX3_add_1 : decode cX3_add 1 = .ok (.getfield 15, 3) := DX3_add_0.2.1
theorem dX3_add_4 : decode cX3_add 4 = .ok (.aload_n 0, 1) := DX3_add_0.2.2.1
theorem dX3_add_5 : decode cX3_add 5 = .ok (.getfield 19, 3) := DX3_add_0.2.2.2.1
theorem dX3_add_8 : decode cX3_add 8 = .ok (.iconst 3, 1) := DX3_add_0.2.2.2.2.1
theorem dX3_add_9 : decode cX3_add 9 = .ok (.imul, 1) := DX3_add_0.2.2.2.2.2.1
theorem dX3_add_10 : decode cX3_add 10 = .ok (.iload_n 1, 1) := DX3_add_0.2.2.2.2.2.2.1
theorem dX3_add_11 : decode cX3_add 11 = .ok (.iastore, 1) := DX3_add_0.2.2.2.2.2.2.2.1
theorem dX3_add_12 : decode cX3_add 12 = .ok (.aload_n 0, 1) := DX3_add_0.2.2.2.2.2.2.2.2.1
theorem dX3_add_13 : decode cX3_add 13 = .ok (.getfield 15, 3) := DX3_add_0.2.2.2.2.2.2.2.2.2.1
theorem dX3_add_16 : decode cX3_add 16 = .ok (.aload_n 0, 1) := DX3_add_0.2.2.2.2.2.2.2.2.2.2.1
theorem dX3_add_17 : decode cX3_add 17 = .ok (.getfield 19, 3) := DX3_add_0.2.2.2.2.2.2.2.2.2.2.2.1
theorem dX3_add_20 : decode cX3_add 20 = .ok (.iconst 3, 1) := DX3_add_0.2.2.2.2.2.2.2.2.2.2.2.2.1
theorem dX3_add_21 : decode cX3_add 21 = .ok (.imul, 1) := DX3_add_0.2.2.2.2.2.2.2.2.2.2.2.2.2.1
theorem dX3_add_22 : decode cX3_add 22 = .ok (.iconst 1, 1) := DX3_add_0.2.2.2.2.2.2.2.2.2.2.2.2.2.2.1
theorem dX3_add_23 : decode cX3_add 23 = .ok (.iadd, 1) := DX3_add_0.2.2.2.2.2.2.2.2.2.2.2.2.2.2.2.1
theorem DX3_add_24 : dAre cX3_add [(24, .iload_n 2, 1), (25, .iastore, 1), (26, .aload_n 0, 1), (27, .getfield 15, 3), (30, .aload_n 0, 1), (31, .getfield 19, 3), (34, .iconst 3, 1), (35, .imul, 1), (36, .iconst 2, 1), (37, .iadd, 1), (38, .iload_n 3, 1), (39, .iastore, 1), (40, .aload_n 0, 1), (41, .aload_n 0, 1), (42, .getfield 19, 3), (45, .iconst 1, 1)] := dAre0 (by decide +kernel)
theorem dX3_add_24 : decode cX3_add 24 = .ok (.iload_n 2, 1) := DX3_add_24.1
theorem dX3_add_25 : decode cX3_add 25 = .ok (.iastore, 1) := DX3_add_24.2.1
theorem dX3_add_26 : decode cX3_add 26 = .ok (.aload_n 0, 1) := DX3_add_24.2.2.1
theorem dX3_add_27 : decode cX3_add 27 = .ok (.getfield 15, 3) := DX3_add_24.2.2.2.1
theorem dX3_add_30 : decode cX3_add 30 = .ok (.aload_n 0, 1) := DX3_add_24.2.2.2.2.1
theorem dX3_add_31 : decode cX3_add 31 = .ok (.getfield 19, 3) := DX3_add_24.2.2.2.2.2.1
theorem dX3_add_34 : decode cX3_add 34 = .ok (.iconst 3, 1) := DX3_add_24.2.2.2.2.2.2.1
theorem dX3_add_35 : decode cX3_add 35 = .ok (.imul, 1) := DX3_add_24.2.2.2.2.2.2.2.1
theorem dX3_add_36 : decode cX3_add 36 = .ok (.iconst 2, 1) := DX3_add_24.2.2.2.2.2.2.2.2.1
theorem dX3_add_37 : decode cX3_add 37 = .ok (.iadd, 1) := DX3_add_24.2.2.2.2.2.2.2.2.2.1
theorem dX3_add_38 : decode cX3_add 38 = .ok (.iload_n 3, 1) := DX3_add_24.2.2.2.2.2.2.2.2.2.2.1
theorem dX3_add_39 : decode cX3_add 39 = .ok (.iastore, 1) := DX3_add_24.2.2.2.2.2.2.2.2.2.2.2.1
theorem dX3_add_40 : decode cX3_add 40 = .ok (.aload_n 0, 1) := DX3_add_24.2.2.2.2.2.2.2.2.2.2.2.2.1
theorem dX3_add_41 : decode cX3_add 41 = .ok (.aload_n 0, 1) := DX3_add_24.2.2.2.2.2.2.2.2.2.2.2.2.2.1
theorem dX3_add_42 : decode cX3_add 42 = .ok (.getfield 19, 3) := DX3_add_24.2.2.2.2.2.2.2.2.2.2.2.2.2.2.1
theorem dX3_add_45 : decode cX3_add 45 = .ok (.iconst 1, 1) := DX3_add_24.2.2.2.2.2.2.2.2.2.2.2.2.2.2.2.1
theorem DX3_add_46 : dAre cX3_add [(46, .iadd, 1), (47, .bipush 40, 2), (49, .irem, 1), (50, .putfield 19, 3), (53, .aload_n 0, 1), (54, .aload_n 0, 1), (55, .getfield 9, 3), (58, .iconst 1, 1), (59, .iadd, 1), (60, .bipush 40, 2), (62, .invokestatic 22, 3), (65, .putfield 9, 3), (68, .return_, 1)] := dAre0 (by decide +kernel)
theorem dX3_add_46 : decode cX3_add 46 = .ok (.iadd, 1) := DX3_add_46.1
theorem dX3_add_47 : decode cX3_add 47 = .ok (.bipush 40, 2) := DX3_add_46.2.1
theorem dX3_add_49 : decode cX3_add 49 = .ok (.irem, 1) := DX3_add_46.2.2.1
theorem dX3_add_50 : decode cX3_add 50 = .ok (.putfield 19, 3) := DX3_add_46.2.2.2.1
theorem dX3_add_53 : decode cX3_add 53 = .ok (.aload_n 0, 1) := DX3_add_46.2.2.2.2.1
theorem dX3_add_54 : decode cX3_add 54 = .ok (.aload_n 0, 1) := DX3_add_46.2.2.2.2.2.1
theorem dX3_add_55 : decode cX3_add 55 = .ok (.getfield 9, 3) := DX3_add_46.2.2.2.2.2.2.1
theorem dX3_add_58 : decode cX3_add 58 = .ok (.iconst 1, 1) := DX3_add_46.2.2.2.2.2.2.2.1
theorem dX3_add_59 : decode cX3_add 59 = .ok (.iadd, 1) := DX3_add_46.2.2.2.2.2.2.2.2.1
theorem dX3_add_60 : decode cX3_add 60 = .ok (.bipush 40, 2) := DX3_add_46.2.2.2.2.2.2.2.2.2.1
theorem dX3_add_62 : decode cX3_add 62 = .ok (.invokestatic 22, 3) := DX3_add_46.2.2.2.2.2.2.2.2.2.2.1
theorem dX3_add_65 : decode cX3_add 65 = .ok (.putfield 9, 3) := DX3_add_46.2.2.2.2.2.2.2.2.2.2.2.1
theorem dX3_add_68 : decode cX3_add 68 = .ok (.return_, 1) := DX3_add_46.2.2.2.2.2.2.2.2.2.2.2.2.1
theorem mX3_add : gMv yX3_add cX3_add 4 none RX3 3 := ⟨q597, q598, q8, q599, rfl, by decide, by decide, by decide +kernel⟩
noncomputable def fX3_add (v1 : Int32) (v2 : Int32) (v3 : Int32) (I : gM) : Option (gM) :=
  (wI I 49 120 ((I 48 2) * 3) v1).bind fun I1 =>
  (wI I1 49 120 (((I1 48 2) * 3) + 1) v2).bind fun I2 =>
  (wI I2 49 120 (((I2 48 2) * 3) + 2) v3).bind fun I3 =>
  (pU I3 48 2 (iR ((I3 48 2) + 1) 40)).bind fun I4 =>
  (pU I4 48 0 (mN ((I4 48 0) + 1) 40)).bind fun I5 =>
  some I5
set_option maxRecDepth 100000 in
set_option maxHeartbeats 4000000 in
theorem wX3_add (l : Launch) (E : gE) (hE : gDist sh E) (bk : Nat) (v1 : Int32) (v2 : Int32) (v3 : Int32) (I : gM) (J : gN) {r : gM} (h : fX3_add v1 v2 v3 I = some r) : Cu l sh E bk yX3_add cX3_add 4 none (gR 1) [.ref (E.2.1 48), .int v1, .int v2, .int v3] I J (fun r1 I1 J1 => r1 = none ∧ I1 = r ∧ J1 = J) := by
  refine Cu.of "LeapJoin$Past" rfl hE (by decide) (Nat.le_of_ble_eq_true rfl) (fun z F B e hl => ?_)
  subst hl
  unfold fX3_add at h
  refine g_aload_n F 0 dX3_add_0 rfl rfl ?_
  refine g_getr (j := 1) (nn := 49) F s48 rfl rfl uX3 (by decide) q154 dX3_add_1 ?_
  refine g_aload_n F 0 dX3_add_4 rfl rfl ?_
  refine g_geti (j := 2) (v := I 48 2) F s48 rfl rfl uX3 (by decide) q155 rfl dX3_add_5 ?_
  refine g_iconst (v := 3) F dX3_add_8 (by decide) ?_
  refine g_imul (v := (I 48 2) * 3) F dX3_add_9 rfl ?_
  refine g_iload_n F 1 dX3_add_10 rfl rfl ?_
  refine u_wI F s49 (by decide) dX3_add_11 h (fun I1 h => ?_)
  refine g_aload_n F 0 dX3_add_12 rfl rfl ?_
  refine g_getr (j := 1) (nn := 49) F s48 rfl rfl uX3 (by decide) q154 dX3_add_13 ?_
  refine g_aload_n F 0 dX3_add_16 rfl rfl ?_
  refine g_geti (j := 2) (v := I1 48 2) F s48 rfl rfl uX3 (by decide) q155 rfl dX3_add_17 ?_
  refine g_iconst (v := 3) F dX3_add_20 (by decide) ?_
  refine g_imul (v := (I1 48 2) * 3) F dX3_add_21 rfl ?_
  refine g_iconst (v := 1) F dX3_add_22 (by decide) ?_
  refine g_iadd (v := ((I1 48 2) * 3) + 1) F dX3_add_23 rfl ?_
  refine g_iload_n F 2 dX3_add_24 rfl rfl ?_
  refine u_wI F s49 (by decide) dX3_add_25 h (fun I2 h => ?_)
  refine g_aload_n F 0 dX3_add_26 rfl rfl ?_
  refine g_getr (j := 1) (nn := 49) F s48 rfl rfl uX3 (by decide) q154 dX3_add_27 ?_
  refine g_aload_n F 0 dX3_add_30 rfl rfl ?_
  refine g_geti (j := 2) (v := I2 48 2) F s48 rfl rfl uX3 (by decide) q155 rfl dX3_add_31 ?_
  refine g_iconst (v := 3) F dX3_add_34 (by decide) ?_
  refine g_imul (v := (I2 48 2) * 3) F dX3_add_35 rfl ?_
  refine g_iconst (v := 2) F dX3_add_36 (by decide) ?_
  refine g_iadd (v := ((I2 48 2) * 3) + 2) F dX3_add_37 rfl ?_
  refine g_iload_n F 3 dX3_add_38 rfl rfl ?_
  refine u_wI F s49 (by decide) dX3_add_39 h (fun I3 h => ?_)
  refine g_aload_n F 0 dX3_add_40 rfl rfl ?_
  refine g_aload_n F 0 dX3_add_41 rfl rfl ?_
  refine g_geti (j := 2) (v := I3 48 2) F s48 rfl rfl uX3 (by decide) q155 rfl dX3_add_42 ?_
  refine g_iconst (v := 1) F dX3_add_45 (by decide) ?_
  refine g_iadd (v := (I3 48 2) + 1) F dX3_add_46 rfl ?_
  refine g_bipush (v := 40) F dX3_add_47 (by decide) ?_
  refine g_irem (v := iR ((I3 48 2) + 1) 40) F dX3_add_49 (by decide) rfl ?_
  refine u_puti (j := 2) F s48 rfl rfl uX3 (by decide) q155 tyX3_ok nmX3 rfl rfl rfl dX3_add_50 h (fun I4 h => ?_)
  refine g_aload_n F 0 dX3_add_53 rfl rfl ?_
  refine g_aload_n F 0 dX3_add_54 rfl rfl ?_
  refine g_geti (j := 0) (v := I4 48 0) F s48 rfl rfl uX3 (by decide) q152 rfl dX3_add_55 ?_
  refine g_iconst (v := 1) F dX3_add_58 (by decide) ?_
  refine g_iadd (v := (I4 48 0) + 1) F dX3_add_59 rfl ?_
  refine g_bipush (v := 40) F dX3_add_60 (by decide) ?_
  refine g_mmin (v := mN ((I4 48 0) + 1) 40) F q600 rfl (Nat.le_of_ble_eq_true rfl) (Nat.le_of_ble_eq_true rfl) (Nat.le_of_ble_eq_true rfl) dX3_add_62 ?_
  refine u_puti (j := 0) F s48 rfl rfl uX3 (by decide) q152 tyX3_ok nmX3 rfl rfl rfl dX3_add_65 h (fun I5 h => ?_)
  obtain rfl := Option.some.inj h
  exact g_vret F e dX3_add_68 ⟨rfl, rfl, rfl⟩
theorem DX3_dropLatest_0 : dAre cX3_dropLatest [(0, .aload_n 0, 1), (1, .getfield 9, 3), (4, .ifCond .le 29, 3), (7, .aload_n 0, 1), (8, .aload_n 0, 1), (9, .getfield 19, 3), (12, .bipush 40, 2), (14, .iadd, 1), (15, .iconst 1, 1), (16, .isub, 1), (17, .bipush 40, 2), (19, .irem, 1), (20, .putfield 19, 3), (23, .aload_n 0, 1), (24, .dup, 1), (25, .getfield 9, 3)] := dAre0 (by decide +kernel)
theorem dX3_dropLatest_0 : decode cX3_dropLatest 0 = .ok (.aload_n 0, 1) := DX3_dropLatest_0.1
theorem dX3_dropLatest_1 : decode cX3_dropLatest 1 = .ok (.getfield 9, 3) := DX3_dropLatest_0.2.1
theorem dX3_dropLatest_4 : decode cX3_dropLatest 4 = .ok (.ifCond .le 29, 3) := DX3_dropLatest_0.2.2.1
theorem dX3_dropLatest_7 : decode cX3_dropLatest 7 = .ok (.aload_n 0, 1) := DX3_dropLatest_0.2.2.2.1
theorem dX3_dropLatest_8 : decode cX3_dropLatest 8 = .ok (.aload_n 0, 1) := DX3_dropLatest_0.2.2.2.2.1
theorem dX3_dropLatest_9 : decode cX3_dropLatest 9 = .ok (.getfield 19, 3) := DX3_dropLatest_0.2.2.2.2.2.1
theorem dX3_dropLatest_12 : decode cX3_dropLatest 12 = .ok (.bipush 40, 2) := DX3_dropLatest_0.2.2.2.2.2.2.1
theorem dX3_dropLatest_14 : decode cX3_dropLatest 14 = .ok (.iadd, 1) := DX3_dropLatest_0.2.2.2.2.2.2.2.1
theorem dX3_dropLatest_15 : decode cX3_dropLatest 15 = .ok (.iconst 1, 1) := DX3_dropLatest_0.2.2.2.2.2.2.2.2.1
theorem dX3_dropLatest_16 : decode cX3_dropLatest 16 = .ok (.isub, 1) := DX3_dropLatest_0.2.2.2.2.2.2.2.2.2.1
theorem dX3_dropLatest_17 : decode cX3_dropLatest 17 = .ok (.bipush 40, 2) := DX3_dropLatest_0.2.2.2.2.2.2.2.2.2.2.1
theorem dX3_dropLatest_19 : decode cX3_dropLatest 19 = .ok (.irem, 1) := DX3_dropLatest_0.2.2.2.2.2.2.2.2.2.2.2.1
theorem dX3_dropLatest_20 : decode cX3_dropLatest 20 = .ok (.putfield 19, 3) := DX3_dropLatest_0.2.2.2.2.2.2.2.2.2.2.2.2.1
theorem dX3_dropLatest_23 : decode cX3_dropLatest 23 = .ok (.aload_n 0, 1) := DX3_dropLatest_0.2.2.2.2.2.2.2.2.2.2.2.2.2.1
theorem dX3_dropLatest_24 : decode cX3_dropLatest 24 = .ok (.dup, 1) := DX3_dropLatest_0.2.2.2.2.2.2.2.2.2.2.2.2.2.2.1
theorem dX3_dropLatest_25 : decode cX3_dropLatest 25 = .ok (.getfield 9, 3) := DX3_dropLatest_0.2.2.2.2.2.2.2.2.2.2.2.2.2.2.2.1
theorem DX3_dropLatest_28 : dAre cX3_dropLatest [(28, .iconst 1, 1), (29, .isub, 1), (30, .putfield 9, 3), (33, .return_, 1)] := dAre0 (by decide +kernel)
theorem dX3_dropLatest_28 : decode cX3_dropLatest 28 = .ok (.iconst 1, 1) := DX3_dropLatest_28.1
theorem dX3_dropLatest_29 : decode cX3_dropLatest 29 = .ok (.isub, 1) := DX3_dropLatest_28.2.1
theorem dX3_dropLatest_30 : decode cX3_dropLatest 30 = .ok (.putfield 9, 3) := DX3_dropLatest_28.2.2.1
theorem dX3_dropLatest_33 : decode cX3_dropLatest 33 = .ok (.return_, 1) := DX3_dropLatest_28.2.2.2.1
theorem mX3_dropLatest : gMv yX3_dropLatest cX3_dropLatest 1 none RX3 0 := ⟨q650, q651, q8, q652, rfl, by decide, by decide, by decide +kernel⟩
noncomputable def fX3_dropLatest (I : gM) : Option (gM) :=
  if (I 48 0) ≤ 0 then
    some I
  else
    (pU I 48 2 (iR (((I 48 2) + 40) - 1) 40)).bind fun I1 =>
    (pU I1 48 0 ((I1 48 0) - 1)).bind fun I2 =>
    some I2
set_option maxRecDepth 100000 in
set_option maxHeartbeats 4000000 in
theorem wX3_dropLatest (l : Launch) (E : gE) (hE : gDist sh E) (bk : Nat) (I : gM) (J : gN) {r : gM} (h : fX3_dropLatest I = some r) : Cu l sh E bk yX3_dropLatest cX3_dropLatest 1 none (gR 0) [.ref (E.2.1 48)] I J (fun r1 I1 J1 => r1 = none ∧ I1 = r ∧ J1 = J) := by
  refine Cu.of "LeapJoin$Past" rfl hE (by decide) (Nat.le_of_ble_eq_true rfl) (fun z F B e hl => ?_)
  subst hl
  unfold fX3_dropLatest at h
  refine g_aload_n F 0 dX3_dropLatest_0 rfl rfl ?_
  refine g_geti (j := 0) (v := I 48 0) F s48 rfl rfl uX3 (by decide) q152 rfl dX3_dropLatest_1 ?_
  refine u_if_le (tgt := 33) F dX3_dropLatest_4 (by decide) h (fun h => ?_) (fun h => ?_)
  · obtain rfl := Option.some.inj h
    exact g_vret F e dX3_dropLatest_33 ⟨rfl, rfl, rfl⟩
  · refine g_aload_n F 0 dX3_dropLatest_7 rfl rfl ?_
    refine g_aload_n F 0 dX3_dropLatest_8 rfl rfl ?_
    refine g_geti (j := 2) (v := I 48 2) F s48 rfl rfl uX3 (by decide) q155 rfl dX3_dropLatest_9 ?_
    refine g_bipush (v := 40) F dX3_dropLatest_12 (by decide) ?_
    refine g_iadd (v := (I 48 2) + 40) F dX3_dropLatest_14 rfl ?_
    refine g_iconst (v := 1) F dX3_dropLatest_15 (by decide) ?_
    refine g_isub (v := ((I 48 2) + 40) - 1) F dX3_dropLatest_16 rfl ?_
    refine g_bipush (v := 40) F dX3_dropLatest_17 (by decide) ?_
    refine g_irem (v := iR (((I 48 2) + 40) - 1) 40) F dX3_dropLatest_19 (by decide) rfl ?_
    refine u_puti (j := 2) F s48 rfl rfl uX3 (by decide) q155 tyX3_ok nmX3 rfl rfl rfl dX3_dropLatest_20 h (fun I1 h => ?_)
    refine g_aload_n F 0 dX3_dropLatest_23 rfl rfl ?_
    refine g_dup F dX3_dropLatest_24 rfl ?_
    refine g_geti (j := 0) (v := I1 48 0) F s48 rfl rfl uX3 (by decide) q152 rfl dX3_dropLatest_25 ?_
    refine g_iconst (v := 1) F dX3_dropLatest_28 (by decide) ?_
    refine g_isub (v := (I1 48 0) - 1) F dX3_dropLatest_29 rfl ?_
    refine u_puti (j := 0) F s48 rfl rfl uX3 (by decide) q152 tyX3_ok nmX3 rfl rfl rfl dX3_dropLatest_30 h (fun I2 h => ?_)
    obtain rfl := Option.some.inj h
    exact g_vret F e dX3_dropLatest_33 ⟨rfl, rfl, rfl⟩
theorem DX3_sortDropped_0 : dAre cX3_sortDropped [(0, .aload_n 0, 1), (1, .getfield 15, 3), (4, .aload_n 0, 1), (5, .getfield 19, 3), (8, .iconst 3, 1), (9, .imul, 1), (10, .iaload, 1), (11, .ireturn, 1)] := dAre0 (by decide +kernel)
theorem dX3_sortDropped_0 : decode cX3_sortDropped 0 = .ok (.aload_n 0, 1) := DX3_sortDropped_0.1
theorem dX3_sortDropped_1 : decode cX3_sortDropped 1 = .ok (.getfield 15, 3) := DX3_sortDropped_0.2.1
theorem dX3_sortDropped_4 : decode cX3_sortDropped 4 = .ok (.aload_n 0, 1) := DX3_sortDropped_0.2.2.1
theorem dX3_sortDropped_5 : decode cX3_sortDropped 5 = .ok (.getfield 19, 3) := DX3_sortDropped_0.2.2.2.1
theorem dX3_sortDropped_8 : decode cX3_sortDropped 8 = .ok (.iconst 3, 1) := DX3_sortDropped_0.2.2.2.2.1
theorem dX3_sortDropped_9 : decode cX3_sortDropped 9 = .ok (.imul, 1) := DX3_sortDropped_0.2.2.2.2.2.1
theorem dX3_sortDropped_10 : decode cX3_sortDropped 10 = .ok (.iaload, 1) := DX3_sortDropped_0.2.2.2.2.2.2.1
theorem dX3_sortDropped_11 : decode cX3_sortDropped 11 = .ok (.ireturn, 1) := DX3_sortDropped_0.2.2.2.2.2.2.2.1
theorem mX3_sortDropped : gMv yX3_sortDropped cX3_sortDropped 1 (some .int) RX3 0 := ⟨q654, q655, q8, q656, rfl, by decide, by decide, by decide +kernel⟩
noncomputable def fX3_sortDropped (I : gM) : Option (Int32) :=
  (rI 120 (I 49) ((I 48 2) * 3)).bind fun u1 =>
  some u1
set_option maxRecDepth 100000 in
set_option maxHeartbeats 4000000 in
theorem wX3_sortDropped (l : Launch) (E : gE) (hE : gDist sh E) (bk : Nat) (I : gM) (J : gN) {r : Int32} (h : fX3_sortDropped I = some r) : Cu l sh E bk yX3_sortDropped cX3_sortDropped 1 (some .int) (gR 0) [.ref (E.2.1 48)] I J (fun r1 I1 J1 => r1 = some (.int r) ∧ I1 = I ∧ J1 = J) := by
  refine Cu.of "LeapJoin$Past" rfl hE (by decide) (Nat.le_of_ble_eq_true rfl) (fun z F B e hl => ?_)
  subst hl
  unfold fX3_sortDropped at h
  refine g_aload_n F 0 dX3_sortDropped_0 rfl rfl ?_
  refine g_getr (j := 1) (nn := 49) F s48 rfl rfl uX3 (by decide) q154 dX3_sortDropped_1 ?_
  refine g_aload_n F 0 dX3_sortDropped_4 rfl rfl ?_
  refine g_geti (j := 2) (v := I 48 2) F s48 rfl rfl uX3 (by decide) q155 rfl dX3_sortDropped_5 ?_
  refine g_iconst (v := 3) F dX3_sortDropped_8 (by decide) ?_
  refine g_imul (v := (I 48 2) * 3) F dX3_sortDropped_9 rfl ?_
  refine u_rI F s49 (by decide) dX3_sortDropped_10 h (fun u1 h => ?_)
  obtain rfl := Option.some.inj h
  exact g_iret F e dX3_sortDropped_11 ⟨rfl, rfl, rfl⟩
theorem DX3_numberDropped_0 : dAre cX3_numberDropped [(0, .aload_n 0, 1), (1, .getfield 15, 3), (4, .aload_n 0, 1), (5, .getfield 19, 3), (8, .iconst 3, 1), (9, .imul, 1), (10, .iconst 1, 1), (11, .iadd, 1), (12, .iaload, 1), (13, .ireturn, 1)] := dAre0 (by decide +kernel)
theorem dX3_numberDropped_0 : decode cX3_numberDropped 0 = .ok (.aload_n 0, 1) := DX3_numberDropped_0.1
theorem dX3_numberDropped_1 : decode cX3_numberDropped 1 = .ok (.getfield 15, 3) := DX3_numberDropped_0.2.1
theorem dX3_numberDropped_4 : decode cX3_numberDropped 4 = .ok (.aload_n 0, 1) := DX3_numberDropped_0.2.2.1
theorem dX3_numberDropped_5 : decode cX3_numberDropped 5 = .ok (.getfield 19, 3) := DX3_numberDropped_0.2.2.2.1
theorem dX3_numberDropped_8 : decode cX3_numberDropped 8 = .ok (.iconst 3, 1) := DX3_numberDropped_0.2.2.2.2.1
theorem dX3_numberDropped_9 : decode cX3_numberDropped 9 = .ok (.imul, 1) := DX3_numberDropped_0.2.2.2.2.2.1
theorem dX3_numberDropped_10 : decode cX3_numberDropped 10 = .ok (.iconst 1, 1) := DX3_numberDropped_0.2.2.2.2.2.2.1
theorem dX3_numberDropped_11 : decode cX3_numberDropped 11 = .ok (.iadd, 1) := DX3_numberDropped_0.2.2.2.2.2.2.2.1
theorem dX3_numberDropped_12 : decode cX3_numberDropped 12 = .ok (.iaload, 1) := DX3_numberDropped_0.2.2.2.2.2.2.2.2.1
theorem dX3_numberDropped_13 : decode cX3_numberDropped 13 = .ok (.ireturn, 1) := DX3_numberDropped_0.2.2.2.2.2.2.2.2.2.1
theorem mX3_numberDropped : gMv yX3_numberDropped cX3_numberDropped 1 (some .int) RX3 0 := ⟨q658, q659, q8, q660, rfl, by decide, by decide, by decide +kernel⟩
noncomputable def fX3_numberDropped (I : gM) : Option (Int32) :=
  (rI 120 (I 49) (((I 48 2) * 3) + 1)).bind fun u1 =>
  some u1
set_option maxRecDepth 100000 in
set_option maxHeartbeats 4000000 in
theorem wX3_numberDropped (l : Launch) (E : gE) (hE : gDist sh E) (bk : Nat) (I : gM) (J : gN) {r : Int32} (h : fX3_numberDropped I = some r) : Cu l sh E bk yX3_numberDropped cX3_numberDropped 1 (some .int) (gR 0) [.ref (E.2.1 48)] I J (fun r1 I1 J1 => r1 = some (.int r) ∧ I1 = I ∧ J1 = J) := by
  refine Cu.of "LeapJoin$Past" rfl hE (by decide) (Nat.le_of_ble_eq_true rfl) (fun z F B e hl => ?_)
  subst hl
  unfold fX3_numberDropped at h
  refine g_aload_n F 0 dX3_numberDropped_0 rfl rfl ?_
  refine g_getr (j := 1) (nn := 49) F s48 rfl rfl uX3 (by decide) q154 dX3_numberDropped_1 ?_
  refine g_aload_n F 0 dX3_numberDropped_4 rfl rfl ?_
  refine g_geti (j := 2) (v := I 48 2) F s48 rfl rfl uX3 (by decide) q155 rfl dX3_numberDropped_5 ?_
  refine g_iconst (v := 3) F dX3_numberDropped_8 (by decide) ?_
  refine g_imul (v := (I 48 2) * 3) F dX3_numberDropped_9 rfl ?_
  refine g_iconst (v := 1) F dX3_numberDropped_10 (by decide) ?_
  refine g_iadd (v := ((I 48 2) * 3) + 1) F dX3_numberDropped_11 rfl ?_
  refine u_rI F s49 (by decide) dX3_numberDropped_12 h (fun u1 h => ?_)
  obtain rfl := Option.some.inj h
  exact g_iret F e dX3_numberDropped_13 ⟨rfl, rfl, rfl⟩
theorem DX3_rowDropped_0 : dAre cX3_rowDropped [(0, .aload_n 0, 1), (1, .getfield 15, 3), (4, .aload_n 0, 1), (5, .getfield 19, 3), (8, .iconst 3, 1), (9, .imul, 1), (10, .iconst 2, 1), (11, .iadd, 1), (12, .iaload, 1), (13, .ireturn, 1)] := dAre0 (by decide +kernel)
theorem dX3_rowDropped_0 : decode cX3_rowDropped 0 = .ok (.aload_n 0, 1) := DX3_rowDropped_0.1
theorem dX3_rowDropped_1 : decode cX3_rowDropped 1 = .ok (.getfield 15, 3) := DX3_rowDropped_0.2.1
theorem dX3_rowDropped_4 : decode cX3_rowDropped 4 = .ok (.aload_n 0, 1) := DX3_rowDropped_0.2.2.1
theorem dX3_rowDropped_5 : decode cX3_rowDropped 5 = .ok (.getfield 19, 3) := DX3_rowDropped_0.2.2.2.1
theorem dX3_rowDropped_8 : decode cX3_rowDropped 8 = .ok (.iconst 3, 1) := DX3_rowDropped_0.2.2.2.2.1
theorem dX3_rowDropped_9 : decode cX3_rowDropped 9 = .ok (.imul, 1) := DX3_rowDropped_0.2.2.2.2.2.1
theorem dX3_rowDropped_10 : decode cX3_rowDropped 10 = .ok (.iconst 2, 1) := DX3_rowDropped_0.2.2.2.2.2.2.1
theorem dX3_rowDropped_11 : decode cX3_rowDropped 11 = .ok (.iadd, 1) := DX3_rowDropped_0.2.2.2.2.2.2.2.1
theorem dX3_rowDropped_12 : decode cX3_rowDropped 12 = .ok (.iaload, 1) := DX3_rowDropped_0.2.2.2.2.2.2.2.2.1
theorem dX3_rowDropped_13 : decode cX3_rowDropped 13 = .ok (.ireturn, 1) := DX3_rowDropped_0.2.2.2.2.2.2.2.2.2.1
theorem mX3_rowDropped : gMv yX3_rowDropped cX3_rowDropped 1 (some .int) RX3 0 := ⟨q662, q663, q8, q664, rfl, by decide, by decide, by decide +kernel⟩
noncomputable def fX3_rowDropped (I : gM) : Option (Int32) :=
  (rI 120 (I 49) (((I 48 2) * 3) + 2)).bind fun u1 =>
  some u1
set_option maxRecDepth 100000 in
set_option maxHeartbeats 4000000 in
theorem wX3_rowDropped (l : Launch) (E : gE) (hE : gDist sh E) (bk : Nat) (I : gM) (J : gN) {r : Int32} (h : fX3_rowDropped I = some r) : Cu l sh E bk yX3_rowDropped cX3_rowDropped 1 (some .int) (gR 0) [.ref (E.2.1 48)] I J (fun r1 I1 J1 => r1 = some (.int r) ∧ I1 = I ∧ J1 = J) := by
  refine Cu.of "LeapJoin$Past" rfl hE (by decide) (Nat.le_of_ble_eq_true rfl) (fun z F B e hl => ?_)
  subst hl
  unfold fX3_rowDropped at h
  refine g_aload_n F 0 dX3_rowDropped_0 rfl rfl ?_
  refine g_getr (j := 1) (nn := 49) F s48 rfl rfl uX3 (by decide) q154 dX3_rowDropped_1 ?_
  refine g_aload_n F 0 dX3_rowDropped_4 rfl rfl ?_
  refine g_geti (j := 2) (v := I 48 2) F s48 rfl rfl uX3 (by decide) q155 rfl dX3_rowDropped_5 ?_
  refine g_iconst (v := 3) F dX3_rowDropped_8 (by decide) ?_
  refine g_imul (v := (I 48 2) * 3) F dX3_rowDropped_9 rfl ?_
  refine g_iconst (v := 2) F dX3_rowDropped_10 (by decide) ?_
  refine g_iadd (v := ((I 48 2) * 3) + 2) F dX3_rowDropped_11 rfl ?_
  refine u_rI F s49 (by decide) dX3_rowDropped_12 h (fun u1 h => ?_)
  obtain rfl := Option.some.inj h
  exact g_iret F e dX3_rowDropped_13 ⟨rfl, rfl, rfl⟩
theorem DX4_clear_0 : dAre cX4_clear [(0, .aload_n 0, 1), (1, .iconst 0, 1), (2, .putfield 9, 3), (5, .return_, 1)] := dAre0 (by decide +kernel)
theorem dX4_clear_0 : decode cX4_clear 0 = .ok (.aload_n 0, 1) := DX4_clear_0.1
theorem dX4_clear_1 : decode cX4_clear 1 = .ok (.iconst 0, 1) := DX4_clear_0.2.1
theorem dX4_clear_2 : decode cX4_clear 2 = .ok (.putfield 9, 3) := DX4_clear_0.2.2.1
theorem dX4_clear_5 : decode cX4_clear 5 = .ok (.return_, 1) := DX4_clear_0.2.2.2.1
theorem mX4_clear : gMv yX4_clear cX4_clear 1 none RX4 0 := ⟨q281, q282, q9, q283, rfl, by decide, by decide, by decide +kernel⟩
noncomputable def fX4_clear (k : Nat) (I : gM) : Option (gM) :=
  (pU I k 0 (0 : Int32)).bind fun I1 =>
  some I1
set_option maxRecDepth 100000 in
set_option maxHeartbeats 4000000 in
theorem wX4_clear (l : Launch) (E : gE) (hE : gDist sh E) (bk : Nat) (k : Nat) (hk : shX4 k) (I : gM) (J : gN) {r : gM} (h : fX4_clear k I = some r) : Cu l sh E bk yX4_clear cX4_clear 1 none (gR 0) [.ref (E.2.1 k)] I J (fun r1 I1 J1 => r1 = none ∧ I1 = r ∧ J1 = J) := by
  refine Cu.of "LeapJoin$Script" rfl hE (by decide) (Nat.le_of_ble_eq_true rfl) (fun z F B e hl => ?_)
  subst hl
  unfold fX4_clear at h
  refine g_aload_n F 0 dX4_clear_0 rfl rfl ?_
  refine g_iconst (v := 0) F dX4_clear_1 (by decide) ?_
  refine u_puti (j := 0) F hk.1 rfl rfl uX4 (by decide) q164 tyX4_ok nmX4 rfl rfl rfl dX4_clear_2 h (fun I1 h => ?_)
  obtain rfl := Option.some.inj h
  exact g_vret F e dX4_clear_5 ⟨rfl, rfl, rfl⟩
theorem DX4_copyFrom_0 : dAre cX4_copyFrom [(0, .aload_n 0, 1), (1, .aload_n 1, 1), (2, .getfield 9, 3), (5, .putfield 9, 3), (8, .aload_n 1, 1), (9, .getfield 15, 3), (12, .iconst 0, 1), (13, .aload_n 0, 1), (14, .getfield 15, 3), (17, .iconst 0, 1), (18, .bipush 60, 2), (20, .invokestatic 19, 3), (23, .return_, 1)] := dAre0 (by decide +kernel)
theorem dX4_copyFrom_0 : decode cX4_copyFrom 0 = .ok (.aload_n 0, 1) := DX4_copyFrom_0.1
theorem dX4_copyFrom_1 : decode cX4_copyFrom 1 = .ok (.aload_n 1, 1) := DX4_copyFrom_0.2.1
theorem dX4_copyFrom_2 : decode cX4_copyFrom 2 = .ok (.getfield 9, 3) := DX4_copyFrom_0.2.2.1
theorem dX4_copyFrom_5 : decode cX4_copyFrom 5 = .ok (.putfield 9, 3) := DX4_copyFrom_0.2.2.2.1
theorem dX4_copyFrom_8 : decode cX4_copyFrom 8 = .ok (.aload_n 1, 1) := DX4_copyFrom_0.2.2.2.2.1
theorem dX4_copyFrom_9 : decode cX4_copyFrom 9 = .ok (.getfield 15, 3) := DX4_copyFrom_0.2.2.2.2.2.1
theorem dX4_copyFrom_12 : decode cX4_copyFrom 12 = .ok (.iconst 0, 1) := DX4_copyFrom_0.2.2.2.2.2.2.1
theorem dX4_copyFrom_13 : decode cX4_copyFrom 13 = .ok (.aload_n 0, 1) := DX4_copyFrom_0.2.2.2.2.2.2.2.1
theorem dX4_copyFrom_14 : decode cX4_copyFrom 14 = .ok (.getfield 15, 3) := DX4_copyFrom_0.2.2.2.2.2.2.2.2.1
theorem dX4_copyFrom_17 : decode cX4_copyFrom 17 = .ok (.iconst 0, 1) := DX4_copyFrom_0.2.2.2.2.2.2.2.2.2.1
theorem dX4_copyFrom_18 : decode cX4_copyFrom 18 = .ok (.bipush 60, 2) := DX4_copyFrom_0.2.2.2.2.2.2.2.2.2.2.1
theorem dX4_copyFrom_20 : decode cX4_copyFrom 20 = .ok (.invokestatic 19, 3) := DX4_copyFrom_0.2.2.2.2.2.2.2.2.2.2.2.1
theorem dX4_copyFrom_23 : decode cX4_copyFrom 23 = .ok (.return_, 1) := DX4_copyFrom_0.2.2.2.2.2.2.2.2.2.2.2.2.1
theorem mX4_copyFrom : gMv yX4_copyFrom cX4_copyFrom 2 none RX4 1 := ⟨q395, q396, q9, q397, rfl, by decide, by decide, by decide +kernel⟩
noncomputable def fX4_copyFrom (k : Nat) (k1 : Nat) (I : gM) : Option (gM) :=
  (pU I k 0 (I k1 0)).bind fun I1 =>
  (cpI I1 (k1 + 1) 60 (k + 1) 60 0 0 60).bind fun I2 =>
  some I2
set_option maxRecDepth 100000 in
set_option maxHeartbeats 4000000 in
theorem wX4_copyFrom (l : Launch) (E : gE) (hE : gDist sh E) (bk : Nat) (k : Nat) (k1 : Nat) (hk : shX4 k) (hk1 : shX4 k1) (I : gM) (J : gN) {r : gM} (h : fX4_copyFrom k k1 I = some r) : Cu l sh E bk yX4_copyFrom cX4_copyFrom 2 none (gR 1) [.ref (E.2.1 k), .ref (E.2.1 k1)] I J (fun r1 I1 J1 => r1 = none ∧ I1 = r ∧ J1 = J) := by
  refine Cu.of "LeapJoin$Script" rfl hE (by decide) (Nat.le_of_ble_eq_true rfl) (fun z F B e hl => ?_)
  subst hl
  unfold fX4_copyFrom at h
  refine g_aload_n F 0 dX4_copyFrom_0 rfl rfl ?_
  refine g_aload_n F 1 dX4_copyFrom_1 rfl rfl ?_
  refine g_geti (j := 0) (v := I k1 0) F hk1.1 rfl rfl uX4 (by decide) q164 rfl dX4_copyFrom_2 ?_
  refine u_puti (j := 0) F hk.1 rfl rfl uX4 (by decide) q164 tyX4_ok nmX4 rfl rfl rfl dX4_copyFrom_5 h (fun I1 h => ?_)
  refine g_aload_n F 1 dX4_copyFrom_8 rfl rfl ?_
  refine g_getr (j := 1) (nn := (k1 + 1)) F hk1.1 rfl rfl uX4 (by decide) q166 dX4_copyFrom_9 ?_
  refine g_iconst (v := 0) F dX4_copyFrom_12 (by decide) ?_
  refine g_aload_n F 0 dX4_copyFrom_13 rfl rfl ?_
  refine g_getr (j := 1) (nn := (k + 1)) F hk.1 rfl rfl uX4 (by decide) q166 dX4_copyFrom_14 ?_
  refine g_iconst (v := 0) F dX4_copyFrom_17 (by decide) ?_
  refine g_bipush (v := 60) F dX4_copyFrom_18 (by decide) ?_
  refine u_copy F hk1.2 hk.2 q398 q1528 q319 q12 (Nat.le_of_ble_eq_true rfl) (Nat.le_of_ble_eq_true rfl) dX4_copyFrom_20 h (fun I2 h => ?_)
  obtain rfl := Option.some.inj h
  exact g_vret F e dX4_copyFrom_23 ⟨rfl, rfl, rfl⟩
theorem DJ7_rangeCheck_23922_0 : dAre cJ7_rangeCheck_23922 [(0, .iload_n 1, 1), (1, .iload_n 2, 1), (2, .if_icmp .le 44, 3), (5, .new 43, 3), (8, .dup, 1), (9, .new 45, 3), (12, .dup, 1), (13, .invokespecial 47, 3), (16, .ldc 48, 2), (18, .invokevirtual 50, 3), (21, .iload_n 1, 1), (22, .invokevirtual 54, 3), (25, .ldc 57, 2), (27, .invokevirtual 50, 3), (30, .iload_n 2, 1), (31, .invokevirtual 54, 3)] := dAre0 (by decide +kernel)
theorem dJ7_rangeCheck_23922_0 : decode cJ7_rangeCheck_23922 0 = .ok (.iload_n 1, 1) := DJ7_rangeCheck_23922_0.1
theorem dJ7_rangeCheck_23922_1 : decode cJ7_rangeCheck_23922 1 = .ok (.iload_n 2, 1) := DJ7_rangeCheck_23922_0.2.1
theorem dJ7_rangeCheck_23922_2 : decode cJ7_rangeCheck_23922 2 = .ok (.if_icmp .le 44, 3) := DJ7_rangeCheck_23922_0.2.2.1
theorem dJ7_rangeCheck_23922_5 : decode cJ7_rangeCheck_23922 5 = .ok (.new 43, 3) := DJ7_rangeCheck_23922_0.2.2.2.1
theorem dJ7_rangeCheck_23922_8 : decode cJ7_rangeCheck_23922 8 = .ok (.dup, 1) := DJ7_rangeCheck_23922_0.2.2.2.2.1
theorem dJ7_rangeCheck_23922_9 : decode cJ7_rangeCheck_23922 9 = .ok (.new 45, 3) := DJ7_rangeCheck_23922_0.2.2.2.2.2.1
theorem dJ7_rangeCheck_23922_12 : decode cJ7_rangeCheck_23922 12 = .ok (.dup, 1) := DJ7_rangeCheck_23922_0.2.2.2.2.2.2.1
theorem dJ7_rangeCheck_23922_13 : decode cJ7_rangeCheck_23922 13 = .ok (.invokespecial 47, 3) := DJ7_rangeCheck_23922_0.2.2.2.2.2.2.2.1
theorem dJ7_rangeCheck_23922_16 : decode cJ7_rangeCheck_23922 16 = .ok (.ldc 48, 2) := DJ7_rangeCheck_23922_0.2.2.2.2.2.2.2.2.1
theorem dJ7_rangeCheck_23922_18 : decode cJ7_rangeCheck_23922 18 = .ok (.invokevirtual 50, 3) := DJ7_rangeCheck_23922_0.2.2.2.2.2.2.2.2.2.1
theorem dJ7_rangeCheck_23922_21 : decode cJ7_rangeCheck_23922 21 = .ok (.iload_n 1, 1) := DJ7_rangeCheck_23922_0.2.2.2.2.2.2.2.2.2.2.1
theorem dJ7_rangeCheck_23922_22 : decode cJ7_rangeCheck_23922 22 = .ok (.invokevirtual 54, 3) := DJ7_rangeCheck_23922_0.2.2.2.2.2.2.2.2.2.2.2.1
theorem dJ7_rangeCheck_23922_25 : decode cJ7_rangeCheck_23922 25 = .ok (.ldc 57, 2) := DJ7_rangeCheck_23922_0.2.2.2.2.2.2.2.2.2.2.2.2.1
theorem dJ7_rangeCheck_23922_27 : decode cJ7_rangeCheck_23922 27 = .ok (.invokevirtual 50, 3) := DJ7_rangeCheck_23922_0.2.2.2.2.2.2.2.2.2.2.2.2.2.1
theorem dJ7_rangeCheck_23922_30 : decode cJ7_rangeCheck_23922 30 = .ok (.iload_n 2, 1) := DJ7_rangeCheck_23922_0.2.2.2.2.2.2.2.2.2.2.2.2.2.2.1
theorem dJ7_rangeCheck_23922_31 : decode cJ7_rangeCheck_23922 31 = .ok (.invokevirtual 54, 3) := DJ7_rangeCheck_23922_0.2.2.2.2.2.2.2.2.2.2.2.2.2.2.2.1
theorem DJ7_rangeCheck_23922_34 : dAre cJ7_rangeCheck_23922 [(34, .ldc 59, 2), (36, .invokevirtual 50, 3), (39, .invokevirtual 61, 3), (42, .invokespecial 65, 3), (45, .athrow, 1), (46, .iload_n 1, 1), (47, .ifCond .ge 12, 3), (50, .new 68, 3), (53, .dup, 1), (54, .iload_n 1, 1), (55, .invokespecial 70, 3), (58, .athrow, 1), (59, .iload_n 2, 1), (60, .iload_n 0, 1), (61, .if_icmp .le 12, 3), (64, .new 68, 3)] := dAre0 (by decide +kernel)
theorem dJ7_rangeCheck_23922_34 : decode cJ7_rangeCheck_23922 34 = .ok (.ldc 59, 2) := DJ7_rangeCheck_23922_34.1
theorem dJ7_rangeCheck_23922_36 : decode cJ7_rangeCheck_23922 36 = .ok (.invokevirtual 50, 3) := DJ7_rangeCheck_23922_34.2.1
theorem dJ7_rangeCheck_23922_39 : decode cJ7_rangeCheck_23922 39 = .ok (.invokevirtual 61, 3) := DJ7_rangeCheck_23922_34.2.2.1
theorem dJ7_rangeCheck_23922_42 : decode cJ7_rangeCheck_23922 42 = .ok (.invokespecial 65, 3) := DJ7_rangeCheck_23922_34.2.2.2.1
theorem dJ7_rangeCheck_23922_45 : decode cJ7_rangeCheck_23922 45 = .ok (.athrow, 1) := DJ7_rangeCheck_23922_34.2.2.2.2.1
theorem dJ7_rangeCheck_23922_46 : decode cJ7_rangeCheck_23922 46 = .ok (.iload_n 1, 1) := DJ7_rangeCheck_23922_34.2.2.2.2.2.1
theorem dJ7_rangeCheck_23922_47 : decode cJ7_rangeCheck_23922 47 = .ok (.ifCond .ge 12, 3) := DJ7_rangeCheck_23922_34.2.2.2.2.2.2.1
theorem dJ7_rangeCheck_23922_50 : decode cJ7_rangeCheck_23922 50 = .ok (.new 68, 3) := DJ7_rangeCheck_23922_34.2.2.2.2.2.2.2.1
theorem dJ7_rangeCheck_23922_53 : decode cJ7_rangeCheck_23922 53 = .ok (.dup, 1) := DJ7_rangeCheck_23922_34.2.2.2.2.2.2.2.2.1
theorem dJ7_rangeCheck_23922_54 : decode cJ7_rangeCheck_23922 54 = .ok (.iload_n 1, 1) := DJ7_rangeCheck_23922_34.2.2.2.2.2.2.2.2.2.1
theorem dJ7_rangeCheck_23922_55 : decode cJ7_rangeCheck_23922 55 = .ok (.invokespecial 70, 3) := DJ7_rangeCheck_23922_34.2.2.2.2.2.2.2.2.2.2.1
theorem dJ7_rangeCheck_23922_58 : decode cJ7_rangeCheck_23922 58 = .ok (.athrow, 1) := DJ7_rangeCheck_23922_34.2.2.2.2.2.2.2.2.2.2.2.1
theorem dJ7_rangeCheck_23922_59 : decode cJ7_rangeCheck_23922 59 = .ok (.iload_n 2, 1) := DJ7_rangeCheck_23922_34.2.2.2.2.2.2.2.2.2.2.2.2.1
theorem dJ7_rangeCheck_23922_60 : decode cJ7_rangeCheck_23922 60 = .ok (.iload_n 0, 1) := DJ7_rangeCheck_23922_34.2.2.2.2.2.2.2.2.2.2.2.2.2.1
theorem dJ7_rangeCheck_23922_61 : decode cJ7_rangeCheck_23922 61 = .ok (.if_icmp .le 12, 3) := DJ7_rangeCheck_23922_34.2.2.2.2.2.2.2.2.2.2.2.2.2.2.1
theorem dJ7_rangeCheck_23922_64 : decode cJ7_rangeCheck_23922 64 = .ok (.new 68, 3) := DJ7_rangeCheck_23922_34.2.2.2.2.2.2.2.2.2.2.2.2.2.2.2.1
theorem DJ7_rangeCheck_23922_67 : dAre cJ7_rangeCheck_23922 [(67, .dup, 1), (68, .iload_n 2, 1), (69, .invokespecial 70, 3), (72, .athrow, 1), (73, .return_, 1)] := dAre0 (by decide +kernel)
theorem dJ7_rangeCheck_23922_67 : decode cJ7_rangeCheck_23922 67 = .ok (.dup, 1) := DJ7_rangeCheck_23922_67.1
theorem dJ7_rangeCheck_23922_68 : decode cJ7_rangeCheck_23922 68 = .ok (.iload_n 2, 1) := DJ7_rangeCheck_23922_67.2.1
theorem dJ7_rangeCheck_23922_69 : decode cJ7_rangeCheck_23922 69 = .ok (.invokespecial 70, 3) := DJ7_rangeCheck_23922_67.2.2.1
theorem dJ7_rangeCheck_23922_72 : decode cJ7_rangeCheck_23922 72 = .ok (.athrow, 1) := DJ7_rangeCheck_23922_67.2.2.2.1
theorem dJ7_rangeCheck_23922_73 : decode cJ7_rangeCheck_23922 73 = .ok (.return_, 1) := DJ7_rangeCheck_23922_67.2.2.2.2.1
theorem mJ7_rangeCheck_23922 : gMs yJ7_rangeCheck_23922 cJ7_rangeCheck_23922 3 none 3 := ⟨q298, q11, q299, by decide, by decide, by decide +kernel⟩
noncomputable def fJ7_rangeCheck_23922 (v0 : Int32) (v1 : Int32) (v2 : Int32) : Option (Unit) :=
  if v1 ≤ v2 then
    if (0 : Int32) ≤ v1 then
      if v2 ≤ v0 then
        some ()
      else
        none
    else
      none
  else
    none
set_option maxRecDepth 100000 in
set_option maxHeartbeats 4000000 in
theorem wJ7_rangeCheck_23922 (l : Launch) (E : gE) (hE : gDist sh E) (bk : Nat) (v0 : Int32) (v1 : Int32) (v2 : Int32) (I : gM) (J : gN) {r : Unit} (h : fJ7_rangeCheck_23922 v0 v1 v2 = some r) : Cu l sh E bk yJ7_rangeCheck_23922 cJ7_rangeCheck_23922 3 none (gR 0) [.int v0, .int v1, .int v2] I J (fun r1 I1 J1 => r1 = none ∧ I1 = I ∧ J1 = J) := by
  refine Cu.of "java/util/Arrays" rfl hE (by decide) (Nat.le_of_ble_eq_true rfl) (fun z F B e hl => ?_)
  subst hl
  unfold fJ7_rangeCheck_23922 at h
  refine g_iload_n F 1 dJ7_rangeCheck_23922_0 rfl rfl ?_
  refine g_iload_n F 2 dJ7_rangeCheck_23922_1 rfl rfl ?_
  refine u_icmp_le (tgt := 46) F dJ7_rangeCheck_23922_2 (by decide) h (fun h => ?_) (fun h => ?_)
  · refine g_iload_n F 1 dJ7_rangeCheck_23922_46 rfl rfl ?_
    refine u_if_ge (tgt := 59) F dJ7_rangeCheck_23922_47 (by decide) h (fun h => ?_) (fun h => ?_)
    · refine g_iload_n F 2 dJ7_rangeCheck_23922_59 rfl rfl ?_
      refine g_iload_n F 0 dJ7_rangeCheck_23922_60 rfl rfl ?_
      refine u_icmp_le (tgt := 73) F dJ7_rangeCheck_23922_61 (by decide) h (fun h => ?_) (fun h => ?_)
      · obtain rfl := Option.some.inj h
        exact g_vret F e dJ7_rangeCheck_23922_73 ⟨rfl, rfl, rfl⟩
      · cases h
    · cases h
  · cases h
