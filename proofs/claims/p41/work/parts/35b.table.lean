section P_35b_table
theorem dX8_table_31 : decode cX8_table 31 = .ok (.tableswitch 54 0 2 #[25, 35, 44], 25) := by decide +kernel
theorem DX8_table_0 : dAre cX8_table [(0, .aload_n 0, 1), (1, .getfield 19, 3), (4, .iload_n 1, 1), (5, .invokevirtual 159, 3), (8, .ifCond .eq 12, 3), (11, .iload_n 2, 1), (12, .ifCond .lt 8, 3), (15, .iload_n 2, 1), (16, .iconst 3, 1), (17, .if_icmp .le 13, 3), (20, .new 163, 3), (23, .dup, 1), (24, .ldc 165, 2), (26, .invokespecial 167, 3), (29, .athrow, 1), (30, .iload_n 2, 1)] := dAre0 (by decide +kernel)
theorem dX8_table_0 : decode cX8_table 0 = .ok (.aload_n 0, 1) := DX8_table_0.1
theorem dX8_table_1 : decode cX8_table 1 = .ok (.getfield 19, 3) := DX8_table_0.2.1
theorem dX8_table_4 : decode cX8_table 4 = .ok (.iload_n 1, 1) := DX8_table_0.2.2.1
theorem dX8_table_5 : decode cX8_table 5 = .ok (.invokevirtual 159, 3) := DX8_table_0.2.2.2.1
theorem dX8_table_8 : decode cX8_table 8 = .ok (.ifCond .eq 12, 3) := DX8_table_0.2.2.2.2.1
theorem dX8_table_11 : decode cX8_table 11 = .ok (.iload_n 2, 1) := DX8_table_0.2.2.2.2.2.1
theorem dX8_table_12 : decode cX8_table 12 = .ok (.ifCond .lt 8, 3) := DX8_table_0.2.2.2.2.2.2.1
theorem dX8_table_15 : decode cX8_table 15 = .ok (.iload_n 2, 1) := DX8_table_0.2.2.2.2.2.2.2.1
theorem dX8_table_16 : decode cX8_table 16 = .ok (.iconst 3, 1) := DX8_table_0.2.2.2.2.2.2.2.2.1
theorem dX8_table_17 : decode cX8_table 17 = .ok (.if_icmp .le 13, 3) := DX8_table_0.2.2.2.2.2.2.2.2.2.1
theorem dX8_table_20 : decode cX8_table 20 = .ok (.new 163, 3) := DX8_table_0.2.2.2.2.2.2.2.2.2.2.1
theorem dX8_table_23 : decode cX8_table 23 = .ok (.dup, 1) := DX8_table_0.2.2.2.2.2.2.2.2.2.2.2.1
theorem dX8_table_24 : decode cX8_table 24 = .ok (.ldc 165, 2) := DX8_table_0.2.2.2.2.2.2.2.2.2.2.2.2.1
theorem dX8_table_26 : decode cX8_table 26 = .ok (.invokespecial 167, 3) := DX8_table_0.2.2.2.2.2.2.2.2.2.2.2.2.2.1
theorem dX8_table_29 : decode cX8_table 29 = .ok (.athrow, 1) := DX8_table_0.2.2.2.2.2.2.2.2.2.2.2.2.2.2.1
theorem dX8_table_30 : decode cX8_table 30 = .ok (.iload_n 2, 1) := DX8_table_0.2.2.2.2.2.2.2.2.2.2.2.2.2.2.2.1
theorem DX8_table_56 : dAre cX8_table [(56, .aload_n 0, 1), (57, .getfield 19, 3), (60, .getfield 170, 3), (63, .iload_n 1, 1), (64, .iaload, 1), (65, .ireturn, 1), (66, .aload_n 0, 1), (67, .getfield 19, 3), (70, .iload_n 1, 1), (71, .invokevirtual 173, 3), (74, .ireturn, 1), (75, .aload_n 0, 1), (76, .getfield 19, 3), (79, .getfield 176, 3), (82, .iload_n 1, 1), (83, .iaload, 1)] := dAre0 (by decide +kernel)
theorem dX8_table_56 : decode cX8_table 56 = .ok (.aload_n 0, 1) := DX8_table_56.1
theorem dX8_table_57 : decode cX8_table 57 = .ok (.getfield 19, 3) := DX8_table_56.2.1
theorem dX8_table_60 : decode cX8_table 60 = .ok (.getfield 170, 3) := DX8_table_56.2.2.1
theorem dX8_table_63 : decode cX8_table 63 = .ok (.iload_n 1, 1) := DX8_table_56.2.2.2.1
theorem dX8_table_64 : decode cX8_table 64 = .ok (.iaload, 1) := DX8_table_56.2.2.2.2.1
theorem dX8_table_65 : decode cX8_table 65 = .ok (.ireturn, 1) := DX8_table_56.2.2.2.2.2.1
theorem dX8_table_66 : decode cX8_table 66 = .ok (.aload_n 0, 1) := DX8_table_56.2.2.2.2.2.2.1
theorem dX8_table_67 : decode cX8_table 67 = .ok (.getfield 19, 3) := DX8_table_56.2.2.2.2.2.2.2.1
theorem dX8_table_70 : decode cX8_table 70 = .ok (.iload_n 1, 1) := DX8_table_56.2.2.2.2.2.2.2.2.1
theorem dX8_table_71 : decode cX8_table 71 = .ok (.invokevirtual 173, 3) := DX8_table_56.2.2.2.2.2.2.2.2.2.1
theorem dX8_table_74 : decode cX8_table 74 = .ok (.ireturn, 1) := DX8_table_56.2.2.2.2.2.2.2.2.2.2.1
theorem dX8_table_75 : decode cX8_table 75 = .ok (.aload_n 0, 1) := DX8_table_56.2.2.2.2.2.2.2.2.2.2.2.1
theorem dX8_table_76 : decode cX8_table 76 = .ok (.getfield 19, 3) := DX8_table_56.2.2.2.2.2.2.2.2.2.2.2.2.1
theorem dX8_table_79 : decode cX8_table 79 = .ok (.getfield 176, 3) := DX8_table_56.2.2.2.2.2.2.2.2.2.2.2.2.2.1
theorem dX8_table_82 : decode cX8_table 82 = .ok (.iload_n 1, 1) := DX8_table_56.2.2.2.2.2.2.2.2.2.2.2.2.2.2.1
theorem dX8_table_83 : decode cX8_table 83 = .ok (.iaload, 1) := DX8_table_56.2.2.2.2.2.2.2.2.2.2.2.2.2.2.2.1
theorem DX8_table_84 : dAre cX8_table [(84, .ireturn, 1), (85, .aload_n 0, 1), (86, .getfield 19, 3), (89, .iload_n 1, 1), (90, .invokevirtual 179, 3), (93, .ifCond .eq 7, 3), (96, .iconst 1, 1), (97, .goto 4, 3), (100, .iconst 0, 1), (101, .ireturn, 1)] := dAre0 (by decide +kernel)
theorem dX8_table_84 : decode cX8_table 84 = .ok (.ireturn, 1) := DX8_table_84.1
theorem dX8_table_85 : decode cX8_table 85 = .ok (.aload_n 0, 1) := DX8_table_84.2.1
theorem dX8_table_86 : decode cX8_table 86 = .ok (.getfield 19, 3) := DX8_table_84.2.2.1
theorem dX8_table_89 : decode cX8_table 89 = .ok (.iload_n 1, 1) := DX8_table_84.2.2.2.1
theorem dX8_table_90 : decode cX8_table 90 = .ok (.invokevirtual 179, 3) := DX8_table_84.2.2.2.2.1
theorem dX8_table_93 : decode cX8_table 93 = .ok (.ifCond .eq 7, 3) := DX8_table_84.2.2.2.2.2.1
theorem dX8_table_96 : decode cX8_table 96 = .ok (.iconst 1, 1) := DX8_table_84.2.2.2.2.2.2.1
theorem dX8_table_97 : decode cX8_table 97 = .ok (.goto 4, 3) := DX8_table_84.2.2.2.2.2.2.2.1
theorem dX8_table_100 : decode cX8_table 100 = .ok (.iconst 0, 1) := DX8_table_84.2.2.2.2.2.2.2.2.1
theorem dX8_table_101 : decode cX8_table 101 = .ok (.ireturn, 1) := DX8_table_84.2.2.2.2.2.2.2.2.2.1
theorem DL_table_0 : dAre cL_table [(0, .aload_n 3, 1), (1, .iconst 0, 1), (2, .aload_n 0, 1), (3, .iload_n 1, 1), (4, .iload_n 2, 1), (5, .invokevirtual 7, 3), (8, .i2l, 1), (9, .lastore, 1), (10, .goto 7, 3), (13, .astore 4, 2), (15, .iconst 1, 1), (16, .ireturn, 1), (17, .iconst 0, 1), (18, .ireturn, 1)] := dAre0 (by decide +kernel)
theorem dL_table_0 : decode cL_table 0 = .ok (.aload_n 3, 1) := DL_table_0.1
theorem dL_table_1 : decode cL_table 1 = .ok (.iconst 0, 1) := DL_table_0.2.1
theorem dL_table_2 : decode cL_table 2 = .ok (.aload_n 0, 1) := DL_table_0.2.2.1
theorem dL_table_3 : decode cL_table 3 = .ok (.iload_n 1, 1) := DL_table_0.2.2.2.1
theorem dL_table_4 : decode cL_table 4 = .ok (.iload_n 2, 1) := DL_table_0.2.2.2.2.1
theorem dL_table_5 : decode cL_table 5 = .ok (.invokevirtual 7, 3) := DL_table_0.2.2.2.2.2.1
theorem dL_table_8 : decode cL_table 8 = .ok (.i2l, 1) := DL_table_0.2.2.2.2.2.2.1
theorem dL_table_9 : decode cL_table 9 = .ok (.lastore, 1) := DL_table_0.2.2.2.2.2.2.2.1
theorem dL_table_10 : decode cL_table 10 = .ok (.goto 7, 3) := DL_table_0.2.2.2.2.2.2.2.2.1
theorem dL_table_13 : decode cL_table 13 = .ok (.astore 4, 2) := DL_table_0.2.2.2.2.2.2.2.2.2.1
theorem dL_table_15 : decode cL_table 15 = .ok (.iconst 1, 1) := DL_table_0.2.2.2.2.2.2.2.2.2.2.1
theorem dL_table_16 : decode cL_table 16 = .ok (.ireturn, 1) := DL_table_0.2.2.2.2.2.2.2.2.2.2.2.1
theorem dL_table_17 : decode cL_table 17 = .ok (.iconst 0, 1) := DL_table_0.2.2.2.2.2.2.2.2.2.2.2.2.1
theorem dL_table_18 : decode cL_table 18 = .ok (.ireturn, 1) := DL_table_0.2.2.2.2.2.2.2.2.2.2.2.2.2.1
theorem mX8_table : gMv yX8_table cX8_table 3 (some .int) RX8 2 := ⟨q768, q769, q1, q770, rfl, by decide, by decide, by decide +kernel⟩
/-- table of the class: an answer, or none (it throws) -/
noncomputable def fT8 (v1 v2 : Int32) (I : gM) : Option (Option Int32) :=
  (fX5_isTable 3 v1 I).bind fun r1 =>
  if r1 = 0 then some none
  else if v2 < 0 then some none
  else if v2 ≤ 3 then
    if v2 = 0 then (rI 4 (I 4) v1).bind fun u => some (some u)
    else if v2 = 1 then (fX5_lettersOf 3 v1 I).bind fun r => some (some r)
    else if v2 = 2 then (rI 4 (I 5) v1).bind fun u => some (some u)
    else (fX5_isUsed 3 v1 I).bind fun r => if r = 0 then some (some 0) else some (some 1)
  else some none
section JXC
variable {p : Program} {l : Launch} {e : Env} {R : Room} {s : State} {m : MethodId} {args : Array Value} {below : List Frame} {meth : Method} {c : Code} {H : Heap} {locs : List Loc} {cells slots : Nat} {Q : State → Prop} {ls : Array Slot} {rest : List Value}
theorem vx_athrow {cc : ByteArray} {pc : Nat} (hexec : p.tables.exec = Jvm.exec) (hb : c.code = cc) {q : Addr} (hdg : decode cc pc = .ok (.athrow, 1)) (k : vx_W p l e R s m args below meth c H locs cells slots Q (F0 m pc ls rest) q) : W p l e R s m args below meth c H locs cells slots Q (F0 m pc ls (.ref q :: rest)) := by
  intro T hT X
  obtain ⟨t, st, hq⟩ := k T hT X
  refine ⟨t, ?_, hq⟩
  have hdg' : decode c.code pc = .ok (.athrow, 1) := by rw [hb]; exact hdg
  jvm_step X.here [X.here.top, hexec, hdg', athrow.wp_sem]
  exact st
end JXC
abbrev jx_Pc (E : gE) (bk sa : Nat) (I : gM) (J : gN) (av : List Value) : Array Value → State → Prop := va_Pc av (fun U => va_P E.1 vwCl (g_w sh E I J) U.heap ∧ va_K E.1 vwCl (g_ty E) U ∧ jx_X (gA sh E) sa U.heap U ∧ bX (gA sh E) bk U.heap U)
abbrev jx_Qc (E : gE) (y : Option Int32) (I : gM) (J : gN) : Array Value → State → Outcome → State → Prop := va_Qi (fun (r : Int32) (_ : Unit) => y = some r) (fun _ t => va_P E.1 vwCl (g_w sh E I J) t.heap) (gA sh E)
abbrev jx_XC (E : gE) (y : Option Int32) (I : gM) (J : gN) : String → State → State → Prop := vx_X (fun _ : Unit => y = none) (fun C _ t => C = jxC ∧ va_P E.1 vwCl (g_w sh E I J) t.heap) (gA sh E)
theorem jx_blind {E : gE} {bk sa : Nat} {I : gM} {J : gN} {av : List Value} : FrameBlind (jx_Pc E bk sa I J av) := fun a U g mk q => by
  obtain ⟨q0, qP, qK, qX, qB⟩ := q
  exact ⟨q0, qP, va_K.moved (u := U) (U := U.calling g mk a) (Vm.Alike.refl U.vm) qK, jx_X.same (u := U) rfl qX, bX.same (u := U) (Vm.Alike.refl U.vm) qB⟩
/-- what the walk of table stands on -/
def jxF (z : gZ) (E : gE) (y : Option Int32) (I : gM) (J : gN) : Prop := zQ z = vx_MQ (zb z) (jx_Qc E y I J) (jx_XC E y I J) (za z) (zs z) 1 6 (gA sh E) ∧ zA z = gA sh E ∧ (∀ x ∈ (zc z).exceptionTable.toList, False) ∧ (zh z).locks = false ∧ (zh z).sig.returnType = some .int ∧ zk z = 0 ∧ zn z = 0
theorem jx_end {z : gZ} {E : gE} {y : Option Int32} {I : gM} {J : gN} {L : List (Nat × Value)} {sa : Nat} (F : Fx z sh E "LeapJoin" cX8_table ({ frames := 7, cells := 1, slots := 6, locals := 448 } : Room) 3) (hfl : (zl z).stackTraces = false) (hX : jx_X (gA sh E) sa (zs z).heap (zs z)) (h : jxF z E y I J) (hy : y = none) : G z 20 L [] I J := by
  obtain ⟨hQ, hzA, hnt, hlk, _, hk0, hn0⟩ := h
  obtain ⟨hx, hb, hml, hown, hts, hK, hD, hkk, hL, hR, hS0, hE0⟩ := F
  intro H locs ls hP hS hl
  rw [hzA] at hS
  rw [hS0, hE0] at hP
  unfold gW
  rw [hQ]
  refine jx_make (l := zl z) hx hb hfl hown hts hX hS (hl.1.trans (hL.trans hml.symm)) dX8_table_20 dX8_table_23 dX8_table_24 dX8_table_26 (by rw [hR]; exact Nat.le_of_ble_eq_true rfl) (by rw [hR]; exact Nat.le_of_ble_eq_true rfl) (by rw [hR, hk0]; exact Nat.le_of_ble_eq_true rfl) (by rw [hR, hn0]; exact Nat.le_of_ble_eq_true rfl) (fun q ce H1 h1 h2 h3 h4 h5 hS1 => ?_)
  refine vx_athrow hx hb dX8_table_29 ?_
  exact vx_out (fun x hx => (hnt x hx).elim) hlk h1 h2 h3 (fun t ht hvm => ⟨(), hy, ⟨rfl, by rw [ht]; exact hP.kept (fun k x hk => h5 x.1 (hP k x hk).lt)⟩, hS1.F ht⟩) hS1.2.2 (by rw [hk0]; exact Nat.le_refl _) (by rw [hn0]; exact Nat.le_refl _)
theorem jx_iret {z : gZ} {E : gE} {y : Option Int32} {I : gM} {J : gN} {L : List (Nat × Value)} {v : Int32} {pc : Nat} (F : Fx z sh E "LeapJoin" cX8_table ({ frames := 7, cells := 1, slots := 6, locals := 448 } : Room) 3) (h : jxF z E y I J) (hy : y = some v) (hd : decode cX8_table pc = .ok (.ireturn, 1)) : G z pc L [.int v] I J := by
  obtain ⟨hQ, hzA, hnt, hlk, hrt, hk0, hn0⟩ := h
  obtain ⟨hx, hb, hml, hown, hts, hK, hD, hkk, hL, hR, hS0, hE0⟩ := F
  intro H locs ls hP hS hl
  rw [hzA] at hS
  rw [hS0, hE0] at hP
  unfold gW
  rw [hQ, hk0, hn0]
  refine W.widen (k := 1) (n := 6) (Nat.zero_le _) (Nat.zero_le _) ?_
  refine vx_ret ?_
  exact W.iret (v := v) hx hb hrt (fun t ht hW => ⟨⟨v, (), rfl, hy, by show va_P _ _ _ t.heap; rw [ht]; exact hP⟩, hS.F ht⟩) hS.2.2 hd hlk
set_option maxRecDepth 100000 in
set_option maxHeartbeats 4000000 in
theorem kX8_table (l : Launch) (hfl : l.stackTraces = false) (E : gE) (hE : gDist sh E) (bk sa : Nat) (a1 a2 : Int32) (I : gM) (J : gN) {y : Option Int32} (h : fT8 a1 a2 I = some y) : vx_Met l yX8_table (gws yX8_table cX8_table 3 (some .int)) ({ frames := 7, cells := 1, slots := 6, locals := 448 } : Room) (jx_Pc E bk sa I J [.ref (E.2.1 0), .int a1, .int a2]) (jx_Qc E y I J) (jx_XC E y I J) 1 6 (gA sh E) := by
  have key : ∀ z : gZ, Fx z sh E "LeapJoin" cX8_table ({ frames := 7, cells := 1, slots := 6, locals := 448 } : Room) 3 → bZ z bk → (zl z).stackTraces = false → jx_X (gA sh E) sa (zs z).heap (zs z) → jxF z E y I J → G z 0 [(0, .ref (E.2.1 0)), (1, .int a1), (2, .int a2)] [] I J := by
    intro z F B hfl hX hF
    unfold fT8 at h
    refine g_aload_n F 0 dX8_table_0 rfl rfl ?_
    refine g_getr (j := 1) (nn := 3) F s0 rfl rfl uX8 (by decide) q170 dX8_table_1 ?_
    refine g_iload_n F 1 dX8_table_4 rfl rfl ?_
    refine u_callV (k := 3) (As := [.int a1]) (rest := []) (sn := fun r1 => [.int r1]) F B (fun _ => wX5_isTable (zl z) E hE bk 3 a1 shX5_3 I J) mX5_isTable q412 rfl shX5_3.1 rfl rfl rfl (Nat.le_of_ble_eq_true rfl) dX8_table_5 (fun _ => rfl) h (fun r1 h => ?_)
    refine u_if_eq (tgt := 20) F dX8_table_8 (by decide) h (fun h => ?_) (fun h => ?_)
    · exact jx_end F hfl hX hF (Option.some.inj h).symm
    refine g_iload_n F 2 dX8_table_11 rfl rfl ?_
    refine u_if_lt (tgt := 20) F dX8_table_12 (by decide) h (fun h => ?_) (fun h => ?_)
    · exact jx_end F hfl hX hF (Option.some.inj h).symm
    refine g_iload_n F 2 dX8_table_15 rfl rfl ?_
    refine g_iconst (v := 3) F dX8_table_16 (by decide) ?_
    refine u_icmp_le (tgt := 30) F dX8_table_17 (by decide) h (fun h => ?_) (fun h => ?_)
    · refine g_iload_n F 2 dX8_table_30 rfl rfl ?_
      rcases oi h with ⟨c0, h⟩ | ⟨c0, h⟩
      · refine g_tableIn (tgt := 56) F dX8_table_31 (by rw [c0]; decide) (by rw [c0]; decide) (by rw [c0]; rfl) (by decide) ?_
        refine g_aload_n F 0 dX8_table_56 rfl rfl ?_
        refine g_getr (j := 1) (nn := 3) F s0 rfl rfl uX8 (by decide) q170 dX8_table_57 ?_
        refine g_getr (j := 3) (nn := 4) F s3 rfl rfl uX5 (by decide) q57 dX8_table_60 ?_
        refine g_iload_n F 1 dX8_table_63 rfl rfl ?_
        refine u_rI F s4 (by decide) dX8_table_64 h (fun u h => ?_)
        exact jx_iret F hF (Option.some.inj h).symm dX8_table_65
      rcases oi h with ⟨c1, h⟩ | ⟨c1, h⟩
      · refine g_tableIn (tgt := 66) F dX8_table_31 (by rw [c1]; decide) (by rw [c1]; decide) (by rw [c1]; rfl) (by decide) ?_
        refine g_aload_n F 0 dX8_table_66 rfl rfl ?_
        refine g_getr (j := 1) (nn := 3) F s0 rfl rfl uX8 (by decide) q170 dX8_table_67 ?_
        refine g_iload_n F 1 dX8_table_70 rfl rfl ?_
        refine u_callV (k := 3) (As := [.int a1]) (rest := []) (sn := fun r1 => [.int r1]) F B (fun _ => wX5_lettersOf (zl z) E hE bk 3 a1 shX5_3 I J) mX5_lettersOf q813 rfl shX5_3.1 rfl rfl rfl (Nat.le_of_ble_eq_true rfl) dX8_table_71 (fun _ => rfl) h (fun r1 h => ?_)
        exact jx_iret F hF (Option.some.inj h).symm dX8_table_74
      rcases oi h with ⟨c2', h⟩ | ⟨c2', h⟩
      · refine g_tableIn (tgt := 75) F dX8_table_31 (by rw [c2']; decide) (by rw [c2']; decide) (by rw [c2']; rfl) (by decide) ?_
        refine g_aload_n F 0 dX8_table_75 rfl rfl ?_
        refine g_getr (j := 1) (nn := 3) F s0 rfl rfl uX8 (by decide) q170 dX8_table_76 ?_
        refine g_getr (j := 4) (nn := 5) F s3 rfl rfl uX5 (by decide) q61 dX8_table_79 ?_
        refine g_iload_n F 1 dX8_table_82 rfl rfl ?_
        refine u_rI F s5 (by decide) dX8_table_83 h (fun u h => ?_)
        exact jx_iret F hF (Option.some.inj h).symm dX8_table_84
      · have n0 : a2.toInt ≠ 0 := fun q => c0 (Int32.toInt_inj.mp q)
        have n1 : a2.toInt ≠ 1 := fun q => c1 (Int32.toInt_inj.mp q)
        have n2 : a2.toInt ≠ 2 := fun q => c2' (Int32.toInt_inj.mp q)
        refine g_tableOut (tgt := 85) F dX8_table_31 (by omega) (by decide) ?_
        refine g_aload_n F 0 dX8_table_85 rfl rfl ?_
        refine g_getr (j := 1) (nn := 3) F s0 rfl rfl uX8 (by decide) q170 dX8_table_86 ?_
        refine g_iload_n F 1 dX8_table_89 rfl rfl ?_
        refine u_callV (k := 3) (As := [.int a1]) (rest := []) (sn := fun r1 => [.int r1]) F B (fun _ => wX5_isUsed (zl z) E hE bk 3 a1 shX5_3 I J) mX5_isUsed q454 rfl shX5_3.1 rfl rfl rfl (Nat.le_of_ble_eq_true rfl) dX8_table_90 (fun _ => rfl) h (fun r1 h => ?_)
        refine u_if_eq (tgt := 100) F dX8_table_93 (by decide) h (fun h => ?_) (fun h => ?_)
        · refine g_iconst (v := 0) F dX8_table_100 (by decide) ?_
          exact jx_iret F hF (Option.some.inj h).symm dX8_table_101
        · refine g_iconst (v := 1) F dX8_table_96 (by decide) ?_
          refine g_goto (tgt := 101) F dX8_table_97 (by decide) ?_
          exact jx_iret F hF (Option.some.inj h).symm dX8_table_101
    · exact jx_end F hfl hX hF (Option.some.inj h).symm
  refine vx_ofW (cc := cX8_table) (maxL := 3) (ret := some .int) (by decide) rfl ?_
  intro p e s m args below meth c s₁ B hml hnt hv
  obtain ⟨rfl, hP, hK, hX, hB⟩ := hv
  have hts := atoms_spec (ws := gws yX8_table cX8_table 3 (some .int)) B.pre
  have hl := lv_entry [.ref (E.2.1 0), .int a1, .int a2] (n := 3) (Nat.le_of_ble_eq_true rfl)
  rw [lg_entry_eq]
  exact key ((p, l, e, (headSpec (gws yX8_table cX8_table 3 (some .int)) ({ frames := 7, cells := 1, slots := 6, locals := 448 } : Room)).room, s, m, [Value.ref (E.2.1 0), .int a1, .int a2].toArray, below, meth, c), (0, 0, vx_MQ below (jx_Qc E y I J) (jx_XC E y I J) [Value.ref (E.2.1 0), .int a1, .int a2].toArray s 1 6 (gA sh E)), (sh, E), gA sh E, 3)
    ⟨B.exec, B.bytes, hml, findClass_of_methodNamed B.named, fun w h => hts w (List.mem_cons_of_mem _ h), hK, g_D hE (fun k hk => ⟨k, hk, rfl⟩), ⟨Nat.zero_le _, Nat.zero_le _⟩, rfl, rfl, rfl, rfl⟩ hB hfl hX ⟨rfl, rfl, hnt, B.notSynchronized, B.returns, rfl, rfl⟩ s.heap [] _ hP va_S.rf hl
abbrev jx_hh : List (Nat × Nat × Nat × Nat) := [(0, 10, 13, 13)]
abbrev jx_wsL : List Cond := Cond.codeWith yL_table cL_table 5 (some .int) jx_hh :: gw
abbrev jx_avL (E : gE) (a1 a2 : Int32) : List Value := [.ref (E.2.1 0), .int a1, .int a2, .ref (E.2.1 90)]
/-- what the law's table answers, and the row that it writes -/
def jr (y : Option Int32) : Int32 := match y with
  | none => 1
  | some _ => 0
def jJ (J : gN) (y : Option Int32) : gN := match y with
  | none => J
  | some v => g_up J 90 0 v.toInt64
abbrev jx_QL (E : gE) (y : Option Int32) (I : gM) (J : gN) : Array Value → State → Outcome → State → Prop := va_Qi (fun (r : Int32) (_ : Unit) => r = jr y) (fun _ t => va_P E.1 vwCl (g_w sh E I (jJ J y)) t.heap) (gA sh E)
abbrev jx_XN : String → State → State → Prop := vx_X (fun _ : Unit => False) (fun _ _ _ => True) (fun _ => False)
set_option maxRecDepth 100000 in
set_option maxHeartbeats 4000000 in
/-- the law's table behind an answer -/
theorem jl_back {z : gZ} {E : gE} {I : gM} {J : gN} {v a1 a2 : Int32} (F : Fx z sh E RL cL_table ({ frames := 8, cells := 1, slots := 6, locals := 512 } : Room) 5) (hQ : zQ z = vx_MQ (zb z) (jx_QL E (some v) I J) jx_XN (za z) (zs z) 1 6 (gA sh E)) (hzA : zA z = gA sh E) (hrt : (zh z).sig.returnType = some .int) (hlk : (zh z).locks = false) (hk0 : zk z = 1) (hn0 : zn z = 6) : G z 8 [(0, .ref (E.2.1 0)), (1, .int a1), (2, .int a2), (3, .ref (E.2.1 90))] [.int v, .int 0, .ref (E.2.1 90)] I J := by
  refine g_i2l (v := v.toInt64) F dL_table_8 rfl ?_
  refine g_last (k := 90) (n := 1) F 0 s90 rfl (by decide) (by decide) dL_table_9 ?_
  refine g_goto (tgt := 17) F dL_table_10 (by decide) ?_
  refine g_iconst (v := 0) F dL_table_17 (by decide) ?_
  obtain ⟨hx, hb, hml, hown, hts, hK, hD, hkk, hL, hR, hS0, hE0⟩ := F
  intro H locs ls hP hS hl
  rw [hzA] at hS
  rw [hS0, hE0] at hP
  unfold gW
  rw [hQ, hk0, hn0]
  refine vx_ret ?_
  exact W.iret (v := 0) hx hb hrt (fun t ht hW => ⟨⟨0, (), rfl, rfl, by show va_P _ _ _ t.heap; rw [ht]; exact hP⟩, hS.F ht⟩) hS.2.2 dL_table_18 hlk
set_option maxRecDepth 100000 in
set_option maxHeartbeats 4000000 in
/-- the law's table: 0 and the answer laid, or 1 -/
theorem kL_table (l : Launch) (hfl : l.stackTraces = false) (E : gE) (hE : gDist sh E) (bk sa : Nat) (a1 a2 : Int32) (I : gM) (J : gN) {y : Option Int32} (h : fT8 a1 a2 I = some y) : vx_Met l yL_table jx_wsL ({ frames := 8, cells := 1, slots := 6, locals := 512 } : Room) (jx_Pc E bk sa I J (jx_avL E a1 a2)) (jx_QL E y I J) jx_XN 1 6 (gA sh E) := by
  refine vx_ofWH (cc := cL_table) (maxL := 5) (ret := some .int) (hh := jx_hh) (by decide) rfl ?_
  intro p e s m args below meth c s₁ B hml hv
  obtain ⟨rfl, hP, hK, hX, hB⟩ := hv
  have hx := B.exec
  have hb := B.bytes
  have hts := atoms_spec (ws := jx_wsL) B.pre
  have hg : ∀ w ∈ gw, w.before (jx_avL E a1 a2).toArray s = true := fun w h => hts w (List.mem_cons_of_mem _ h)
  have hown : s.vm.findClass RL = some m.cls := findClass_of_methodNamed B.named
  have htab := vx_table (x := yL_table) B (hts _ List.mem_cons_self)
  have hl := lv_entry (jx_avL E a1 a2) (n := 5) (Nat.le_of_ble_eq_true rfl)
  rw [lg_entry_eq]
  generalize (lg_sl (jx_avL E a1 a2) ++ List.replicate (5 - (lg_sl (jx_avL E a1 a2)).length) Slot.unset).toArray = ls at hl ⊢
  have hl : lv_has ls 5 [(0, .ref (E.2.1 0)), (1, .int a1), (2, .int a2), (3, .ref (E.2.1 90))] := hl
  refine lv_aload_n hx hb dL_table_0 rfl (lv_at hl 3 rfl) ?_
  refine lv_iconst (v := 0) hx hb dL_table_1 (by decide) ?_
  refine lv_aload_n hx hb dL_table_2 rfl (lv_at hl 0 rfl) ?_
  refine lv_iload_n hx hb dL_table_3 rfl (lv_at hl 1 rfl) ?_
  refine lv_iload_n hx hb dL_table_4 rfl (lv_at hl 2 rfl) ?_
  obtain ⟨m1, m2, m3, m4, m5, m6, m7, m8⟩ := mX8_table
  have cw : CallW (headSpec jx_wsL ({ frames := 8, cells := 1, slots := 6, locals := 512 } : Room)).room s (jx_avL E a1 a2).toArray RL RX8 7 yX8_table cX8_table 3 (some .int) (gws yX8_table cX8_table 3 (some .int)) ({ frames := 7, cells := 1, slots := 6, locals := 448 } : Room) 1 6 2 :=
    ⟨callB_of 2 hg (gw_good0 m4) rfl rfl rfl (hg _ m3) (hg _ q767) ⟨m6, m7, m8⟩ ⟨Nat.le_of_ble_eq_true rfl, Nat.le_of_ble_eq_true rfl⟩, hg _ m1, hg _ m2⟩
  refine vx_calli (vx_runV (As := [.int a1, .int a2]) (rest := [.int 0, .ref (E.2.1 90)]) ⟨hx, hb, hml, hown, hg⟩ (kX8_table l hfl E hE bk sa a1 a2 I J h) cw ⟨jx_blind, va_recv hK hP (ci := 8) (q0 := 0) rfl (g_get s0), fun U hU hW => ⟨rfl, by rw [hU]; exact hP, va_K.moved hW.alike hK, by rw [hU]; exact jx_X.warm hW hX, by rw [hU]; exact bX.same hW.alike hB⟩⟩ rfl rfl hl.1 rfl (lv_room (Nat.le_of_ble_eq_true rfl)) dL_table_5 ⟨Nat.le_of_ble_eq_true rfl, Nat.le_of_ble_eq_true rfl⟩) (va_S.rf (A := gA sh E)) (fun _ _ h => h) (fun _ h => h) (fun _ _ h => h) (fun C ce q9 u t H1 locs1 ht hvm hpx hBX hz hk hS1 hce hcv hcl => ?_) (fun r u t H1 locs1 ht hvm hpost hB1 hz hk hS1 => ?_)
  · obtain ⟨rfl, hP1⟩ := hBX
    have hpx : y = none := hpx
    subst hpx
    rw [ht] at hP1
    refine vx_catch hown [] ⟨0, 10, 13, 13⟩ [] (htab.trans rfl) (fun z hz => absurd hz List.not_mem_nil) (by decide) (by decide) (hg _ q766) (va_Nw.use rfl hX.2.2.2.1) hce hcv hcl ?_
    refine lv_astore (lv' := [(4, .ref q9), (0, .ref (E.2.1 0)), (1, .int a1), (2, .int a2), (3, .ref (E.2.1 90))]) hx hb dL_table_13 hl (by decide) rfl (fun ls hl => ?_)
    refine lv_iconst (v := 1) hx hb dL_table_15 (by decide) ?_
    refine vx_ret ?_
    exact W.iret (v := 1) hx hb B.returns (fun t ht hW => ⟨⟨1, (), rfl, rfl, by show va_P _ _ _ t.heap; rw [ht]; exact hP1⟩, hS1.F ht⟩) hS1.2.2 dL_table_16 B.notSynchronized
  · have hpost : y = some r := hpost
    subst hpost
    have hB1 : va_P E.1 vwCl (g_w sh E I J) t.heap := hB1
    rw [ht] at hB1
    exact jl_back (z := ((p, l, e, (headSpec jx_wsL ({ frames := 8, cells := 1, slots := 6, locals := 512 } : Room)).room, s, m, (jx_avL E a1 a2).toArray, below, meth, c), (1, 6, vx_MQ below (jx_QL E (some r) I J) jx_XN (jx_avL E a1 a2).toArray s 1 6 (gA sh E)), (sh, E), gA sh E, 5)) ⟨hx, hb, hml, hown, hg, hK, g_D hE (fun k hk => ⟨k, hk, rfl⟩), ⟨Nat.le_of_ble_eq_true rfl, Nat.le_of_ble_eq_true rfl⟩, rfl, rfl, rfl, rfl⟩ rfl rfl B.returns B.notSynchronized rfl rfl H1 locs1 ls hB1 hS1 hl
end P_35b_table
section P_35c_table0
theorem t_T8 {I0 I : gM} (hM : MI true I0 I) (v1 v2 : Int32) : T (fT8 v1 v2 I) (fun _ => True) := by
  unfold fT8
  have q0 := hM.at (k := 3) (j := 0) (lo := 0) (hi := 4) rfl
  refine t_bindE (tfX5_isTable 3 v1 I kX5_3 hM) (fun r e p => ?_)
  refine t_ite (fun c => t_ret trivial) (fun c => ?_)
  have c' := mt (iEQ (a := r) (b := (0 : Int32)) rfl (by decide : (0 : Int32).toInt = 0)).mpr c
  have pv := p.2.resolve_left c'
  refine t_ite (fun _ => t_ret trivial) (fun c2 => ?_)
  refine t_ite (fun c3 => ?_) (fun _ => t_ret trivial)
  refine t_ite (fun _ => ?_) (fun _ => ?_)
  · rw [nI_self (x := v1) (by omega)]
    exact t_be (rI_n (by omega) (by omega)) (t_ret trivial)
  refine t_ite (fun _ => ?_) (fun _ => ?_)
  · exact t_bind (tfX5_lettersOf 3 v1 I kX5_3 hM (by omega)) (fun _ _ => t_ret trivial)
  refine t_ite (fun _ => ?_) (fun _ => ?_)
  · rw [nI_self (x := v1) (by omega)]
    exact t_be (rI_n (by omega) (by omega)) (t_ret trivial)
  · exact t_bind (tfX5_isUsed 3 v1 I kX5_3 hM) (fun _ _ => t_ite (fun _ => t_ret trivial) (fun _ => t_ret trivial))
theorem both_table {I : gM} (h : Inv0 I) (v1 v2 : Int32) : ∃ y b, fT8 v1 v2 I = some y ∧ fX9_table v1 v2 I = some b ∧ Inv0 b.2 := by
  obtain ⟨y, e1, _⟩ := t_T8 h.1 v1 v2
  obtain ⟨b, e2, hMb⟩ := tfX9_table v1 v2 I h.1.re
  have f9 := xfX9_table _ _ _ e2
  have hAb : A9 b.2 := h.2.1.same (f9 62 17 (Or.inr (by decide))) (f9 62 29 (Or.inr (by decide))) (f9 62 42 (Or.inr (by decide))) (fun k hk => funext fun j => f9 k j (Or.inl (by omega)))
  exact ⟨y, b, e1, e2, h.id8 hMb hAb (f9 62 2 (Or.inr (by decide))) (f9 62 12 (Or.inr (by decide))) (fun j => f9 63 j (Or.inl (by decide)))⟩
theorem rgNow_0 (j : Nat) : (rgNow j).1 ≤ 0 ∧ 0 ≤ (rgNow j).2 := by
  unfold rgNow
  repeat' split
  all_goals exact ⟨by decide, by decide⟩
theorem rg_0 (k j : Nat) : (rg k j).1 ≤ 0 ∧ 0 ≤ (rg k j).2 := by
  unfold rg
  split <;> first | exact rgNow_0 _ | exact ⟨by decide, by decide⟩ | (split <;> exact ⟨by decide, by decide⟩)
theorem mi_g0 : MI true g0 g0 := ⟨fun k j => rg_0 k j, fun _ _ => rfl⟩
theorem a9_g0 : A9 g0 := ⟨fun t ht => absurd ht (Nat.not_lt_zero t), fun a ha => absurd ha (Nat.not_lt_zero a), fun h => absurd rfl h⟩
theorem inv0_g0 : Inv0 g0 := ⟨mi_g0, a9_g0, ⟨0, by decide, rfl, rfl, fun j hj => absurd hj (Nat.not_lt_zero j)⟩, rfl⟩
end P_35c_table0
section P_35r_40a_keys
theorem it_l {σ ρ : Type} {step : σ → Option (σ ⊕ ρ)} {s s' : σ} (h : step s = some (.inl s')) : itO step s = itO step s' := by rw [itO_eq, h]; rfl
theorem it_r {σ ρ : Type} {step : σ → Option (σ ⊕ ρ)} {s : σ} {r : ρ} (h : step s = some (.inr r)) : itO step s = some r := by rw [itO_eq, h]; rfl
/-! rows as numbers: seven bits for each column, the first one the highest -/
theorem fa_or (a b : Nat) : nI a ||| nI b = nI (a ||| b) := by
  apply Int32.toBitVec_inj.1
  show BitVec.ofNat 32 a ||| BitVec.ofNat 32 b = BitVec.ofNat 32 (a ||| b)
  apply BitVec.eq_of_getLsbD_eq
  intro i hi
  simp [hi]
theorem fa_or_sum {a k : Nat} (b : Nat) (h : a < 2 ^ k) : nI (2 ^ k * b) ||| nI a = nI (2 ^ k * b + a) := by rw [fa_or, Nat.two_pow_add_eq_or_of_lt h]
def pk3 (x y z : Nat) : Nat := 16384 * x + (128 * y + z)
def dgt (c k : Nat) : Nat := if c = 0 then k / 16384 else if c = 1 then k / 128 % 128 else k % 128
theorem dgt_0 (k : Nat) : dgt 0 k = k / 16384 := rfl
theorem dgt_1 (k : Nat) : dgt 1 k = k / 128 % 128 := rfl
theorem dgt_2 (k : Nat) : dgt 2 k = k % 128 := rfl
theorem dgt_pk {x y z : Nat} (hy : y < 128) (hz : z < 128) : dgt 0 (pk3 x y z) = x ∧ dgt 1 (pk3 x y z) = y ∧ dgt 2 (pk3 x y z) = z := by
  rw [dgt_0, dgt_1, dgt_2]
  unfold pk3
  omega
theorem pk_dgt (k : Nat) : pk3 (dgt 0 k) (dgt 1 k) (dgt 2 k) = k := by
  rw [dgt_0, dgt_1, dgt_2]
  unfold pk3
  omega
/-- a row of a table of wd letters -/
def kOK (wd k : Nat) : Prop := dgt 0 k ≤ 99 ∧ (1 < wd → dgt 1 k ≤ 99) ∧ (wd ≤ 1 → dgt 1 k = 0) ∧ (2 < wd → dgt 2 k ≤ 99) ∧ (wd ≤ 2 → dgt 2 k = 0)
theorem kOK.lt {wd k : Nat} (h : kOK wd k) : k < 2097152 := by
  have := h.1
  rw [dgt_0] at this
  omega
theorem kOK.d {wd k c : Nat} (h : kOK wd k) : dgt c k ≤ 127 := by
  have := h.lt
  unfold dgt
  split
  · omega
  · split <;> omega
/-- the number behind an int, nought if it is less -/
def kn (x : Int32) : Nat := x.toInt.toNat
theorem mX_nn (x : Int32) : mX x 0 = nI (kn x) := by
  unfold mX kn
  by_cases h : x < 0
  · have := (iLT (a := x) (b := 0) rfl (by decide : (0 : Int32).toInt = 0)).mp h
    rw [if_pos h, Int.toNat_of_nonpos (by omega)]; rfl
  · have := mt (iLT (a := x) (b := 0) rfl (by decide : (0 : Int32).toInt = 0)).mpr h
    rw [if_neg h]; exact nI_self (by omega)
def kyz (x y z : Int32) : Nat := pk3 (kn x) (kn y) (kn z)
theorem n_pk {a b c : Nat} (ha : a < 128) (hb : b < 128) (hc : c < 128) : ((nI a <<< 14) ||| (nI b <<< 7)) ||| nI c = nI (pk3 a b c) := by
  rw [pk_shlN 14 14 (by decide) (by omega), pk_shlN 7 7 (by decide) (by omega), show a * 2 ^ 14 = 2 ^ 14 * a by omega, fa_or_sum (k := 14) a (by omega), show 2 ^ 14 * a + b * 2 ^ 7 = 2 ^ 7 * (2 ^ 7 * a + b) by omega, fa_or_sum (k := 7) _ (by omega)]
  congr 1
  unfold pk3
  omega
theorem n_packed {x y z : Int32} (hx : kn x < 128) (hy : kn y < 128) (hz : kn z < 128) : fX5_packed x y z = some (nI (kyz x y z)) := by
  unfold fX5_packed
  rw [mX_nn, mX_nn, mX_nn, n_pk hx hy hz]; rfl
theorem nn_99 {x : Int32} (h : 0 ≤ x.toInt ∧ x.toInt ≤ 99) : kn x ≤ 99 ∧ x = nI (kn x) := ⟨by unfold kn; omega, nI_self h.1⟩
theorem nn_m1 : kn (-1) = 0 := by decide
theorem colOK.kn9 {k w : Nat} {y : Int32} (h : colOK k w y) : (k < w → kn y ≤ 99 ∧ y = nI (kn y)) ∧ (w ≤ k → kn y = 0 ∧ y = -1) :=
  ⟨fun c => nn_99 (h.1 c), fun c => by rw [h.2 c]; exact ⟨nn_m1, rfl⟩⟩
theorem row_k {wd : Nat} {x y z : Int32} (h : rowOK wd x y z) : kOK wd (kyz x y z) ∧ (kn x < 128 ∧ kn y < 128 ∧ kn z < 128) ∧ dgt 0 (kyz x y z) = kn x ∧ dgt 1 (kyz x y z) = kn y ∧ dgt 2 (kyz x y z) = kn z := by
  obtain ⟨h1, h2, h3⟩ := h
  have a := nn_99 h1
  have b := h2.kn9
  have c := h3.kn9
  have b' : kn y ≤ 99 := by
    rcases Nat.lt_or_ge 1 wd with q | q
    · exact (b.1 q).1
    · rw [(b.2 q).1]; decide
  have c' : kn z ≤ 99 := by
    rcases Nat.lt_or_ge 2 wd with q | q
    · exact (c.1 q).1
    · rw [(c.2 q).1]; decide
  obtain ⟨d0, d1, d2⟩ := dgt_pk (x := kn x) (y := kn y) (z := kn z) (by omega) (by omega)
  refine ⟨⟨?_, fun q => ?_, fun q => ?_, fun q => ?_, fun q => ?_⟩, ⟨by omega, by omega, by omega⟩, d0, d1, d2⟩
  · show dgt 0 (pk3 _ _ _) ≤ 99
    rw [d0]; exact a.1
  · show dgt 1 (pk3 _ _ _) ≤ 99
    rw [d1]; exact b'
  · show dgt 1 (pk3 _ _ _) = 0
    rw [d1]; exact (b.2 q).1
  · show dgt 2 (pk3 _ _ _) ≤ 99
    rw [d2]; exact c'
  · show dgt 2 (pk3 _ _ _) = 0
    rw [d2]; exact (c.2 q).1
/-! lists of rows, rising -/
def insA : Nat → Nat → List Nat → List Nat
  | 0, k, l => k :: l
  | i + 1, k, a :: l => a :: insA i k l
  | _ + 1, k, [] => [k]
def delA : Nat → List Nat → List Nat
  | 0, _ :: l => l
  | i + 1, a :: l => a :: delA i l
  | _, [] => []
theorem insA_len {k : Nat} : ∀ {i : Nat} {l : List Nat}, (insA i k l).length = l.length + 1
  | 0, l => rfl
  | i + 1, a :: l => by
    show (insA i k l).length + 1 = l.length + 1 + 1
    rw [insA_len]
  | i + 1, [] => rfl
theorem delA_len : ∀ {i : Nat} {l : List Nat}, i < l.length → (delA i l).length = l.length - 1
  | 0, _ :: l, _ => rfl
  | i + 1, a :: l, h => by
    have h : i + 1 < l.length + 1 := h
    show (delA i l).length + 1 = l.length + 1 - 1
    rw [delA_len (by omega)]; omega
  | 0, [], h => absurd h (Nat.not_lt_zero _)
  | i + 1, [], h => absurd h (Nat.not_lt_zero _)
theorem insA_get {k : Nat} : ∀ {i : Nat} {l : List Nat} (j : Nat), i ≤ l.length → (insA i k l).getD j 0 = if j < i then l.getD j 0 else if j = i then k else l.getD (j - 1) 0
  | 0, l, 0, _ => rfl
  | 0, l, j + 1, _ => rfl
  | i + 1, [], j, h => absurd h (Nat.not_succ_le_zero _)
  | i + 1, a :: l, 0, _ => rfl
  | i + 1, a :: l, j + 1, h => by
    have h : i + 1 ≤ l.length + 1 := h
    show (insA i k l).getD j 0 = _
    rw [insA_get j (by omega)]
    by_cases c1 : j < i
    · rw [if_pos c1, if_pos (by omega)]; rfl
    · rw [if_neg c1, if_neg (show ¬ j + 1 < i + 1 by omega)]
      by_cases c2 : j = i
      · rw [if_pos c2, if_pos (show j + 1 = i + 1 by omega)]
      · rw [if_neg c2, if_neg (show ¬ j + 1 = i + 1 by omega)]
        obtain ⟨j', rfl⟩ : ∃ j', j = j' + 1 := ⟨j - 1, by omega⟩
        rfl
theorem delA_get : ∀ {i : Nat} {l : List Nat} (j : Nat), i < l.length → (delA i l).getD j 0 = if j < i then l.getD j 0 else l.getD (j + 1) 0
  | 0, [], j, h => absurd h (Nat.not_lt_zero _)
  | i + 1, [], j, h => absurd h (Nat.not_lt_zero _)
  | 0, _ :: l, j, _ => rfl
  | i + 1, a :: l, 0, _ => rfl
  | i + 1, a :: l, j + 1, h => by
    have h : i + 1 < l.length + 1 := h
    show (delA i l).getD j 0 = _
    rw [delA_get j (by omega)]
    by_cases c1 : j < i
    · rw [if_pos c1, if_pos (by omega)]; rfl
    · rw [if_neg c1, if_neg (by omega)]; rfl
theorem del_ins {k : Nat} : ∀ {i : Nat} {l : List Nat}, i ≤ l.length → delA i (insA i k l) = l
  | 0, l, _ => rfl
  | i + 1, [], h => absurd h (Nat.not_succ_le_zero _)
  | i + 1, a :: l, h => congrArg (a :: ·) (del_ins (Nat.le_of_succ_le_succ h))
theorem ins_del : ∀ {i : Nat} {l : List Nat}, i < l.length → insA i (l.getD i 0) (delA i l) = l
  | 0, [], h => absurd h (Nat.not_lt_zero _)
  | i + 1, [], h => absurd h (Nat.not_lt_zero _)
  | 0, _ :: l, _ => rfl
  | i + 1, a :: l, h => congrArg (a :: ·) (ins_del (Nat.lt_of_succ_lt_succ h))
def srt (l : List Nat) : Prop := ∀ i j, i < j → j < l.length → l.getD i 0 < l.getD j 0
/-- i rows stand ahead of k -/
def posK (k : Nat) (l : List Nat) (i : Nat) : Prop := i ≤ l.length ∧ (∀ j, j < i → l.getD j 0 < k) ∧ ∀ j, i ≤ j → j < l.length → k ≤ l.getD j 0
theorem posK.eq {k : Nat} {l : List Nat} {i j : Nat} (h : posK k l i) (h' : posK k l j) : i = j := by
  obtain ⟨a1, a2, a3⟩ := h
  obtain ⟨b1, b2, b3⟩ := h'
  rcases Nat.lt_trichotomy i j with q | q | q
  · have := b2 i q
    have := a3 i (Nat.le_refl _) (by omega)
    omega
  · exact q
  · have := a2 j q
    have := b3 j (Nat.le_refl _) (by omega)
    omega
/-- of a list that rises: a place with no less from there on -/
theorem posK.of {k : Nat} {l : List Nat} {i : Nat} (hs : srt l) (h1 : i ≤ l.length) (h2 : ∀ j, j < i → l.getD j 0 < k) (h3 : i < l.length → k ≤ l.getD i 0) : posK k l i := by
  refine ⟨h1, h2, fun j a b => ?_⟩
  have q := h3 (by omega)
  rcases Nat.lt_or_ge i j with c | c
  · have := hs i j c b
    omega
  · rw [show j = i by omega]; exact q
theorem posK.at {k : Nat} {l : List Nat} {i : Nat} (hs : srt l) (hi : i < l.length) (e : l.getD i 0 = k) : posK k l i :=
  posK.of hs (by omega) (fun j hj => by have := hs j i hj hi; omega) (fun _ => by omega)
theorem srt_ins {k : Nat} {l : List Nat} {i : Nat} (hs : srt l) (h : posK k l i) (hn : ¬ (i < l.length ∧ l.getD i 0 = k)) : srt (insA i k l) := by
  obtain ⟨h1, h2, h3⟩ := h
  have h4 : ∀ j, i ≤ j → j < l.length → k < l.getD j 0 := by
    intro j a b
    have := h3 j a b
    rcases Nat.lt_or_ge k (l.getD j 0) with c | c
    · exact c
    · exfalso
      rcases Nat.lt_or_ge i j with d | d
      · have := hs i j d b
        have := h3 i (Nat.le_refl _) (by omega)
        omega
      · have : j = i := by omega
        subst this
        exact hn ⟨b, by omega⟩
  intro a b hab hb
  rw [insA_len] at hb
  rw [insA_get a h1, insA_get b h1]
  by_cases c1 : b < i
  · rw [if_pos (by omega), if_pos c1]; exact hs a b hab (by omega)
  · rw [if_neg c1]
    by_cases c2 : b = i
    · rw [if_pos c2, if_pos (by omega)]; exact h2 a (by omega)
    · rw [if_neg c2]
      by_cases d1 : a < i
      · rw [if_pos d1]
        have := h2 a d1
        have := h4 (b - 1) (by omega) (by omega)
        omega
      · rw [if_neg d1]
        by_cases d2 : a = i
        · rw [if_pos d2]; exact h4 (b - 1) (by omega) (by omega)
        · rw [if_neg d2]; exact hs (a - 1) (b - 1) (by omega) (by omega)
theorem srt_del {l : List Nat} {i : Nat} (hs : srt l) (hi : i < l.length) : srt (delA i l) := by
  intro a b hab hb
  rw [delA_len hi] at hb
  rw [delA_get a hi, delA_get b hi]
  by_cases c1 : b < i
  · rw [if_pos (by omega), if_pos c1]; exact hs a b hab (by omega)
  · rw [if_neg c1]
    by_cases c2 : a < i
    · rw [if_pos c2]; exact hs a (b + 1) (by omega) (by omega)
    · rw [if_neg c2]; exact hs (a + 1) (b + 1) (by omega) (by omega)
theorem getD_mem {l : List Nat} {i : Nat} (h : i < l.length) : l.getD i 0 ∈ l := by
  rw [List.getD_eq_getElem?_getD, List.getElem?_eq_getElem h]; exact List.getElem_mem h
theorem insA_all {P : Nat → Prop} {k i : Nat} {l : List Nat} (hk : P k) (h : ∀ j, j < l.length → P (l.getD j 0)) (hi : i ≤ l.length) : ∀ j, j < (insA i k l).length → P ((insA i k l).getD j 0) := by
  intro j hj
  rw [insA_len] at hj
  rw [insA_get j hi]
  by_cases c1 : j < i
  · rw [if_pos c1]; exact h j (by omega)
  · rw [if_neg c1]
    by_cases c2 : j = i
    · rw [if_pos c2]; exact hk
    · rw [if_neg c2]; exact h (j - 1) (by omega)
theorem delA_all {P : Nat → Prop} {i : Nat} {l : List Nat} (h : ∀ j, j < l.length → P (l.getD j 0)) (hi : i < l.length) : ∀ j, j < (delA i l).length → P ((delA i l).getD j 0) := by
  intro j hj
  rw [delA_len hi] at hj
  rw [delA_get j hi]
  by_cases c1 : j < i
  · rw [if_pos c1]; exact h j (by omega)
  · rw [if_neg c1]; exact h (j + 1) (by omega)
end P_35r_40a_keys
section P_35r_40b_tabs8
/-! the class's tables as lists -/
/-- the rows of table t of the tables at cell k -/
def CTt (I : gM) (k t : Nat) (ks : List Nat) : Prop := I (k + 2) t = nI ks.length ∧ ∀ i, i < ks.length → I (k + 4) (12 * t + i) = nI (ks.getD i 0)
theorem CTt.cong {I r : gM} {k t : Nat} {ks : List Nat} (h : CTt I k t ks) (e1 : r (k + 2) t = I (k + 2) t) (e2 : ∀ i, i < ks.length → r (k + 4) (12 * t + i) = I (k + 4) (12 * t + i)) : CTt r k t ks := ⟨e1.trans h.1, fun i hi => (e2 i hi).trans (h.2 i hi)⟩
theorem c_rowAt {I : gM} {k t i : Nat} {ks : List Nat} (ht : t < 4) (hl : ks.length ≤ 12) (h : CTt I k t ks) (hi : i < ks.length) : fX5_rowAt k (nI t) (nI i) I = some (nI (ks.getD i 0)) := by
  unfold fX5_rowAt
  rw [L12, nI_mul, nI_add, rI_n (by omega) (by omega), obs, show t * 12 + i = 12 * t + i by omega, h.2 i hi]
theorem c_placeOf {I : gM} {k t q : Nat} {ks : List Nat} (ht : t < 4) (hl : ks.length ≤ 12) (h : CTt I k t ks) (hq : q < 2097152) (hk : ∀ i, i < ks.length → ks.getD i 0 < 2097152) :
    (∃ i, i < ks.length ∧ ks.getD i 0 = q ∧ fX5_placeOf k (nI t) (nI q) I = some (nI i)) ∨ ((∀ i, i < ks.length → ks.getD i 0 ≠ q) ∧ fX5_placeOf k (nI t) (nI q) I = some (-1)) := by
  have key : ∀ (m s : Nat), ks.length - s = m → s ≤ ks.length → (∀ j, j < s → ks.getD j 0 ≠ q) → (∃ i, i < ks.length ∧ ks.getD i 0 = q ∧ lX5_placeOf_2 k (nI t) (nI q) I (nI s) = some (.inl (nI i))) ∨ ((∀ i, i < ks.length → ks.getD i 0 ≠ q) ∧ lX5_placeOf_2 k (nI t) (nI q) I (nI s) = some (.inr ())) := by
    intro m
    induction m with
    | zero =>
      intro s hm hs hn
      refine Or.inr ⟨fun i hi => hn i (by omega), ?_⟩
      unfold lX5_placeOf_2
      refine it_r ?_
      rw [rI_n ht (by omega), obs, h.1, if_pos ((nI_leI (by omega) (by omega)).mpr (by omega))]
    | succ m ih =>
      intro s hm hs hn
      have hr := c_rowAt (i := s) ht hl h (by omega)
      have hks := hk s (by omega)
      by_cases c : ks.getD s 0 = q
      · refine Or.inl ⟨s, by omega, c, ?_⟩
        unfold lX5_placeOf_2
        refine it_r ?_
        rw [rI_n ht (by omega), obs, h.1, if_neg (mt (nI_leI (by omega) (by omega)).mp (by omega)), hr, obs, if_pos (by rw [c])]
      · have e : lX5_placeOf_2 k (nI t) (nI q) I (nI s) = lX5_placeOf_2 k (nI t) (nI q) I (nI (s + 1)) := by
          unfold lX5_placeOf_2
          refine it_l ?_
          rw [rI_n ht (by omega), obs, h.1, if_neg (mt (nI_leI (by omega) (by omega)).mp (by omega)), hr, obs, if_neg (fun z => c (nI_inj z (by omega) (by omega))), nI_1]
        rw [e]
        exact ih (s + 1) (by omega) (by omega) (fun j hj => by
          rcases (by omega : j < s ∨ j = s) with z | z
          · exact hn j z
          · rw [z]; exact c)
  unfold fX5_placeOf
  rw [L0]
  rcases key _ 0 rfl (by omega) (fun j hj => by omega) with ⟨i, h1, h2, h3⟩ | ⟨h1, h3⟩
  · rw [h3]; exact Or.inl ⟨i, h1, h2, rfl⟩
  · rw [h3]; exact Or.inr ⟨h1, rfl⟩
theorem c_isTable {I : gM} {k n : Nat} (hn : n ≤ 4) (e : I k 0 = nI n) (v : Int32) : (∃ t, t < n ∧ v = nI t ∧ fX5_isTable k v I = some 1) ∨ ((∀ t, t < n → v ≠ nI t) ∧ fX5_isTable k v I = some 0) := by
  unfold fX5_isTable
  rw [e]
  by_cases c : v < 0
  · have c' := (iLT (a := v) (b := 0) rfl (by decide : (0 : Int32).toInt = 0)).mp c
    rw [if_pos c]
    exact Or.inr ⟨fun t ht z => by rw [z, tnI (by omega)] at c'; omega, rfl⟩
  · have c' := mt (iLT (a := v) (b := 0) rfl (by decide : (0 : Int32).toInt = 0)).mpr c
    rw [if_neg c]
    have ev := nI_self (x := v) (by omega)
    by_cases d : nI n ≤ v
    · rw [if_pos d]
      refine Or.inr ⟨fun t ht z => ?_, rfl⟩
      rw [z] at d
      have := (nI_leI (by omega) (by omega)).mp d
      omega
    · rw [if_neg d]
      refine Or.inl ⟨v.toInt.toNat, ?_, ev, rfl⟩
      have h2 := mt (iLE (a := nI n) (b := v) (tnI (by omega)) rfl).mpr d
      omega
/-- the places of an insertion: k + 4 as written -/
def iw (w : Nat → Int32) (t m i : Nat) (q : Int32) : Nat → Int32 := fun a => if a = 12 * t + i then q else if 12 * t + i < a ∧ a ≤ 12 * t + m then w (a - 1) else w a
theorem c_insert {I : gM} {k n t q : Nat} {ks : List Nat} (hn : n ≤ 4) (e : I k 0 = nI n) (ht : t < n) (hl : ks.length ≤ 11) (h : CTt I k t ks) (hq : q < 2097152) (hk : ∀ i, i < ks.length → ks.getD i 0 < 2097152) (hs : srt ks) (hno : ∀ i, i < ks.length → ks.getD i 0 ≠ q) :
    ∃ i r, fX5_insert k (nI t) (nI q) I = some r ∧ posK q ks i ∧ (∀ x, x ≠ k + 2 → x ≠ k + 4 → r x = I x) ∧ (∀ a, r (k + 2) a = if a = t then nI (ks.length + 1) else I (k + 2) a) ∧ ∀ a, r (k + 4) a = iw (I (k + 4)) t ks.length i (nI q) a := by
  have h1 : fX5_isTable k (nI t) I = some 1 := by
    rcases c_isTable hn e (nI t) with ⟨_, _, _, z⟩ | ⟨z, _⟩
    · exact z
    · exact absurd rfl (z t ht)
  have h2 : fX5_placeOf k (nI t) (nI q) I = some (-1) := by
    rcases c_placeOf (by omega) (by omega) h hq hk with ⟨i, a, b, _⟩ | ⟨_, z⟩
    · exact absurd b (hno i a)
    · exact z
  -- the loop: rows from i on moved by one
  have key : ∀ (s : Nat) (M : gM), s ≤ ks.length → (∀ x, x ≠ k + 4 → M x = I x) → (∀ a, M (k + 4) a = if 12 * t + s < a ∧ a ≤ 12 * t + ks.length then I (k + 4) (a - 1) else I (k + 4) a) → (∀ j, s ≤ j → j < ks.length → q < ks.getD j 0) →
      ∃ i N, lX5_insert_45 k (nI q) (nI (12 * t)) (nI (12 * t + s), M) = some (nI (12 * t + i), N) ∧ posK q ks i ∧ (∀ x, x ≠ k + 4 → N x = I x) ∧ ∀ a, N (k + 4) a = if 12 * t + i < a ∧ a ≤ 12 * t + ks.length then I (k + 4) (a - 1) else I (k + 4) a := by
    intro s
    induction s with
    | zero =>
      intro M _ m1 m2 m3
      refine ⟨0, M, ?_, ⟨by omega, fun j hj => by omega, fun j _ hj => Nat.le_of_lt (m3 j (by omega) hj)⟩, m1, m2⟩
      unfold lX5_insert_45
      refine it_r ?_
      dsimp only
      rw [if_pos ((nI_leI (by omega) (by omega)).mpr (by omega))]
    | succ s ih =>
      intro M hs1 m1 m2 m3
      have er : M (k + 4) (12 * t + s) = nI (ks.getD s 0) := by rw [m2, if_neg (by omega)]; exact h.2 s (by omega)
      have hks := hk s (by omega)
      by_cases c : ks.getD s 0 ≤ q
      · have cl : ks.getD s 0 < q := by have := hno s (by omega); omega
        refine ⟨s + 1, M, ?_, ⟨hs1, fun j hj => ?_, fun j a b => Nat.le_of_lt (m3 j a b)⟩, m1, m2⟩
        · unfold lX5_insert_45
          refine it_r ?_
          dsimp only
          rw [if_neg (mt (nI_leI (by omega) (by omega)).mp (by omega)), nI_s1 (by omega), rI_n (by omega) (by omega), obs, show 12 * t + (s + 1) - 1 = 12 * t + s by omega, er, if_pos ((nI_leI (by omega) (by omega)).mpr c)]
        · rcases (by omega : j < s ∨ j = s) with z | z
          · have := hs j s z (by omega)
            omega
          · rw [z]; exact cl
      · have e2 : lX5_insert_45 k (nI q) (nI (12 * t)) (nI (12 * t + (s + 1)), M) = lX5_insert_45 k (nI q) (nI (12 * t)) (nI (12 * t + s), g_up M (k + 4) (12 * t + (s + 1)) (nI (ks.getD s 0))) := by
          unfold lX5_insert_45
          refine it_l ?_
          dsimp only
          rw [if_neg (mt (nI_leI (by omega) (by omega)).mp (by omega)), nI_s1 (by omega), rI_n (by omega) (by omega), obs, show 12 * t + (s + 1) - 1 = 12 * t + s by omega, er, if_neg (mt (nI_leI (by omega) (by omega)).mp c), obs, wI_n (by omega) (by omega), obs, nI_dec (by omega), show 12 * t + (s + 1) - 1 = 12 * t + s by omega]
        rw [e2]
        refine ih _ (by omega) (fun x hx => by rw [g_up_row hx]; exact m1 x hx) (fun a => ?_) (fun j a b => ?_)
        · rw [gu_in, m2]
          by_cases d : a = 12 * t + (s + 1)
          · rw [if_pos d, if_pos (by omega), d, show 12 * t + (s + 1) - 1 = 12 * t + s by omega]
            exact (h.2 s (by omega)).symm
          · rw [if_neg d]
            by_cases d2 : 12 * t + (s + 1) < a ∧ a ≤ 12 * t + ks.length
            · rw [if_pos d2, if_pos (by omega)]
            · rw [if_neg d2, if_neg (by omega)]
        · rcases (by omega : s + 1 ≤ j ∨ j = s) with z | z
          · exact m3 j z b
          · rw [z]; omega
  obtain ⟨i, N, e1, hp, n1, n2⟩ := key ks.length I (Nat.le_refl _) (fun _ _ => rfl) (fun a => by rw [if_neg (by omega)]) (fun j a b => by omega)
  have hi := hp.1
  have nk : N (k + 2) = I (k + 2) := n1 _ (by omega)
  refine ⟨i, g_up (g_up N (k + 4) (12 * t + i) (nI q)) (k + 2) t (nI (ks.length + 1)), ?_, hp, ?_, ?_, ?_⟩
  · unfold fX5_insert bX5_insert_86
    rw [h1, obs, if_neg n10, rI_n (by omega) (by omega), obs, h.1, L12, if_neg (mt (nI_leI (by omega) (by omega)).mp (by omega)), h2, obs, if_pos rfl, obs, nI_mul, nI_add, show t * 12 = 12 * t by omega, e1, obs]
    dsimp only
    rw [wI_n (by omega) (by omega), obs, rI_n (by omega) (by omega), obs, g_up_row (by omega), nk, h.1, nI_1, wI_n (by omega) (by omega), obs]
  · intro x a b
    rw [g_up_row a, g_up_row b]; exact n1 x b
  · intro a
    rw [gu_in, g_up_row (by omega), nk]
  · intro a
    rw [g_up_row (by omega), gu_in, n2]; rfl
theorem c_remove {I : gM} {k n t q i : Nat} {ks : List Nat} (hn : n ≤ 4) (e : I k 0 = nI n) (ht : t < n) (hl : ks.length ≤ 12) (h : CTt I k t ks) (hk : ∀ i, i < ks.length → ks.getD i 0 < 2097152) (hs : srt ks) (hi : i < ks.length) (hq : ks.getD i 0 = q) :
    ∃ r, fX5_remove k (nI t) (nI q) I = some r ∧ (∀ x, x ≠ k + 2 → x ≠ k + 4 → r x = I x) ∧ (∀ a, r (k + 2) a = if a = t then nI (ks.length - 1) else I (k + 2) a) ∧ ∀ a, r (k + 4) a = if 12 * t + i ≤ a ∧ a < 12 * t + (ks.length - 1) then I (k + 4) (a + 1) else I (k + 4) a := by
  have h1 : fX5_isTable k (nI t) I = some 1 := by
    rcases c_isTable hn e (nI t) with ⟨_, _, _, z⟩ | ⟨z, _⟩
    · exact z
    · exact absurd rfl (z t ht)
  have h2 : fX5_placeOf k (nI t) (nI q) I = some (nI i) := by
    rcases c_placeOf (q := q) (by omega) (by omega) h (by rw [← hq]; exact hk i hi) hk with ⟨i', a, b, z⟩ | ⟨z, _⟩
    · rcases Nat.lt_trichotomy i i' with c | c | c
      · have := hs i i' c a
        omega
      · rw [c]; exact z
      · have := hs i' i c hi
        omega
    · exact absurd hq (z i hi)
  have key : ∀ (m s : Nat) (M : gM), ks.length - 1 - s = m → i ≤ s → s ≤ ks.length - 1 → (∀ x, x ≠ k + 2 → x ≠ k + 4 → M x = I x) → (∀ a, M (k + 2) a = if a = t then nI (ks.length - 1) else I (k + 2) a) → (∀ a, M (k + 4) a = if 12 * t + i ≤ a ∧ a < 12 * t + s then I (k + 4) (a + 1) else I (k + 4) a) →
      ∃ r, lX5_remove_56 k (nI (12 * t + (ks.length - 1))) (nI (12 * t + s), M) = some r ∧ (∀ x, x ≠ k + 2 → x ≠ k + 4 → r x = I x) ∧ (∀ a, r (k + 2) a = if a = t then nI (ks.length - 1) else I (k + 2) a) ∧ ∀ a, r (k + 4) a = if 12 * t + i ≤ a ∧ a < 12 * t + (ks.length - 1) then I (k + 4) (a + 1) else I (k + 4) a := by
    intro m
    induction m with
    | zero =>
      intro s M hm his hs1 m1 m2 m3
      have : s = ks.length - 1 := by omega
      subst this
      refine ⟨M, ?_, m1, m2, m3⟩
      unfold lX5_remove_56
      refine it_r ?_
      dsimp only
      rw [if_pos ((nI_leI (by omega) (by omega)).mpr (by omega))]
    | succ m ih =>
      intro s M hm his hs1 m1 m2 m3
      have e2 : lX5_remove_56 k (nI (12 * t + (ks.length - 1))) (nI (12 * t + s), M) = lX5_remove_56 k (nI (12 * t + (ks.length - 1))) (nI (12 * t + (s + 1)), g_up M (k + 4) (12 * t + s) (I (k + 4) (12 * t + s + 1))) := by
        unfold lX5_remove_56
        refine it_l ?_
        dsimp only
        rw [if_neg (mt (nI_leI (by omega) (by omega)).mp (by omega)), nI_1, rI_n (by omega) (by omega), obs, m3, if_neg (by omega), wI_n (by omega) (by omega), obs, show 12 * t + s + 1 = 12 * t + (s + 1) by omega]
      rw [e2]
      refine ih (s + 1) _ (by omega) (by omega) (by omega) (fun x a b => by rw [g_up_row b]; exact m1 x a b) (fun a => by rw [g_up_row (by omega)]; exact m2 a) (fun a => ?_)
      rw [gu_in, m3]
      by_cases d : a = 12 * t + s
      · rw [if_pos d, if_pos (by omega), d]
      · rw [if_neg d]
        by_cases d2 : 12 * t + i ≤ a ∧ a < 12 * t + s
        · rw [if_pos d2, if_pos (by omega)]
        · rw [if_neg d2, if_neg (by omega)]
  obtain ⟨r, e1, r1, r2, r3⟩ := key _ i (g_up I (k + 2) t (nI (ks.length - 1))) rfl (Nat.le_refl _) (by omega) (fun x a _ => g_up_row a) (fun a => gu_in) (fun a => by rw [g_up_row (by omega), if_neg (by omega)])
  refine ⟨r, ?_, r1, r2, r3⟩
  unfold fX5_remove bX5_remove_18
  rw [h1, obs, if_neg n10, h2, obs, if_neg (nI_m1 (by omega)), rI_n (by omega) (by omega), obs, h.1, nI_s1 (by omega), wI_n (by omega) (by omega), obs, rI_n (by omega) (by omega), obs, g_up_self, L12, nI_mul, nI_add, nI_add, show t * 12 = 12 * t by omega, e1, obs]
end P_35r_40b_tabs8
section P_35r_40c_tabs9
/-! the reference's tables as lists -/
def RTt (w : Nat → Int32) (t wd : Nat) (ks : List Nat) : Prop := w (2 + t) = nI ks.length ∧ ∀ i, i < ks.length → ∀ c, c < 3 → w (6 + 3 * (12 * t + i) + c) = if c < wd then nI (dgt c (ks.getD i 0)) else -1
theorem RTt.cong {w w' : Nat → Int32} {t wd : Nat} {ks : List Nat} (h : RTt w t wd ks) (e1 : w' (2 + t) = w (2 + t)) (e2 : ∀ i, i < ks.length → ∀ c, c < 3 → w' (6 + 3 * (12 * t + i) + c) = w (6 + 3 * (12 * t + i) + c)) : RTt w' t wd ks := ⟨e1.trans h.1, fun i hi c hc => (e2 i hi c hc).trans (h.2 i hi c hc)⟩
theorem sub_nI {a b : Nat} (ha : a < 1000) (hb : b < 1000) : (0 ≤ nI a - nI b ↔ b ≤ a) ∧ (nI a - nI b = 0 ↔ a = b) ∧ (nI a = nI b ↔ a = b) := by
  have e : (nI a - nI b).toInt = (a : Int) - (b : Int) := tS (tnI (by omega)) (tnI (by omega)) (by omega) (by omega)
  refine ⟨?_, ?_, fun h => nI_inj h (by omega) (by omega), fun h => by rw [h]⟩
  · rw [iLE (a := 0) (b := nI a - nI b) (by decide : (0 : Int32).toInt = 0) e]; omega
  · rw [iEQ e (by decide : (0 : Int32).toInt = 0)]; omega
/-- one column of two rows -/
theorem cmp_c {u v : Int32} {a b : Nat} (h : (u = nI a ∧ v = nI b) ∨ (u = -1 ∧ v = -1 ∧ a = 0 ∧ b = 0)) (ha : a < 1000) (hb : b < 1000) : (u = v ↔ a = b) ∧ (0 ≤ u - v ↔ b ≤ a) ∧ (u - v = 0 ↔ a = b) := by
  rcases h with ⟨rfl, rfl⟩ | ⟨rfl, rfl, rfl, rfl⟩
  · obtain ⟨h1, h2, h3⟩ := sub_nI ha hb
    exact ⟨h3, h1, h2⟩
  · exact ⟨⟨fun _ => rfl, fun _ => rfl⟩, by decide, by decide⟩
theorem cm_k {w : Nat → Int32} {t wd i : Nat} {ks : List Nat} {x y z : Int32} (hi : i < ks.length) (hR : RTt w t wd ks) (h1 : 1 ≤ wd) (hq : kOK wd (ks.getD i 0)) (hr : rowOK wd x y z) :
    (0 ≤ cm9 w t i x y z ↔ kyz x y z ≤ ks.getD i 0) ∧ (cm9 w t i x y z = 0 ↔ ks.getD i 0 = kyz x y z) := by
  have w0 := hR.2 i hi 0 (by omega)
  have w1 := hR.2 i hi 1 (by omega)
  have w2 := hR.2 i hi 2 (by omega)
  rw [if_pos (by omega), Nat.add_zero] at w0
  obtain ⟨r1, r2, r3⟩ := hr
  have a := nn_99 r1
  have b := r2.kn9
  have c := r3.kn9
  have ek : ks.getD i 0 = pk3 (dgt 0 (ks.getD i 0)) (dgt 1 (ks.getD i 0)) (dgt 2 (ks.getD i 0)) := (pk_dgt _).symm
  have d0 := hq.d (c := 0)
  have d1 := hq.d (c := 1)
  have d2 := hq.d (c := 2)
  obtain ⟨q1, q2, q3, q4, q5⟩ := hq
  generalize hd0 : dgt 0 (ks.getD i 0) = a0 at *
  generalize hd1 : dgt 1 (ks.getD i 0) = a1 at *
  generalize hd2 : dgt 2 (ks.getD i 0) = a2 at *
  have hb : kn y ≤ 99 := by
    rcases Nat.lt_or_ge 1 wd with q | q
    · exact (b.1 q).1
    · rw [(b.2 q).1]; decide
  have hc : kn z ≤ 99 := by
    rcases Nat.lt_or_ge 2 wd with q | q
    · exact (c.1 q).1
    · rw [(c.2 q).1]; decide
  have c0 := cmp_c (u := w (6 + 3 * (12 * t + i))) (v := x) (Or.inl ⟨w0, a.2⟩) (by omega) (by omega)
  have c1 := cmp_c (u := w (6 + 3 * (12 * t + i) + 1)) (v := y) (a := a1) (b := kn y) (by
    rcases Nat.lt_or_ge 1 wd with q | q
    · rw [if_pos q] at w1; exact Or.inl ⟨w1, (b.1 q).2⟩
    · rw [if_neg (by omega)] at w1; exact Or.inr ⟨w1, (b.2 q).2, q3 q, (b.2 q).1⟩) (by omega) (by omega)
  have c2 := cmp_c (u := w (6 + 3 * (12 * t + i) + 2)) (v := z) (a := a2) (b := kn z) (by
    rcases Nat.lt_or_ge 2 wd with q | q
    · rw [if_pos q] at w2; exact Or.inl ⟨w2, (c.1 q).2⟩
    · rw [if_neg (by omega)] at w2; exact Or.inr ⟨w2, (c.2 q).2, q5 q, (c.2 q).1⟩) (by omega) (by omega)
  have hl : ∀ (X Y Z : Nat), X < 128 → Y < 128 → Z < 128 → (pk3 X Y Z ≤ pk3 a0 a1 a2 ↔ (X < a0 ∨ (X = a0 ∧ (Y < a1 ∨ (Y = a1 ∧ Z ≤ a2))))) ∧ (pk3 a0 a1 a2 = pk3 X Y Z ↔ (a0 = X ∧ a1 = Y ∧ a2 = Z)) := by
    intro X Y Z _ _ _
    unfold pk3
    omega
  obtain ⟨hl1, hl2⟩ := hl (kn x) (kn y) (kn z) (by omega) (by omega) (by omega)
  rw [ek]
  show (_ ↔ pk3 (kn x) (kn y) (kn z) ≤ _) ∧ (_ ↔ _ = pk3 (kn x) (kn y) (kn z))
  rw [hl1, hl2]
  unfold cm9
  by_cases e0 : a0 = kn x
  · rw [if_pos (c0.1.mpr e0)]
    by_cases e1 : a1 = kn y
    · rw [if_pos (c1.1.mpr e1), c2.2.1, c2.2.2]
      omega
    · rw [if_neg (mt c1.1.mp e1), c1.2.1, c1.2.2]
      omega
  · rw [if_neg (mt c0.1.mp e0), c0.2.1, c0.2.2]
    omega
theorem cl_pos {w : Nat → Int32} {t wd i : Nat} {ks : List Nat} {x y z : Int32} (hR : RTt w t wd ks) (h1 : 1 ≤ wd) (hq : ∀ j, j < ks.length → kOK wd (ks.getD j 0)) (hs : srt ks) (hr : rowOK wd x y z) (h : cl9 w t ks.length x y z i) :
    posK (kyz x y z) ks i ∧ ((i < ks.length ∧ cm9 w t i x y z = 0) ↔ (i < ks.length ∧ ks.getD i 0 = kyz x y z)) := by
  obtain ⟨a, b, c⟩ := h
  refine ⟨posK.of hs a (fun j hj => ?_) (fun hi => (cm_k hi hR h1 (hq i hi) hr).1.mp (c hi)), ⟨fun q => ⟨q.1, (cm_k q.1 hR h1 (hq i q.1) hr).2.mp q.2⟩, fun q => ⟨q.1, (cm_k q.1 hR h1 (hq i q.1) hr).2.mpr q.2⟩⟩⟩
  have := mt (cm_k (by omega) hR h1 (hq j (by omega)) hr).1.mpr (b j hj)
  omega
theorem insW_R {w : Nat → Int32} {t wd i : Nat} {ks : List Nat} {x y z : Int32} (ht : t < 4) (hl : ks.length ≤ 11) (hi : i ≤ ks.length) (hR : RTt w t wd ks) (h1 : 1 ≤ wd) (hr : rowOK wd x y z) :
    RTt (insW w t ks.length i x y z) t wd (insA i (kyz x y z) ks) ∧ (∀ t', t' ≠ t → t' < 4 → ∀ wd' ks', ks'.length ≤ 12 → RTt w t' wd' ks' → RTt (insW w t ks.length i x y z) t' wd' ks') ∧ ∀ j, j < 2 ∨ 150 ≤ j → insW w t ks.length i x y z j = w j := by
  obtain ⟨_, hb, g0, g1, g2⟩ := row_k hr
  obtain ⟨r1, r2, r3⟩ := hr
  have a := nn_99 r1
  have b := r2.kn9
  have c := r3.kn9
  refine ⟨⟨?_, fun j hj e he => ?_⟩, fun t' hne ht' wd' ks' hl' hR' => ⟨?_, fun j hj e he => ?_⟩, fun j hj => ?_⟩
  · unfold insW
    rw [if_pos rfl, insA_len]
  · rw [insA_len] at hj
    rw [insA_get j hi]
    unfold insW
    rw [if_neg (by omega)]
    by_cases c1 : j = i
    · rw [if_neg (show ¬ j < i by omega), if_pos c1, c1]
      rcases (by omega : e = 0 ∨ e = 1 ∨ e = 2) with rfl | rfl | rfl
      · rw [if_pos (by omega), if_pos (by omega), g0]; exact a.2
      · rw [if_neg (by omega), if_pos rfl]
        by_cases q : 1 < wd
        · rw [if_pos q, g1]; exact (b.1 q).2
        · rw [if_neg q]; exact (b.2 (by omega)).2
      · rw [if_neg (by omega), if_neg (by omega), if_pos rfl]
        by_cases q : 2 < wd
        · rw [if_pos q, g2]; exact (c.1 q).2
        · rw [if_neg q]; exact (c.2 (by omega)).2
    · rw [if_neg (show ¬ 6 + 3 * (12 * t + j) + e = 6 + 3 * (12 * t + i) by omega), if_neg (show ¬ 6 + 3 * (12 * t + j) + e = 6 + 3 * (12 * t + i) + 1 by omega), if_neg (show ¬ 6 + 3 * (12 * t + j) + e = 6 + 3 * (12 * t + i) + 2 by omega)]
      by_cases c2 : j < i
      · rw [if_neg (by omega), if_pos c2]; exact hR.2 j (by omega) e he
      · rw [if_pos (by omega), if_neg c2, if_neg c1, show 6 + 3 * (12 * t + j) + e - 3 = 6 + 3 * (12 * t + (j - 1)) + e by omega]
        exact hR.2 (j - 1) (by omega) e he
  · unfold insW
    rw [if_neg (by omega), if_neg (by omega), if_neg (by omega), if_neg (by omega), if_neg (by omega)]; exact hR'.1
  · unfold insW
    have q : t' < t ∨ t < t' := by omega
    rw [if_neg (by omega), if_neg (by omega), if_neg (by omega), if_neg (by omega), if_neg (by omega)]; exact hR'.2 j hj e he
  · unfold insW
    rw [if_neg (by omega), if_neg (by omega), if_neg (by omega), if_neg (by omega), if_neg (by omega)]
theorem delW_R {w : Nat → Int32} {t wd i : Nat} {ks : List Nat} (ht : t < 4) (hl : ks.length ≤ 12) (hi : i < ks.length) (hR : RTt w t wd ks) :
    RTt (delW w t ks.length i) t wd (delA i ks) ∧ (∀ t', t' ≠ t → t' < 4 → ∀ wd' ks', ks'.length ≤ 12 → RTt w t' wd' ks' → RTt (delW w t ks.length i) t' wd' ks') ∧ ∀ j, j < 2 ∨ 150 ≤ j → delW w t ks.length i j = w j := by
  refine ⟨⟨?_, fun j hj e he => ?_⟩, fun t' hne ht' wd' ks' hl' hR' => ⟨?_, fun j hj e he => ?_⟩, fun j hj => ?_⟩
  · unfold delW
    rw [if_pos rfl, delA_len hi]
  · rw [delA_len hi] at hj
    rw [delA_get j hi]
    unfold delW
    rw [if_neg (by omega)]
    by_cases c2 : j < i
    · rw [if_neg (by omega), if_pos c2]; exact hR.2 j (by omega) e he
    · rw [if_pos (by omega), if_neg c2, show 6 + 3 * (12 * t + j) + e + 3 = 6 + 3 * (12 * t + (j + 1)) + e by omega]
      exact hR.2 (j + 1) (by omega) e he
  · unfold delW
    rw [if_neg (by omega), if_neg (by omega)]; exact hR'.1
  · unfold delW
    have q : t' < t ∨ t < t' := by omega
    rw [if_neg (by omega), if_neg (by omega)]; exact hR'.2 j hj e he
  · unfold delW
    rw [if_neg (by omega), if_neg (by omega)]
end P_35r_40c_tabs9
section P_35r_40d_abs
/-! the tables as they are told: of each its letters and its rows; which are used; the order -/
abbrev aT : Type := List (List Nat × List Nat) × Nat × Nat
def aL (A : aT) (t : Nat) : List Nat := (A.1.getD t ([], [])).1
def aK (A : aT) (t : Nat) : List Nat := (A.1.getD t ([], [])).2
def aSet (A : aT) (t : Nat) (l : List Nat) : aT := (A.1.set t (aL A t, l), A.2)
theorem aSet_n (A : aT) (t : Nat) (l : List Nat) : (aSet A t l).1.length = A.1.length := List.length_set
theorem aSet_g {A : aT} {t : Nat} {l : List Nat} (t' : Nat) (ht : t < A.1.length) : (aSet A t l).1.getD t' ([], []) = if t' = t then (aL A t, l) else A.1.getD t' ([], []) := by
  unfold aSet
  rw [List.getD_eq_getElem?_getD, List.getElem?_set]
  by_cases c : t = t'
  · subst c
    rw [if_pos rfl, if_pos rfl, if_pos ht]; rfl
  · rw [if_neg c, if_neg (fun z => c z.symm), List.getD_eq_getElem?_getD]
theorem aSet_L {A : aT} {t : Nat} {l : List Nat} (t' : Nat) (ht : t < A.1.length) : aL (aSet A t l) t' = aL A t' := by
  unfold aL
  rw [aSet_g t' ht]
  by_cases c : t' = t
  · rw [if_pos c, c]; rfl
  · rw [if_neg c]
theorem aSet_K {A : aT} {t : Nat} {l : List Nat} (t' : Nat) (ht : t < A.1.length) : aK (aSet A t l) t' = if t' = t then l else aK A t' := by
  unfold aK
  rw [aSet_g t' ht]
  by_cases c : t' = t
  · rw [if_pos c, if_pos c]
  · rw [if_neg c, if_neg c]
/-- a table as it can be -/
def wfT (A : aT) (t : Nat) : Prop := (1 ≤ (aL A t).length ∧ (aL A t).length ≤ 3) ∧ (∀ c, c < (aL A t).length → (aL A t).getD c 0 < 4) ∧ (∀ c d, c < d → d < (aL A t).length → (aL A t).getD c 0 ≠ (aL A t).getD d 0) ∧ (aK A t).length ≤ 12 ∧ srt (aK A t) ∧ ∀ i, i < (aK A t).length → kOK (aL A t).length ((aK A t).getD i 0)
def WF (A : aT) : Prop := A.1.length ≤ 4 ∧ A.2.1 < 2 ^ A.1.length ∧ (0 < A.1.length → 0 < A.2.1) ∧ A.2.2 < 24 ∧ ∀ t, t < A.1.length → wfT A t
/-- the class's tables at cell k -/
def CT (I : gM) (k : Nat) (A : aT) : Prop := I k 0 = nI A.1.length ∧ I k 1 = nI A.2.1 ∧ I k 2 = nI A.2.2 ∧ ∀ t, t < A.1.length → I (k + 1) t = nI (aL A t).length ∧ (∀ c, c < (aL A t).length → I (k + 3) (3 * t + c) = nI ((aL A t).getD c 0)) ∧ CTt I k t (aK A t)
/-- the reference's, of which the rows lie in w -/
def RT (I : gM) (w : Nat → Int32) (A : aT) : Prop := I 62 17 = nI A.1.length ∧ w 0 = nI A.2.1 ∧ w 1 = nI A.2.2 ∧ ∀ t, t < A.1.length → I 72 t = nI (aL A t).length ∧ (∀ c, c < (aL A t).length → I 73 (3 * t + c) = nI ((aL A t).getD c 0)) ∧ RTt w t (aL A t).length (aK A t)
theorem CT.cong {I r : gM} {k : Nat} {A : aT} (h : CT I k A) (h0 : ∀ j, j < 3 → r k j = I k j) (h1 : r (k + 1) = I (k + 1)) (h2 : r (k + 2) = I (k + 2)) (h3 : r (k + 3) = I (k + 3)) (h4 : r (k + 4) = I (k + 4)) : CT r k A :=
  ⟨by rw [h0 0 (by omega)]; exact h.1, by rw [h0 1 (by omega)]; exact h.2.1, by rw [h0 2 (by omega)]; exact h.2.2.1, fun t ht => ⟨by rw [h1]; exact (h.2.2.2 t ht).1, fun c hc => by rw [h3]; exact (h.2.2.2 t ht).2.1 c hc, (h.2.2.2 t ht).2.2.cong (by rw [h2]) (fun _ _ => by rw [h4])⟩⟩
theorem RT.cong {I r : gM} {w w' : Nat → Int32} {A : aT} (h : RT I w A) (h17 : r 62 17 = I 62 17) (h72 : r 72 = I 72) (h73 : r 73 = I 73) (hn : A.1.length ≤ 4) (hk : ∀ t, t < A.1.length → (aK A t).length ≤ 12) (hw : ∀ x, x < 150 → w' x = w x) : RT r w' A :=
  ⟨by rw [h17]; exact h.1, by rw [hw 0 (by omega)]; exact h.2.1, by rw [hw 1 (by omega)]; exact h.2.2.1, fun t ht => ⟨by rw [h72]; exact (h.2.2.2 t ht).1, fun c hc => by rw [h73]; exact (h.2.2.2 t ht).2.1 c hc, (h.2.2.2 t ht).2.2.cong (hw _ (by omega)) (fun i hi c hc => hw _ (by have := hk t ht; omega))⟩⟩
/-- an act on the tables -/
def ActA (A : aT) (s a x y z : Int32) (A' : aT) : Prop :=
  (s = 0 ∧ ∃ t i, t < A.1.length ∧ a = nI t ∧ (aK A t).length ≤ 11 ∧ rowOK (aL A t).length x y z ∧ posK (kyz x y z) (aK A t) i ∧ ¬ (i < (aK A t).length ∧ (aK A t).getD i 0 = kyz x y z) ∧ A' = aSet A t (insA i (kyz x y z) (aK A t))) ∨
  (s = 1 ∧ ∃ t i, t < A.1.length ∧ a = nI t ∧ rowOK (aL A t).length x y z ∧ i < (aK A t).length ∧ (aK A t).getD i 0 = kyz x y z ∧ A' = aSet A t (delA i (aK A t))) ∨
  (s = 2 ∧ ∃ t, t < A.1.length ∧ a = nI t ∧ A.2.1 ≠ 2 ^ t ∧ A' = (A.1, A.2.1 ^^^ 2 ^ t, A.2.2)) ∨
  (¬ s = 0 ∧ ¬ s = 1 ∧ ¬ s = 2 ∧ ∃ o, o < 24 ∧ a = nI o ∧ A.2.2 ≠ o ∧ 0 < A.1.length ∧ A' = (A.1, A.2.1, o))
theorem wfT.set {A : aT} {t : Nat} {l : List Nat} (ht : t < A.1.length) (h : wfT A t) (hl : l.length ≤ 12) (hs : srt l) (hk : ∀ i, i < l.length → kOK (aL A t).length (l.getD i 0)) : wfT (aSet A t l) t := by
  unfold wfT
  rw [aSet_L t ht, aSet_K t ht, if_pos rfl]
  exact ⟨h.1, h.2.1, h.2.2.1, hl, hs, hk⟩
theorem wfT.ne {A : aT} {t t' : Nat} {l : List Nat} (ht : t < A.1.length) (hne : t' ≠ t) (h : wfT A t') : wfT (aSet A t l) t' := by
  unfold wfT
  rw [aSet_L t' ht, aSet_K t' ht, if_neg hne]
  exact h
theorem WF.set {A : aT} {t : Nat} {l : List Nat} (h : WF A) (ht : t < A.1.length) (hl : l.length ≤ 12) (hs : srt l) (hk : ∀ i, i < l.length → kOK (aL A t).length (l.getD i 0)) : WF (aSet A t l) := by
  unfold WF
  rw [aSet_n]
  refine ⟨h.1, h.2.1, h.2.2.1, h.2.2.2.1, fun t' ht' => ?_⟩
  by_cases c : t' = t
  · subst c; exact (h.2.2.2.2 t' ht').set ht hl hs hk
  · exact (h.2.2.2.2 t' ht').ne ht c
theorem xor_lt {u t n : Nat} (hu : u < 2 ^ n) (ht : t < n) : u ^^^ 2 ^ t < 2 ^ n := Nat.xor_lt_two_pow hu (Nat.pow_lt_pow_right (by decide) ht)
theorem WF.act {A A' : aT} {s a x y z : Int32} (h : WF A) (ha : ActA A s a x y z A') : WF A' := by
  rcases ha with ⟨_, t, i, ht, _, hl, hr, hp, hne, rfl⟩ | ⟨_, t, i, ht, _, hr, hi, hq, rfl⟩ | ⟨_, t, ht, _, hu, rfl⟩ | ⟨_, _, _, o, ho, _, _, _, rfl⟩
  · obtain ⟨_, _, _, w4, w5, w6⟩ := h.2.2.2.2 t ht
    exact h.set ht (by rw [insA_len]; omega) (srt_ins w5 hp hne) (insA_all (row_k hr).1 w6 hp.1)
  · obtain ⟨_, _, _, w4, w5, w6⟩ := h.2.2.2.2 t ht
    exact h.set ht (by rw [delA_len hi]; omega) (srt_del w5 hi) (delA_all w6 hi)
  · refine ⟨h.1, xor_lt h.2.1 ht, fun _ => ?_, h.2.2.2.1, h.2.2.2.2⟩
    rcases Nat.eq_zero_or_pos (A.2.1 ^^^ 2 ^ t) with z | z
    · refine absurd ?_ hu
      have e : A.2.1 = (A.2.1 ^^^ 2 ^ t) ^^^ 2 ^ t := by rw [Nat.xor_assoc, Nat.xor_self, Nat.xor_zero]
      rw [e, z, Nat.zero_xor]
    · exact z
  · exact ⟨h.1, h.2.1, h.2.2.1, ho, h.2.2.2.2⟩
theorem one_shl : ∀ t, t < 4 → (1 : Int32) <<< (nI t &&& 31) = nI (2 ^ t) := by decide
theorem xor_nI : ∀ u, u < 16 → ∀ t, t < 4 → nI u ^^^ nI (2 ^ t) = nI (u ^^^ 2 ^ t) := by decide +kernel
theorem WF.u {A : aT} (h : WF A) : A.2.1 < 16 := Nat.lt_of_lt_of_le h.2.1 (Nat.pow_le_pow_right (n := 2) (by decide) h.1)
/-- the reference's act, as an act on the tables -/
theorem act_abs {I : gM} {w w' : Nat → Int32} {A : aT} {s a x y z : Int32} (hW : WF A) (hR : RT I w A) (h : Act9 A.1.length (I 72) w s a x y z w') : ∃ A', ActA A s a x y z A' ∧ RT I w' A' ∧ ∀ j, 150 ≤ j → w' j = w j := by
  have hu := hW.u
  have hn4 := hW.1
  have wd : ∀ t, t < A.1.length → (I 72 t).toInt.toNat = (aL A t).length := fun t ht => by
    have := (hW.2.2.2.2 t ht).1
    rw [(hR.2.2.2 t ht).1, nIt (by omega)]
  have same : ∀ (t : Nat) (l : List Nat) (w' : Nat → Int32), t < A.1.length → RTt w' t (aL A t).length l → (∀ t', t' ≠ t → t' < 4 → ∀ wd' ks', ks'.length ≤ 12 → RTt w t' wd' ks' → RTt w' t' wd' ks') → (∀ j, j < 2 ∨ 150 ≤ j → w' j = w j) → RT I w' (aSet A t l) := by
    intro t l w' ht h1 h2 h3
    refine ⟨by rw [aSet_n]; exact hR.1, by rw [h3 0 (by omega)]; exact hR.2.1, by rw [h3 1 (by omega)]; exact hR.2.2.1, fun t' ht' => ?_⟩
    rw [aSet_n] at ht'
    obtain ⟨q1, q2, q3⟩ := hR.2.2.2 t' ht'
    rw [aSet_L t' ht, aSet_K t' ht]
    refine ⟨q1, q2, ?_⟩
    by_cases c : t' = t
    · rw [if_pos c, c]; exact h1
    · rw [if_neg c]; exact h2 t' c (by omega) _ _ (hW.2.2.2.2 t' ht').2.2.2.1 q3
  rcases h with ⟨hs, t, m, i, ht, ha, hm, em, hr, hc, hne, rfl⟩ | ⟨hs, t, m, i, ht, ha, hm, em, hr, hc, hi, h0, rfl⟩ | ⟨hs, t, ht, ha, hne, rfl⟩ | ⟨h0, h1, h2, o, ho, ha, hne, hpos, rfl⟩
  · obtain ⟨w1, _, _, w4, w5, w6⟩ := hW.2.2.2.2 t ht
    have hRt := (hR.2.2.2 t ht).2.2
    have : m = (aK A t).length := nI_inj (em.symm.trans hRt.1) (by omega) (by omega)
    subst this
    rw [wd t ht] at hr
    obtain ⟨p1, p2⟩ := cl_pos hRt w1.1 w6 w5 hr hc
    obtain ⟨g1, g2, g3⟩ := insW_R (by omega) hm p1.1 hRt w1.1 hr
    exact ⟨_, Or.inl ⟨hs, t, i, ht, ha, hm, hr, p1, fun q => hne (p2.mpr q), rfl⟩, same t _ _ ht g1 g2 g3, fun j hj => g3 j (Or.inr hj)⟩
  · obtain ⟨w1, _, _, w4, w5, w6⟩ := hW.2.2.2.2 t ht
    have hRt := (hR.2.2.2 t ht).2.2
    have : m = (aK A t).length := nI_inj (em.symm.trans hRt.1) (by omega) (by omega)
    subst this
    rw [wd t ht] at hr
    obtain ⟨p1, p2⟩ := cl_pos hRt w1.1 w6 w5 hr hc
    obtain ⟨g1, g2, g3⟩ := delW_R (by omega) w4 hi hRt
    exact ⟨_, Or.inr (Or.inl ⟨hs, t, i, ht, ha, hr, hi, (p2.mp ⟨hi, h0⟩).2, rfl⟩), same t _ _ ht g1 g2 g3, fun j hj => g3 j (Or.inr hj)⟩
  · rw [one_shl t (by omega), hR.2.1] at hne
    refine ⟨_, Or.inr (Or.inr (Or.inl ⟨hs, t, ht, ha, fun z => hne (by rw [z]), rfl⟩)), ⟨hR.1, ?_, hR.2.2.1, fun t' ht' => ⟨(hR.2.2.2 t' ht').1, (hR.2.2.2 t' ht').2.1, (hR.2.2.2 t' ht').2.2.cong (by rw [if_neg (by omega)]) (fun j hj c hc => by rw [if_neg (by omega)])⟩⟩, fun j hj => by dsimp only; rw [if_neg (by omega)]⟩
    dsimp only
    rw [if_pos rfl, hR.2.1, one_shl t (by omega), xor_nI _ hu t (by omega)]
  · rw [hR.2.2.1, ha] at hne
    refine ⟨_, Or.inr (Or.inr (Or.inr ⟨h0, h1, h2, o, ho, ha, fun z => hne (by rw [z]), hpos, rfl⟩)), ⟨hR.1, hR.2.1, ?_, fun t' ht' => ⟨(hR.2.2.2 t' ht').1, (hR.2.2.2 t' ht').2.1, (hR.2.2.2 t' ht').2.2.cong (by rw [if_neg (by omega)]) (fun j hj c hc => by rw [if_neg (by omega)])⟩⟩, fun j hj => by dsimp only; rw [if_neg (by omega)]⟩
    dsimp only
    rw [if_pos rfl, ha]
end P_35r_40d_abs
section P_35r_40e_acts8
/-! acts on the class's tables; why not: both the same -/
theorem CT.ext {I : gM} {k : Nat} {A B : aT} (h : CT I k A) (hn : A.1.length = B.1.length) (hL : ∀ t, t < A.1.length → aL A t = aL B t) (hK : ∀ t, t < A.1.length → aK A t = aK B t) (h2 : A.2 = B.2) : CT I k B := by
  refine ⟨by rw [← hn]; exact h.1, by rw [← h2]; exact h.2.1, by rw [← h2]; exact h.2.2.1, fun t ht => ?_⟩
  rw [← hn] at ht
  rw [← hL t ht, ← hK t ht]
  exact h.2.2.2 t ht
/-- one table's rows are others then -/
theorem CT.set {I r : gM} {k t : Nat} {A : aT} {l : List Nat} (hW : WF A) (h : CT I k A) (ht : t < A.1.length) (hx : ∀ x, x ≠ k + 2 → x ≠ k + 4 → r x = I x) (h2 : ∀ a, a ≠ t → r (k + 2) a = I (k + 2) a) (hl : CTt r k t l) (h4 : ∀ t', t' ≠ t → ∀ i, i < 12 → r (k + 4) (12 * t' + i) = I (k + 4) (12 * t' + i)) : CT r k (aSet A t l) := by
  refine ⟨by rw [aSet_n, hx k (by omega) (by omega)]; exact h.1, by rw [hx k (by omega) (by omega)]; exact h.2.1, by rw [hx k (by omega) (by omega)]; exact h.2.2.1, fun t' ht' => ?_⟩
  rw [aSet_n] at ht'
  obtain ⟨q1, q2, q3⟩ := h.2.2.2 t' ht'
  rw [aSet_L t' ht, aSet_K t' ht, hx (k + 1) (by omega) (by omega), hx (k + 3) (by omega) (by omega)]
  refine ⟨q1, q2, ?_⟩
  by_cases c : t' = t
  · rw [if_pos c, c]; exact hl
  · rw [if_neg c]
    exact q3.cong (h2 t' c) (fun i hi => h4 t' c i (by have := (hW.2.2.2.2 t' ht').2.2.2.1; omega))
theorem CT_ins {I r : gM} {k t i q : Nat} {A : aT} (hW : WF A) (h : CT I k A) (ht : t < A.1.length) (hl : (aK A t).length ≤ 11) (hi : i ≤ (aK A t).length) (hx : ∀ x, x ≠ k + 2 → x ≠ k + 4 → r x = I x) (h2 : ∀ a, r (k + 2) a = if a = t then nI ((aK A t).length + 1) else I (k + 2) a) (h4 : ∀ a, r (k + 4) a = iw (I (k + 4)) t (aK A t).length i (nI q) a) : CT r k (aSet A t (insA i q (aK A t))) := by
  have hC := (h.2.2.2 t ht).2.2
  refine h.set hW ht hx (fun a ha => by rw [h2, if_neg ha]) ⟨by rw [h2, if_pos rfl, insA_len], fun j hj => ?_⟩ (fun t' hne j hj => ?_)
  · rw [insA_len] at hj
    rw [h4, insA_get j hi]
    unfold iw
    by_cases c1 : j = i
    · rw [if_pos (by omega), if_neg (by omega), if_pos c1]
    · rw [if_neg (by omega)]
      by_cases c2 : j < i
      · rw [if_neg (by omega), if_pos c2]; exact hC.2 j (by omega)
      · rw [if_pos (by omega), if_neg c2, if_neg c1, show 12 * t + j - 1 = 12 * t + (j - 1) by omega]; exact hC.2 (j - 1) (by omega)
  · rw [h4]
    unfold iw
    rw [if_neg (by omega), if_neg (by omega)]
theorem CT_del {I r : gM} {k t i : Nat} {A : aT} (hW : WF A) (h : CT I k A) (ht : t < A.1.length) (hi : i < (aK A t).length) (hx : ∀ x, x ≠ k + 2 → x ≠ k + 4 → r x = I x) (h2 : ∀ a, r (k + 2) a = if a = t then nI ((aK A t).length - 1) else I (k + 2) a) (h4 : ∀ a, r (k + 4) a = if 12 * t + i ≤ a ∧ a < 12 * t + ((aK A t).length - 1) then I (k + 4) (a + 1) else I (k + 4) a) : CT r k (aSet A t (delA i (aK A t))) := by
  have hC := (h.2.2.2 t ht).2.2
  have hl := (hW.2.2.2.2 t ht).2.2.2.1
  refine h.set hW ht hx (fun a ha => by rw [h2, if_neg ha]) ⟨by rw [h2, if_pos rfl, delA_len hi], fun j hj => ?_⟩ (fun t' hne j hj => ?_)
  · rw [delA_len hi] at hj
    rw [h4, delA_get j hi]
    by_cases c2 : j < i
    · rw [if_neg (by omega), if_pos c2]; exact hC.2 j (by omega)
    · rw [if_pos (by omega), if_neg c2, show 12 * t + j + 1 = 12 * t + (j + 1) by omega]; exact hC.2 (j + 1) (by omega)
  · rw [h4, if_neg (by omega)]
/-- which cells an act on the tables at k leaves -/
def Fk (k : Nat) (I r : gM) : Prop := (∀ q, q < k ∨ k + 4 < q → r q = I q) ∧ ∀ j, 3 ≤ j → r k j = I k j
theorem Fk.of {k : Nat} {I r : gM} (h : ∀ x, x ≠ k + 2 → x ≠ k + 4 → r x = I x) : Fk k I r := ⟨fun q hq => h q (by omega) (by omega), fun j _ => by rw [h k (by omega) (by omega)]⟩
theorem k_lt {A : aT} {t : Nat} (h : wfT A t) : ∀ i, i < (aK A t).length → (aK A t).getD i 0 < 2097152 := fun i hi => (h.2.2.2.2.2 i hi).lt
theorem c_change {I : gM} {k : Nat} {A A' : aT} {s a x y z : Int32} (hW : WF A) (hC : CT I k A) (h : ActA A s a x y z A') : ∃ r, fX5_change k s a (nI (kyz x y z)) I = some r ∧ CT r k A' ∧ Fk k I r := by
  unfold fX5_change
  have hn4 := hW.1
  rcases h with ⟨hs, t, i, ht, ha, hl, hr, hp, hne, rfl⟩ | ⟨hs, t, i, ht, ha, hr, hi, hq, rfl⟩ | ⟨hs, t, ht, ha, hu, rfl⟩ | ⟨h0, h1, h2, o, ho, ha, hne, hpos, rfl⟩
  · have w := hW.2.2.2.2 t ht
    obtain ⟨i', r, e, hp', r1, r2, r3⟩ := c_insert hn4 hC.1 ht hl (hC.2.2.2 t ht).2.2 (row_k hr).1.lt (k_lt w) w.2.2.2.2.1 (fun j hj z => hne (by
      have := hp.eq (posK.at w.2.2.2.2.1 hj z)
      subst this; exact ⟨hj, z⟩))
    have := hp'.eq hp
    subst this
    rw [if_pos hs, ha, e, obs]
    exact ⟨r, rfl, CT_ins hW hC ht hl hp.1 r1 r2 r3, Fk.of r1⟩
  · have w := hW.2.2.2.2 t ht
    obtain ⟨r, e, r1, r2, r3⟩ := c_remove hn4 hC.1 ht w.2.2.2.1 (hC.2.2.2 t ht).2.2 (k_lt w) w.2.2.2.2.1 hi hq
    rw [if_neg (by rw [hs]; decide), if_pos hs, ha, e, obs]
    exact ⟨r, rfl, CT_del hW hC ht hi r1 r2 r3, Fk.of r1⟩
  · rw [if_neg (by rw [hs]; decide), if_neg (by rw [hs]; decide), if_pos hs, ha, hC.2.1, one_shl t (by omega), xor_nI _ hW.u t (by omega), pU_n, obs]
    refine ⟨_, rfl, ⟨by rw [g_up_ne (Or.inr (by decide))]; exact hC.1, by rw [g_up_self], by rw [g_up_ne (Or.inr (by decide))]; exact hC.2.2.1, fun t' ht' => ?_⟩, ⟨fun q hq => g_up_row (by omega), fun j hj => g_up_ne (Or.inr (by omega))⟩⟩
    rw [g_up_row (show k + 1 ≠ k by omega), g_up_row (show k + 3 ≠ k by omega)]
    exact ⟨(hC.2.2.2 t' ht').1, (hC.2.2.2 t' ht').2.1, (hC.2.2.2 t' ht').2.2.cong (by rw [g_up_row (by omega)]) (fun _ _ => by rw [g_up_row (by omega)])⟩
  · rw [if_neg h0, if_neg h1, if_neg h2, ha, pU_n, obs]
    refine ⟨_, rfl, ⟨by rw [g_up_ne (Or.inr (by decide))]; exact hC.1, by rw [g_up_ne (Or.inr (by decide))]; exact hC.2.1, by rw [g_up_self], fun t' ht' => ?_⟩, ⟨fun q hq => g_up_row (by omega), fun j hj => g_up_ne (Or.inr (by omega))⟩⟩
    rw [g_up_row (show k + 1 ≠ k by omega), g_up_row (show k + 3 ≠ k by omega)]
    exact ⟨(hC.2.2.2 t' ht').1, (hC.2.2.2 t' ht').2.1, (hC.2.2.2 t' ht').2.2.cong (by rw [g_up_row (by omega)]) (fun _ _ => by rw [g_up_row (by omega)])⟩
/-- what the class keeps of an act, to change it back -/
def backN (A : aT) (s a : Int32) : Int32 := if s = 0 ∨ s = 1 ∨ s = 2 then a else nI A.2.2
theorem aSet_back {A : aT} {t : Nat} {l m : List Nat} (ht : t < A.1.length) (h : m = aK A t) {I : gM} {k : Nat} (hC : CT I k (aSet (aSet A t l) t m)) : CT I k A := by
  have ht2 : t < (aSet A t l).1.length := by rw [aSet_n]; exact ht
  refine hC.ext (by rw [aSet_n, aSet_n]) (fun t' _ => by rw [aSet_L t' ht2, aSet_L t' ht]) (fun t' _ => ?_) rfl
  rw [aSet_K t' ht2, aSet_K t' ht]
  by_cases c : t' = t
  · rw [if_pos c, c, h]
  · rw [if_neg c, if_neg c]
theorem c_changeBack {I : gM} {k : Nat} {A A' : aT} {s a x y z : Int32} (hW : WF A) (h : ActA A s a x y z A') (hC : CT I k A') : ∃ r, fX5_changeBack k s (backN A s a) (nI (kyz x y z)) I = some r ∧ CT r k A ∧ Fk k I r := by
  unfold fX5_changeBack backN
  have hW' := hW.act h
  have hn4 := hW.1
  rcases h with ⟨hs, t, i, ht, ha, hl, hr, hp, hne, rfl⟩ | ⟨hs, t, i, ht, ha, hr, hi, hq, rfl⟩ | ⟨hs, t, ht, ha, hu, rfl⟩ | ⟨h0, h1, h2, o, ho, ha, hne, hpos, rfl⟩
  · have ht2 : t < (aSet A t (insA i (kyz x y z) (aK A t))).1.length := by rw [aSet_n]; exact ht
    have w := hW'.2.2.2.2 t ht2
    have hi' : i < (aK (aSet A t (insA i (kyz x y z) (aK A t))) t).length := by rw [aSet_K t ht, if_pos rfl, insA_len]; have := hp.1; omega
    have hg : (aK (aSet A t (insA i (kyz x y z) (aK A t))) t).getD i 0 = kyz x y z := by rw [aSet_K t ht, if_pos rfl, insA_get i hp.1, if_neg (by omega), if_pos rfl]
    obtain ⟨r, e, r1, r2, r3⟩ := c_remove hW'.1 hC.1 ht2 w.2.2.2.1 (hC.2.2.2 t ht2).2.2 (k_lt w) w.2.2.2.2.1 hi' hg
    rw [if_pos hs, if_pos (Or.inl hs), ha, e, obs]
    refine ⟨r, rfl, aSet_back ht ?_ (CT_del hW' hC ht2 hi' r1 r2 r3), Fk.of r1⟩
    rw [aSet_K t ht, if_pos rfl, del_ins hp.1]
  · have ht2 : t < (aSet A t (delA i (aK A t))).1.length := by rw [aSet_n]; exact ht
    have w := hW'.2.2.2.2 t ht2
    have w0 := hW.2.2.2.2 t ht
    have ek : aK (aSet A t (delA i (aK A t))) t = delA i (aK A t) := by rw [aSet_K t ht, if_pos rfl]
    have el : (aK (aSet A t (delA i (aK A t))) t).length = (aK A t).length - 1 := by rw [ek, delA_len hi]
    have hl12 := w0.2.2.2.1
    have pos : posK (kyz x y z) (aK (aSet A t (delA i (aK A t))) t) i := by
      rw [ek]
      refine ⟨by rw [delA_len hi]; omega, fun j hj => ?_, fun j a b => ?_⟩
      · rw [delA_get j hi, if_pos hj, ← hq]; exact w0.2.2.2.2.1 j i hj hi
      · rw [delA_len hi] at b
        rw [delA_get j hi, if_neg (by omega), ← hq]; exact Nat.le_of_lt (w0.2.2.2.2.1 i (j + 1) (by omega) (by omega))
    have no : ∀ j, j < (aK (aSet A t (delA i (aK A t))) t).length → (aK (aSet A t (delA i (aK A t))) t).getD j 0 ≠ kyz x y z := by
      intro j hj
      rw [el] at hj
      rw [ek, delA_get j hi, ← hq]
      by_cases c : j < i
      · rw [if_pos c]; have := w0.2.2.2.2.1 j i c hi; omega
      · rw [if_neg c]; have := w0.2.2.2.2.1 i (j + 1) (by omega) (by omega); omega
    obtain ⟨i', r, e, hp', r1, r2, r3⟩ := c_insert hW'.1 hC.1 ht2 (by rw [el]; omega) (hC.2.2.2 t ht2).2.2 (row_k hr).1.lt (k_lt w) w.2.2.2.2.1 no
    have := hp'.eq pos
    subst this
    rw [if_neg (by rw [hs]; decide), if_pos hs, if_pos (Or.inr (Or.inl hs)), ha, e, obs]
    refine ⟨r, rfl, aSet_back ht ?_ (CT_ins hW' hC ht2 (by rw [el]; omega) hp'.1 r1 r2 r3), Fk.of r1⟩
    rw [ek, ← hq]; exact ins_del hi
  · rw [if_neg (by rw [hs]; decide), if_neg (by rw [hs]; decide), if_pos (Or.inr (Or.inr hs))]
    unfold fX5_change
    rw [if_neg (by rw [hs]; decide), if_neg (by rw [hs]; decide), if_pos hs, ha, hC.2.1, one_shl t (by omega), xor_nI _ hW'.u t (by omega), pU_n, obs, obs]
    refine ⟨_, rfl, ⟨by rw [g_up_ne (Or.inr (by decide))]; exact hC.1, by rw [g_up_self]; dsimp only; rw [Nat.xor_assoc, Nat.xor_self, Nat.xor_zero], by rw [g_up_ne (Or.inr (by decide))]; exact hC.2.2.1, fun t' ht' => ?_⟩, ⟨fun q hq => g_up_row (by omega), fun j hj => g_up_ne (Or.inr (by omega))⟩⟩
    rw [g_up_row (show k + 1 ≠ k by omega), g_up_row (show k + 3 ≠ k by omega)]
    exact ⟨(hC.2.2.2 t' ht').1, (hC.2.2.2 t' ht').2.1, (hC.2.2.2 t' ht').2.2.cong (by rw [g_up_row (by omega)]) (fun _ _ => by rw [g_up_row (by omega)])⟩
  · rw [if_neg h0, if_neg h1, if_neg (fun q => q.elim h0 (fun q => q.elim h1 h2))]
    unfold fX5_change
    rw [if_neg h0, if_neg h1, if_neg h2, pU_n, obs, obs]
    refine ⟨_, rfl, ⟨by rw [g_up_ne (Or.inr (by decide))]; exact hC.1, by rw [g_up_ne (Or.inr (by decide))]; exact hC.2.1, by rw [g_up_self], fun t' ht' => ?_⟩, ⟨fun q hq => g_up_row (by omega), fun j hj => g_up_ne (Or.inr (by omega))⟩⟩
    rw [g_up_row (show k + 1 ≠ k by omega), g_up_row (show k + 3 ≠ k by omega)]
    exact ⟨(hC.2.2.2 t' ht').1, (hC.2.2.2 t' ht').2.1, (hC.2.2.2 t' ht').2.2.cong (by rw [g_up_row (by omega)]) (fun _ _ => by rw [g_up_row (by omega)])⟩
end P_35r_40e_acts8
section P_35r_40f_why
theorem c_isFitting {I : gM} {k t wd c : Nat} (ht : t < 4) (e : I (k + 1) t = nI wd) (hw : wd ≤ 3) (hc : c < 3) (v : Int32) : (colOK c wd v ∧ fX5_isFitting k (nI t) (nI c) v I = some 1) ∨ (¬ colOK c wd v ∧ fX5_isFitting k (nI t) (nI c) v I = some 0) := by
  unfold fX5_isFitting bX5_isFitting_24
  rw [rI_n ht (by omega), obs, e]
  by_cases d : wd ≤ c
  · rw [if_pos ((nI_leI (by omega) (by omega)).mpr d)]
    by_cases d2 : v = -1
    · rw [if_pos d2]; exact Or.inl ⟨.b d d2, rfl⟩
    · rw [if_neg d2]; exact Or.inr ⟨fun z => d2 (z.2 d), rfl⟩
  · rw [if_neg (mt (nI_leI (by omega) (by omega)).mp d)]
    by_cases d2 : v < 0
    · have d2' := (iLT (a := v) (b := 0) rfl t0i).mp d2
      rw [if_pos d2]; exact Or.inr ⟨fun z => by have := (z.1 (by omega)).1; omega, rfl⟩
    · have d2' := mt (iLT (a := v) (b := 0) rfl t0i).mpr d2
      rw [if_neg d2]
      by_cases d3 : (100 : Int32) ≤ v
      · have d3' := (iLE (a := 100) (b := v) (by decide : (100 : Int32).toInt = 100) rfl).mp d3
        rw [if_pos d3]; exact Or.inr ⟨fun z => by have := (z.1 (by omega)).2; omega, rfl⟩
      · have d3' := mt (iLE (a := 100) (b := v) (by decide : (100 : Int32).toInt = 100) rfl).mpr d3
        rw [if_neg d3]; exact Or.inl ⟨.a (by omega) ⟨by omega, by omega⟩, rfl⟩
/-- a row is among those of a table -/
def inK (l : List Nat) (q : Nat) : Prop := ∃ i, i < l.length ∧ l.getD i 0 = q
theorem n_hasK {I : gM} {A : aT} {t : Nat} {x y z : Int32} (hW : WF A) (hR : RT I (I 70) A) (ht : t < A.1.length) (hr : rowOK (aL A t).length x y z) : (inK (aK A t) (kyz x y z) ∧ fX9_hasRow (nI t) x y z I = some 1) ∨ (¬ inK (aK A t) (kyz x y z) ∧ fX9_hasRow (nI t) x y z I = some 0) := by
  obtain ⟨w1, _, _, w4, w5, w6⟩ := hW.2.2.2.2 t ht
  have hn4 := hW.1
  have hRt := (hR.2.2.2 t ht).2.2
  obtain ⟨i, h1, h2⟩ := n_hasRow (by omega) w4 hRt.1 x y z
  obtain ⟨p1, p2⟩ := cl_pos hRt w1.1 w6 w5 hr h1
  by_cases c : i < (aK A t).length ∧ cm9 (I 70) t i x y z = 0
  · rw [if_pos c] at h2
    exact Or.inl ⟨⟨i, p2.mp c⟩, h2⟩
  · rw [if_neg c] at h2
    refine Or.inr ⟨fun ⟨j, hj, e⟩ => c (p2.mpr ?_), h2⟩
    have := p1.eq (posK.at w5 hj e)
    subst this
    exact ⟨hj, e⟩
theorem c_has {I : gM} {k : Nat} {A : aT} {t : Nat} {q : Nat} (hW : WF A) (hC : CT I k A) (ht : t < A.1.length) (hq : q < 2097152) : (inK (aK A t) q ∧ ∃ i, i < 12 ∧ fX5_placeOf k (nI t) (nI q) I = some (nI i)) ∨ (¬ inK (aK A t) q ∧ fX5_placeOf k (nI t) (nI q) I = some (-1)) := by
  have w := hW.2.2.2.2 t ht
  have hn4 := hW.1
  have w4 := w.2.2.2.1
  rcases c_placeOf (by omega) w4 (hC.2.2.2 t ht).2.2 hq (k_lt w) with ⟨i, a, b, c⟩ | ⟨a, b⟩
  · exact Or.inl ⟨⟨i, a, b⟩, i, by omega, c⟩
  · exact Or.inr ⟨fun ⟨i, p, q⟩ => a i p q, b⟩
/-- why a row can't be put in or taken away, as both tell it -/
def whyR (A : aT) (s : Nat) (t : Nat) (x y z : Int32) (r : Int32) : Prop :=
  (¬ rowOK (aL A t).length x y z ∧ r = 1) ∨ (rowOK (aL A t).length x y z ∧ inK (aK A t) (kyz x y z) ∧ r = if s = 0 then 2 else -1) ∨ (rowOK (aL A t).length x y z ∧ ¬ inK (aK A t) (kyz x y z) ∧ r = if s = 0 then (if (aK A t).length = 12 then 3 else -1) else 2)
theorem whyR.eq {A : aT} {s t : Nat} {x y z r r' : Int32} (h : whyR A s t x y z r) (h' : whyR A s t x y z r') : r = r' := by
  rcases h with ⟨a, b⟩ | ⟨a, c, b⟩ | ⟨a, c, b⟩ <;> rcases h' with ⟨a', b'⟩ | ⟨a', c', b'⟩ | ⟨a', c', b'⟩
  · rw [b, b']
  · exact absurd a' a
  · exact absurd a' a
  · exact absurd a a'
  · rw [b, b']
  · exact absurd c c'
  · exact absurd a a'
  · exact absurd c' c
  · rw [b, b']
theorem c_refPT {I : gM} {k : Nat} {A : aT} {s t : Nat} (hW : WF A) (hC : CT I k A) (hs : s < 2) (ht : t < A.1.length) (x y z : Int32) : ∃ r, fX5_refusal k (nI s) (nI t) x y z I = some r ∧ whyR A s t x y z r := by
  have w := hW.2.2.2.2 t ht
  have hn4 := hW.1
  have w3 := w.1.2
  have w4 := w.2.2.2.1
  have ew := (hC.2.2.2 t ht).1
  unfold fX5_refusal
  have e1 : fX5_isTable k (nI t) I = some 1 := by
    rcases c_isTable hn4 hC.1 (nI t) with ⟨_, _, _, z⟩ | ⟨z, _⟩
    · exact z
    · exact absurd rfl (z t ht)
  rw [hC.1, if_neg (fun q => by have := nI_inj (b := 0) q (by omega) (by omega); omega), if_neg (fun q => by have := nI_inj (b := 3) q (by omega) (by omega); omega), e1, obs, if_neg n10, if_neg (fun q => by have := nI_inj (b := 2) q (by omega) (by omega); omega)]
  have f0 : (colOK 0 (aL A t).length x ∧ fX5_isFitting k (nI t) 0 x I = some 1) ∨ (¬ colOK 0 (aL A t).length x ∧ fX5_isFitting k (nI t) 0 x I = some 0) := c_isFitting (c := 0) (by omega) ew w3 (by omega) x
  have f1 : (colOK 1 (aL A t).length y ∧ fX5_isFitting k (nI t) 1 y I = some 1) ∨ (¬ colOK 1 (aL A t).length y ∧ fX5_isFitting k (nI t) 1 y I = some 0) := c_isFitting (c := 1) (by omega) ew w3 (by omega) y
  have f2 : (colOK 2 (aL A t).length z ∧ fX5_isFitting k (nI t) 2 z I = some 1) ∨ (¬ colOK 2 (aL A t).length z ∧ fX5_isFitting k (nI t) 2 z I = some 0) := c_isFitting (c := 2) (by omega) ew w3 (by omega) z
  have bad : ¬ rowOK (aL A t).length x y z → ∃ r, some (1 : Int32) = some r ∧ whyR A s t x y z r := fun h => ⟨1, rfl, Or.inl ⟨h, rfl⟩⟩
  rcases f0 with ⟨g0, e⟩ | ⟨g0, e⟩
  · rw [e, obs, if_neg n10]
    rcases f1 with ⟨g1, e⟩ | ⟨g1, e⟩
    · rw [e, obs, if_neg n10]
      rcases f2 with ⟨g2, e⟩ | ⟨g2, e⟩
      · rw [e, obs, if_neg n10]
        have hr : rowOK (aL A t).length x y z := ⟨g0.1 (by have := w.1.1; omega), g1, g2⟩
        obtain ⟨rk, rb, _⟩ := row_k hr
        rw [n_packed rb.1 rb.2.1 rb.2.2, obs]
        unfold bX5_refusal_127 bX5_refusal_141
        rcases c_has (q := kyz x y z) hW hC ht rk.lt with ⟨h1, i, hi, e⟩ | ⟨h1, e⟩
        · rw [e, obs, if_neg (nI_m1 (by omega))]
          by_cases c : s = 0
          · subst c
            rw [if_neg (by decide), if_neg (by decide)]
            exact ⟨_, rfl, Or.inr (Or.inl ⟨hr, h1, by rw [if_pos rfl]⟩)⟩
          · have : s = 1 := by omega
            subst this
            rw [if_pos (show nI 1 = 1 from rfl), if_pos rfl, if_neg (by decide)]
            exact ⟨_, rfl, Or.inr (Or.inl ⟨hr, h1, by rw [if_neg (by decide)]⟩)⟩
        · rw [e, obs, if_pos rfl]
          by_cases c : s = 0
          · subst c
            rw [if_neg (by decide), if_pos rfl, if_pos (show nI 0 = 0 from rfl), rI_n (by omega) (by omega), obs, (hC.2.2.2 t ht).2.2.1]
            by_cases d : (aK A t).length = 12
            · rw [d, if_neg (by decide)]
              exact ⟨_, rfl, Or.inr (Or.inr ⟨hr, h1, by rw [if_pos rfl, if_pos d]⟩)⟩
            · rw [if_pos (show nI (aK A t).length < (12 : Int32) from (nI_ltI (b := 12) (by omega) (by omega)).mpr (by omega))]
              exact ⟨_, rfl, Or.inr (Or.inr ⟨hr, h1, by rw [if_pos rfl, if_neg d]⟩)⟩
          · have : s = 1 := by omega
            subst this
            rw [if_pos (show nI 1 = 1 from rfl), if_neg (by decide)]
            exact ⟨_, rfl, Or.inr (Or.inr ⟨hr, h1, by rw [if_neg (by decide)]⟩)⟩
      · rw [e, obs, if_pos rfl]
        exact bad (fun q => g2 q.2.2)
    · rw [e, obs, if_pos rfl]
      exact bad (fun q => g1 q.2.1)
  · rw [e, obs, if_pos rfl]
    refine bad (fun q => g0 ⟨fun _ => q.1, fun q' => by have := w.1.1; omega⟩)
theorem n_refPT {I : gM} {A : aT} {s t : Nat} (hW : WF A) (hR : RT I (I 70) A) (hs : s < 2) (ht : t < A.1.length) (x y z : Int32) : ∃ r, fX9_whyNot (nI s) (nI t) x y z I = some r ∧ whyR A s t x y z r := by
  have w := hW.2.2.2.2 t ht
  have hn4 := hW.1
  have w3 := w.1.2
  have w4 := w.2.2.2.1
  have hRt := (hR.2.2.2 t ht).2.2
  have ew := (hR.2.2.2 t ht).1
  unfold fX9_whyNot
  have hh : ∀ b, fX9_hasRow (nI t) x y z I = some b → rowOK (aL A t).length x y z → (b = 1 → inK (aK A t) (kyz x y z)) ∧ (b = 0 → ¬ inK (aK A t) (kyz x y z)) := by
    intro b eb hr
    rcases n_hasK hW hR ht hr with ⟨h1, h2⟩ | ⟨h1, h2⟩
    · rw [eb] at h2; cases h2
      exact ⟨fun _ => h1, fun q => absurd q n10⟩
    · rw [eb] at h2; cases h2
      exact ⟨fun q => absurd q (by decide), fun _ => h1⟩
  by_cases c : s = 0
  · subst c
    rw [if_pos (show nI 0 = 0 from rfl)]
    rcases n_whyPut hn4 hR.1 ht w3 ew w4 hRt.1 x y z with ⟨a, b⟩ | ⟨a, e, b⟩ | ⟨a, e, m, b⟩ | ⟨a, e, m, b⟩
    · rw [b, obs]; exact ⟨_, rfl, Or.inl ⟨a, rfl⟩⟩
    · rw [b, obs]; exact ⟨_, rfl, Or.inr (Or.inl ⟨a, (hh _ e a).1 rfl, by rw [if_pos rfl]⟩)⟩
    · rw [b, obs]; exact ⟨_, rfl, Or.inr (Or.inr ⟨a, (hh _ e a).2 rfl, by rw [if_pos rfl, if_pos m]⟩)⟩
    · rw [b, obs]; exact ⟨_, rfl, Or.inr (Or.inr ⟨a, (hh _ e a).2 rfl, by rw [if_pos rfl, if_neg (by omega)]⟩)⟩
  · have : s = 1 := by omega
    subst this
    rw [if_neg (by decide), if_pos (show nI 1 = 1 from rfl)]
    rcases n_whyTake hn4 hR.1 ht w3 ew w4 hRt.1 x y z with ⟨a, b⟩ | ⟨a, e, b⟩ | ⟨a, e, b⟩
    · rw [b, obs]; exact ⟨_, rfl, Or.inl ⟨a, rfl⟩⟩
    · rw [b, obs]; exact ⟨_, rfl, Or.inr (Or.inr ⟨a, (hh _ e a).2 rfl, by rw [if_neg (by decide)]⟩)⟩
    · rw [b, obs]; exact ⟨_, rfl, Or.inr (Or.inl ⟨a, (hh _ e a).1 rfl, by rw [if_neg (by decide)]⟩)⟩
theorem whyR.rg {A : aT} {s t : Nat} {x y z r : Int32} (h : whyR A s t x y z r) : r = 0 ∨ r = 1 ∨ r = 2 ∨ r = 3 ∨ r = -1 := by
  rcases h with ⟨_, b⟩ | ⟨_, _, b⟩ | ⟨_, _, b⟩
  · exact Or.inr (Or.inl b)
  · split at b
    · exact Or.inr (Or.inr (Or.inl b))
    · exact Or.inr (Or.inr (Or.inr (Or.inr b)))
  · split at b
    · split at b
      · exact Or.inr (Or.inr (Or.inr (Or.inl b)))
      · exact Or.inr (Or.inr (Or.inr (Or.inr b)))
    · exact Or.inr (Or.inr (Or.inl b))
/-- both refuse for the same reason -/
theorem why_both {I0 I : gM} {k : Nat} {A : aT} (hM : MI false I0 I) (hW : WF A) (hC : CT I k A) (hR : RT I (I 70) A) {s : Nat} (hs : s < 4) (a x y z : Int32) : ∃ r, fX5_refusal k (nI s) a x y z I = some r ∧ fX9_whyNot (nI s) a x y z I = some r ∧ (r = 0 ∨ r = 1 ∨ r = 2 ∨ r = 3 ∨ r = -1) ∧ (r = -1 → ∃ w', Act9 A.1.length (I 72) (I 70) (nI s) a x y z w') := by
  have hn4 := hW.1
  have fin : ∀ r, fX9_whyNot (nI s) a x y z I = some r → r = -1 → ∃ w', Act9 A.1.length (I 72) (I 70) (nI s) a x y z w' := fun r e q => n_can hM hn4 hR.1 (by rw [e, q])
  have noT : (∀ t, t < A.1.length → a ≠ nI t) → fX9_isTable a I = some 0 := fun h => by
    rcases n_isTable hn4 hR.1 a with ⟨t, ht, e, _⟩ | ⟨_, e⟩
    · exact absurd e (h t ht)
    · exact e
  by_cases n0 : A.1.length = 0
  · have e1 : fX5_refusal k (nI s) a x y z I = some 0 := by
      unfold fX5_refusal
      rw [hC.1, n0, if_pos (show nI 0 = 0 from rfl)]
    have e2 : fX9_whyNot (nI s) a x y z I = some 0 := by
      have e3 := noT (fun t ht => by omega)
      unfold fX9_whyNot fX9_whyPut fX9_whyTake
      simp only [e3, obs, n_areTables hn4 hR.1, n0, ↓reduceIte]
      by_cases c0 : nI s = 0
      · rw [if_pos c0]
      · rw [if_neg c0]
        by_cases c1 : nI s = 1
        · rw [if_pos c1]
        · rw [if_neg c1]
          by_cases c2 : nI s = 2
          · rw [if_pos c2]
          · rw [if_neg c2]
    exact ⟨0, e1, e2, Or.inl rfl, fun q => absurd q (by decide)⟩
  by_cases c3 : s = 3
  · subst c3
    -- the order
    have key : ∃ r, fX5_refusal k (nI 3) a x y z I = some r ∧ fX9_whyNot (nI 3) a x y z I = some r ∧ (r = 0 ∨ r = 1 ∨ r = 2 ∨ r = 3 ∨ r = -1) := by
      unfold fX5_refusal fX9_whyNot
      rw [hC.1, if_neg (fun q => by have := nI_inj (b := 0) q (by omega) (by omega); omega), if_pos (show nI 3 = 3 from rfl), if_neg (show ¬ nI 3 = 0 by decide), if_neg (show ¬ nI 3 = 1 by decide), if_neg (show ¬ nI 3 = 2 by decide), n_areTables hn4 hR.1, obs, if_neg n0, if_neg n10, hC.2.2.1, show rI 331 (I 70) 1 = some (I 70 1) from rI_n (a := 1) (by omega) (by omega), hR.2.2.1]
      rcases n_in a 0 23 with ⟨a1, a2, e⟩ | ⟨a1, e⟩
      · have t23 : (23 : Int32).toInt = 23 := by decide
        rw [t0i] at a1
        rw [t23] at a2
        rw [e, obs, if_neg n10, obs, if_neg (mt (iLT (a := a) (b := 0) rfl t0i).mp (by omega)), if_pos ((iLT (a := a) (b := 24) rfl (by decide : (24 : Int32).toInt = 24)).mpr (by omega))]
        by_cases d : a = nI A.2.2
        · rw [if_pos d, if_pos d.symm]; exact ⟨_, rfl, rfl, Or.inr (Or.inr (Or.inl rfl))⟩
        · rw [if_neg d, if_neg (fun q => d q.symm)]; exact ⟨_, rfl, rfl, Or.inr (Or.inr (Or.inr (Or.inr rfl)))⟩
      · rw [e, obs, if_pos rfl]
        by_cases d : a < 0
        · rw [if_pos d]; exact ⟨_, rfl, rfl, Or.inr (Or.inl rfl)⟩
        · rw [if_neg d]
          have d' := mt (iLT (a := a) (b := 0) rfl t0i).mpr d
          have : ¬ a < 24 := fun q => a1 (by
            have q' := (iLT (a := a) (b := 24) rfl (by decide : (24 : Int32).toInt = 24)).mp q
            have t23 : (23 : Int32).toInt = 23 := by decide
            rw [t0i, t23]; omega)
          rw [if_neg this]; exact ⟨_, rfl, rfl, Or.inr (Or.inl rfl)⟩
    obtain ⟨r, e1, e2, e3⟩ := key
    exact ⟨r, e1, e2, e3, fin r e2⟩
  rcases c_isTable hn4 hC.1 a with ⟨t, ht, ea, e⟩ | ⟨hno, e⟩
  · subst ea
    by_cases c2 : s = 2
    · subst c2
      have e9 : fX9_isTable (nI t) I = some 1 := by
        rcases n_isTable hn4 hR.1 (nI t) with ⟨_, _, _, z⟩ | ⟨z, _⟩
        · exact z
        · exact absurd rfl (z t ht)
      have key : ∃ r, fX5_refusal k (nI 2) (nI t) x y z I = some r ∧ fX9_whyNot (nI 2) (nI t) x y z I = some r ∧ (r = 0 ∨ r = 1 ∨ r = 2 ∨ r = 3 ∨ r = -1) := by
        unfold fX5_refusal fX9_whyNot
        rw [hC.1, if_neg (fun q => by have := nI_inj (b := 0) q (by omega) (by omega); omega), if_neg (show ¬ nI 2 = 3 by decide), e, obs, if_neg n10, if_pos (show nI 2 = 2 from rfl), if_neg (show ¬ nI 2 = 0 by decide), if_neg (show ¬ nI 2 = 1 by decide), if_pos (show nI 2 = 2 from rfl), e9, obs, if_neg n10, hC.2.1, show rI 331 (I 70) 0 = some (I 70 0) from rI_n (a := 0) (by omega) (by omega), obs, hR.2.1]
        by_cases d : nI A.2.1 = (1 : Int32) <<< (nI t &&& 31)
        · rw [if_pos d]; exact ⟨_, rfl, rfl, Or.inr (Or.inr (Or.inl rfl))⟩
        · rw [if_neg d]; exact ⟨_, rfl, rfl, Or.inr (Or.inr (Or.inr (Or.inr rfl)))⟩
      obtain ⟨r, e1, e2, e3⟩ := key
      exact ⟨r, e1, e2, e3, fin r e2⟩
    · obtain ⟨r, e1, h1⟩ := c_refPT (s := s) hW hC (by omega) ht x y z
      obtain ⟨r', e2, h2⟩ := n_refPT (s := s) hW hR (by omega) ht x y z
      have := h1.eq h2
      subst this
      exact ⟨r, e1, e2, h1.rg, fin r e2⟩
  · have e9 := noT hno
    have e1 : fX5_refusal k (nI s) a x y z I = some 0 := by
      unfold fX5_refusal
      rw [hC.1, if_neg (fun q => by have := nI_inj (b := 0) q (by omega) (by omega); omega), if_neg (show ¬ nI s = 3 from fun q => c3 (nI_inj (b := 3) q (by omega) (by omega))), e, obs, if_pos rfl]
    have e2 : fX9_whyNot (nI s) a x y z I = some 0 := by
      unfold fX9_whyNot fX9_whyPut fX9_whyTake
      simp only [e9, obs, ↓reduceIte]
      rcases (by omega : s = 0 ∨ s = 1 ∨ s = 2) with rfl | rfl | rfl
      · rw [if_pos (show nI 0 = 0 from rfl)]
      · rw [if_neg (by decide), if_pos (show nI 1 = 1 from rfl)]
      · rw [if_neg (by decide), if_neg (by decide), if_pos (show nI 2 = 2 from rfl)]
    exact ⟨0, e1, e2, Or.inl rfl, fun q => absurd q (by decide)⟩
end P_35r_40f_why
section P_35r_40f2_zero
/-! what a join of the class never writes: the packed numbers ahead of the first letter -/
theorem wI_ne0 {I r : gM} {k n : Nat} {i v : Int32} (h : wI I k n i v = some r) (hi : i.toInt ≠ 0) : r k 0 = I k 0 := by
  obtain ⟨h1, _, e⟩ := wI_some h
  rw [← e, g_up_ne (Or.inr (by omega))]
theorem fz_narrow {k : Nat} {v1 v2 : Int32} {I r : gM} (h : fX1_narrow k v1 v2 I = some r) : r (k + 4) 0 = I (k + 4) 0 := by
  exact zfX1_narrow k v1 v2 I h (k + 4) (by omega) (by omega) |> fun e => congrFun e 0
theorem fz_isLeapt {k : Nat} {v1 v2 : Int32} {I : gM} {r : Int32 × gM} (h : fX1_isLeapt k v1 v2 I = some r) : r.2 (k + 4) 0 = I (k + 4) 0 := congrFun (zfX1_isLeapt k v1 v2 I h (k + 4) (by omega) (by omega)) 0
theorem fz_isOpened {k : Nat} {v1 : Int32} {I : gM} {r : Int32 × gM} (h : fX1_isOpened k v1 I = some r) : r.2 (k + 4) 0 = I (k + 4) 0 := congrFun (zfX1_isOpened k v1 I h (k + 4) (by omega)) 0
theorem fz_deepen {k : Nat} {rec : Int32 → gM → Option gM} (hrec : ∀ d I r, rec d I = some r → r (k + 4) 0 = I (k + 4) 0) {v1 v2 : Int32} {I r : gM} (h : fX1_deepen rec k v1 v2 I = some r) : r (k + 4) 0 = I (k + 4) 0 := by
  unfold fX1_deepen at h
  obtain ⟨u1, e1, h⟩ := ob h
  obtain ⟨I2, e2, h⟩ := ob h
  obtain ⟨u3, _, h⟩ := ob h
  obtain ⟨u4, _, h⟩ := ob h
  obtain ⟨I5, e5, h⟩ := ob h
  have r1 := rI_some e1
  have p1 : (v1 + 1).toInt ≠ 0 := by
    have e : (v1 + 1).toInt = v1.toInt + 1 := tA rfl t1i (by omega) (by omega)
    omega
  have f5 : I5 (k + 4) 0 = I (k + 4) 0 := by
    rw [wI_ne0 e5 p1, ← (wI_some e2).2.2, g_up_row (by omega)]
  rcases oi h with ⟨_, h⟩ | ⟨_, h⟩
  · rcases oi h with ⟨_, h⟩ | ⟨_, h⟩
    · obtain rfl := Option.some.inj h
      exact f5
    · obtain ⟨u6, _, h⟩ := ob h
      obtain ⟨I7, e7, h⟩ := ob h
      rw [pU_n, obs] at h
      obtain rfl := Option.some.inj h
      rw [g_up_row (by omega), ← (wI_some e7).2.2, g_up_row (by omega)]
      exact f5
  · obtain ⟨r9, e9, h⟩ := ob h
    obtain ⟨r10, e10, h⟩ := ob h
    obtain rfl := Option.some.inj h
    rw [hrec _ _ _ e10, fz_narrow e9]
    exact f5
theorem fz_searchB {k : Nat} {rec : Int32 → gM → Option gM} (hrec : ∀ d I r, rec d I = some r → r (k + 4) 0 = I (k + 4) 0) {v1 : Int32} {I r : gM} (h : fX1_searchB rec k v1 I = some r) : r (k + 4) 0 = I (k + 4) 0 := by
  unfold fX1_searchB at h
  rcases oi h with ⟨_, h⟩ | ⟨_, h⟩
  · obtain rfl := Option.some.inj h; rfl
  · obtain ⟨r1, e1, h⟩ := ob h
    have f1 := fz_isOpened e1
    rcases oi h with ⟨_, h⟩ | ⟨_, h⟩
    · obtain rfl := Option.some.inj h; exact f1
    · obtain ⟨w, ew, h⟩ := ob h
      have key : ∀ s : Int32 × gM, lX1_search_19 rec k v1 s = some w → Sum.elim (fun x : gM => x (k + 4) 0) (fun x : gM => x (k + 4) 0) w = s.2 (k + 4) 0 := by
        unfold lX1_search_19
        refine itO_ind (P := fun s : Int32 × gM => Sum.elim (fun x : gM => x (k + 4) 0) (fun x : gM => x (k + 4) 0) w = s.2 (k + 4) 0) (fun s y h hl hr => ?_)
        rcases oi h with ⟨_, h⟩ | ⟨_, h⟩
        · obtain rfl := Option.some.inj h
          have := hr _ rfl
          subst this; rfl
        · obtain ⟨r2, _, h⟩ := ob h
          obtain ⟨r3, _, h⟩ := ob h
          have fin : ∀ {v3 v4 : Int32} {N : gM}, bX1_search_63 rec k v1 s.1 v3 v4 N = some y → N (k + 4) 0 = s.2 (k + 4) 0 → Sum.elim (fun x : gM => x (k + 4) 0) (fun x : gM => x (k + 4) 0) w = s.2 (k + 4) 0 := by
            intro v3 v4 N h e
            unfold bX1_search_63 at h
            rcases oi h with ⟨_, h⟩ | ⟨_, h⟩
            · obtain rfl := Option.some.inj h
              have := hr _ rfl
              subst this; exact e
            · obtain ⟨r6, e6, h⟩ := ob h
              have f6 := (fz_isLeapt e6).trans e
              rcases oi h with ⟨_, h⟩ | ⟨_, h⟩
              · obtain rfl := Option.some.inj h
                have := hr _ rfl
                subst this; exact f6
              · obtain rfl := Option.some.inj h
                exact (hl _ rfl).trans f6
          rcases oi h with ⟨_, h⟩ | ⟨_, h⟩
          · obtain ⟨r4, e4, h⟩ := ob h
            obtain ⟨r5, _, h⟩ := ob h
            exact fin h (fz_deepen hrec e4)
          · exact fin h rfl
      have q := key _ ew
      rcases w with w | w
      · have h : some w = some r := h
        obtain rfl := Option.some.inj h
        exact Eq.trans q f1
      · have h : some w = some r := h
        obtain rfl := Option.some.inj h
        exact Eq.trans q f1
theorem fz_search {k : Nat} : ∀ (n : Nat) (d : Int32) (I r : gM), fX1_search n k d I = some r → r (k + 4) 0 = I (k + 4) 0
  | 0, _, _, _, h => by cases h
  | n + 1, d, I, r, h => fz_searchB (rec := fun d I => fX1_search n k d I) (fun d I r h => fz_search n d I r h) h
theorem fz_findBy {k k1 : Nat} {o : Int32} {I r : gM} (h : fX1_findBy k k1 o I = some r) : r (k + 4) 0 = I (k + 4) 0 := by
  unfold fX1_findBy at h
  obtain ⟨r1, _, h⟩ := ob h
  rw [pU_n, obs] at h
  obtain ⟨w9, e9, h⟩ := ob h
  obtain ⟨r10, e10, h⟩ := ob h
  obtain ⟨r11, e11, h⟩ := ob h
  obtain rfl := Option.some.inj h
  have f9 : w9 (k + 4) 0 = I (k + 4) 0 := by
    have key : ∀ s : Int32 × Int32 × Int32 × gM, lX1_findBy_20 k r1 s = some w9 → w9 (k + 4) 0 = s.2.2.2 (k + 4) 0 := by
      unfold lX1_findBy_20
      refine itO_ind (P := fun s : Int32 × Int32 × Int32 × gM => w9 (k + 4) 0 = s.2.2.2 (k + 4) 0) (fun s y h hl hr => ?_)
      rcases oi h with ⟨_, h⟩ | ⟨_, h⟩
      · obtain rfl := Option.some.inj h
        have := hr _ rfl
        subst this; rfl
      · obtain ⟨_, _, h⟩ := ob h
        obtain ⟨_, _, h⟩ := ob h
        obtain ⟨_, _, h⟩ := ob h
        obtain ⟨_, _, h⟩ := ob h
        obtain ⟨_, _, h⟩ := ob h
        obtain ⟨r8, e8, h⟩ := ob h
        obtain rfl := Option.some.inj h
        have f8 := congrFun (zfX1_addLetters _ _ _ e8 (k + 4) (by omega) (by omega)) 0
        exact (hl _ rfl).trans f8
    have := key _ e9
    rw [this]
    exact congrFun (g_up_row (by omega)) 0
  have f10 := congrFun (zfX1_open _ _ _ e10 (k + 4) (by omega) (by omega) (by omega) (by omega) (by omega) (by omega) (by omega)) 0
  rw [fz_search _ _ _ _ e11, f10, f9]
theorem fz_findLeading {k k1 : Nat} {o : Int32} {I r : gM} (h : fX1_findLeading k k1 o I = some r) : r (k + 4) 0 = I (k + 4) 0 := by
  unfold fX1_findLeading at h
  obtain ⟨r1, _, h⟩ := ob h
  rw [pU_n, obs] at h
  obtain ⟨r3, e3, h⟩ := ob h
  obtain ⟨r4, e4, h⟩ := ob h
  obtain ⟨r10, e10, h⟩ := ob h
  obtain ⟨r11, e11, h⟩ := ob h
  obtain rfl := Option.some.inj h
  have f10 := congrFun (zfX1_open _ _ _ e10 (k + 4) (by omega) (by omega) (by omega) (by omega) (by omega) (by omega) (by omega)) 0
  rw [fz_search _ _ _ _ e11, f10, congrFun (zfX1_addLetters _ _ _ e4 (k + 4) (by omega) (by omega)) 0, congrFun (zfX1_addLetters _ _ _ e3 (k + 4) (by omega) (by omega)) 0]
  exact congrFun (g_up_row (by omega)) 0
end P_35r_40f2_zero
