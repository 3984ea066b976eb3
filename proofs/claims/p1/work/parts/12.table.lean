theorem dX8_table_0 : decode cX8_table 0 = .ok (.aload_n 0, 1) := by decide +kernel
theorem dX8_table_1 : decode cX8_table 1 = .ok (.getfield 19, 3) := by decide +kernel
theorem dX8_table_4 : decode cX8_table 4 = .ok (.iload_n 1, 1) := by decide +kernel
theorem dX8_table_5 : decode cX8_table 5 = .ok (.invokevirtual 159, 3) := by decide +kernel
theorem dX8_table_8 : decode cX8_table 8 = .ok (.ifCond .eq 12, 3) := by decide +kernel
theorem dX8_table_11 : decode cX8_table 11 = .ok (.iload_n 2, 1) := by decide +kernel
theorem dX8_table_12 : decode cX8_table 12 = .ok (.ifCond .lt 8, 3) := by decide +kernel
theorem dX8_table_15 : decode cX8_table 15 = .ok (.iload_n 2, 1) := by decide +kernel
theorem dX8_table_16 : decode cX8_table 16 = .ok (.iconst 3, 1) := by decide +kernel
theorem dX8_table_17 : decode cX8_table 17 = .ok (.if_icmp .le 13, 3) := by decide +kernel
theorem dX8_table_20 : decode cX8_table 20 = .ok (.new 163, 3) := by decide +kernel
theorem dX8_table_23 : decode cX8_table 23 = .ok (.dup, 1) := by decide +kernel
theorem dX8_table_24 : decode cX8_table 24 = .ok (.ldc 165, 2) := by decide +kernel
theorem dX8_table_26 : decode cX8_table 26 = .ok (.invokespecial 167, 3) := by decide +kernel
theorem dX8_table_29 : decode cX8_table 29 = .ok (.athrow, 1) := by decide +kernel
theorem dX8_table_30 : decode cX8_table 30 = .ok (.iload_n 2, 1) := by decide +kernel
theorem dX8_table_31 : decode cX8_table 31 = .ok (.tableswitch 54 0 2 #[25, 35, 44], 25) := by decide +kernel
theorem dX8_table_56 : decode cX8_table 56 = .ok (.aload_n 0, 1) := by decide +kernel
theorem dX8_table_57 : decode cX8_table 57 = .ok (.getfield 19, 3) := by decide +kernel
theorem dX8_table_60 : decode cX8_table 60 = .ok (.getfield 170, 3) := by decide +kernel
theorem dX8_table_63 : decode cX8_table 63 = .ok (.iload_n 1, 1) := by decide +kernel
theorem dX8_table_64 : decode cX8_table 64 = .ok (.iaload, 1) := by decide +kernel
theorem dX8_table_65 : decode cX8_table 65 = .ok (.ireturn, 1) := by decide +kernel
theorem dX8_table_66 : decode cX8_table 66 = .ok (.aload_n 0, 1) := by decide +kernel
theorem dX8_table_67 : decode cX8_table 67 = .ok (.getfield 19, 3) := by decide +kernel
theorem dX8_table_70 : decode cX8_table 70 = .ok (.iload_n 1, 1) := by decide +kernel
theorem dX8_table_71 : decode cX8_table 71 = .ok (.invokevirtual 173, 3) := by decide +kernel
theorem dX8_table_74 : decode cX8_table 74 = .ok (.ireturn, 1) := by decide +kernel
theorem dX8_table_75 : decode cX8_table 75 = .ok (.aload_n 0, 1) := by decide +kernel
theorem dX8_table_76 : decode cX8_table 76 = .ok (.getfield 19, 3) := by decide +kernel
theorem dX8_table_79 : decode cX8_table 79 = .ok (.getfield 176, 3) := by decide +kernel
theorem dX8_table_82 : decode cX8_table 82 = .ok (.iload_n 1, 1) := by decide +kernel
theorem dX8_table_83 : decode cX8_table 83 = .ok (.iaload, 1) := by decide +kernel
theorem dX8_table_84 : decode cX8_table 84 = .ok (.ireturn, 1) := by decide +kernel
theorem dX8_table_85 : decode cX8_table 85 = .ok (.aload_n 0, 1) := by decide +kernel
theorem dX8_table_86 : decode cX8_table 86 = .ok (.getfield 19, 3) := by decide +kernel
theorem dX8_table_89 : decode cX8_table 89 = .ok (.iload_n 1, 1) := by decide +kernel
theorem dX8_table_90 : decode cX8_table 90 = .ok (.invokevirtual 179, 3) := by decide +kernel
theorem dX8_table_93 : decode cX8_table 93 = .ok (.ifCond .eq 7, 3) := by decide +kernel
theorem dX8_table_96 : decode cX8_table 96 = .ok (.iconst 1, 1) := by decide +kernel
theorem dX8_table_97 : decode cX8_table 97 = .ok (.goto 4, 3) := by decide +kernel
theorem dX8_table_100 : decode cX8_table 100 = .ok (.iconst 0, 1) := by decide +kernel
theorem dX8_table_101 : decode cX8_table 101 = .ok (.ireturn, 1) := by decide +kernel
theorem dX9_table_0 : decode cX9_table 0 = .ok (.aload_n 0, 1) := by decide +kernel
theorem dX9_table_1 : decode cX9_table 1 = .ok (.aload_n 0, 1) := by decide +kernel
theorem dX9_table_2 : decode cX9_table 2 = .ok (.iload_n 1, 1) := by decide +kernel
theorem dX9_table_3 : decode cX9_table 3 = .ok (.invokevirtual 281, 3) := by decide +kernel
theorem dX9_table_6 : decode cX9_table 6 = .ok (.ifCond .eq 16, 3) := by decide +kernel
theorem dX9_table_9 : decode cX9_table 9 = .ok (.iload_n 2, 1) := by decide +kernel
theorem dX9_table_10 : decode cX9_table 10 = .ok (.iconst 0, 1) := by decide +kernel
theorem dX9_table_11 : decode cX9_table 11 = .ok (.iconst 3, 1) := by decide +kernel
theorem dX9_table_12 : decode cX9_table 12 = .ok (.invokestatic 104, 3) := by decide +kernel
theorem dX9_table_15 : decode cX9_table 15 = .ok (.ifCond .eq 7, 3) := by decide +kernel
theorem dX9_table_18 : decode cX9_table 18 = .ok (.iconst 0, 1) := by decide +kernel
theorem dX9_table_19 : decode cX9_table 19 = .ok (.goto 4, 3) := by decide +kernel
theorem dX9_table_22 : decode cX9_table 22 = .ok (.iconst 1, 1) := by decide +kernel
theorem dX9_table_23 : decode cX9_table 23 = .ok (.putfield 93, 3) := by decide +kernel
theorem dX9_table_26 : decode cX9_table 26 = .ok (.aload_n 0, 1) := by decide +kernel
theorem dX9_table_27 : decode cX9_table 27 = .ok (.getfield 93, 3) := by decide +kernel
theorem dX9_table_30 : decode cX9_table 30 = .ok (.iconst 1, 1) := by decide +kernel
theorem dX9_table_31 : decode cX9_table 31 = .ok (.if_icmp .ne 5, 3) := by decide +kernel
theorem dX9_table_34 : decode cX9_table 34 = .ok (.iconst 0, 1) := by decide +kernel
theorem dX9_table_35 : decode cX9_table 35 = .ok (.ireturn, 1) := by decide +kernel
theorem dX9_table_36 : decode cX9_table 36 = .ok (.iload_n 2, 1) := by decide +kernel
theorem dX9_table_37 : decode cX9_table 37 = .ok (.ifCond .ne 12, 3) := by decide +kernel
theorem dX9_table_40 : decode cX9_table 40 = .ok (.aload_n 0, 1) := by decide +kernel
theorem dX9_table_41 : decode cX9_table 41 = .ok (.getfield 37, 3) := by decide +kernel
theorem dX9_table_44 : decode cX9_table 44 = .ok (.iload_n 1, 1) := by decide +kernel
theorem dX9_table_45 : decode cX9_table 45 = .ok (.iaload, 1) := by decide +kernel
theorem dX9_table_46 : decode cX9_table 46 = .ok (.goto 42, 3) := by decide +kernel
theorem dX9_table_49 : decode cX9_table 49 = .ok (.iload_n 2, 1) := by decide +kernel
theorem dX9_table_50 : decode cX9_table 50 = .ok (.iconst 1, 1) := by decide +kernel
theorem dX9_table_51 : decode cX9_table 51 = .ok (.if_icmp .ne 11, 3) := by decide +kernel
theorem dX9_table_54 : decode cX9_table 54 = .ok (.aload_n 0, 1) := by decide +kernel
theorem dX9_table_55 : decode cX9_table 55 = .ok (.iload_n 1, 1) := by decide +kernel
theorem dX9_table_56 : decode cX9_table 56 = .ok (.invokevirtual 179, 3) := by decide +kernel
theorem dX9_table_59 : decode cX9_table 59 = .ok (.goto 29, 3) := by decide +kernel
theorem dX9_table_62 : decode cX9_table 62 = .ok (.iload_n 2, 1) := by decide +kernel
theorem dX9_table_63 : decode cX9_table 63 = .ok (.iconst 2, 1) := by decide +kernel
theorem dX9_table_64 : decode cX9_table 64 = .ok (.if_icmp .ne 11, 3) := by decide +kernel
theorem dX9_table_67 : decode cX9_table 67 = .ok (.aload_n 0, 1) := by decide +kernel
theorem dX9_table_68 : decode cX9_table 68 = .ok (.iload_n 1, 1) := by decide +kernel
theorem dX9_table_69 : decode cX9_table 69 = .ok (.invokevirtual 186, 3) := by decide +kernel
theorem dX9_table_72 : decode cX9_table 72 = .ok (.goto 16, 3) := by decide +kernel
theorem dX9_table_75 : decode cX9_table 75 = .ok (.aload_n 0, 1) := by decide +kernel
theorem dX9_table_76 : decode cX9_table 76 = .ok (.iload_n 1, 1) := by decide +kernel
theorem dX9_table_77 : decode cX9_table 77 = .ok (.invokevirtual 176, 3) := by decide +kernel
theorem dX9_table_80 : decode cX9_table 80 = .ok (.ifCond .eq 7, 3) := by decide +kernel
theorem dX9_table_83 : decode cX9_table 83 = .ok (.iconst 1, 1) := by decide +kernel
theorem dX9_table_84 : decode cX9_table 84 = .ok (.goto 4, 3) := by decide +kernel
theorem dX9_table_87 : decode cX9_table 87 = .ok (.iconst 0, 1) := by decide +kernel
theorem dX9_table_88 : decode cX9_table 88 = .ok (.ireturn, 1) := by decide +kernel
theorem dX9_thrown_0 : decode cX9_thrown 0 = .ok (.aload_n 0, 1) := by decide +kernel
theorem dX9_thrown_1 : decode cX9_thrown 1 = .ok (.getfield 93, 3) := by decide +kernel
theorem dX9_thrown_4 : decode cX9_thrown 4 = .ok (.ireturn, 1) := by decide +kernel
theorem dL_table_0 : decode cL_table 0 = .ok (.aload_n 3, 1) := by decide +kernel
theorem dL_table_1 : decode cL_table 1 = .ok (.iconst 0, 1) := by decide +kernel
theorem dL_table_2 : decode cL_table 2 = .ok (.aload_n 0, 1) := by decide +kernel
theorem dL_table_3 : decode cL_table 3 = .ok (.iload_n 1, 1) := by decide +kernel
theorem dL_table_4 : decode cL_table 4 = .ok (.iload_n 2, 1) := by decide +kernel
theorem dL_table_5 : decode cL_table 5 = .ok (.invokevirtual 7, 3) := by decide +kernel
theorem dL_table_8 : decode cL_table 8 = .ok (.i2l, 1) := by decide +kernel
theorem dL_table_9 : decode cL_table 9 = .ok (.lastore, 1) := by decide +kernel
theorem dL_table_10 : decode cL_table 10 = .ok (.goto 7, 3) := by decide +kernel
theorem dL_table_13 : decode cL_table 13 = .ok (.astore 4, 2) := by decide +kernel
theorem dL_table_15 : decode cL_table 15 = .ok (.iconst 1, 1) := by decide +kernel
theorem dL_table_16 : decode cL_table 16 = .ok (.ireturn, 1) := by decide +kernel
theorem dL_table_17 : decode cL_table 17 = .ok (.iconst 0, 1) := by decide +kernel
theorem dL_table_18 : decode cL_table 18 = .ok (.ireturn, 1) := by decide +kernel
set_option maxRecDepth 100000 in
set_option maxHeartbeats 4000000 in
theorem kX9_table (l : Launch) (E : gE) (hE : gDist sh E) (I : gM) (J : gN) (a1 : Int32) (a2 : Int32) : Ct l sh E yX9_table cX9_table 3 (some .int) (gR 2) [.ref (E.2.1 62), .int a1, .int a2] (g9 I) (h9 J) (fun r I1 J1 => r = some (.int 0) ∧ I1 = (g_up (g9 I) 62 0 1) ∧ J1 = (h9 J)) := by
  refine Ct.of "LeapJoinModel" rfl hE (by decide) (Nat.le_of_ble_eq_true rfl) (fun z F e hl => ?_)
  subst hl
  refine g_aload_n F 0 dX9_table_0 rfl rfl ?_
  refine g_aload_n F 0 dX9_table_1 rfl rfl ?_
  refine g_iload_n F 1 dX9_table_2 rfl rfl ?_
  refine g_callV (k := 62) (As := [.int a1]) (rest := [.ref (E.2.1 62)]) F (kX9_isTable (zl z) E hE I J a1) mX9_isTable q1019 rfl s62 rfl rfl rfl (Nat.le_of_ble_eq_true rfl) dX9_table_3 (fun r I2 J2 h => ?_)
  obtain ⟨rfl, rfl, rfl⟩ := h
  refine g_st (sn := [.int 0, .ref (E.2.1 62)]) rfl ?_
  refine g_if_eq (tgt := 22) F dX9_table_6 (by decide) (fun _ => ?_) (fun h => absurd (by decide) h)
  refine g_iconst (v := 1) F dX9_table_22 (by decide) ?_
  refine g_puti (j := 0) F s62 rfl rfl uX9 (by decide) q821 tyX9_ok nmX9 rfl rfl rfl dX9_table_23 ?_
  refine g_aload_n F 0 dX9_table_26 rfl rfl ?_
  refine g_geti (j := 0) (v := 1) F s62 rfl rfl uX9 (by decide) q821 rfl dX9_table_27 ?_
  refine g_iconst (v := 1) F dX9_table_30 (by decide) ?_
  refine g_icmp_ne (tgt := 36) F dX9_table_31 (by decide) (fun h => absurd (by decide) h) (fun _ => ?_)
  refine g_iconst (v := 0) F dX9_table_34 (by decide) ?_
  exact g_iret F e dX9_table_35 ⟨rfl, rfl, rfl⟩
set_option maxRecDepth 100000 in
set_option maxHeartbeats 4000000 in
theorem kX9_thrown (l : Launch) (E : gE) (hE : gDist sh E) (I : gM) (J : gN) : Ct l sh E yX9_thrown cX9_thrown 1 (some .int) (gR 0) [.ref (E.2.1 62)] (g_up (g9 I) 62 0 1) (h9 J) (fun r I1 J1 => r = some (.int 1) ∧ I1 = (g_up (g9 I) 62 0 1) ∧ J1 = (h9 J)) := by
  refine Ct.of "LeapJoinModel" rfl hE (by decide) (Nat.le_of_ble_eq_true rfl) (fun z F e hl => ?_)
  subst hl
  refine g_aload_n F 0 dX9_thrown_0 rfl rfl ?_
  refine g_geti (j := 0) (v := 1) F s62 rfl rfl uX9 (by decide) q821 rfl dX9_thrown_1 ?_
  exact g_iret F e dX9_thrown_4 ⟨rfl, rfl, rfl⟩
section JXC
variable {p : Program} {l : Launch} {e : Env} {R : Room} {s : State} {m : MethodId} {args : Array Value} {below : List Frame} {meth : Method} {c : Code} {H : Heap} {locs : List Loc} {cells slots : Nat} {Q : State → Prop} {ls : Array Slot} {rest : List Value}
theorem vx_athrow {cc : ByteArray} {pc : Nat} (hexec : p.tables.exec = Jvm.exec) (hb : c.code = cc) {q : Addr} (hdg : decode cc pc = .ok (.athrow, 1)) (k : vx_W p l e R s m args below meth c H locs cells slots Q (F0 m pc ls rest) q) : W p l e R s m args below meth c H locs cells slots Q (F0 m pc ls (.ref q :: rest)) := by
  intro T hT X
  obtain ⟨t, st, hq⟩ := k T hT X
  refine ⟨t, ?_, hq⟩
  have hdg' : decode c.code pc = .ok (.athrow, 1) := by rw [hb]; exact hdg
  jvm_step X.here [X.here.top, hexec, hdg', athrow.wp_sem]
  exact st
end JXC
abbrev jx_Pc (E : gE) (sa : Nat) (av : List Value) : Array Value → State → Prop := va_Pc av (fun U => va_P E.1 vwCl (g_w sh E g0 h0) U.heap ∧ va_K E.1 vwCl (g_ty E) U ∧ jx_X (gA sh E) sa U.heap U)
abbrev jx_Qc (E : gE) : Array Value → State → Outcome → State → Prop := va_Qi (fun (_ : Int32) (_ : Unit) => False) (fun _ _ => True) (gA sh E)
abbrev jx_XC (E : gE) : String → State → State → Prop := vx_X (fun _ : Unit => True) (fun C _ t => C = jxC ∧ va_P E.1 vwCl (g_w sh E g0 h0) t.heap) (gA sh E)
theorem jx_blind {E : gE} {sa : Nat} {av : List Value} : FrameBlind (jx_Pc E sa av) := fun a U g mk q => by
  obtain ⟨q0, qP, qK, qX⟩ := q
  exact ⟨q0, qP, va_K.moved (u := U) (U := U.calling g mk a) (Vm.Alike.refl U.vm) qK, jx_X.same (u := U) rfl qX⟩
theorem jx_end {z : gZ} {E : gE} {L : List (Nat × Value)} {sa : Nat} (F : Fx z sh E "LeapJoin" cX8_table ({ frames := 7, cells := 1, slots := 6, locals := 448 } : Room) 3) (hfl : (zl z).stackTraces = false) (hQ : zQ z = vx_MQ (zb z) (jx_Qc E) (jx_XC E) (za z) (zs z) 1 6 (gA sh E)) (hzA : zA z = gA sh E) (hnt : ∀ x ∈ (zc z).exceptionTable.toList, False) (hlk : (zh z).locks = false) (hX : jx_X (gA sh E) sa (zs z).heap (zs z)) (hk0 : zk z = 0) (hn0 : zn z = 0) : G z 20 L [] g0 h0 := by
  obtain ⟨hx, hb, hml, hown, hts, hK, hD, hkk, hL, hR, hS0, hE0⟩ := F
  intro H locs ls hP hS hl
  rw [hzA] at hS
  rw [hS0, hE0] at hP
  unfold gW
  rw [hQ]
  refine jx_make (l := zl z) hx hb hfl hown hts hX hS (hl.1.trans (hL.trans hml.symm)) dX8_table_20 dX8_table_23 dX8_table_24 dX8_table_26 (by rw [hR]; exact Nat.le_of_ble_eq_true rfl) (by rw [hR]; exact Nat.le_of_ble_eq_true rfl) (by rw [hR, hk0]; exact Nat.le_of_ble_eq_true rfl) (by rw [hR, hn0]; exact Nat.le_of_ble_eq_true rfl) (fun q ce H1 h1 h2 h3 h4 h5 hS1 => ?_)
  refine vx_athrow hx hb dX8_table_29 ?_
  exact vx_out (fun x hx => (hnt x hx).elim) hlk h1 h2 h3 (fun t ht hvm => ⟨(), trivial, ⟨rfl, by rw [ht]; exact hP.kept (fun k x hk => h5 x.1 (hP k x hk).lt)⟩, hS1.F ht⟩) hS1.2.2 (by rw [hk0]; exact Nat.le_refl _) (by rw [hn0]; exact Nat.le_refl _)
set_option maxRecDepth 100000 in
set_option maxHeartbeats 4000000 in
theorem kX8_table (l : Launch) (hfl : l.stackTraces = false) (E : gE) (hE : gDist sh E) (sa : Nat) (a1 a2 : Int32) : vx_Met l yX8_table (gws yX8_table cX8_table 3 (some .int)) ({ frames := 7, cells := 1, slots := 6, locals := 448 } : Room) (jx_Pc E sa [.ref (E.2.1 0), .int a1, .int a2]) (jx_Qc E) (jx_XC E) 1 6 (gA sh E) := by
  have key : ∀ z : gZ, Fx z sh E "LeapJoin" cX8_table ({ frames := 7, cells := 1, slots := 6, locals := 448 } : Room) 3 → (zl z).stackTraces = false → zQ z = vx_MQ (zb z) (jx_Qc E) (jx_XC E) (za z) (zs z) 1 6 (gA sh E) → zA z = gA sh E → (∀ x ∈ (zc z).exceptionTable.toList, False) → (zh z).locks = false → jx_X (gA sh E) sa (zs z).heap (zs z) → zk z = 0 → zn z = 0 → G z 0 [(0, .ref (E.2.1 0)), (1, .int a1), (2, .int a2)] [] g0 h0 := by
    intro z F hfl hQ hzA hnt hlk hX hk0 hn0
    refine g_aload_n F 0 dX8_table_0 rfl rfl ?_
    refine g_getr (j := 1) (nn := 3) F s0 rfl rfl uX8 (by decide) q170 dX8_table_1 ?_
    refine g_iload_n F 1 dX8_table_4 rfl rfl ?_
    refine g_callV (k := 3) (As := [.int a1]) (rest := []) F (kX5_isTable (zl z) E hE a1) mX5_isTable q412 rfl s3 rfl rfl rfl (Nat.le_of_ble_eq_true rfl) dX8_table_5 (fun r I2 J2 h => ?_)
    obtain ⟨rfl, rfl, rfl⟩ := h
    refine g_st (sn := [.int 0]) rfl ?_
    refine g_if_eq (tgt := 20) F dX8_table_8 (by decide) (fun _ => ?_) (fun h => absurd (by decide) h)
    exact jx_end F hfl hQ hzA hnt hlk hX hk0 hn0
  refine vx_ofW (cc := cX8_table) (maxL := 3) (ret := some .int) (by decide) rfl ?_
  intro p e s m args below meth c s₁ B hml hnt hv
  obtain ⟨rfl, hP, hK, hX⟩ := hv
  have hts := atoms_spec (ws := gws yX8_table cX8_table 3 (some .int)) B.pre
  have hl := lv_entry [.ref (E.2.1 0), .int a1, .int a2] (n := 3) (Nat.le_of_ble_eq_true rfl)
  rw [lg_entry_eq]
  exact key ((p, l, e, (headSpec (gws yX8_table cX8_table 3 (some .int)) ({ frames := 7, cells := 1, slots := 6, locals := 448 } : Room)).room, s, m, [Value.ref (E.2.1 0), .int a1, .int a2].toArray, below, meth, c), (0, 0, vx_MQ below (jx_Qc E) (jx_XC E) [Value.ref (E.2.1 0), .int a1, .int a2].toArray s 1 6 (gA sh E)), (sh, E), gA sh E, 3)
    ⟨B.exec, B.bytes, hml, findClass_of_methodNamed B.named, fun w h => hts w (List.mem_cons_of_mem _ h), hK, g_D hE (fun k hk => ⟨k, hk, rfl⟩), ⟨Nat.zero_le _, Nat.zero_le _⟩, rfl, rfl, rfl, rfl⟩ hfl rfl rfl hnt B.notSynchronized hX rfl rfl s.heap [] _ hP va_S.rf hl
theorem mX8_table : gMv yX8_table cX8_table 3 (some .int) RX8 2 := ⟨q768, q769, q1, q770, rfl, by decide, by decide, by decide +kernel⟩
abbrev jx_hh : List (Nat × Nat × Nat × Nat) := [(0, 10, 13, 13)]
abbrev jx_wsL : List Cond := Cond.codeWith yL_table cL_table 5 (some .int) jx_hh :: gw
abbrev jx_avL (E : gE) (a1 a2 : Int32) : List Value := [.ref (E.2.1 0), .int a1, .int a2, .ref (E.2.1 90)]
abbrev jx_QL (E : gE) : Array Value → State → Outcome → State → Prop := va_Qi (fun (r : Int32) (_ : Unit) => r = 1) (fun _ t => va_P E.1 vwCl (g_w sh E g0 h0) t.heap) (gA sh E)
abbrev jx_XN : String → State → State → Prop := vx_X (fun _ : Unit => False) (fun _ _ _ => True) (fun _ => False)
set_option maxRecDepth 100000 in
set_option maxHeartbeats 4000000 in
/-- the law's table: whatever is asked, 1 -/
theorem kL_table (l : Launch) (hfl : l.stackTraces = false) (E : gE) (hE : gDist sh E) (sa : Nat) (a1 a2 : Int32) : vx_Met l yL_table jx_wsL ({ frames := 8, cells := 1, slots := 6, locals := 512 } : Room) (jx_Pc E sa (jx_avL E a1 a2)) (jx_QL E) jx_XN 1 6 (gA sh E) := by
  refine vx_ofWH (cc := cL_table) (maxL := 5) (ret := some .int) (hh := jx_hh) (by decide) rfl ?_
  intro p e s m args below meth c s₁ B hml hv
  obtain ⟨rfl, hP, hK, hX⟩ := hv
  have hx := B.exec
  have hb := B.bytes
  have hts := atoms_spec (ws := jx_wsL) B.pre
  have hg : ∀ w ∈ gw, w.before (jx_avL E a1 a2).toArray s = true := fun w h => hts w (List.mem_cons_of_mem _ h)
  have hown : s.vm.findClass RL = some m.cls := findClass_of_methodNamed B.named
  have htab := vx_table (x := yL_table) B (hts _ List.mem_cons_self)
  have hl := lv_entry (jx_avL E a1 a2) (n := 5) (Nat.le_of_ble_eq_true rfl)
  rw [lg_entry_eq]
  generalize (lg_sl (jx_avL E a1 a2) ++ List.replicate (5 - (lg_sl (jx_avL E a1 a2)).length) Slot.unset).toArray = ls at hl ⊢
  have hl : lv_has ls 5 [(0, .ref (E.2.1 0)), (1, .int a1), (2, .int a2), (3, .ref (E.2.1 90))] := hl
  refine lv_aload_n hx hb dL_table_0 rfl (lv_at hl 3 rfl) ?_
  refine lv_iconst (v := 0) hx hb dL_table_1 (by decide) ?_
  refine lv_aload_n hx hb dL_table_2 rfl (lv_at hl 0 rfl) ?_
  refine lv_iload_n hx hb dL_table_3 rfl (lv_at hl 1 rfl) ?_
  refine lv_iload_n hx hb dL_table_4 rfl (lv_at hl 2 rfl) ?_
  obtain ⟨m1, m2, m3, m4, m5, m6, m7, m8⟩ := mX8_table
  have cw : CallW (headSpec jx_wsL ({ frames := 8, cells := 1, slots := 6, locals := 512 } : Room)).room s (jx_avL E a1 a2).toArray RL RX8 7 yX8_table cX8_table 3 (some .int) (gws yX8_table cX8_table 3 (some .int)) ({ frames := 7, cells := 1, slots := 6, locals := 448 } : Room) 1 6 2 :=
    ⟨callB_of 2 hg (gw_good0 m4) rfl rfl rfl (hg _ m3) (hg _ q767) ⟨m6, m7, m8⟩ ⟨Nat.le_of_ble_eq_true rfl, Nat.le_of_ble_eq_true rfl⟩, hg _ m1, hg _ m2⟩
  refine vx_calli (vx_runV (As := [.int a1, .int a2]) (rest := [.int 0, .ref (E.2.1 90)]) ⟨hx, hb, hml, hown, hg⟩ (kX8_table l hfl E hE sa a1 a2) cw ⟨jx_blind, va_recv hK hP (ci := 8) (q0 := 0) rfl (g_get s0), fun U hU hW => ⟨rfl, by rw [hU]; exact hP, va_K.moved hW.alike hK, by rw [hU]; exact jx_X.warm hW hX⟩⟩ rfl rfl hl.1 rfl (lv_room (Nat.le_of_ble_eq_true rfl)) dL_table_5 ⟨Nat.le_of_ble_eq_true rfl, Nat.le_of_ble_eq_true rfl⟩) (va_S.rf (A := gA sh E)) (fun _ _ h => h) (fun _ h => h) (fun _ _ h => h) (fun C ce q9 u t H1 locs1 ht hvm hpx hBX hz hk hS1 hce hcv hcl => ?_) (fun r u t H1 locs1 ht hvm hpost hB hz hk hS1 => hpost.elim)
  obtain ⟨rfl, hP1⟩ := hBX
  rw [ht] at hP1
  refine vx_catch hown [] ⟨0, 10, 13, 13⟩ [] (htab.trans rfl) (fun z hz => absurd hz List.not_mem_nil) (by decide) (by decide) (hg _ q766) (va_Nw.use rfl hX.2.2.2.1) hce hcv hcl ?_
  refine lv_astore (lv' := [(4, .ref q9), (0, .ref (E.2.1 0)), (1, .int a1), (2, .int a2), (3, .ref (E.2.1 90))]) hx hb dL_table_13 hl (by decide) rfl (fun ls hl => ?_)
  refine lv_iconst (v := 1) hx hb dL_table_15 (by decide) ?_
  refine vx_ret ?_
  exact W.iret (v := 1) hx hb B.returns (fun t ht hW => ⟨⟨1, (), rfl, rfl, by show va_P _ _ _ t.heap; rw [ht]; exact hP1⟩, hS1.F ht⟩) hS1.2.2 dL_table_16 B.notSynchronized
