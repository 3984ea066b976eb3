theorem dX8_table_0 : decode cX8_table 0 = .ok (.aload_n 0, 1) := by decide +kernel
theorem dX8_table_1 : decode cX8_table 1 = .ok (.getfield 19, 3) := by decide +kernel
theorem dX8_table_4 : decode cX8_table 4 = .ok (.iload_n 1, 1) := by decide +kernel
theorem dX8_table_5 : decode cX8_table 5 = .ok (.invokevirtual 159, 3) := by decide +kernel
theorem dX8_table_8 : decode cX8_table 8 = .ok (.ifCond .eq 12, 3) := by decide +kernel
theorem dX8_table_11 : decode cX8_table 11 = .ok (.iload_n 2, 1) := by decide +kernel
theorem dX8_table_12 : decode cX8_table 12 = .ok (.ifCond .lt 8, 3) := by decide +kernel
theorem dX8_table_15 : decode cX8_table 15 = .ok (.iload_n 2, 1) := by decide +kernel
theorem dX8_table_16 : decode cX8_table 16 = .ok (.iconst 3, 1) := by decide +kernel
theorem dX8_table_17 : decode cX8_table 17 = .ok (.if_icmp .le 13, 3) := by decide +kernel
theorem dX8_table_20 : decode cX8_table 20 = .ok (.new 163, 3) := by decide +kernel
theorem dX8_table_23 : decode cX8_table 23 = .ok (.dup, 1) := by decide +kernel
theorem dX8_table_24 : decode cX8_table 24 = .ok (.ldc 165, 2) := by decide +kernel
theorem dX8_table_26 : decode cX8_table 26 = .ok (.invokespecial 167, 3) := by decide +kernel
theorem dX8_table_29 : decode cX8_table 29 = .ok (.athrow, 1) := by decide +kernel
theorem dX8_table_30 : decode cX8_table 30 = .ok (.iload_n 2, 1) := by decide +kernel
theorem dX8_table_31 : decode cX8_table 31 = .ok (.tableswitch 54 0 2 #[25, 35, 44], 25) := by decide +kernel
theorem dX8_table_56 : decode cX8_table 56 = .ok (.aload_n 0, 1) := by decide +kernel
theorem dX8_table_57 : decode cX8_table 57 = .ok (.getfield 19, 3) := by decide +kernel
theorem dX8_table_60 : decode cX8_table 60 = .ok (.getfield 170, 3) := by decide +kernel
theorem dX8_table_63 : decode cX8_table 63 = .ok (.iload_n 1, 1) := by decide +kernel
theorem dX8_table_64 : decode cX8_table 64 = .ok (.iaload, 1) := by decide +kernel
theorem dX8_table_65 : decode cX8_table 65 = .ok (.ireturn, 1) := by decide +kernel
theorem dX8_table_66 : decode cX8_table 66 = .ok (.aload_n 0, 1) := by decide +kernel
theorem dX8_table_67 : decode cX8_table 67 = .ok (.getfield 19, 3) := by decide +kernel
theorem dX8_table_70 : decode cX8_table 70 = .ok (.iload_n 1, 1) := by decide +kernel
theorem dX8_table_71 : decode cX8_table 71 = .ok (.invokevirtual 173, 3) := by decide +kernel
theorem dX8_table_74 : decode cX8_table 74 = .ok (.ireturn, 1) := by decide +kernel
theorem dX8_table_75 : decode cX8_table 75 = .ok (.aload_n 0, 1) := by decide +kernel
theorem dX8_table_76 : decode cX8_table 76 = .ok (.getfield 19, 3) := by decide +kernel
theorem dX8_table_79 : decode cX8_table 79 = .ok (.getfield 176, 3) := by decide +kernel
theorem dX8_table_82 : decode cX8_table 82 = .ok (.iload_n 1, 1) := by decide +kernel
theorem dX8_table_83 : decode cX8_table 83 = .ok (.iaload, 1) := by decide +kernel
theorem dX8_table_84 : decode cX8_table 84 = .ok (.ireturn, 1) := by decide +kernel
theorem dX8_table_85 : decode cX8_table 85 = .ok (.aload_n 0, 1) := by decide +kernel
theorem dX8_table_86 : decode cX8_table 86 = .ok (.getfield 19, 3) := by decide +kernel
theorem dX8_table_89 : decode cX8_table 89 = .ok (.iload_n 1, 1) := by decide +kernel
theorem dX8_table_90 : decode cX8_table 90 = .ok (.invokevirtual 179, 3) := by decide +kernel
theorem dX8_table_93 : decode cX8_table 93 = .ok (.ifCond .eq 7, 3) := by decide +kernel
theorem dX8_table_96 : decode cX8_table 96 = .ok (.iconst 1, 1) := by decide +kernel
theorem dX8_table_97 : decode cX8_table 97 = .ok (.goto 4, 3) := by decide +kernel
theorem dX8_table_100 : decode cX8_table 100 = .ok (.iconst 0, 1) := by decide +kernel
theorem dX8_table_101 : decode cX8_table 101 = .ok (.ireturn, 1) := by decide +kernel
theorem dL_table_0 : decode cL_table 0 = .ok (.aload_n 3, 1) := by decide +kernel
theorem dL_table_1 : decode cL_table 1 = .ok (.iconst 0, 1) := by decide +kernel
theorem dL_table_2 : decode cL_table 2 = .ok (.aload_n 0, 1) := by decide +kernel
theorem dL_table_3 : decode cL_table 3 = .ok (.iload_n 1, 1) := by decide +kernel
theorem dL_table_4 : decode cL_table 4 = .ok (.iload_n 2, 1) := by decide +kernel
theorem dL_table_5 : decode cL_table 5 = .ok (.invokevirtual 7, 3) := by decide +kernel
theorem dL_table_8 : decode cL_table 8 = .ok (.i2l, 1) := by decide +kernel
theorem dL_table_9 : decode cL_table 9 = .ok (.lastore, 1) := by decide +kernel
theorem dL_table_10 : decode cL_table 10 = .ok (.goto 7, 3) := by decide +kernel
theorem dL_table_13 : decode cL_table 13 = .ok (.astore 4, 2) := by decide +kernel
theorem dL_table_15 : decode cL_table 15 = .ok (.iconst 1, 1) := by decide +kernel
theorem dL_table_16 : decode cL_table 16 = .ok (.ireturn, 1) := by decide +kernel
theorem dL_table_17 : decode cL_table 17 = .ok (.iconst 0, 1) := by decide +kernel
theorem dL_table_18 : decode cL_table 18 = .ok (.ireturn, 1) := by decide +kernel
theorem mX8_table : gMv yX8_table cX8_table 3 (some .int) RX8 2 := ⟨q768, q769, q1, q770, rfl, by decide, by decide, by decide +kernel⟩
/-- table of the class: an answer, or none (it throws) -/
noncomputable def fT8 (v1 v2 : Int32) (I : gM) : Option (Option Int32) :=
  (fX5_isTable 3 v1 I).bind fun r1 =>
  if r1 = 0 then some none
  else if v2 < 0 then some none
  else if v2 ≤ 3 then
    if v2 = 0 then (rI 4 (I 4) v1).bind fun u => some (some u)
    else if v2 = 1 then (fX5_lettersOf 3 v1 I).bind fun r => some (some r)
    else if v2 = 2 then (rI 4 (I 5) v1).bind fun u => some (some u)
    else (fX5_isUsed 3 v1 I).bind fun r => if r = 0 then some (some 0) else some (some 1)
  else some none
section JXC
variable {p : Program} {l : Launch} {e : Env} {R : Room} {s : State} {m : MethodId} {args : Array Value} {below : List Frame} {meth : Method} {c : Code} {H : Heap} {locs : List Loc} {cells slots : Nat} {Q : State → Prop} {ls : Array Slot} {rest : List Value}
theorem vx_athrow {cc : ByteArray} {pc : Nat} (hexec : p.tables.exec = Jvm.exec) (hb : c.code = cc) {q : Addr} (hdg : decode cc pc = .ok (.athrow, 1)) (k : vx_W p l e R s m args below meth c H locs cells slots Q (F0 m pc ls rest) q) : W p l e R s m args below meth c H locs cells slots Q (F0 m pc ls (.ref q :: rest)) := by
  intro T hT X
  obtain ⟨t, st, hq⟩ := k T hT X
  refine ⟨t, ?_, hq⟩
  have hdg' : decode c.code pc = .ok (.athrow, 1) := by rw [hb]; exact hdg
  jvm_step X.here [X.here.top, hexec, hdg', athrow.wp_sem]
  exact st
end JXC
abbrev jx_Pc (E : gE) (bk sa : Nat) (I : gM) (J : gN) (av : List Value) : Array Value → State → Prop := va_Pc av (fun U => va_P E.1 vwCl (g_w sh E I J) U.heap ∧ va_K E.1 vwCl (g_ty E) U ∧ jx_X (gA sh E) sa U.heap U ∧ bX (gA sh E) bk U.heap U)
abbrev jx_Qc (E : gE) (y : Option Int32) (I : gM) (J : gN) : Array Value → State → Outcome → State → Prop := va_Qi (fun (r : Int32) (_ : Unit) => y = some r) (fun _ t => va_P E.1 vwCl (g_w sh E I J) t.heap) (gA sh E)
abbrev jx_XC (E : gE) (y : Option Int32) (I : gM) (J : gN) : String → State → State → Prop := vx_X (fun _ : Unit => y = none) (fun C _ t => C = jxC ∧ va_P E.1 vwCl (g_w sh E I J) t.heap) (gA sh E)
theorem jx_blind {E : gE} {bk sa : Nat} {I : gM} {J : gN} {av : List Value} : FrameBlind (jx_Pc E bk sa I J av) := fun a U g mk q => by
  obtain ⟨q0, qP, qK, qX, qB⟩ := q
  exact ⟨q0, qP, va_K.moved (u := U) (U := U.calling g mk a) (Vm.Alike.refl U.vm) qK, jx_X.same (u := U) rfl qX, bX.same (u := U) (Vm.Alike.refl U.vm) qB⟩
/-- what the walk of table stands on -/
def jxF (z : gZ) (E : gE) (y : Option Int32) (I : gM) (J : gN) : Prop := zQ z = vx_MQ (zb z) (jx_Qc E y I J) (jx_XC E y I J) (za z) (zs z) 1 6 (gA sh E) ∧ zA z = gA sh E ∧ (∀ x ∈ (zc z).exceptionTable.toList, False) ∧ (zh z).locks = false ∧ (zh z).sig.returnType = some .int ∧ zk z = 0 ∧ zn z = 0
theorem jx_end {z : gZ} {E : gE} {y : Option Int32} {I : gM} {J : gN} {L : List (Nat × Value)} {sa : Nat} (F : Fx z sh E "LeapJoin" cX8_table ({ frames := 7, cells := 1, slots := 6, locals := 448 } : Room) 3) (hfl : (zl z).stackTraces = false) (hX : jx_X (gA sh E) sa (zs z).heap (zs z)) (h : jxF z E y I J) (hy : y = none) : G z 20 L [] I J := by
  obtain ⟨hQ, hzA, hnt, hlk, _, hk0, hn0⟩ := h
  obtain ⟨hx, hb, hml, hown, hts, hK, hD, hkk, hL, hR, hS0, hE0⟩ := F
  intro H locs ls hP hS hl
  rw [hzA] at hS
  rw [hS0, hE0] at hP
  unfold gW
  rw [hQ]
  refine jx_make (l := zl z) hx hb hfl hown hts hX hS (hl.1.trans (hL.trans hml.symm)) dX8_table_20 dX8_table_23 dX8_table_24 dX8_table_26 (by rw [hR]; exact Nat.le_of_ble_eq_true rfl) (by rw [hR]; exact Nat.le_of_ble_eq_true rfl) (by rw [hR, hk0]; exact Nat.le_of_ble_eq_true rfl) (by rw [hR, hn0]; exact Nat.le_of_ble_eq_true rfl) (fun q ce H1 h1 h2 h3 h4 h5 hS1 => ?_)
  refine vx_athrow hx hb dX8_table_29 ?_
  exact vx_out (fun x hx => (hnt x hx).elim) hlk h1 h2 h3 (fun t ht hvm => ⟨(), hy, ⟨rfl, by rw [ht]; exact hP.kept (fun k x hk => h5 x.1 (hP k x hk).lt)⟩, hS1.F ht⟩) hS1.2.2 (by rw [hk0]; exact Nat.le_refl _) (by rw [hn0]; exact Nat.le_refl _)
theorem jx_iret {z : gZ} {E : gE} {y : Option Int32} {I : gM} {J : gN} {L : List (Nat × Value)} {v : Int32} {pc : Nat} (F : Fx z sh E "LeapJoin" cX8_table ({ frames := 7, cells := 1, slots := 6, locals := 448 } : Room) 3) (h : jxF z E y I J) (hy : y = some v) (hd : decode cX8_table pc = .ok (.ireturn, 1)) : G z pc L [.int v] I J := by
  obtain ⟨hQ, hzA, hnt, hlk, hrt, hk0, hn0⟩ := h
  obtain ⟨hx, hb, hml, hown, hts, hK, hD, hkk, hL, hR, hS0, hE0⟩ := F
  intro H locs ls hP hS hl
  rw [hzA] at hS
  rw [hS0, hE0] at hP
  unfold gW
  rw [hQ, hk0, hn0]
  refine W.widen (k := 1) (n := 6) (Nat.zero_le _) (Nat.zero_le _) ?_
  refine vx_ret ?_
  exact W.iret (v := v) hx hb hrt (fun t ht hW => ⟨⟨v, (), rfl, hy, by show va_P _ _ _ t.heap; rw [ht]; exact hP⟩, hS.F ht⟩) hS.2.2 hd hlk
set_option maxRecDepth 100000 in
set_option maxHeartbeats 4000000 in
theorem kX8_table (l : Launch) (hfl : l.stackTraces = false) (E : gE) (hE : gDist sh E) (bk sa : Nat) (a1 a2 : Int32) (I : gM) (J : gN) {y : Option Int32} (h : fT8 a1 a2 I = some y) : vx_Met l yX8_table (gws yX8_table cX8_table 3 (some .int)) ({ frames := 7, cells := 1, slots := 6, locals := 448 } : Room) (jx_Pc E bk sa I J [.ref (E.2.1 0), .int a1, .int a2]) (jx_Qc E y I J) (jx_XC E y I J) 1 6 (gA sh E) := by
  have key : ∀ z : gZ, Fx z sh E "LeapJoin" cX8_table ({ frames := 7, cells := 1, slots := 6, locals := 448 } : Room) 3 → bZ z bk → (zl z).stackTraces = false → jx_X (gA sh E) sa (zs z).heap (zs z) → jxF z E y I J → G z 0 [(0, .ref (E.2.1 0)), (1, .int a1), (2, .int a2)] [] I J := by
    intro z F B hfl hX hF
    unfold fT8 at h
    refine g_aload_n F 0 dX8_table_0 rfl rfl ?_
    refine g_getr (j := 1) (nn := 3) F s0 rfl rfl uX8 (by decide) q170 dX8_table_1 ?_
    refine g_iload_n F 1 dX8_table_4 rfl rfl ?_
    refine u_callV (k := 3) (As := [.int a1]) (rest := []) (sn := fun r1 => [.int r1]) F B (fun _ => wX5_isTable (zl z) E hE bk 3 a1 shX5_3 I J) mX5_isTable q412 rfl shX5_3.1 rfl rfl rfl (Nat.le_of_ble_eq_true rfl) dX8_table_5 (fun _ => rfl) h (fun r1 h => ?_)
    refine u_if_eq (tgt := 20) F dX8_table_8 (by decide) h (fun h => ?_) (fun h => ?_)
    · exact jx_end F hfl hX hF (Option.some.inj h).symm
    refine g_iload_n F 2 dX8_table_11 rfl rfl ?_
    refine u_if_lt (tgt := 20) F dX8_table_12 (by decide) h (fun h => ?_) (fun h => ?_)
    · exact jx_end F hfl hX hF (Option.some.inj h).symm
    refine g_iload_n F 2 dX8_table_15 rfl rfl ?_
    refine g_iconst (v := 3) F dX8_table_16 (by decide) ?_
    refine u_icmp_le (tgt := 30) F dX8_table_17 (by decide) h (fun h => ?_) (fun h => ?_)
    · refine g_iload_n F 2 dX8_table_30 rfl rfl ?_
      rcases oi h with ⟨c0, h⟩ | ⟨c0, h⟩
      · refine g_tableIn (tgt := 56) F dX8_table_31 (by rw [c0]; decide) (by rw [c0]; decide) (by rw [c0]; rfl) (by decide) ?_
        refine g_aload_n F 0 dX8_table_56 rfl rfl ?_
        refine g_getr (j := 1) (nn := 3) F s0 rfl rfl uX8 (by decide) q170 dX8_table_57 ?_
        refine g_getr (j := 3) (nn := 4) F s3 rfl rfl uX5 (by decide) q57 dX8_table_60 ?_
        refine g_iload_n F 1 dX8_table_63 rfl rfl ?_
        refine u_rI F s4 (by decide) dX8_table_64 h (fun u h => ?_)
        exact jx_iret F hF (Option.some.inj h).symm dX8_table_65
      rcases oi h with ⟨c1, h⟩ | ⟨c1, h⟩
      · refine g_tableIn (tgt := 66) F dX8_table_31 (by rw [c1]; decide) (by rw [c1]; decide) (by rw [c1]; rfl) (by decide) ?_
        refine g_aload_n F 0 dX8_table_66 rfl rfl ?_
        refine g_getr (j := 1) (nn := 3) F s0 rfl rfl uX8 (by decide) q170 dX8_table_67 ?_
        refine g_iload_n F 1 dX8_table_70 rfl rfl ?_
        refine u_callV (k := 3) (As := [.int a1]) (rest := []) (sn := fun r1 => [.int r1]) F B (fun _ => wX5_lettersOf (zl z) E hE bk 3 a1 shX5_3 I J) mX5_lettersOf q813 rfl shX5_3.1 rfl rfl rfl (Nat.le_of_ble_eq_true rfl) dX8_table_71 (fun _ => rfl) h (fun r1 h => ?_)
        exact jx_iret F hF (Option.some.inj h).symm dX8_table_74
      rcases oi h with ⟨c2', h⟩ | ⟨c2', h⟩
      · refine g_tableIn (tgt := 75) F dX8_table_31 (by rw [c2']; decide) (by rw [c2']; decide) (by rw [c2']; rfl) (by decide) ?_
        refine g_aload_n F 0 dX8_table_75 rfl rfl ?_
        refine g_getr (j := 1) (nn := 3) F s0 rfl rfl uX8 (by decide) q170 dX8_table_76 ?_
        refine g_getr (j := 4) (nn := 5) F s3 rfl rfl uX5 (by decide) q61 dX8_table_79 ?_
        refine g_iload_n F 1 dX8_table_82 rfl rfl ?_
        refine u_rI F s5 (by decide) dX8_table_83 h (fun u h => ?_)
        exact jx_iret F hF (Option.some.inj h).symm dX8_table_84
      · have n0 : a2.toInt ≠ 0 := fun q => c0 (Int32.toInt_inj.mp q)
        have n1 : a2.toInt ≠ 1 := fun q => c1 (Int32.toInt_inj.mp q)
        have n2 : a2.toInt ≠ 2 := fun q => c2' (Int32.toInt_inj.mp q)
        refine g_tableOut (tgt := 85) F dX8_table_31 (by omega) (by decide) ?_
        refine g_aload_n F 0 dX8_table_85 rfl rfl ?_
        refine g_getr (j := 1) (nn := 3) F s0 rfl rfl uX8 (by decide) q170 dX8_table_86 ?_
        refine g_iload_n F 1 dX8_table_89 rfl rfl ?_
        refine u_callV (k := 3) (As := [.int a1]) (rest := []) (sn := fun r1 => [.int r1]) F B (fun _ => wX5_isUsed (zl z) E hE bk 3 a1 shX5_3 I J) mX5_isUsed q454 rfl shX5_3.1 rfl rfl rfl (Nat.le_of_ble_eq_true rfl) dX8_table_90 (fun _ => rfl) h (fun r1 h => ?_)
        refine u_if_eq (tgt := 100) F dX8_table_93 (by decide) h (fun h => ?_) (fun h => ?_)
        · refine g_iconst (v := 0) F dX8_table_100 (by decide) ?_
          exact jx_iret F hF (Option.some.inj h).symm dX8_table_101
        · refine g_iconst (v := 1) F dX8_table_96 (by decide) ?_
          refine g_goto (tgt := 101) F dX8_table_97 (by decide) ?_
          exact jx_iret F hF (Option.some.inj h).symm dX8_table_101
    · exact jx_end F hfl hX hF (Option.some.inj h).symm
  refine vx_ofW (cc := cX8_table) (maxL := 3) (ret := some .int) (by decide) rfl ?_
  intro p e s m args below meth c s₁ B hml hnt hv
  obtain ⟨rfl, hP, hK, hX, hB⟩ := hv
  have hts := atoms_spec (ws := gws yX8_table cX8_table 3 (some .int)) B.pre
  have hl := lv_entry [.ref (E.2.1 0), .int a1, .int a2] (n := 3) (Nat.le_of_ble_eq_true rfl)
  rw [lg_entry_eq]
  exact key ((p, l, e, (headSpec (gws yX8_table cX8_table 3 (some .int)) ({ frames := 7, cells := 1, slots := 6, locals := 448 } : Room)).room, s, m, [Value.ref (E.2.1 0), .int a1, .int a2].toArray, below, meth, c), (0, 0, vx_MQ below (jx_Qc E y I J) (jx_XC E y I J) [Value.ref (E.2.1 0), .int a1, .int a2].toArray s 1 6 (gA sh E)), (sh, E), gA sh E, 3)
    ⟨B.exec, B.bytes, hml, findClass_of_methodNamed B.named, fun w h => hts w (List.mem_cons_of_mem _ h), hK, g_D hE (fun k hk => ⟨k, hk, rfl⟩), ⟨Nat.zero_le _, Nat.zero_le _⟩, rfl, rfl, rfl, rfl⟩ hB hfl hX ⟨rfl, rfl, hnt, B.notSynchronized, B.returns, rfl, rfl⟩ s.heap [] _ hP va_S.rf hl
abbrev jx_hh : List (Nat × Nat × Nat × Nat) := [(0, 10, 13, 13)]
abbrev jx_wsL : List Cond := Cond.codeWith yL_table cL_table 5 (some .int) jx_hh :: gw
abbrev jx_avL (E : gE) (a1 a2 : Int32) : List Value := [.ref (E.2.1 0), .int a1, .int a2, .ref (E.2.1 90)]
/-- what the law's table answers, and the row that it writes -/
def jr (y : Option Int32) : Int32 := match y with
  | none => 1
  | some _ => 0
def jJ (J : gN) (y : Option Int32) : gN := match y with
  | none => J
  | some v => g_up J 90 0 v.toInt64
abbrev jx_QL (E : gE) (y : Option Int32) (I : gM) (J : gN) : Array Value → State → Outcome → State → Prop := va_Qi (fun (r : Int32) (_ : Unit) => r = jr y) (fun _ t => va_P E.1 vwCl (g_w sh E I (jJ J y)) t.heap) (gA sh E)
abbrev jx_XN : String → State → State → Prop := vx_X (fun _ : Unit => False) (fun _ _ _ => True) (fun _ => False)
set_option maxRecDepth 100000 in
set_option maxHeartbeats 4000000 in
/-- the law's table behind an answer -/
theorem jl_back {z : gZ} {E : gE} {I : gM} {J : gN} {v a1 a2 : Int32} (F : Fx z sh E RL cL_table ({ frames := 8, cells := 1, slots := 6, locals := 512 } : Room) 5) (hQ : zQ z = vx_MQ (zb z) (jx_QL E (some v) I J) jx_XN (za z) (zs z) 1 6 (gA sh E)) (hzA : zA z = gA sh E) (hrt : (zh z).sig.returnType = some .int) (hlk : (zh z).locks = false) (hk0 : zk z = 1) (hn0 : zn z = 6) : G z 8 [(0, .ref (E.2.1 0)), (1, .int a1), (2, .int a2), (3, .ref (E.2.1 90))] [.int v, .int 0, .ref (E.2.1 90)] I J := by
  refine g_i2l (v := v.toInt64) F dL_table_8 rfl ?_
  refine g_last (k := 90) (n := 1) F 0 s90 rfl (by decide) (by decide) dL_table_9 ?_
  refine g_goto (tgt := 17) F dL_table_10 (by decide) ?_
  refine g_iconst (v := 0) F dL_table_17 (by decide) ?_
  obtain ⟨hx, hb, hml, hown, hts, hK, hD, hkk, hL, hR, hS0, hE0⟩ := F
  intro H locs ls hP hS hl
  rw [hzA] at hS
  rw [hS0, hE0] at hP
  unfold gW
  rw [hQ, hk0, hn0]
  refine vx_ret ?_
  exact W.iret (v := 0) hx hb hrt (fun t ht hW => ⟨⟨0, (), rfl, rfl, by show va_P _ _ _ t.heap; rw [ht]; exact hP⟩, hS.F ht⟩) hS.2.2 dL_table_18 hlk
set_option maxRecDepth 100000 in
set_option maxHeartbeats 4000000 in
/-- the law's table: 0 and the answer laid, or 1 -/
theorem kL_table (l : Launch) (hfl : l.stackTraces = false) (E : gE) (hE : gDist sh E) (bk sa : Nat) (a1 a2 : Int32) (I : gM) (J : gN) {y : Option Int32} (h : fT8 a1 a2 I = some y) : vx_Met l yL_table jx_wsL ({ frames := 8, cells := 1, slots := 6, locals := 512 } : Room) (jx_Pc E bk sa I J (jx_avL E a1 a2)) (jx_QL E y I J) jx_XN 1 6 (gA sh E) := by
  refine vx_ofWH (cc := cL_table) (maxL := 5) (ret := some .int) (hh := jx_hh) (by decide) rfl ?_
  intro p e s m args below meth c s₁ B hml hv
  obtain ⟨rfl, hP, hK, hX, hB⟩ := hv
  have hx := B.exec
  have hb := B.bytes
  have hts := atoms_spec (ws := jx_wsL) B.pre
  have hg : ∀ w ∈ gw, w.before (jx_avL E a1 a2).toArray s = true := fun w h => hts w (List.mem_cons_of_mem _ h)
  have hown : s.vm.findClass RL = some m.cls := findClass_of_methodNamed B.named
  have htab := vx_table (x := yL_table) B (hts _ List.mem_cons_self)
  have hl := lv_entry (jx_avL E a1 a2) (n := 5) (Nat.le_of_ble_eq_true rfl)
  rw [lg_entry_eq]
  generalize (lg_sl (jx_avL E a1 a2) ++ List.replicate (5 - (lg_sl (jx_avL E a1 a2)).length) Slot.unset).toArray = ls at hl ⊢
  have hl : lv_has ls 5 [(0, .ref (E.2.1 0)), (1, .int a1), (2, .int a2), (3, .ref (E.2.1 90))] := hl
  refine lv_aload_n hx hb dL_table_0 rfl (lv_at hl 3 rfl) ?_
  refine lv_iconst (v := 0) hx hb dL_table_1 (by decide) ?_
  refine lv_aload_n hx hb dL_table_2 rfl (lv_at hl 0 rfl) ?_
  refine lv_iload_n hx hb dL_table_3 rfl (lv_at hl 1 rfl) ?_
  refine lv_iload_n hx hb dL_table_4 rfl (lv_at hl 2 rfl) ?_
  obtain ⟨m1, m2, m3, m4, m5, m6, m7, m8⟩ := mX8_table
  have cw : CallW (headSpec jx_wsL ({ frames := 8, cells := 1, slots := 6, locals := 512 } : Room)).room s (jx_avL E a1 a2).toArray RL RX8 7 yX8_table cX8_table 3 (some .int) (gws yX8_table cX8_table 3 (some .int)) ({ frames := 7, cells := 1, slots := 6, locals := 448 } : Room) 1 6 2 :=
    ⟨callB_of 2 hg (gw_good0 m4) rfl rfl rfl (hg _ m3) (hg _ q767) ⟨m6, m7, m8⟩ ⟨Nat.le_of_ble_eq_true rfl, Nat.le_of_ble_eq_true rfl⟩, hg _ m1, hg _ m2⟩
  refine vx_calli (vx_runV (As := [.int a1, .int a2]) (rest := [.int 0, .ref (E.2.1 90)]) ⟨hx, hb, hml, hown, hg⟩ (kX8_table l hfl E hE bk sa a1 a2 I J h) cw ⟨jx_blind, va_recv hK hP (ci := 8) (q0 := 0) rfl (g_get s0), fun U hU hW => ⟨rfl, by rw [hU]; exact hP, va_K.moved hW.alike hK, by rw [hU]; exact jx_X.warm hW hX, by rw [hU]; exact bX.same hW.alike hB⟩⟩ rfl rfl hl.1 rfl (lv_room (Nat.le_of_ble_eq_true rfl)) dL_table_5 ⟨Nat.le_of_ble_eq_true rfl, Nat.le_of_ble_eq_true rfl⟩) (va_S.rf (A := gA sh E)) (fun _ _ h => h) (fun _ h => h) (fun _ _ h => h) (fun C ce q9 u t H1 locs1 ht hvm hpx hBX hz hk hS1 hce hcv hcl => ?_) (fun r u t H1 locs1 ht hvm hpost hB1 hz hk hS1 => ?_)
  · obtain ⟨rfl, hP1⟩ := hBX
    have hpx : y = none := hpx
    subst hpx
    rw [ht] at hP1
    refine vx_catch hown [] ⟨0, 10, 13, 13⟩ [] (htab.trans rfl) (fun z hz => absurd hz List.not_mem_nil) (by decide) (by decide) (hg _ q766) (va_Nw.use rfl hX.2.2.2.1) hce hcv hcl ?_
    refine lv_astore (lv' := [(4, .ref q9), (0, .ref (E.2.1 0)), (1, .int a1), (2, .int a2), (3, .ref (E.2.1 90))]) hx hb dL_table_13 hl (by decide) rfl (fun ls hl => ?_)
    refine lv_iconst (v := 1) hx hb dL_table_15 (by decide) ?_
    refine vx_ret ?_
    exact W.iret (v := 1) hx hb B.returns (fun t ht hW => ⟨⟨1, (), rfl, rfl, by show va_P _ _ _ t.heap; rw [ht]; exact hP1⟩, hS1.F ht⟩) hS1.2.2 dL_table_16 B.notSynchronized
  · have hpost : y = some r := hpost
    subst hpost
    have hB1 : va_P E.1 vwCl (g_w sh E I J) t.heap := hB1
    rw [ht] at hB1
    exact jl_back (z := ((p, l, e, (headSpec jx_wsL ({ frames := 8, cells := 1, slots := 6, locals := 512 } : Room)).room, s, m, (jx_avL E a1 a2).toArray, below, meth, c), (1, 6, vx_MQ below (jx_QL E (some r) I J) jx_XN (jx_avL E a1 a2).toArray s 1 6 (gA sh E)), (sh, E), gA sh E, 5)) ⟨hx, hb, hml, hown, hg, hK, g_D hE (fun k hk => ⟨k, hk, rfl⟩), ⟨Nat.le_of_ble_eq_true rfl, Nat.le_of_ble_eq_true rfl⟩, rfl, rfl, rfl, rfl⟩ rfl rfl B.returns B.notSynchronized rfl rfl H1 locs1 ls hB1 hS1 hl
