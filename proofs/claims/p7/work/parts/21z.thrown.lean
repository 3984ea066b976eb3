theorem DX9_thrown_0 : dAre cX9_thrown [(0, .aload_n 0, 1), (1, .getfield 93, 3), (4, .ireturn, 1)] := dAre0 (by decide +kernel)
theorem dX9_thrown_0 : decode cX9_thrown 0 = .ok (.aload_n 0, 1) := DX9_thrown_0.1
theorem dX9_thrown_1 : decode cX9_thrown 1 = .ok (.getfield 93, 3) := DX9_thrown_0.2.1
theorem dX9_thrown_4 : decode cX9_thrown 4 = .ok (.ireturn, 1) := DX9_thrown_0.2.2.1
theorem mX9_thrown : gMv yX9_thrown cX9_thrown 1 (some .int) RX9 0 := ⟨q909, q910, q10, q911, rfl, by decide, by decide, by decide +kernel⟩
noncomputable def fX9_thrown (I : gM) : Option (Int32) :=
  some (I 62 0)
set_option maxRecDepth 100000 in
set_option maxHeartbeats 4000000 in
theorem wX9_thrown (l : Launch) (E : gE) (hE : gDist sh E) (bk : Nat) (I : gM) (J : gN) {r : Int32} (h : fX9_thrown I = some r) : Cu l sh E bk yX9_thrown cX9_thrown 1 (some .int) (gR 0) [.ref (E.2.1 62)] I J (fun r1 I1 J1 => r1 = some (.int r) ∧ I1 = I ∧ J1 = J) := by
  refine Cu.of "LeapJoinModel" rfl hE (by decide) (Nat.le_of_ble_eq_true rfl) (fun z F B e hl => ?_)
  subst hl
  unfold fX9_thrown at h
  refine g_aload_n F 0 dX9_thrown_0 rfl rfl ?_
  refine g_geti (j := 0) (v := I 62 0) F s62 rfl rfl uX9 (by decide) q821 rfl dX9_thrown_1 ?_
  obtain rfl := Option.some.inj h
  exact g_iret F e dX9_thrown_4 ⟨rfl, rfl, rfl⟩
