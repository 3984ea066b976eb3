def g9 (I : gM) : gM := fun k j => bif Nat.ble 62 k then 0 else I k j
def h9 (J : gN) : gN := fun k j => bif Nat.ble 62 k then 0 else J k j
/-- the cells of LeapJoinModel and out[] as they were made -/
def Z9 (I : gM) (J : gN) : Prop := (∀ k j, 62 ≤ k → I k j = 0) ∧ (∀ k j, 62 ≤ k → J k j = 0)
theorem Z9_0 : Z9 (fun _ _ => 0) (fun _ _ => 0) := ⟨fun _ _ _ => rfl, fun _ _ _ => rfl⟩
theorem Z9_up {I : gM} {J : gN} {k j : Nat} {v : Int32} (hk : k < 62) (h : Z9 I J) : Z9 (g_up I k j v) J := by
  refine ⟨fun a b hn => ?_, h.2⟩
  have e : ¬ (a = k ∧ b = j) := fun q => by omega
  simp only [g_up, if_neg e]; exact h.1 a b hn
theorem Z9_g {I : gM} {J : gN} (h : Z9 I J) : I = g9 I := by
  funext k j
  unfold g9
  cases e : Nat.ble 62 k with
  | false => rfl
  | true => exact h.1 k j (Nat.le_of_ble_eq_true e)
theorem Z9_h {I : gM} {J : gN} (h : Z9 I J) : J = h9 J := by
  funext k j
  unfold h9
  cases e : Nat.ble 62 k with
  | false => rfl
  | true => exact h.2 k j (Nat.le_of_ble_eq_true e)
theorem dX8_end_0 : decode cX8_end 0 = .ok (.iload_n 1, 1) := by decide +kernel
theorem dX8_end_1 : decode cX8_end 1 = .ok (.ifCond .lt 14, 3) := by decide +kernel
theorem dX8_end_4 : decode cX8_end 4 = .ok (.iload_n 1, 1) := by decide +kernel
theorem dX8_end_5 : decode cX8_end 5 = .ok (.aload_n 0, 1) := by decide +kernel
theorem dX8_end_6 : decode cX8_end 6 = .ok (.getfield 12, 3) := by decide +kernel
theorem dX8_end_9 : decode cX8_end 9 = .ok (.getfield 101, 3) := by decide +kernel
theorem dX8_end_12 : decode cX8_end 12 = .ok (.if_icmp .le 5, 3) := by decide +kernel
theorem dX8_end_15 : decode cX8_end 15 = .ok (.iconst 0, 1) := by decide +kernel
theorem dX8_end_16 : decode cX8_end 16 = .ok (.ireturn, 1) := by decide +kernel
theorem dX8_end_17 : decode cX8_end 17 = .ok (.aload_n 0, 1) := by decide +kernel
theorem dX8_end_18 : decode cX8_end 18 = .ok (.getfield 12, 3) := by decide +kernel
theorem dX8_end_21 : decode cX8_end 21 = .ok (.iload_n 1, 1) := by decide +kernel
theorem dX8_end_22 : decode cX8_end 22 = .ok (.putfield 101, 3) := by decide +kernel
theorem dX8_end_25 : decode cX8_end 25 = .ok (.iconst 1, 1) := by decide +kernel
theorem dX8_end_26 : decode cX8_end 26 = .ok (.ireturn, 1) := by decide +kernel
theorem dX8_fault_0 : decode cX8_fault 0 = .ok (.iload_n 1, 1) := by decide +kernel
theorem dX8_fault_1 : decode cX8_fault 1 = .ok (.ifCond .ne 15, 3) := by decide +kernel
theorem dX8_fault_4 : decode cX8_fault 4 = .ok (.aload_n 0, 1) := by decide +kernel
theorem dX8_fault_5 : decode cX8_fault 5 = .ok (.getfield 12, 3) := by decide +kernel
theorem dX8_fault_8 : decode cX8_fault 8 = .ok (.aload_n 0, 1) := by decide +kernel
theorem dX8_fault_9 : decode cX8_fault 9 = .ok (.getfield 23, 3) := by decide +kernel
theorem dX8_fault_12 : decode cX8_fault 12 = .ok (.invokevirtual 108, 3) := by decide +kernel
theorem dX8_fault_15 : decode cX8_fault 15 = .ok (.ireturn, 1) := by decide +kernel
theorem dX8_fault_16 : decode cX8_fault 16 = .ok (.iload_n 1, 1) := by decide +kernel
theorem dX8_fault_17 : decode cX8_fault 17 = .ok (.iconst 1, 1) := by decide +kernel
theorem dX8_fault_18 : decode cX8_fault 18 = .ok (.if_icmp .ne 15, 3) := by decide +kernel
theorem dX8_fault_21 : decode cX8_fault 21 = .ok (.aload_n 0, 1) := by decide +kernel
theorem dX8_fault_22 : decode cX8_fault 22 = .ok (.getfield 12, 3) := by decide +kernel
theorem dX8_fault_25 : decode cX8_fault 25 = .ok (.aload_n 0, 1) := by decide +kernel
theorem dX8_fault_26 : decode cX8_fault 26 = .ok (.getfield 77, 3) := by decide +kernel
theorem dX8_fault_29 : decode cX8_fault 29 = .ok (.invokevirtual 112, 3) := by decide +kernel
theorem dX8_fault_32 : decode cX8_fault 32 = .ok (.ireturn, 1) := by decide +kernel
theorem dX8_fault_33 : decode cX8_fault 33 = .ok (.bipush (-2), 2) := by decide +kernel
theorem dX8_fault_35 : decode cX8_fault 35 = .ok (.ireturn, 1) := by decide +kernel
theorem dX6_readScript_0 : decode cX6_readScript 0 = .ok (.aload_n 0, 1) := by decide +kernel
theorem dX6_readScript_1 : decode cX6_readScript 1 = .ok (.iconst 0, 1) := by decide +kernel
theorem dX6_readScript_2 : decode cX6_readScript 2 = .ok (.putfield 19, 3) := by decide +kernel
theorem dX6_readScript_5 : decode cX6_readScript 5 = .ok (.aload_n 1, 1) := by decide +kernel
theorem dX6_readScript_6 : decode cX6_readScript 6 = .ok (.invokevirtual 35, 3) := by decide +kernel
theorem dX6_readScript_9 : decode cX6_readScript 9 = .ok (.aload_n 0, 1) := by decide +kernel
theorem dX6_readScript_10 : decode cX6_readScript 10 = .ok (.aload_n 1, 1) := by decide +kernel
theorem dX6_readScript_11 : decode cX6_readScript 11 = .ok (.invokevirtual 38, 3) := by decide +kernel
theorem dX6_readScript_14 : decode cX6_readScript 14 = .ok (.istore_n 2, 1) := by decide +kernel
theorem dX6_readScript_15 : decode cX6_readScript 15 = .ok (.iconst 1, 1) := by decide +kernel
theorem dX6_readScript_16 : decode cX6_readScript 16 = .ok (.istore_n 3, 1) := by decide +kernel
theorem dX6_readScript_17 : decode cX6_readScript 17 = .ok (.iload_n 2, 1) := by decide +kernel
theorem dX6_readScript_18 : decode cX6_readScript 18 = .ok (.ifCond .eq 40, 3) := by decide +kernel
theorem dX6_readScript_21 : decode cX6_readScript 21 = .ok (.iload_n 3, 1) := by decide +kernel
theorem dX6_readScript_22 : decode cX6_readScript 22 = .ok (.bipush 12, 2) := by decide +kernel
theorem dX6_readScript_24 : decode cX6_readScript 24 = .ok (.if_icmp .ge 34, 3) := by decide +kernel
theorem dX6_readScript_27 : decode cX6_readScript 27 = .ok (.aload_n 0, 1) := by decide +kernel
theorem dX6_readScript_28 : decode cX6_readScript 28 = .ok (.invokevirtual 31, 3) := by decide +kernel
theorem dX6_readScript_31 : decode cX6_readScript 31 = .ok (.bipush 59, 2) := by decide +kernel
theorem dX6_readScript_33 : decode cX6_readScript 33 = .ok (.if_icmp .ne 25, 3) := by decide +kernel
theorem dX6_readScript_36 : decode cX6_readScript 36 = .ok (.aload_n 0, 1) := by decide +kernel
theorem dX6_readScript_37 : decode cX6_readScript 37 = .ok (.dup, 1) := by decide +kernel
theorem dX6_readScript_38 : decode cX6_readScript 38 = .ok (.getfield 19, 3) := by decide +kernel
theorem dX6_readScript_41 : decode cX6_readScript 41 = .ok (.iconst 1, 1) := by decide +kernel
theorem dX6_readScript_42 : decode cX6_readScript 42 = .ok (.iadd, 1) := by decide +kernel
theorem dX6_readScript_43 : decode cX6_readScript 43 = .ok (.putfield 19, 3) := by decide +kernel
theorem dX6_readScript_46 : decode cX6_readScript 46 = .ok (.aload_n 0, 1) := by decide +kernel
theorem dX6_readScript_47 : decode cX6_readScript 47 = .ok (.aload_n 1, 1) := by decide +kernel
theorem dX6_readScript_48 : decode cX6_readScript 48 = .ok (.invokevirtual 38, 3) := by decide +kernel
theorem dX6_readScript_51 : decode cX6_readScript 51 = .ok (.istore_n 2, 1) := by decide +kernel
theorem dX6_readScript_52 : decode cX6_readScript 52 = .ok (.iinc 3 1, 3) := by decide +kernel
theorem dX6_readScript_55 : decode cX6_readScript 55 = .ok (.goto (-38), 3) := by decide +kernel
theorem dX6_readScript_58 : decode cX6_readScript 58 = .ok (.iload_n 2, 1) := by decide +kernel
theorem dX6_readScript_59 : decode cX6_readScript 59 = .ok (.ifCond .eq 15, 3) := by decide +kernel
theorem dX6_readScript_62 : decode cX6_readScript 62 = .ok (.aload_n 0, 1) := by decide +kernel
theorem dX6_readScript_63 : decode cX6_readScript 63 = .ok (.invokevirtual 31, 3) := by decide +kernel
theorem dX6_readScript_66 : decode cX6_readScript 66 = .ok (.iconst (-1), 1) := by decide +kernel
theorem dX6_readScript_67 : decode cX6_readScript 67 = .ok (.if_icmp .ne 7, 3) := by decide +kernel
theorem dX6_readScript_70 : decode cX6_readScript 70 = .ok (.iconst (-1), 1) := by decide +kernel
theorem dX6_readScript_71 : decode cX6_readScript 71 = .ok (.goto 7, 3) := by decide +kernel
theorem dX6_readScript_74 : decode cX6_readScript 74 = .ok (.aload_n 0, 1) := by decide +kernel
theorem dX6_readScript_75 : decode cX6_readScript 75 = .ok (.getfield 19, 3) := by decide +kernel
theorem dX6_readScript_78 : decode cX6_readScript 78 = .ok (.ireturn, 1) := by decide +kernel
theorem dX4_clear_0 : decode cX4_clear 0 = .ok (.aload_n 0, 1) := by decide +kernel
theorem dX4_clear_1 : decode cX4_clear 1 = .ok (.iconst 0, 1) := by decide +kernel
theorem dX4_clear_2 : decode cX4_clear 2 = .ok (.putfield 9, 3) := by decide +kernel
theorem dX4_clear_5 : decode cX4_clear 5 = .ok (.return_, 1) := by decide +kernel
theorem dX6_isStep_0 : decode cX6_isStep 0 = .ok (.aload_n 0, 1) := by decide +kernel
theorem dX6_isStep_1 : decode cX6_isStep 1 = .ok (.invokevirtual 31, 3) := by decide +kernel
theorem dX6_isStep_4 : decode cX6_isStep 4 = .ok (.istore_n 2, 1) := by decide +kernel
theorem dX6_isStep_5 : decode cX6_isStep 5 = .ok (.iload_n 2, 1) := by decide +kernel
theorem dX6_isStep_6 : decode cX6_isStep 6 = .ok (.bipush 112, 2) := by decide +kernel
theorem dX6_isStep_8 : decode cX6_isStep 8 = .ok (.if_icmp .eq 23, 3) := by decide +kernel
theorem dX6_isStep_11 : decode cX6_isStep 11 = .ok (.iload_n 2, 1) := by decide +kernel
theorem dX6_isStep_12 : decode cX6_isStep 12 = .ok (.bipush 116, 2) := by decide +kernel
theorem dX6_isStep_14 : decode cX6_isStep 14 = .ok (.if_icmp .eq 17, 3) := by decide +kernel
theorem dX6_isStep_17 : decode cX6_isStep 17 = .ok (.iload_n 2, 1) := by decide +kernel
theorem dX6_isStep_18 : decode cX6_isStep 18 = .ok (.bipush 117, 2) := by decide +kernel
theorem dX6_isStep_20 : decode cX6_isStep 20 = .ok (.if_icmp .eq 11, 3) := by decide +kernel
theorem dX6_isStep_23 : decode cX6_isStep 23 = .ok (.iload_n 2, 1) := by decide +kernel
theorem dX6_isStep_24 : decode cX6_isStep 24 = .ok (.bipush 111, 2) := by decide +kernel
theorem dX6_isStep_26 : decode cX6_isStep 26 = .ok (.if_icmp .eq 5, 3) := by decide +kernel
theorem dX6_isStep_29 : decode cX6_isStep 29 = .ok (.iconst 0, 1) := by decide +kernel
theorem dX6_isStep_30 : decode cX6_isStep 30 = .ok (.ireturn, 1) := by decide +kernel
theorem dX6_isStep_31 : decode cX6_isStep 31 = .ok (.aload_n 0, 1) := by decide +kernel
theorem dX6_isStep_32 : decode cX6_isStep 32 = .ok (.dup, 1) := by decide +kernel
theorem dX6_isStep_33 : decode cX6_isStep 33 = .ok (.getfield 19, 3) := by decide +kernel
theorem dX6_isStep_36 : decode cX6_isStep 36 = .ok (.iconst 1, 1) := by decide +kernel
theorem dX6_isStep_37 : decode cX6_isStep 37 = .ok (.iadd, 1) := by decide +kernel
theorem dX6_isStep_38 : decode cX6_isStep 38 = .ok (.putfield 19, 3) := by decide +kernel
theorem dX6_isStep_41 : decode cX6_isStep 41 = .ok (.iload_n 2, 1) := by decide +kernel
theorem dX6_isStep_42 : decode cX6_isStep 42 = .ok (.bipush 111, 2) := by decide +kernel
theorem dX6_isStep_44 : decode cX6_isStep 44 = .ok (.if_icmp .ne 9, 3) := by decide +kernel
theorem dX6_isStep_47 : decode cX6_isStep 47 = .ok (.aload_n 0, 1) := by decide +kernel
theorem dX6_isStep_48 : decode cX6_isStep 48 = .ok (.aload_n 1, 1) := by decide +kernel
theorem dX6_isStep_49 : decode cX6_isStep 49 = .ok (.invokevirtual 70, 3) := by decide +kernel
theorem dX6_isStep_52 : decode cX6_isStep 52 = .ok (.ireturn, 1) := by decide +kernel
theorem dX6_isStep_53 : decode cX6_isStep 53 = .ok (.aload_n 0, 1) := by decide +kernel
theorem dX6_isStep_54 : decode cX6_isStep 54 = .ok (.invokevirtual 31, 3) := by decide +kernel
theorem dX6_isStep_57 : decode cX6_isStep 57 = .ok (.istore_n 3, 1) := by decide +kernel
theorem dX6_isStep_58 : decode cX6_isStep 58 = .ok (.iload_n 3, 1) := by decide +kernel
theorem dX6_isStep_59 : decode cX6_isStep 59 = .ok (.invokestatic 56, 3) := by decide +kernel
theorem dX6_isStep_62 : decode cX6_isStep 62 = .ok (.ifCond .ne 5, 3) := by decide +kernel
theorem dX6_isStep_65 : decode cX6_isStep 65 = .ok (.iconst 0, 1) := by decide +kernel
theorem dX6_isStep_66 : decode cX6_isStep 66 = .ok (.ireturn, 1) := by decide +kernel
theorem dX6_isStep_67 : decode cX6_isStep 67 = .ok (.aload_n 0, 1) := by decide +kernel
theorem dX6_isStep_68 : decode cX6_isStep 68 = .ok (.dup, 1) := by decide +kernel
theorem dX6_isStep_69 : decode cX6_isStep 69 = .ok (.getfield 19, 3) := by decide +kernel
theorem dX6_isStep_72 : decode cX6_isStep 72 = .ok (.iconst 1, 1) := by decide +kernel
theorem dX6_isStep_73 : decode cX6_isStep 73 = .ok (.iadd, 1) := by decide +kernel
theorem dX6_isStep_74 : decode cX6_isStep 74 = .ok (.putfield 19, 3) := by decide +kernel
theorem dX6_isStep_77 : decode cX6_isStep 77 = .ok (.aload_n 1, 1) := by decide +kernel
theorem dX6_isStep_78 : decode cX6_isStep 78 = .ok (.iload_n 2, 1) := by decide +kernel
theorem dX6_isStep_79 : decode cX6_isStep 79 = .ok (.bipush 112, 2) := by decide +kernel
theorem dX6_isStep_81 : decode cX6_isStep 81 = .ok (.if_icmp .ne 7, 3) := by decide +kernel
theorem dX6_isStep_84 : decode cX6_isStep 84 = .ok (.iconst 0, 1) := by decide +kernel
theorem dX6_isStep_85 : decode cX6_isStep 85 = .ok (.goto 14, 3) := by decide +kernel
theorem dX6_isStep_88 : decode cX6_isStep 88 = .ok (.iload_n 2, 1) := by decide +kernel
theorem dX6_isStep_89 : decode cX6_isStep 89 = .ok (.bipush 116, 2) := by decide +kernel
theorem dX6_isStep_91 : decode cX6_isStep 91 = .ok (.if_icmp .ne 7, 3) := by decide +kernel
theorem dX6_isStep_94 : decode cX6_isStep 94 = .ok (.iconst 1, 1) := by decide +kernel
theorem dX6_isStep_95 : decode cX6_isStep 95 = .ok (.goto 4, 3) := by decide +kernel
theorem dX6_isStep_98 : decode cX6_isStep 98 = .ok (.iconst 2, 1) := by decide +kernel
theorem dX6_isStep_99 : decode cX6_isStep 99 = .ok (.iload_n 3, 1) := by decide +kernel
theorem dX6_isStep_100 : decode cX6_isStep 100 = .ok (.bipush 48, 2) := by decide +kernel
theorem dX6_isStep_102 : decode cX6_isStep 102 = .ok (.isub, 1) := by decide +kernel
theorem dX6_isStep_103 : decode cX6_isStep 103 = .ok (.invokevirtual 73, 3) := by decide +kernel
theorem dX6_isStep_106 : decode cX6_isStep 106 = .ok (.iload_n 2, 1) := by decide +kernel
theorem dX6_isStep_107 : decode cX6_isStep 107 = .ok (.bipush 117, 2) := by decide +kernel
theorem dX6_isStep_109 : decode cX6_isStep 109 = .ok (.if_icmp .eq 11, 3) := by decide +kernel
theorem dX6_isStep_112 : decode cX6_isStep 112 = .ok (.aload_n 0, 1) := by decide +kernel
theorem dX6_isStep_113 : decode cX6_isStep 113 = .ok (.aload_n 1, 1) := by decide +kernel
theorem dX6_isStep_114 : decode cX6_isStep 114 = .ok (.invokevirtual 76, 3) := by decide +kernel
theorem dX6_isStep_117 : decode cX6_isStep 117 = .ok (.ifCond .eq 7, 3) := by decide +kernel
theorem dX6_isStep_120 : decode cX6_isStep 120 = .ok (.iconst 1, 1) := by decide +kernel
theorem dX6_isStep_121 : decode cX6_isStep 121 = .ok (.goto 4, 3) := by decide +kernel
theorem dX6_isStep_124 : decode cX6_isStep 124 = .ok (.iconst 0, 1) := by decide +kernel
theorem dX6_isStep_125 : decode cX6_isStep 125 = .ok (.ireturn, 1) := by decide +kernel
theorem dX6_peek_0 : decode cX6_peek 0 = .ok (.aload_n 0, 1) := by decide +kernel
theorem dX6_peek_1 : decode cX6_peek 1 = .ok (.getfield 19, 3) := by decide +kernel
theorem dX6_peek_4 : decode cX6_peek 4 = .ok (.aload_n 0, 1) := by decide +kernel
theorem dX6_peek_5 : decode cX6_peek 5 = .ok (.getfield 9, 3) := by decide +kernel
theorem dX6_peek_8 : decode cX6_peek 8 = .ok (.if_icmp .ge 40, 3) := by decide +kernel
theorem dX6_peek_11 : decode cX6_peek 11 = .ok (.aload_n 0, 1) := by decide +kernel
theorem dX6_peek_12 : decode cX6_peek 12 = .ok (.getfield 19, 3) := by decide +kernel
theorem dX6_peek_15 : decode cX6_peek 15 = .ok (.sipush 400, 3) := by decide +kernel
theorem dX6_peek_18 : decode cX6_peek 18 = .ok (.if_icmp .ge 30, 3) := by decide +kernel
theorem dX6_peek_21 : decode cX6_peek 21 = .ok (.aload_n 0, 1) := by decide +kernel
theorem dX6_peek_22 : decode cX6_peek 22 = .ok (.getfield 15, 3) := by decide +kernel
theorem dX6_peek_25 : decode cX6_peek 25 = .ok (.aload_n 0, 1) := by decide +kernel
theorem dX6_peek_26 : decode cX6_peek 26 = .ok (.getfield 19, 3) := by decide +kernel
theorem dX6_peek_29 : decode cX6_peek 29 = .ok (.baload, 1) := by decide +kernel
theorem dX6_peek_30 : decode cX6_peek 30 = .ok (.bipush 32, 2) := by decide +kernel
theorem dX6_peek_32 : decode cX6_peek 32 = .ok (.if_icmp .ne 16, 3) := by decide +kernel
theorem dX6_peek_35 : decode cX6_peek 35 = .ok (.aload_n 0, 1) := by decide +kernel
theorem dX6_peek_36 : decode cX6_peek 36 = .ok (.dup, 1) := by decide +kernel
theorem dX6_peek_37 : decode cX6_peek 37 = .ok (.getfield 19, 3) := by decide +kernel
theorem dX6_peek_40 : decode cX6_peek 40 = .ok (.iconst 1, 1) := by decide +kernel
theorem dX6_peek_41 : decode cX6_peek 41 = .ok (.iadd, 1) := by decide +kernel
theorem dX6_peek_42 : decode cX6_peek 42 = .ok (.putfield 19, 3) := by decide +kernel
theorem dX6_peek_45 : decode cX6_peek 45 = .ok (.goto (-45), 3) := by decide +kernel
theorem dX6_peek_48 : decode cX6_peek 48 = .ok (.aload_n 0, 1) := by decide +kernel
theorem dX6_peek_49 : decode cX6_peek 49 = .ok (.getfield 19, 3) := by decide +kernel
theorem dX6_peek_52 : decode cX6_peek 52 = .ok (.aload_n 0, 1) := by decide +kernel
theorem dX6_peek_53 : decode cX6_peek 53 = .ok (.getfield 9, 3) := by decide +kernel
theorem dX6_peek_56 : decode cX6_peek 56 = .ok (.if_icmp .ge 29, 3) := by decide +kernel
theorem dX6_peek_59 : decode cX6_peek 59 = .ok (.aload_n 0, 1) := by decide +kernel
theorem dX6_peek_60 : decode cX6_peek 60 = .ok (.getfield 19, 3) := by decide +kernel
theorem dX6_peek_63 : decode cX6_peek 63 = .ok (.sipush 400, 3) := by decide +kernel
theorem dX6_peek_66 : decode cX6_peek 66 = .ok (.if_icmp .ge 19, 3) := by decide +kernel
theorem dX6_peek_69 : decode cX6_peek 69 = .ok (.aload_n 0, 1) := by decide +kernel
theorem dX6_peek_70 : decode cX6_peek 70 = .ok (.getfield 15, 3) := by decide +kernel
theorem dX6_peek_73 : decode cX6_peek 73 = .ok (.aload_n 0, 1) := by decide +kernel
theorem dX6_peek_74 : decode cX6_peek 74 = .ok (.getfield 19, 3) := by decide +kernel
theorem dX6_peek_77 : decode cX6_peek 77 = .ok (.baload, 1) := by decide +kernel
theorem dX6_peek_78 : decode cX6_peek 78 = .ok (.sipush 255, 3) := by decide +kernel
theorem dX6_peek_81 : decode cX6_peek 81 = .ok (.iand, 1) := by decide +kernel
theorem dX6_peek_82 : decode cX6_peek 82 = .ok (.goto 4, 3) := by decide +kernel
theorem dX6_peek_85 : decode cX6_peek 85 = .ok (.iconst (-1), 1) := by decide +kernel
theorem dX6_peek_86 : decode cX6_peek 86 = .ok (.ireturn, 1) := by decide +kernel
theorem dX6_readTables_0 : decode cX6_readTables 0 = .ok (.aload_n 0, 1) := by decide +kernel
theorem dX6_readTables_1 : decode cX6_readTables 1 = .ok (.iconst 0, 1) := by decide +kernel
theorem dX6_readTables_2 : decode cX6_readTables 2 = .ok (.putfield 19, 3) := by decide +kernel
theorem dX6_readTables_5 : decode cX6_readTables 5 = .ok (.aload_n 1, 1) := by decide +kernel
theorem dX6_readTables_6 : decode cX6_readTables 6 = .ok (.invokevirtual 22, 3) := by decide +kernel
theorem dX6_readTables_9 : decode cX6_readTables 9 = .ok (.aload_n 0, 1) := by decide +kernel
theorem dX6_readTables_10 : decode cX6_readTables 10 = .ok (.aload_n 1, 1) := by decide +kernel
theorem dX6_readTables_11 : decode cX6_readTables 11 = .ok (.invokevirtual 27, 3) := by decide +kernel
theorem dX6_readTables_14 : decode cX6_readTables 14 = .ok (.istore_n 2, 1) := by decide +kernel
theorem dX6_readTables_15 : decode cX6_readTables 15 = .ok (.iconst 1, 1) := by decide +kernel
theorem dX6_readTables_16 : decode cX6_readTables 16 = .ok (.istore_n 3, 1) := by decide +kernel
theorem dX6_readTables_17 : decode cX6_readTables 17 = .ok (.iload_n 2, 1) := by decide +kernel
theorem dX6_readTables_18 : decode cX6_readTables 18 = .ok (.ifCond .eq 39, 3) := by decide +kernel
theorem dX6_readTables_21 : decode cX6_readTables 21 = .ok (.iload_n 3, 1) := by decide +kernel
theorem dX6_readTables_22 : decode cX6_readTables 22 = .ok (.iconst 4, 1) := by decide +kernel
theorem dX6_readTables_23 : decode cX6_readTables 23 = .ok (.if_icmp .ge 34, 3) := by decide +kernel
theorem dX6_readTables_26 : decode cX6_readTables 26 = .ok (.aload_n 0, 1) := by decide +kernel
theorem dX6_readTables_27 : decode cX6_readTables 27 = .ok (.invokevirtual 31, 3) := by decide +kernel
theorem dX6_readTables_30 : decode cX6_readTables 30 = .ok (.bipush 59, 2) := by decide +kernel
theorem dX6_readTables_32 : decode cX6_readTables 32 = .ok (.if_icmp .ne 25, 3) := by decide +kernel
theorem dX6_readTables_35 : decode cX6_readTables 35 = .ok (.aload_n 0, 1) := by decide +kernel
theorem dX6_readTables_36 : decode cX6_readTables 36 = .ok (.dup, 1) := by decide +kernel
theorem dX6_readTables_37 : decode cX6_readTables 37 = .ok (.getfield 19, 3) := by decide +kernel
theorem dX6_readTables_40 : decode cX6_readTables 40 = .ok (.iconst 1, 1) := by decide +kernel
theorem dX6_readTables_41 : decode cX6_readTables 41 = .ok (.iadd, 1) := by decide +kernel
theorem dX6_readTables_42 : decode cX6_readTables 42 = .ok (.putfield 19, 3) := by decide +kernel
theorem dX6_readTables_45 : decode cX6_readTables 45 = .ok (.aload_n 0, 1) := by decide +kernel
theorem dX6_readTables_46 : decode cX6_readTables 46 = .ok (.aload_n 1, 1) := by decide +kernel
theorem dX6_readTables_47 : decode cX6_readTables 47 = .ok (.invokevirtual 27, 3) := by decide +kernel
theorem dX6_readTables_50 : decode cX6_readTables 50 = .ok (.istore_n 2, 1) := by decide +kernel
theorem dX6_readTables_51 : decode cX6_readTables 51 = .ok (.iinc 3 1, 3) := by decide +kernel
theorem dX6_readTables_54 : decode cX6_readTables 54 = .ok (.goto (-37), 3) := by decide +kernel
theorem dX6_readTables_57 : decode cX6_readTables 57 = .ok (.iload_n 2, 1) := by decide +kernel
theorem dX6_readTables_58 : decode cX6_readTables 58 = .ok (.ifCond .eq 15, 3) := by decide +kernel
theorem dX6_readTables_61 : decode cX6_readTables 61 = .ok (.aload_n 0, 1) := by decide +kernel
theorem dX6_readTables_62 : decode cX6_readTables 62 = .ok (.invokevirtual 31, 3) := by decide +kernel
theorem dX6_readTables_65 : decode cX6_readTables 65 = .ok (.iconst (-1), 1) := by decide +kernel
theorem dX6_readTables_66 : decode cX6_readTables 66 = .ok (.if_icmp .ne 7, 3) := by decide +kernel
theorem dX6_readTables_69 : decode cX6_readTables 69 = .ok (.iconst (-1), 1) := by decide +kernel
theorem dX6_readTables_70 : decode cX6_readTables 70 = .ok (.goto 7, 3) := by decide +kernel
theorem dX6_readTables_73 : decode cX6_readTables 73 = .ok (.aload_n 0, 1) := by decide +kernel
theorem dX6_readTables_74 : decode cX6_readTables 74 = .ok (.getfield 19, 3) := by decide +kernel
theorem dX6_readTables_77 : decode cX6_readTables 77 = .ok (.ireturn, 1) := by decide +kernel
theorem dX5_clear_0 : decode cX5_clear 0 = .ok (.aload_n 0, 1) := by decide +kernel
theorem dX5_clear_1 : decode cX5_clear 1 = .ok (.iconst 0, 1) := by decide +kernel
theorem dX5_clear_2 : decode cX5_clear 2 = .ok (.putfield 9, 3) := by decide +kernel
theorem dX5_clear_5 : decode cX5_clear 5 = .ok (.aload_n 0, 1) := by decide +kernel
theorem dX5_clear_6 : decode cX5_clear 6 = .ok (.iconst 0, 1) := by decide +kernel
theorem dX5_clear_7 : decode cX5_clear 7 = .ok (.putfield 15, 3) := by decide +kernel
theorem dX5_clear_10 : decode cX5_clear 10 = .ok (.aload_n 0, 1) := by decide +kernel
theorem dX5_clear_11 : decode cX5_clear 11 = .ok (.iconst 0, 1) := by decide +kernel
theorem dX5_clear_12 : decode cX5_clear 12 = .ok (.putfield 18, 3) := by decide +kernel
theorem dX5_clear_15 : decode cX5_clear 15 = .ok (.aload_n 0, 1) := by decide +kernel
theorem dX5_clear_16 : decode cX5_clear 16 = .ok (.getfield 21, 3) := by decide +kernel
theorem dX5_clear_19 : decode cX5_clear 19 = .ok (.iconst 0, 1) := by decide +kernel
theorem dX5_clear_20 : decode cX5_clear 20 = .ok (.invokestatic 40, 3) := by decide +kernel
theorem dX5_clear_23 : decode cX5_clear 23 = .ok (.aload_n 0, 1) := by decide +kernel
theorem dX5_clear_24 : decode cX5_clear 24 = .ok (.getfield 25, 3) := by decide +kernel
theorem dX5_clear_27 : decode cX5_clear 27 = .ok (.iconst 0, 1) := by decide +kernel
theorem dX5_clear_28 : decode cX5_clear 28 = .ok (.invokestatic 40, 3) := by decide +kernel
theorem dX5_clear_31 : decode cX5_clear 31 = .ok (.return_, 1) := by decide +kernel
theorem dJ7_fill_53178_0 : decode cJ7_fill_53178 0 = .ok (.iconst 0, 1) := by decide +kernel
theorem dJ7_fill_53178_1 : decode cJ7_fill_53178 1 = .ok (.istore_n 2, 1) := by decide +kernel
theorem dJ7_fill_53178_2 : decode cJ7_fill_53178 2 = .ok (.aload_n 0, 1) := by decide +kernel
theorem dJ7_fill_53178_3 : decode cJ7_fill_53178 3 = .ok (.arraylength, 1) := by decide +kernel
theorem dJ7_fill_53178_4 : decode cJ7_fill_53178 4 = .ok (.istore_n 3, 1) := by decide +kernel
theorem dJ7_fill_53178_5 : decode cJ7_fill_53178 5 = .ok (.iload_n 2, 1) := by decide +kernel
theorem dJ7_fill_53178_6 : decode cJ7_fill_53178 6 = .ok (.iload_n 3, 1) := by decide +kernel
theorem dJ7_fill_53178_7 : decode cJ7_fill_53178 7 = .ok (.if_icmp .ge 13, 3) := by decide +kernel
theorem dJ7_fill_53178_10 : decode cJ7_fill_53178 10 = .ok (.aload_n 0, 1) := by decide +kernel
theorem dJ7_fill_53178_11 : decode cJ7_fill_53178 11 = .ok (.iload_n 2, 1) := by decide +kernel
theorem dJ7_fill_53178_12 : decode cJ7_fill_53178 12 = .ok (.iload_n 1, 1) := by decide +kernel
theorem dJ7_fill_53178_13 : decode cJ7_fill_53178 13 = .ok (.iastore, 1) := by decide +kernel
theorem dJ7_fill_53178_14 : decode cJ7_fill_53178 14 = .ok (.iinc 2 1, 3) := by decide +kernel
theorem dJ7_fill_53178_17 : decode cJ7_fill_53178 17 = .ok (.goto (-12), 3) := by decide +kernel
theorem dJ7_fill_53178_20 : decode cJ7_fill_53178 20 = .ok (.return_, 1) := by decide +kernel
theorem dX6_isClause_0 : decode cX6_isClause 0 = .ok (.aload_n 1, 1) := by decide +kernel
theorem dX6_isClause_1 : decode cX6_isClause 1 = .ok (.invokevirtual 42, 3) := by decide +kernel
theorem dX6_isClause_4 : decode cX6_isClause 4 = .ok (.aload_n 1, 1) := by decide +kernel
theorem dX6_isClause_5 : decode cX6_isClause 5 = .ok (.getfield 45, 3) := by decide +kernel
theorem dX6_isClause_8 : decode cX6_isClause 8 = .ok (.iconst 1, 1) := by decide +kernel
theorem dX6_isClause_9 : decode cX6_isClause 9 = .ok (.isub, 1) := by decide +kernel
theorem dX6_isClause_10 : decode cX6_isClause 10 = .ok (.istore_n 2, 1) := by decide +kernel
theorem dX6_isClause_11 : decode cX6_isClause 11 = .ok (.iconst 0, 1) := by decide +kernel
theorem dX6_isClause_12 : decode cX6_isClause 12 = .ok (.istore_n 3, 1) := by decide +kernel
theorem dX6_isClause_13 : decode cX6_isClause 13 = .ok (.iload_n 3, 1) := by decide +kernel
theorem dX6_isClause_14 : decode cX6_isClause 14 = .ok (.iconst 3, 1) := by decide +kernel
theorem dX6_isClause_15 : decode cX6_isClause 15 = .ok (.if_icmp .ge 51, 3) := by decide +kernel
theorem dX6_isClause_18 : decode cX6_isClause 18 = .ok (.aload_n 0, 1) := by decide +kernel
theorem dX6_isClause_19 : decode cX6_isClause 19 = .ok (.invokevirtual 31, 3) := by decide +kernel
theorem dX6_isClause_22 : decode cX6_isClause 22 = .ok (.bipush 97, 2) := by decide +kernel
theorem dX6_isClause_24 : decode cX6_isClause 24 = .ok (.isub, 1) := by decide +kernel
theorem dX6_isClause_25 : decode cX6_isClause 25 = .ok (.istore 4, 2) := by decide +kernel
theorem dX6_isClause_27 : decode cX6_isClause 27 = .ok (.iload 4, 2) := by decide +kernel
theorem dX6_isClause_29 : decode cX6_isClause 29 = .ok (.ifCond .lt 37, 3) := by decide +kernel
theorem dX6_isClause_32 : decode cX6_isClause 32 = .ok (.iload 4, 2) := by decide +kernel
theorem dX6_isClause_34 : decode cX6_isClause 34 = .ok (.iconst 4, 1) := by decide +kernel
theorem dX6_isClause_35 : decode cX6_isClause 35 = .ok (.if_icmp .ge 31, 3) := by decide +kernel
theorem dX6_isClause_38 : decode cX6_isClause 38 = .ok (.aload_n 1, 1) := by decide +kernel
theorem dX6_isClause_39 : decode cX6_isClause 39 = .ok (.iload 4, 2) := by decide +kernel
theorem dX6_isClause_41 : decode cX6_isClause 41 = .ok (.invokevirtual 48, 3) := by decide +kernel
theorem dX6_isClause_44 : decode cX6_isClause 44 = .ok (.ifCond .ne 6, 3) := by decide +kernel
theorem dX6_isClause_47 : decode cX6_isClause 47 = .ok (.goto 19, 3) := by decide +kernel
theorem dX6_isClause_50 : decode cX6_isClause 50 = .ok (.aload_n 0, 1) := by decide +kernel
theorem dX6_isClause_51 : decode cX6_isClause 51 = .ok (.dup, 1) := by decide +kernel
theorem dX6_isClause_52 : decode cX6_isClause 52 = .ok (.getfield 19, 3) := by decide +kernel
theorem dX6_isClause_55 : decode cX6_isClause 55 = .ok (.iconst 1, 1) := by decide +kernel
theorem dX6_isClause_56 : decode cX6_isClause 56 = .ok (.iadd, 1) := by decide +kernel
theorem dX6_isClause_57 : decode cX6_isClause 57 = .ok (.putfield 19, 3) := by decide +kernel
theorem dX6_isClause_60 : decode cX6_isClause 60 = .ok (.iinc 3 1, 3) := by decide +kernel
theorem dX6_isClause_63 : decode cX6_isClause 63 = .ok (.goto (-50), 3) := by decide +kernel
theorem dX6_isClause_66 : decode cX6_isClause 66 = .ok (.iload_n 2, 1) := by decide +kernel
theorem dX6_isClause_67 : decode cX6_isClause 67 = .ok (.ifCond .lt 21, 3) := by decide +kernel
theorem dX6_isClause_70 : decode cX6_isClause 70 = .ok (.aload_n 1, 1) := by decide +kernel
theorem dX6_isClause_71 : decode cX6_isClause 71 = .ok (.getfield 52, 3) := by decide +kernel
theorem dX6_isClause_74 : decode cX6_isClause 74 = .ok (.iload_n 2, 1) := by decide +kernel
theorem dX6_isClause_75 : decode cX6_isClause 75 = .ok (.iaload, 1) := by decide +kernel
theorem dX6_isClause_76 : decode cX6_isClause 76 = .ok (.ifCond .eq 12, 3) := by decide +kernel
theorem dX6_isClause_79 : decode cX6_isClause 79 = .ok (.aload_n 0, 1) := by decide +kernel
theorem dX6_isClause_80 : decode cX6_isClause 80 = .ok (.invokevirtual 31, 3) := by decide +kernel
theorem dX6_isClause_83 : decode cX6_isClause 83 = .ok (.bipush 58, 2) := by decide +kernel
theorem dX6_isClause_85 : decode cX6_isClause 85 = .ok (.if_icmp .eq 5, 3) := by decide +kernel
theorem dX6_isClause_88 : decode cX6_isClause 88 = .ok (.iconst 0, 1) := by decide +kernel
theorem dX6_isClause_89 : decode cX6_isClause 89 = .ok (.ireturn, 1) := by decide +kernel
theorem dX6_isClause_90 : decode cX6_isClause 90 = .ok (.aload_n 0, 1) := by decide +kernel
theorem dX6_isClause_91 : decode cX6_isClause 91 = .ok (.dup, 1) := by decide +kernel
theorem dX6_isClause_92 : decode cX6_isClause 92 = .ok (.getfield 19, 3) := by decide +kernel
theorem dX6_isClause_95 : decode cX6_isClause 95 = .ok (.iconst 1, 1) := by decide +kernel
theorem dX6_isClause_96 : decode cX6_isClause 96 = .ok (.iadd, 1) := by decide +kernel
theorem dX6_isClause_97 : decode cX6_isClause 97 = .ok (.putfield 19, 3) := by decide +kernel
theorem dX6_isClause_100 : decode cX6_isClause 100 = .ok (.aload_n 0, 1) := by decide +kernel
theorem dX6_isClause_101 : decode cX6_isClause 101 = .ok (.invokevirtual 31, 3) := by decide +kernel
theorem dX6_isClause_104 : decode cX6_isClause 104 = .ok (.invokestatic 56, 3) := by decide +kernel
theorem dX6_isClause_107 : decode cX6_isClause 107 = .ok (.ifCond .ne 5, 3) := by decide +kernel
theorem dX6_isClause_110 : decode cX6_isClause 110 = .ok (.iconst 1, 1) := by decide +kernel
theorem dX6_isClause_111 : decode cX6_isClause 111 = .ok (.ireturn, 1) := by decide +kernel
theorem dX6_isClause_112 : decode cX6_isClause 112 = .ok (.iconst 1, 1) := by decide +kernel
theorem dX6_isClause_113 : decode cX6_isClause 113 = .ok (.istore_n 3, 1) := by decide +kernel
theorem dX6_isClause_114 : decode cX6_isClause 114 = .ok (.iload_n 3, 1) := by decide +kernel
theorem dX6_isClause_115 : decode cX6_isClause 115 = .ok (.bipush 12, 2) := by decide +kernel
theorem dX6_isClause_117 : decode cX6_isClause 117 = .ok (.if_icmp .ge 41, 3) := by decide +kernel
theorem dX6_isClause_120 : decode cX6_isClause 120 = .ok (.aload_n 0, 1) := by decide +kernel
theorem dX6_isClause_121 : decode cX6_isClause 121 = .ok (.aload_n 1, 1) := by decide +kernel
theorem dX6_isClause_122 : decode cX6_isClause 122 = .ok (.iload_n 2, 1) := by decide +kernel
theorem dX6_isClause_123 : decode cX6_isClause 123 = .ok (.invokevirtual 59, 3) := by decide +kernel
theorem dX6_isClause_126 : decode cX6_isClause 126 = .ok (.ifCond .ne 5, 3) := by decide +kernel
theorem dX6_isClause_129 : decode cX6_isClause 129 = .ok (.iconst 0, 1) := by decide +kernel
theorem dX6_isClause_130 : decode cX6_isClause 130 = .ok (.ireturn, 1) := by decide +kernel
theorem dX6_isClause_131 : decode cX6_isClause 131 = .ok (.aload_n 0, 1) := by decide +kernel
theorem dX6_isClause_132 : decode cX6_isClause 132 = .ok (.invokevirtual 31, 3) := by decide +kernel
theorem dX6_isClause_135 : decode cX6_isClause 135 = .ok (.bipush 47, 2) := by decide +kernel
theorem dX6_isClause_137 : decode cX6_isClause 137 = .ok (.if_icmp .eq 5, 3) := by decide +kernel
theorem dX6_isClause_140 : decode cX6_isClause 140 = .ok (.iconst 1, 1) := by decide +kernel
theorem dX6_isClause_141 : decode cX6_isClause 141 = .ok (.ireturn, 1) := by decide +kernel
theorem dX6_isClause_142 : decode cX6_isClause 142 = .ok (.aload_n 0, 1) := by decide +kernel
theorem dX6_isClause_143 : decode cX6_isClause 143 = .ok (.dup, 1) := by decide +kernel
theorem dX6_isClause_144 : decode cX6_isClause 144 = .ok (.getfield 19, 3) := by decide +kernel
theorem dX6_isClause_147 : decode cX6_isClause 147 = .ok (.iconst 1, 1) := by decide +kernel
theorem dX6_isClause_148 : decode cX6_isClause 148 = .ok (.iadd, 1) := by decide +kernel
theorem dX6_isClause_149 : decode cX6_isClause 149 = .ok (.putfield 19, 3) := by decide +kernel
theorem dX6_isClause_152 : decode cX6_isClause 152 = .ok (.iinc 3 1, 3) := by decide +kernel
theorem dX6_isClause_155 : decode cX6_isClause 155 = .ok (.goto (-41), 3) := by decide +kernel
theorem dX6_isClause_158 : decode cX6_isClause 158 = .ok (.aload_n 0, 1) := by decide +kernel
theorem dX6_isClause_159 : decode cX6_isClause 159 = .ok (.aload_n 1, 1) := by decide +kernel
theorem dX6_isClause_160 : decode cX6_isClause 160 = .ok (.iload_n 2, 1) := by decide +kernel
theorem dX6_isClause_161 : decode cX6_isClause 161 = .ok (.invokevirtual 59, 3) := by decide +kernel
theorem dX6_isClause_164 : decode cX6_isClause 164 = .ok (.ireturn, 1) := by decide +kernel
theorem dX5_open_0 : decode cX5_open 0 = .ok (.aload_n 0, 1) := by decide +kernel
theorem dX5_open_1 : decode cX5_open 1 = .ok (.getfield 9, 3) := by decide +kernel
theorem dX5_open_4 : decode cX5_open 4 = .ok (.iconst 4, 1) := by decide +kernel
theorem dX5_open_5 : decode cX5_open 5 = .ok (.if_icmp .ge 48, 3) := by decide +kernel
theorem dX5_open_8 : decode cX5_open 8 = .ok (.aload_n 0, 1) := by decide +kernel
theorem dX5_open_9 : decode cX5_open 9 = .ok (.getfield 21, 3) := by decide +kernel
theorem dX5_open_12 : decode cX5_open 12 = .ok (.aload_n 0, 1) := by decide +kernel
theorem dX5_open_13 : decode cX5_open 13 = .ok (.getfield 9, 3) := by decide +kernel
theorem dX5_open_16 : decode cX5_open 16 = .ok (.iconst 0, 1) := by decide +kernel
theorem dX5_open_17 : decode cX5_open 17 = .ok (.iastore, 1) := by decide +kernel
theorem dX5_open_18 : decode cX5_open 18 = .ok (.aload_n 0, 1) := by decide +kernel
theorem dX5_open_19 : decode cX5_open 19 = .ok (.getfield 25, 3) := by decide +kernel
theorem dX5_open_22 : decode cX5_open 22 = .ok (.aload_n 0, 1) := by decide +kernel
theorem dX5_open_23 : decode cX5_open 23 = .ok (.getfield 9, 3) := by decide +kernel
theorem dX5_open_26 : decode cX5_open 26 = .ok (.iconst 0, 1) := by decide +kernel
theorem dX5_open_27 : decode cX5_open 27 = .ok (.iastore, 1) := by decide +kernel
theorem dX5_open_28 : decode cX5_open 28 = .ok (.aload_n 0, 1) := by decide +kernel
theorem dX5_open_29 : decode cX5_open 29 = .ok (.dup, 1) := by decide +kernel
theorem dX5_open_30 : decode cX5_open 30 = .ok (.getfield 15, 3) := by decide +kernel
theorem dX5_open_33 : decode cX5_open 33 = .ok (.iconst 1, 1) := by decide +kernel
theorem dX5_open_34 : decode cX5_open 34 = .ok (.aload_n 0, 1) := by decide +kernel
theorem dX5_open_35 : decode cX5_open 35 = .ok (.getfield 9, 3) := by decide +kernel
theorem dX5_open_38 : decode cX5_open 38 = .ok (.ishl, 1) := by decide +kernel
theorem dX5_open_39 : decode cX5_open 39 = .ok (.ior, 1) := by decide +kernel
theorem dX5_open_40 : decode cX5_open 40 = .ok (.putfield 15, 3) := by decide +kernel
theorem dX5_open_43 : decode cX5_open 43 = .ok (.aload_n 0, 1) := by decide +kernel
theorem dX5_open_44 : decode cX5_open 44 = .ok (.dup, 1) := by decide +kernel
theorem dX5_open_45 : decode cX5_open 45 = .ok (.getfield 9, 3) := by decide +kernel
theorem dX5_open_48 : decode cX5_open 48 = .ok (.iconst 1, 1) := by decide +kernel
theorem dX5_open_49 : decode cX5_open 49 = .ok (.iadd, 1) := by decide +kernel
theorem dX5_open_50 : decode cX5_open 50 = .ok (.putfield 9, 3) := by decide +kernel
theorem dX5_open_53 : decode cX5_open 53 = .ok (.return_, 1) := by decide +kernel
theorem dX8_text_0 : decode cX8_text 0 = .ok (.iload_n 1, 1) := by decide +kernel
theorem dX8_text_1 : decode cX8_text 1 = .ok (.ifCond .ne 8, 3) := by decide +kernel
theorem dX8_text_4 : decode cX8_text 4 = .ok (.aload_n 0, 1) := by decide +kernel
theorem dX8_text_5 : decode cX8_text 5 = .ok (.invokevirtual 116, 3) := by decide +kernel
theorem dX8_text_8 : decode cX8_text 8 = .ok (.ireturn, 1) := by decide +kernel
theorem dX8_text_9 : decode cX8_text 9 = .ok (.iload_n 1, 1) := by decide +kernel
theorem dX8_text_10 : decode cX8_text 10 = .ok (.iconst 1, 1) := by decide +kernel
theorem dX8_text_11 : decode cX8_text 11 = .ok (.if_icmp .ne 8, 3) := by decide +kernel
theorem dX8_text_14 : decode cX8_text 14 = .ok (.aload_n 0, 1) := by decide +kernel
theorem dX8_text_15 : decode cX8_text 15 = .ok (.invokevirtual 120, 3) := by decide +kernel
theorem dX8_text_18 : decode cX8_text 18 = .ok (.ireturn, 1) := by decide +kernel
theorem dX8_text_19 : decode cX8_text 19 = .ok (.iconst (-1), 1) := by decide +kernel
theorem dX8_text_20 : decode cX8_text 20 = .ok (.ireturn, 1) := by decide +kernel
theorem dX8_textOfScript_0 : decode cX8_textOfScript 0 = .ok (.aload_n 0, 1) := by decide +kernel
theorem dX8_textOfScript_1 : decode cX8_textOfScript 1 = .ok (.getfield 85, 3) := by decide +kernel
theorem dX8_textOfScript_4 : decode cX8_textOfScript 4 = .ok (.iconst 4, 1) := by decide +kernel
theorem dX8_textOfScript_5 : decode cX8_textOfScript 5 = .ok (.if_icmp .ge 18, 3) := by decide +kernel
theorem dX8_textOfScript_8 : decode cX8_textOfScript 8 = .ok (.aload_n 0, 1) := by decide +kernel
theorem dX8_textOfScript_9 : decode cX8_textOfScript 9 = .ok (.getfield 12, 3) := by decide +kernel
theorem dX8_textOfScript_12 : decode cX8_textOfScript 12 = .ok (.aload_n 0, 1) := by decide +kernel
theorem dX8_textOfScript_13 : decode cX8_textOfScript 13 = .ok (.getfield 77, 3) := by decide +kernel
theorem dX8_textOfScript_16 : decode cX8_textOfScript 16 = .ok (.invokevirtual 112, 3) := by decide +kernel
theorem dX8_textOfScript_19 : decode cX8_textOfScript 19 = .ok (.iconst (-1), 1) := by decide +kernel
theorem dX8_textOfScript_20 : decode cX8_textOfScript 20 = .ok (.if_icmp .eq 5, 3) := by decide +kernel
theorem dX8_textOfScript_23 : decode cX8_textOfScript 23 = .ok (.iconst (-1), 1) := by decide +kernel
theorem dX8_textOfScript_24 : decode cX8_textOfScript 24 = .ok (.ireturn, 1) := by decide +kernel
theorem dX8_textOfScript_25 : decode cX8_textOfScript 25 = .ok (.aload_n 0, 1) := by decide +kernel
theorem dX8_textOfScript_26 : decode cX8_textOfScript 26 = .ok (.getfield 72, 3) := by decide +kernel
theorem dX8_textOfScript_29 : decode cX8_textOfScript 29 = .ok (.aload_n 0, 1) := by decide +kernel
theorem dX8_textOfScript_30 : decode cX8_textOfScript 30 = .ok (.getfield 85, 3) := by decide +kernel
theorem dX8_textOfScript_33 : decode cX8_textOfScript 33 = .ok (.aaload, 1) := by decide +kernel
theorem dX8_textOfScript_34 : decode cX8_textOfScript 34 = .ok (.aload_n 0, 1) := by decide +kernel
theorem dX8_textOfScript_35 : decode cX8_textOfScript 35 = .ok (.getfield 77, 3) := by decide +kernel
theorem dX8_textOfScript_38 : decode cX8_textOfScript 38 = .ok (.invokevirtual 137, 3) := by decide +kernel
theorem dX8_textOfScript_41 : decode cX8_textOfScript 41 = .ok (.aload_n 0, 1) := by decide +kernel
theorem dX8_textOfScript_42 : decode cX8_textOfScript 42 = .ok (.getfield 12, 3) := by decide +kernel
theorem dX8_textOfScript_45 : decode cX8_textOfScript 45 = .ok (.iconst 0, 1) := by decide +kernel
theorem dX8_textOfScript_46 : decode cX8_textOfScript 46 = .ok (.putfield 101, 3) := by decide +kernel
theorem dX8_textOfScript_49 : decode cX8_textOfScript 49 = .ok (.aload_n 0, 1) := by decide +kernel
theorem dX8_textOfScript_50 : decode cX8_textOfScript 50 = .ok (.dup, 1) := by decide +kernel
theorem dX8_textOfScript_51 : decode cX8_textOfScript 51 = .ok (.getfield 85, 3) := by decide +kernel
theorem dX8_textOfScript_54 : decode cX8_textOfScript 54 = .ok (.iconst 1, 1) := by decide +kernel
theorem dX8_textOfScript_55 : decode cX8_textOfScript 55 = .ok (.iadd, 1) := by decide +kernel
theorem dX8_textOfScript_56 : decode cX8_textOfScript 56 = .ok (.putfield 85, 3) := by decide +kernel
theorem dX8_textOfScript_59 : decode cX8_textOfScript 59 = .ok (.aload_n 0, 1) := by decide +kernel
theorem dX8_textOfScript_60 : decode cX8_textOfScript 60 = .ok (.getfield 85, 3) := by decide +kernel
theorem dX8_textOfScript_63 : decode cX8_textOfScript 63 = .ok (.iconst 1, 1) := by decide +kernel
theorem dX8_textOfScript_64 : decode cX8_textOfScript 64 = .ok (.isub, 1) := by decide +kernel
theorem dX8_textOfScript_65 : decode cX8_textOfScript 65 = .ok (.ireturn, 1) := by decide +kernel
theorem dX8_textOfTables_0 : decode cX8_textOfTables 0 = .ok (.aload_n 0, 1) := by decide +kernel
theorem dX8_textOfTables_1 : decode cX8_textOfTables 1 = .ok (.getfield 12, 3) := by decide +kernel
theorem dX8_textOfTables_4 : decode cX8_textOfTables 4 = .ok (.aload_n 0, 1) := by decide +kernel
theorem dX8_textOfTables_5 : decode cX8_textOfTables 5 = .ok (.getfield 23, 3) := by decide +kernel
theorem dX8_textOfTables_8 : decode cX8_textOfTables 8 = .ok (.invokevirtual 108, 3) := by decide +kernel
theorem dX8_textOfTables_11 : decode cX8_textOfTables 11 = .ok (.iconst (-1), 1) := by decide +kernel
theorem dX8_textOfTables_12 : decode cX8_textOfTables 12 = .ok (.if_icmp .eq 5, 3) := by decide +kernel
theorem dX8_textOfTables_15 : decode cX8_textOfTables 15 = .ok (.iconst (-1), 1) := by decide +kernel
theorem dX8_textOfTables_16 : decode cX8_textOfTables 16 = .ok (.ireturn, 1) := by decide +kernel
theorem dX8_textOfTables_17 : decode cX8_textOfTables 17 = .ok (.aload_n 0, 1) := by decide +kernel
theorem dX8_textOfTables_18 : decode cX8_textOfTables 18 = .ok (.getfield 19, 3) := by decide +kernel
theorem dX8_textOfTables_21 : decode cX8_textOfTables 21 = .ok (.aload_n 0, 1) := by decide +kernel
theorem dX8_textOfTables_22 : decode cX8_textOfTables 22 = .ok (.getfield 23, 3) := by decide +kernel
theorem dX8_textOfTables_25 : decode cX8_textOfTables 25 = .ok (.invokevirtual 123, 3) := by decide +kernel
theorem dX8_textOfTables_28 : decode cX8_textOfTables 28 = .ok (.aload_n 0, 1) := by decide +kernel
theorem dX8_textOfTables_29 : decode cX8_textOfTables 29 = .ok (.getfield 12, 3) := by decide +kernel
theorem dX8_textOfTables_32 : decode cX8_textOfTables 32 = .ok (.iconst 0, 1) := by decide +kernel
theorem dX8_textOfTables_33 : decode cX8_textOfTables 33 = .ok (.putfield 101, 3) := by decide +kernel
theorem dX8_textOfTables_36 : decode cX8_textOfTables 36 = .ok (.aload_n 0, 1) := by decide +kernel
theorem dX8_textOfTables_37 : decode cX8_textOfTables 37 = .ok (.getfield 56, 3) := by decide +kernel
theorem dX8_textOfTables_40 : decode cX8_textOfTables 40 = .ok (.invokevirtual 127, 3) := by decide +kernel
theorem dX8_textOfTables_43 : decode cX8_textOfTables 43 = .ok (.aload_n 0, 1) := by decide +kernel
theorem dX8_textOfTables_44 : decode cX8_textOfTables 44 = .ok (.getfield 66, 3) := by decide +kernel
theorem dX8_textOfTables_47 : decode cX8_textOfTables 47 = .ok (.invokevirtual 130, 3) := by decide +kernel
theorem dX8_textOfTables_50 : decode cX8_textOfTables 50 = .ok (.aload_n 0, 1) := by decide +kernel
theorem dX8_textOfTables_51 : decode cX8_textOfTables 51 = .ok (.iconst 0, 1) := by decide +kernel
theorem dX8_textOfTables_52 : decode cX8_textOfTables 52 = .ok (.putfield 89, 3) := by decide +kernel
theorem dX8_textOfTables_55 : decode cX8_textOfTables 55 = .ok (.aload_n 0, 1) := by decide +kernel
theorem dX8_textOfTables_56 : decode cX8_textOfTables 56 = .ok (.invokevirtual 131, 3) := by decide +kernel
theorem dX8_textOfTables_59 : decode cX8_textOfTables 59 = .ok (.aload_n 0, 1) := by decide +kernel
theorem dX8_textOfTables_60 : decode cX8_textOfTables 60 = .ok (.getfield 19, 3) := by decide +kernel
theorem dX8_textOfTables_63 : decode cX8_textOfTables 63 = .ok (.getfield 134, 3) := by decide +kernel
theorem dX8_textOfTables_66 : decode cX8_textOfTables 66 = .ok (.ireturn, 1) := by decide +kernel
theorem dX8_rule_0 : decode cX8_rule 0 = .ok (.aload_n 0, 1) := by decide +kernel
theorem dX8_rule_1 : decode cX8_rule 1 = .ok (.getfield 19, 3) := by decide +kernel
theorem dX8_rule_4 : decode cX8_rule 4 = .ok (.getfield 134, 3) := by decide +kernel
theorem dX8_rule_7 : decode cX8_rule 7 = .ok (.ifCond .ne 5, 3) := by decide +kernel
theorem dX8_rule_10 : decode cX8_rule 10 = .ok (.iconst (-1), 1) := by decide +kernel
theorem dX8_rule_11 : decode cX8_rule 11 = .ok (.ireturn, 1) := by decide +kernel
theorem dX8_rule_12 : decode cX8_rule 12 = .ok (.iload_n 1, 1) := by decide +kernel
theorem dX8_rule_13 : decode cX8_rule 13 = .ok (.tableswitch 75 0 4 #[35, 43, 51, 59, 67], 35) := by decide +kernel
theorem dX8_rule_48 : decode cX8_rule 48 = .ok (.aload_n 0, 1) := by decide +kernel
theorem dX8_rule_49 : decode cX8_rule 49 = .ok (.getfield 19, 3) := by decide +kernel
theorem dX8_rule_52 : decode cX8_rule 52 = .ok (.getfield 134, 3) := by decide +kernel
theorem dX8_rule_55 : decode cX8_rule 55 = .ok (.ireturn, 1) := by decide +kernel
theorem dX8_rule_56 : decode cX8_rule 56 = .ok (.aload_n 0, 1) := by decide +kernel
theorem dX8_rule_57 : decode cX8_rule 57 = .ok (.getfield 19, 3) := by decide +kernel
theorem dX8_rule_60 : decode cX8_rule 60 = .ok (.getfield 150, 3) := by decide +kernel
theorem dX8_rule_63 : decode cX8_rule 63 = .ok (.ireturn, 1) := by decide +kernel
theorem dX8_rule_64 : decode cX8_rule 64 = .ok (.aload_n 0, 1) := by decide +kernel
theorem dX8_rule_65 : decode cX8_rule 65 = .ok (.getfield 19, 3) := by decide +kernel
theorem dX8_rule_68 : decode cX8_rule 68 = .ok (.getfield 140, 3) := by decide +kernel
theorem dX8_rule_71 : decode cX8_rule 71 = .ok (.ireturn, 1) := by decide +kernel
theorem dX8_rule_72 : decode cX8_rule 72 = .ok (.aload_n 0, 1) := by decide +kernel
theorem dX8_rule_73 : decode cX8_rule 73 = .ok (.getfield 19, 3) := by decide +kernel
theorem dX8_rule_76 : decode cX8_rule 76 = .ok (.invokevirtual 153, 3) := by decide +kernel
theorem dX8_rule_79 : decode cX8_rule 79 = .ok (.ireturn, 1) := by decide +kernel
theorem dX8_rule_80 : decode cX8_rule 80 = .ok (.aload_n 0, 1) := by decide +kernel
theorem dX8_rule_81 : decode cX8_rule 81 = .ok (.getfield 19, 3) := by decide +kernel
theorem dX8_rule_84 : decode cX8_rule 84 = .ok (.invokevirtual 156, 3) := by decide +kernel
theorem dX8_rule_87 : decode cX8_rule 87 = .ok (.ireturn, 1) := by decide +kernel
theorem dX8_rule_88 : decode cX8_rule 88 = .ok (.iconst (-1), 1) := by decide +kernel
theorem dX8_rule_89 : decode cX8_rule 89 = .ok (.ireturn, 1) := by decide +kernel
theorem dX8_cell_0 : decode cX8_cell 0 = .ok (.aload_n 0, 1) := by decide +kernel
theorem dX8_cell_1 : decode cX8_cell 1 = .ok (.getfield 19, 3) := by decide +kernel
theorem dX8_cell_4 : decode cX8_cell 4 = .ok (.iload_n 1, 1) := by decide +kernel
theorem dX8_cell_5 : decode cX8_cell 5 = .ok (.invokevirtual 159, 3) := by decide +kernel
theorem dX8_cell_8 : decode cX8_cell 8 = .ok (.ifCond .eq 37, 3) := by decide +kernel
theorem dX8_cell_11 : decode cX8_cell 11 = .ok (.iload_n 2, 1) := by decide +kernel
theorem dX8_cell_12 : decode cX8_cell 12 = .ok (.ifCond .lt 33, 3) := by decide +kernel
theorem dX8_cell_15 : decode cX8_cell 15 = .ok (.iload_n 2, 1) := by decide +kernel
theorem dX8_cell_16 : decode cX8_cell 16 = .ok (.aload_n 0, 1) := by decide +kernel
theorem dX8_cell_17 : decode cX8_cell 17 = .ok (.getfield 19, 3) := by decide +kernel
theorem dX8_cell_20 : decode cX8_cell 20 = .ok (.getfield 176, 3) := by decide +kernel
theorem dX8_cell_23 : decode cX8_cell 23 = .ok (.iload_n 1, 1) := by decide +kernel
theorem dX8_cell_24 : decode cX8_cell 24 = .ok (.iaload, 1) := by decide +kernel
theorem dX8_cell_25 : decode cX8_cell 25 = .ok (.if_icmp .ge 20, 3) := by decide +kernel
theorem dX8_cell_28 : decode cX8_cell 28 = .ok (.iload_n 3, 1) := by decide +kernel
theorem dX8_cell_29 : decode cX8_cell 29 = .ok (.ifCond .lt 16, 3) := by decide +kernel
theorem dX8_cell_32 : decode cX8_cell 32 = .ok (.iload_n 3, 1) := by decide +kernel
theorem dX8_cell_33 : decode cX8_cell 33 = .ok (.aload_n 0, 1) := by decide +kernel
theorem dX8_cell_34 : decode cX8_cell 34 = .ok (.getfield 19, 3) := by decide +kernel
theorem dX8_cell_37 : decode cX8_cell 37 = .ok (.getfield 170, 3) := by decide +kernel
theorem dX8_cell_40 : decode cX8_cell 40 = .ok (.iload_n 1, 1) := by decide +kernel
theorem dX8_cell_41 : decode cX8_cell 41 = .ok (.iaload, 1) := by decide +kernel
theorem dX8_cell_42 : decode cX8_cell 42 = .ok (.if_icmp .lt 5, 3) := by decide +kernel
theorem dX8_cell_45 : decode cX8_cell 45 = .ok (.iconst (-1), 1) := by decide +kernel
theorem dX8_cell_46 : decode cX8_cell 46 = .ok (.ireturn, 1) := by decide +kernel
theorem dX8_cell_47 : decode cX8_cell 47 = .ok (.aload_n 0, 1) := by decide +kernel
theorem dX8_cell_48 : decode cX8_cell 48 = .ok (.getfield 19, 3) := by decide +kernel
theorem dX8_cell_51 : decode cX8_cell 51 = .ok (.iload_n 1, 1) := by decide +kernel
theorem dX8_cell_52 : decode cX8_cell 52 = .ok (.iload_n 2, 1) := by decide +kernel
theorem dX8_cell_53 : decode cX8_cell 53 = .ok (.invokevirtual 182, 3) := by decide +kernel
theorem dX8_cell_56 : decode cX8_cell 56 = .ok (.bipush 14, 2) := by decide +kernel
theorem dX8_cell_58 : decode cX8_cell 58 = .ok (.bipush 7, 2) := by decide +kernel
theorem dX8_cell_60 : decode cX8_cell 60 = .ok (.iload_n 3, 1) := by decide +kernel
theorem dX8_cell_61 : decode cX8_cell 61 = .ok (.imul, 1) := by decide +kernel
theorem dX8_cell_62 : decode cX8_cell 62 = .ok (.isub, 1) := by decide +kernel
theorem dX8_cell_63 : decode cX8_cell 63 = .ok (.ishr, 1) := by decide +kernel
theorem dX8_cell_64 : decode cX8_cell 64 = .ok (.bipush 127, 2) := by decide +kernel
theorem dX8_cell_66 : decode cX8_cell 66 = .ok (.iand, 1) := by decide +kernel
theorem dX8_cell_67 : decode cX8_cell 67 = .ok (.ireturn, 1) := by decide +kernel
theorem dX5_isTable_0 : decode cX5_isTable 0 = .ok (.iload_n 1, 1) := by decide +kernel
theorem dX5_isTable_1 : decode cX5_isTable 1 = .ok (.ifCond .lt 15, 3) := by decide +kernel
theorem dX5_isTable_4 : decode cX5_isTable 4 = .ok (.iload_n 1, 1) := by decide +kernel
theorem dX5_isTable_5 : decode cX5_isTable 5 = .ok (.aload_n 0, 1) := by decide +kernel
theorem dX5_isTable_6 : decode cX5_isTable 6 = .ok (.getfield 9, 3) := by decide +kernel
theorem dX5_isTable_9 : decode cX5_isTable 9 = .ok (.if_icmp .ge 7, 3) := by decide +kernel
theorem dX5_isTable_12 : decode cX5_isTable 12 = .ok (.iconst 1, 1) := by decide +kernel
theorem dX5_isTable_13 : decode cX5_isTable 13 = .ok (.goto 4, 3) := by decide +kernel
theorem dX5_isTable_16 : decode cX5_isTable 16 = .ok (.iconst 0, 1) := by decide +kernel
theorem dX5_isTable_17 : decode cX5_isTable 17 = .ok (.ireturn, 1) := by decide +kernel
theorem dX8_rows_0 : decode cX8_rows 0 = .ok (.aload_n 0, 1) := by decide +kernel
theorem dX8_rows_1 : decode cX8_rows 1 = .ok (.getfield 19, 3) := by decide +kernel
theorem dX8_rows_4 : decode cX8_rows 4 = .ok (.getfield 134, 3) := by decide +kernel
theorem dX8_rows_7 : decode cX8_rows 7 = .ok (.ifCond .ne 7, 3) := by decide +kernel
theorem dX8_rows_10 : decode cX8_rows 10 = .ok (.iconst (-1), 1) := by decide +kernel
theorem dX8_rows_11 : decode cX8_rows 11 = .ok (.goto 10, 3) := by decide +kernel
theorem dX8_rows_14 : decode cX8_rows 14 = .ok (.aload_n 0, 1) := by decide +kernel
theorem dX8_rows_15 : decode cX8_rows 15 = .ok (.getfield 32, 3) := by decide +kernel
theorem dX8_rows_18 : decode cX8_rows 18 = .ok (.getfield 186, 3) := by decide +kernel
theorem dX8_rows_21 : decode cX8_rows 21 = .ok (.ireturn, 1) := by decide +kernel
theorem dX8_row_0 : decode cX8_row 0 = .ok (.aload_n 0, 1) := by decide +kernel
theorem dX8_row_1 : decode cX8_row 1 = .ok (.iload_n 2, 1) := by decide +kernel
theorem dX8_row_2 : decode cX8_row 2 = .ok (.invokevirtual 187, 3) := by decide +kernel
theorem dX8_row_5 : decode cX8_row 5 = .ok (.ifCond .eq 18, 3) := by decide +kernel
theorem dX8_row_8 : decode cX8_row 8 = .ok (.iload_n 1, 1) := by decide +kernel
theorem dX8_row_9 : decode cX8_row 9 = .ok (.ifCond .lt 14, 3) := by decide +kernel
theorem dX8_row_12 : decode cX8_row 12 = .ok (.iload_n 1, 1) := by decide +kernel
theorem dX8_row_13 : decode cX8_row 13 = .ok (.aload_n 0, 1) := by decide +kernel
theorem dX8_row_14 : decode cX8_row 14 = .ok (.getfield 32, 3) := by decide +kernel
theorem dX8_row_17 : decode cX8_row 17 = .ok (.getfield 186, 3) := by decide +kernel
theorem dX8_row_20 : decode cX8_row 20 = .ok (.if_icmp .lt 5, 3) := by decide +kernel
theorem dX8_row_23 : decode cX8_row 23 = .ok (.iconst (-1), 1) := by decide +kernel
theorem dX8_row_24 : decode cX8_row 24 = .ok (.ireturn, 1) := by decide +kernel
theorem dX8_row_25 : decode cX8_row 25 = .ok (.aload_n 0, 1) := by decide +kernel
theorem dX8_row_26 : decode cX8_row 26 = .ok (.getfield 32, 3) := by decide +kernel
theorem dX8_row_29 : decode cX8_row 29 = .ok (.iload_n 1, 1) := by decide +kernel
theorem dX8_row_30 : decode cX8_row 30 = .ok (.iload_n 2, 1) := by decide +kernel
theorem dX8_row_31 : decode cX8_row 31 = .ok (.invokevirtual 190, 3) := by decide +kernel
theorem dX8_row_34 : decode cX8_row 34 = .ok (.ireturn, 1) := by decide +kernel
theorem dX8_isAsked_0 : decode cX8_isAsked 0 = .ok (.iload_n 1, 1) := by decide +kernel
theorem dX8_isAsked_1 : decode cX8_isAsked 1 = .ok (.ifCond .lt 26, 3) := by decide +kernel
theorem dX8_isAsked_4 : decode cX8_isAsked 4 = .ok (.iload_n 1, 1) := by decide +kernel
theorem dX8_isAsked_5 : decode cX8_isAsked 5 = .ok (.iconst 4, 1) := by decide +kernel
theorem dX8_isAsked_6 : decode cX8_isAsked 6 = .ok (.if_icmp .ge 21, 3) := by decide +kernel
theorem dX8_isAsked_9 : decode cX8_isAsked 9 = .ok (.aload_n 0, 1) := by decide +kernel
theorem dX8_isAsked_10 : decode cX8_isAsked 10 = .ok (.getfield 19, 3) := by decide +kernel
theorem dX8_isAsked_13 : decode cX8_isAsked 13 = .ok (.invokevirtual 153, 3) := by decide +kernel
theorem dX8_isAsked_16 : decode cX8_isAsked 16 = .ok (.iload_n 1, 1) := by decide +kernel
theorem dX8_isAsked_17 : decode cX8_isAsked 17 = .ok (.ishr, 1) := by decide +kernel
theorem dX8_isAsked_18 : decode cX8_isAsked 18 = .ok (.iconst 1, 1) := by decide +kernel
theorem dX8_isAsked_19 : decode cX8_isAsked 19 = .ok (.iand, 1) := by decide +kernel
theorem dX8_isAsked_20 : decode cX8_isAsked 20 = .ok (.ifCond .eq 7, 3) := by decide +kernel
theorem dX8_isAsked_23 : decode cX8_isAsked 23 = .ok (.iconst 1, 1) := by decide +kernel
theorem dX8_isAsked_24 : decode cX8_isAsked 24 = .ok (.goto 4, 3) := by decide +kernel
theorem dX8_isAsked_27 : decode cX8_isAsked 27 = .ok (.iconst 0, 1) := by decide +kernel
theorem dX8_isAsked_28 : decode cX8_isAsked 28 = .ok (.ireturn, 1) := by decide +kernel
theorem dX5_asked_0 : decode cX5_asked 0 = .ok (.iconst 0, 1) := by decide +kernel
theorem dX5_asked_1 : decode cX5_asked 1 = .ok (.istore_n 1, 1) := by decide +kernel
theorem dX5_asked_2 : decode cX5_asked 2 = .ok (.iconst 0, 1) := by decide +kernel
theorem dX5_asked_3 : decode cX5_asked 3 = .ok (.istore_n 2, 1) := by decide +kernel
theorem dX5_asked_4 : decode cX5_asked 4 = .ok (.iload_n 2, 1) := by decide +kernel
theorem dX5_asked_5 : decode cX5_asked 5 = .ok (.aload_n 0, 1) := by decide +kernel
theorem dX5_asked_6 : decode cX5_asked 6 = .ok (.getfield 9, 3) := by decide +kernel
theorem dX5_asked_9 : decode cX5_asked 9 = .ok (.if_icmp .ge 25, 3) := by decide +kernel
theorem dX5_asked_12 : decode cX5_asked 12 = .ok (.aload_n 0, 1) := by decide +kernel
theorem dX5_asked_13 : decode cX5_asked 13 = .ok (.iload_n 2, 1) := by decide +kernel
theorem dX5_asked_14 : decode cX5_asked 14 = .ok (.invokevirtual 59, 3) := by decide +kernel
theorem dX5_asked_17 : decode cX5_asked 17 = .ok (.ifCond .eq 11, 3) := by decide +kernel
theorem dX5_asked_20 : decode cX5_asked 20 = .ok (.iload_n 1, 1) := by decide +kernel
theorem dX5_asked_21 : decode cX5_asked 21 = .ok (.aload_n 0, 1) := by decide +kernel
theorem dX5_asked_22 : decode cX5_asked 22 = .ok (.iload_n 2, 1) := by decide +kernel
theorem dX5_asked_23 : decode cX5_asked 23 = .ok (.invokevirtual 62, 3) := by decide +kernel
theorem dX5_asked_26 : decode cX5_asked 26 = .ok (.ior, 1) := by decide +kernel
theorem dX5_asked_27 : decode cX5_asked 27 = .ok (.istore_n 1, 1) := by decide +kernel
theorem dX5_asked_28 : decode cX5_asked 28 = .ok (.iinc 2 1, 3) := by decide +kernel
theorem dX5_asked_31 : decode cX5_asked 31 = .ok (.goto (-27), 3) := by decide +kernel
theorem dX5_asked_34 : decode cX5_asked 34 = .ok (.iload_n 1, 1) := by decide +kernel
theorem dX5_asked_35 : decode cX5_asked 35 = .ok (.ireturn, 1) := by decide +kernel
theorem dX8_leaps_0 : decode cX8_leaps 0 = .ok (.aload_n 0, 1) := by decide +kernel
theorem dX8_leaps_1 : decode cX8_leaps 1 = .ok (.getfield 19, 3) := by decide +kernel
theorem dX8_leaps_4 : decode cX8_leaps 4 = .ok (.getfield 134, 3) := by decide +kernel
theorem dX8_leaps_7 : decode cX8_leaps 7 = .ok (.ifCond .ne 7, 3) := by decide +kernel
theorem dX8_leaps_10 : decode cX8_leaps 10 = .ok (.iconst (-1), 1) := by decide +kernel
theorem dX8_leaps_11 : decode cX8_leaps 11 = .ok (.goto 10, 3) := by decide +kernel
theorem dX8_leaps_14 : decode cX8_leaps 14 = .ok (.aload_n 0, 1) := by decide +kernel
theorem dX8_leaps_15 : decode cX8_leaps 15 = .ok (.getfield 32, 3) := by decide +kernel
theorem dX8_leaps_18 : decode cX8_leaps 18 = .ok (.getfield 193, 3) := by decide +kernel
theorem dX8_leaps_21 : decode cX8_leaps 21 = .ok (.ireturn, 1) := by decide +kernel
theorem dX8_beginnings_0 : decode cX8_beginnings 0 = .ok (.aload_n 0, 1) := by decide +kernel
theorem dX8_beginnings_1 : decode cX8_beginnings 1 = .ok (.getfield 19, 3) := by decide +kernel
theorem dX8_beginnings_4 : decode cX8_beginnings 4 = .ok (.getfield 134, 3) := by decide +kernel
theorem dX8_beginnings_7 : decode cX8_beginnings 7 = .ok (.ifCond .eq 19, 3) := by decide +kernel
theorem dX8_beginnings_10 : decode cX8_beginnings 10 = .ok (.iload_n 1, 1) := by decide +kernel
theorem dX8_beginnings_11 : decode cX8_beginnings 11 = .ok (.iconst 1, 1) := by decide +kernel
theorem dX8_beginnings_12 : decode cX8_beginnings 12 = .ok (.if_icmp .lt 14, 3) := by decide +kernel
theorem dX8_beginnings_15 : decode cX8_beginnings 15 = .ok (.iload_n 1, 1) := by decide +kernel
theorem dX8_beginnings_16 : decode cX8_beginnings 16 = .ok (.aload_n 0, 1) := by decide +kernel
theorem dX8_beginnings_17 : decode cX8_beginnings 17 = .ok (.getfield 32, 3) := by decide +kernel
theorem dX8_beginnings_20 : decode cX8_beginnings 20 = .ok (.getfield 196, 3) := by decide +kernel
theorem dX8_beginnings_23 : decode cX8_beginnings 23 = .ok (.if_icmp .le 5, 3) := by decide +kernel
theorem dX8_beginnings_26 : decode cX8_beginnings 26 = .ok (.iconst (-1), 1) := by decide +kernel
theorem dX8_beginnings_27 : decode cX8_beginnings 27 = .ok (.ireturn, 1) := by decide +kernel
theorem dX8_beginnings_28 : decode cX8_beginnings 28 = .ok (.aload_n 0, 1) := by decide +kernel
theorem dX8_beginnings_29 : decode cX8_beginnings 29 = .ok (.getfield 32, 3) := by decide +kernel
theorem dX8_beginnings_32 : decode cX8_beginnings 32 = .ok (.getfield 199, 3) := by decide +kernel
theorem dX8_beginnings_35 : decode cX8_beginnings 35 = .ok (.iload_n 1, 1) := by decide +kernel
theorem dX8_beginnings_36 : decode cX8_beginnings 36 = .ok (.iconst 1, 1) := by decide +kernel
theorem dX8_beginnings_37 : decode cX8_beginnings 37 = .ok (.isub, 1) := by decide +kernel
theorem dX8_beginnings_38 : decode cX8_beginnings 38 = .ok (.iaload, 1) := by decide +kernel
theorem dX8_beginnings_39 : decode cX8_beginnings 39 = .ok (.ireturn, 1) := by decide +kernel
theorem dX8_best_0 : decode cX8_best 0 = .ok (.aload_n 0, 1) := by decide +kernel
theorem dX8_best_1 : decode cX8_best 1 = .ok (.getfield 19, 3) := by decide +kernel
theorem dX8_best_4 : decode cX8_best 4 = .ok (.getfield 134, 3) := by decide +kernel
theorem dX8_best_7 : decode cX8_best 7 = .ok (.ifCond .eq 12, 3) := by decide +kernel
theorem dX8_best_10 : decode cX8_best 10 = .ok (.iload_n 1, 1) := by decide +kernel
theorem dX8_best_11 : decode cX8_best 11 = .ok (.ifCond .lt 8, 3) := by decide +kernel
theorem dX8_best_14 : decode cX8_best 14 = .ok (.iload_n 1, 1) := by decide +kernel
theorem dX8_best_15 : decode cX8_best 15 = .ok (.iconst 1, 1) := by decide +kernel
theorem dX8_best_16 : decode cX8_best 16 = .ok (.if_icmp .le 5, 3) := by decide +kernel
theorem dX8_best_19 : decode cX8_best 19 = .ok (.iconst (-1), 1) := by decide +kernel
theorem dX8_best_20 : decode cX8_best 20 = .ok (.ireturn, 1) := by decide +kernel
theorem dX8_best_21 : decode cX8_best 21 = .ok (.aload_n 0, 1) := by decide +kernel
theorem dX8_best_22 : decode cX8_best 22 = .ok (.getfield 49, 3) := by decide +kernel
theorem dX8_best_25 : decode cX8_best 25 = .ok (.aload_n 0, 1) := by decide +kernel
theorem dX8_best_26 : decode cX8_best 26 = .ok (.getfield 19, 3) := by decide +kernel
theorem dX8_best_29 : decode cX8_best 29 = .ok (.aload_n 0, 1) := by decide +kernel
theorem dX8_best_30 : decode cX8_best 30 = .ok (.getfield 36, 3) := by decide +kernel
theorem dX8_best_33 : decode cX8_best 33 = .ok (.invokevirtual 202, 3) := by decide +kernel
theorem dX8_best_36 : decode cX8_best 36 = .ok (.iload_n 1, 1) := by decide +kernel
theorem dX8_best_37 : decode cX8_best 37 = .ok (.ifCond .ne 13, 3) := by decide +kernel
theorem dX8_best_40 : decode cX8_best 40 = .ok (.aload_n 0, 1) := by decide +kernel
theorem dX8_best_41 : decode cX8_best 41 = .ok (.getfield 49, 3) := by decide +kernel
theorem dX8_best_44 : decode cX8_best 44 = .ok (.getfield 206, 3) := by decide +kernel
theorem dX8_best_47 : decode cX8_best 47 = .ok (.goto 10, 3) := by decide +kernel
theorem dX8_best_50 : decode cX8_best 50 = .ok (.aload_n 0, 1) := by decide +kernel
theorem dX8_best_51 : decode cX8_best 51 = .ok (.getfield 49, 3) := by decide +kernel
theorem dX8_best_54 : decode cX8_best 54 = .ok (.getfield 209, 3) := by decide +kernel
theorem dX8_best_57 : decode cX8_best 57 = .ok (.ireturn, 1) := by decide +kernel
theorem dX8_plain_0 : decode cX8_plain 0 = .ok (.aload_n 0, 1) := by decide +kernel
theorem dX8_plain_1 : decode cX8_plain 1 = .ok (.getfield 19, 3) := by decide +kernel
theorem dX8_plain_4 : decode cX8_plain 4 = .ok (.getfield 134, 3) := by decide +kernel
theorem dX8_plain_7 : decode cX8_plain 7 = .ok (.ifCond .ne 5, 3) := by decide +kernel
theorem dX8_plain_10 : decode cX8_plain 10 = .ok (.iconst (-1), 1) := by decide +kernel
theorem dX8_plain_11 : decode cX8_plain 11 = .ok (.ireturn, 1) := by decide +kernel
theorem dX8_plain_12 : decode cX8_plain 12 = .ok (.iconst 1, 1) := by decide +kernel
theorem dX8_plain_13 : decode cX8_plain 13 = .ok (.istore_n 1, 1) := by decide +kernel
theorem dX8_plain_14 : decode cX8_plain 14 = .ok (.iconst 0, 1) := by decide +kernel
theorem dX8_plain_15 : decode cX8_plain 15 = .ok (.istore_n 2, 1) := by decide +kernel
theorem dX8_plain_16 : decode cX8_plain 16 = .ok (.iload_n 2, 1) := by decide +kernel
theorem dX8_plain_17 : decode cX8_plain 17 = .ok (.aload_n 0, 1) := by decide +kernel
theorem dX8_plain_18 : decode cX8_plain 18 = .ok (.getfield 19, 3) := by decide +kernel
theorem dX8_plain_21 : decode cX8_plain 21 = .ok (.getfield 134, 3) := by decide +kernel
theorem dX8_plain_24 : decode cX8_plain 24 = .ok (.if_icmp .ge 32, 3) := by decide +kernel
theorem dX8_plain_27 : decode cX8_plain 27 = .ok (.aload_n 0, 1) := by decide +kernel
theorem dX8_plain_28 : decode cX8_plain 28 = .ok (.getfield 19, 3) := by decide +kernel
theorem dX8_plain_31 : decode cX8_plain 31 = .ok (.iload_n 2, 1) := by decide +kernel
theorem dX8_plain_32 : decode cX8_plain 32 = .ok (.invokevirtual 179, 3) := by decide +kernel
theorem dX8_plain_35 : decode cX8_plain 35 = .ok (.ifCond .eq 15, 3) := by decide +kernel
theorem dX8_plain_38 : decode cX8_plain 38 = .ok (.iload_n 1, 1) := by decide +kernel
theorem dX8_plain_39 : decode cX8_plain 39 = .ok (.aload_n 0, 1) := by decide +kernel
theorem dX8_plain_40 : decode cX8_plain 40 = .ok (.getfield 19, 3) := by decide +kernel
theorem dX8_plain_43 : decode cX8_plain 43 = .ok (.getfield 176, 3) := by decide +kernel
theorem dX8_plain_46 : decode cX8_plain 46 = .ok (.iload_n 2, 1) := by decide +kernel
theorem dX8_plain_47 : decode cX8_plain 47 = .ok (.iaload, 1) := by decide +kernel
theorem dX8_plain_48 : decode cX8_plain 48 = .ok (.imul, 1) := by decide +kernel
theorem dX8_plain_49 : decode cX8_plain 49 = .ok (.istore_n 1, 1) := by decide +kernel
theorem dX8_plain_50 : decode cX8_plain 50 = .ok (.iinc 2 1, 3) := by decide +kernel
theorem dX8_plain_53 : decode cX8_plain 53 = .ok (.goto (-37), 3) := by decide +kernel
theorem dX8_plain_56 : decode cX8_plain 56 = .ok (.iload_n 1, 1) := by decide +kernel
theorem dX8_plain_57 : decode cX8_plain 57 = .ok (.ireturn, 1) := by decide +kernel
theorem dX8_given_0 : decode cX8_given 0 = .ok (.aload_n 0, 1) := by decide +kernel
theorem dX8_given_1 : decode cX8_given 1 = .ok (.getfield 19, 3) := by decide +kernel
theorem dX8_given_4 : decode cX8_given 4 = .ok (.iload_n 1, 1) := by decide +kernel
theorem dX8_given_5 : decode cX8_given 5 = .ok (.invokevirtual 159, 3) := by decide +kernel
theorem dX8_given_8 : decode cX8_given 8 = .ok (.ifCond .eq 22, 3) := by decide +kernel
theorem dX8_given_11 : decode cX8_given 11 = .ok (.aload_n 0, 1) := by decide +kernel
theorem dX8_given_12 : decode cX8_given 12 = .ok (.getfield 42, 3) := by decide +kernel
theorem dX8_given_15 : decode cX8_given 15 = .ok (.aload_n 0, 1) := by decide +kernel
theorem dX8_given_16 : decode cX8_given 16 = .ok (.getfield 32, 3) := by decide +kernel
theorem dX8_given_19 : decode cX8_given 19 = .ok (.aload_n 0, 1) := by decide +kernel
theorem dX8_given_20 : decode cX8_given 20 = .ok (.getfield 19, 3) := by decide +kernel
theorem dX8_given_23 : decode cX8_given 23 = .ok (.iload_n 1, 1) := by decide +kernel
theorem dX8_given_24 : decode cX8_given 24 = .ok (.invokevirtual 212, 3) := by decide +kernel
theorem dX8_given_27 : decode cX8_given 27 = .ok (.goto 4, 3) := by decide +kernel
theorem dX8_given_30 : decode cX8_given 30 = .ok (.iconst (-1), 1) := by decide +kernel
theorem dX8_given_31 : decode cX8_given 31 = .ok (.ireturn, 1) := by decide +kernel
theorem dX8_without_0 : decode cX8_without 0 = .ok (.aload_n 0, 1) := by decide +kernel
theorem dX8_without_1 : decode cX8_without 1 = .ok (.getfield 19, 3) := by decide +kernel
theorem dX8_without_4 : decode cX8_without 4 = .ok (.iload_n 1, 1) := by decide +kernel
theorem dX8_without_5 : decode cX8_without 5 = .ok (.invokevirtual 159, 3) := by decide +kernel
theorem dX8_without_8 : decode cX8_without 8 = .ok (.ifCond .ne 5, 3) := by decide +kernel
theorem dX8_without_11 : decode cX8_without 11 = .ok (.iconst (-1), 1) := by decide +kernel
theorem dX8_without_12 : decode cX8_without 12 = .ok (.ireturn, 1) := by decide +kernel
theorem dX8_without_13 : decode cX8_without 13 = .ok (.aload_n 0, 1) := by decide +kernel
theorem dX8_without_14 : decode cX8_without 14 = .ok (.getfield 19, 3) := by decide +kernel
theorem dX8_without_17 : decode cX8_without 17 = .ok (.getfield 150, 3) := by decide +kernel
theorem dX8_without_20 : decode cX8_without 20 = .ok (.iconst 1, 1) := by decide +kernel
theorem dX8_without_21 : decode cX8_without 21 = .ok (.iload_n 1, 1) := by decide +kernel
theorem dX8_without_22 : decode cX8_without 22 = .ok (.ishl, 1) := by decide +kernel
theorem dX8_without_23 : decode cX8_without 23 = .ok (.iconst (-1), 1) := by decide +kernel
theorem dX8_without_24 : decode cX8_without 24 = .ok (.ixor, 1) := by decide +kernel
theorem dX8_without_25 : decode cX8_without 25 = .ok (.iand, 1) := by decide +kernel
theorem dX8_without_26 : decode cX8_without 26 = .ok (.istore_n 2, 1) := by decide +kernel
theorem dX8_without_27 : decode cX8_without 27 = .ok (.iload_n 2, 1) := by decide +kernel
theorem dX8_without_28 : decode cX8_without 28 = .ok (.ifCond .ne 5, 3) := by decide +kernel
theorem dX8_without_31 : decode cX8_without 31 = .ok (.iconst (-1), 1) := by decide +kernel
theorem dX8_without_32 : decode cX8_without 32 = .ok (.ireturn, 1) := by decide +kernel
theorem dX8_without_33 : decode cX8_without 33 = .ok (.aload_n 0, 1) := by decide +kernel
theorem dX8_without_34 : decode cX8_without 34 = .ok (.getfield 23, 3) := by decide +kernel
theorem dX8_without_37 : decode cX8_without 37 = .ok (.aload_n 0, 1) := by decide +kernel
theorem dX8_without_38 : decode cX8_without 38 = .ok (.getfield 19, 3) := by decide +kernel
theorem dX8_without_41 : decode cX8_without 41 = .ok (.invokevirtual 123, 3) := by decide +kernel
theorem dX8_without_44 : decode cX8_without 44 = .ok (.aload_n 0, 1) := by decide +kernel
theorem dX8_without_45 : decode cX8_without 45 = .ok (.getfield 23, 3) := by decide +kernel
theorem dX8_without_48 : decode cX8_without 48 = .ok (.iload_n 2, 1) := by decide +kernel
theorem dX8_without_49 : decode cX8_without 49 = .ok (.putfield 150, 3) := by decide +kernel
theorem dX8_without_52 : decode cX8_without 52 = .ok (.aload_n 0, 1) := by decide +kernel
theorem dX8_without_53 : decode cX8_without 53 = .ok (.getfield 36, 3) := by decide +kernel
theorem dX8_without_56 : decode cX8_without 56 = .ok (.aload_n 0, 1) := by decide +kernel
theorem dX8_without_57 : decode cX8_without 57 = .ok (.getfield 23, 3) := by decide +kernel
theorem dX8_without_60 : decode cX8_without 60 = .ok (.aload_n 0, 1) := by decide +kernel
theorem dX8_without_61 : decode cX8_without 61 = .ok (.getfield 23, 3) := by decide +kernel
theorem dX8_without_64 : decode cX8_without 64 = .ok (.getfield 140, 3) := by decide +kernel
theorem dX8_without_67 : decode cX8_without 67 = .ok (.invokevirtual 143, 3) := by decide +kernel
theorem dX8_without_70 : decode cX8_without 70 = .ok (.aload_n 0, 1) := by decide +kernel
theorem dX8_without_71 : decode cX8_without 71 = .ok (.getfield 36, 3) := by decide +kernel
theorem dX8_without_74 : decode cX8_without 74 = .ok (.getfield 186, 3) := by decide +kernel
theorem dX8_without_77 : decode cX8_without 77 = .ok (.ireturn, 1) := by decide +kernel
theorem dX8_projected_0 : decode cX8_projected 0 = .ok (.aload_n 0, 1) := by decide +kernel
theorem dX8_projected_1 : decode cX8_projected 1 = .ok (.getfield 19, 3) := by decide +kernel
theorem dX8_projected_4 : decode cX8_projected 4 = .ok (.getfield 134, 3) := by decide +kernel
theorem dX8_projected_7 : decode cX8_projected 7 = .ok (.ifCond .eq 28, 3) := by decide +kernel
theorem dX8_projected_10 : decode cX8_projected 10 = .ok (.iload_n 1, 1) := by decide +kernel
theorem dX8_projected_11 : decode cX8_projected 11 = .ok (.iconst 1, 1) := by decide +kernel
theorem dX8_projected_12 : decode cX8_projected 12 = .ok (.if_icmp .lt 23, 3) := by decide +kernel
theorem dX8_projected_15 : decode cX8_projected 15 = .ok (.iload_n 1, 1) := by decide +kernel
theorem dX8_projected_16 : decode cX8_projected 16 = .ok (.bipush 15, 2) := by decide +kernel
theorem dX8_projected_18 : decode cX8_projected 18 = .ok (.if_icmp .gt 17, 3) := by decide +kernel
theorem dX8_projected_21 : decode cX8_projected 21 = .ok (.iload_n 1, 1) := by decide +kernel
theorem dX8_projected_22 : decode cX8_projected 22 = .ok (.aload_n 0, 1) := by decide +kernel
theorem dX8_projected_23 : decode cX8_projected 23 = .ok (.getfield 19, 3) := by decide +kernel
theorem dX8_projected_26 : decode cX8_projected 26 = .ok (.invokevirtual 153, 3) := by decide +kernel
theorem dX8_projected_29 : decode cX8_projected 29 = .ok (.iconst (-1), 1) := by decide +kernel
theorem dX8_projected_30 : decode cX8_projected 30 = .ok (.ixor, 1) := by decide +kernel
theorem dX8_projected_31 : decode cX8_projected 31 = .ok (.iand, 1) := by decide +kernel
theorem dX8_projected_32 : decode cX8_projected 32 = .ok (.ifCond .eq 5, 3) := by decide +kernel
theorem dX8_projected_35 : decode cX8_projected 35 = .ok (.iconst (-1), 1) := by decide +kernel
theorem dX8_projected_36 : decode cX8_projected 36 = .ok (.ireturn, 1) := by decide +kernel
theorem dX8_projected_37 : decode cX8_projected 37 = .ok (.aload_n 0, 1) := by decide +kernel
theorem dX8_projected_38 : decode cX8_projected 38 = .ok (.getfield 36, 3) := by decide +kernel
theorem dX8_projected_41 : decode cX8_projected 41 = .ok (.aload_n 0, 1) := by decide +kernel
theorem dX8_projected_42 : decode cX8_projected 42 = .ok (.getfield 19, 3) := by decide +kernel
theorem dX8_projected_45 : decode cX8_projected 45 = .ok (.iload_n 1, 1) := by decide +kernel
theorem dX8_projected_46 : decode cX8_projected 46 = .ok (.invokevirtual 216, 3) := by decide +kernel
theorem dX8_projected_49 : decode cX8_projected 49 = .ok (.aload_n 0, 1) := by decide +kernel
theorem dX8_projected_50 : decode cX8_projected 50 = .ok (.getfield 42, 3) := by decide +kernel
theorem dX8_projected_53 : decode cX8_projected 53 = .ok (.aload_n 0, 1) := by decide +kernel
theorem dX8_projected_54 : decode cX8_projected 54 = .ok (.getfield 36, 3) := by decide +kernel
theorem dX8_projected_57 : decode cX8_projected 57 = .ok (.iload_n 1, 1) := by decide +kernel
theorem dX8_projected_58 : decode cX8_projected 58 = .ok (.invokevirtual 219, 3) := by decide +kernel
theorem dX8_projected_61 : decode cX8_projected 61 = .ok (.ireturn, 1) := by decide +kernel
theorem dX8_times_0 : decode cX8_times 0 = .ok (.aload_n 0, 1) := by decide +kernel
theorem dX8_times_1 : decode cX8_times 1 = .ok (.iload_n 1, 1) := by decide +kernel
theorem dX8_times_2 : decode cX8_times 2 = .ok (.invokevirtual 187, 3) := by decide +kernel
theorem dX8_times_5 : decode cX8_times 5 = .ok (.ifCond .ne 5, 3) := by decide +kernel
theorem dX8_times_8 : decode cX8_times 8 = .ok (.iconst (-1), 1) := by decide +kernel
theorem dX8_times_9 : decode cX8_times 9 = .ok (.ireturn, 1) := by decide +kernel
theorem dX8_times_10 : decode cX8_times 10 = .ok (.iload_n 2, 1) := by decide +kernel
theorem dX8_times_11 : decode cX8_times 11 = .ok (.ifCond .lt 9, 3) := by decide +kernel
theorem dX8_times_14 : decode cX8_times 14 = .ok (.iload_n 2, 1) := by decide +kernel
theorem dX8_times_15 : decode cX8_times 15 = .ok (.bipush 100, 2) := by decide +kernel
theorem dX8_times_17 : decode cX8_times 17 = .ok (.if_icmp .lt 5, 3) := by decide +kernel
theorem dX8_times_20 : decode cX8_times 20 = .ok (.iconst 0, 1) := by decide +kernel
theorem dX8_times_21 : decode cX8_times 21 = .ok (.ireturn, 1) := by decide +kernel
theorem dX8_times_22 : decode cX8_times 22 = .ok (.aload_n 0, 1) := by decide +kernel
theorem dX8_times_23 : decode cX8_times 23 = .ok (.getfield 42, 3) := by decide +kernel
theorem dX8_times_26 : decode cX8_times 26 = .ok (.aload_n 0, 1) := by decide +kernel
theorem dX8_times_27 : decode cX8_times 27 = .ok (.getfield 32, 3) := by decide +kernel
theorem dX8_times_30 : decode cX8_times 30 = .ok (.iload_n 1, 1) := by decide +kernel
theorem dX8_times_31 : decode cX8_times 31 = .ok (.invokevirtual 223, 3) := by decide +kernel
theorem dX8_times_34 : decode cX8_times 34 = .ok (.aload_n 0, 1) := by decide +kernel
theorem dX8_times_35 : decode cX8_times 35 = .ok (.getfield 42, 3) := by decide +kernel
theorem dX8_times_38 : decode cX8_times 38 = .ok (.getfield 227, 3) := by decide +kernel
theorem dX8_times_41 : decode cX8_times 41 = .ok (.iload_n 2, 1) := by decide +kernel
theorem dX8_times_42 : decode cX8_times 42 = .ok (.iaload, 1) := by decide +kernel
theorem dX8_times_43 : decode cX8_times 43 = .ok (.ireturn, 1) := by decide +kernel
theorem dX8_distinct_0 : decode cX8_distinct 0 = .ok (.aload_n 0, 1) := by decide +kernel
theorem dX8_distinct_1 : decode cX8_distinct 1 = .ok (.iload_n 1, 1) := by decide +kernel
theorem dX8_distinct_2 : decode cX8_distinct 2 = .ok (.invokevirtual 187, 3) := by decide +kernel
theorem dX8_distinct_5 : decode cX8_distinct 5 = .ok (.ifCond .eq 12, 3) := by decide +kernel
theorem dX8_distinct_8 : decode cX8_distinct 8 = .ok (.iload_n 2, 1) := by decide +kernel
theorem dX8_distinct_9 : decode cX8_distinct 9 = .ok (.ifCond .lt 8, 3) := by decide +kernel
theorem dX8_distinct_12 : decode cX8_distinct 12 = .ok (.iload_n 2, 1) := by decide +kernel
theorem dX8_distinct_13 : decode cX8_distinct 13 = .ok (.iconst 3, 1) := by decide +kernel
theorem dX8_distinct_14 : decode cX8_distinct 14 = .ok (.if_icmp .le 5, 3) := by decide +kernel
theorem dX8_distinct_17 : decode cX8_distinct 17 = .ok (.iconst (-1), 1) := by decide +kernel
theorem dX8_distinct_18 : decode cX8_distinct 18 = .ok (.ireturn, 1) := by decide +kernel
theorem dX8_distinct_19 : decode cX8_distinct 19 = .ok (.aload_n 0, 1) := by decide +kernel
theorem dX8_distinct_20 : decode cX8_distinct 20 = .ok (.getfield 42, 3) := by decide +kernel
theorem dX8_distinct_23 : decode cX8_distinct 23 = .ok (.aload_n 0, 1) := by decide +kernel
theorem dX8_distinct_24 : decode cX8_distinct 24 = .ok (.getfield 32, 3) := by decide +kernel
theorem dX8_distinct_27 : decode cX8_distinct 27 = .ok (.iload_n 1, 1) := by decide +kernel
theorem dX8_distinct_28 : decode cX8_distinct 28 = .ok (.invokevirtual 223, 3) := by decide +kernel
theorem dX8_distinct_31 : decode cX8_distinct 31 = .ok (.iload_n 2, 1) := by decide +kernel
theorem dX8_distinct_32 : decode cX8_distinct 32 = .ok (.tableswitch 52 0 2 #[28, 36, 44], 28) := by decide +kernel
theorem dX8_distinct_60 : decode cX8_distinct 60 = .ok (.aload_n 0, 1) := by decide +kernel
theorem dX8_distinct_61 : decode cX8_distinct 61 = .ok (.getfield 42, 3) := by decide +kernel
theorem dX8_distinct_64 : decode cX8_distinct 64 = .ok (.invokevirtual 230, 3) := by decide +kernel
theorem dX8_distinct_67 : decode cX8_distinct 67 = .ok (.ireturn, 1) := by decide +kernel
theorem dX8_distinct_68 : decode cX8_distinct 68 = .ok (.aload_n 0, 1) := by decide +kernel
theorem dX8_distinct_69 : decode cX8_distinct 69 = .ok (.getfield 42, 3) := by decide +kernel
theorem dX8_distinct_72 : decode cX8_distinct 72 = .ok (.invokevirtual 233, 3) := by decide +kernel
theorem dX8_distinct_75 : decode cX8_distinct 75 = .ok (.ireturn, 1) := by decide +kernel
theorem dX8_distinct_76 : decode cX8_distinct 76 = .ok (.aload_n 0, 1) := by decide +kernel
theorem dX8_distinct_77 : decode cX8_distinct 77 = .ok (.getfield 42, 3) := by decide +kernel
theorem dX8_distinct_80 : decode cX8_distinct 80 = .ok (.invokevirtual 236, 3) := by decide +kernel
theorem dX8_distinct_83 : decode cX8_distinct 83 = .ok (.ireturn, 1) := by decide +kernel
theorem dX8_distinct_84 : decode cX8_distinct 84 = .ok (.aload_n 0, 1) := by decide +kernel
theorem dX8_distinct_85 : decode cX8_distinct 85 = .ok (.getfield 42, 3) := by decide +kernel
theorem dX8_distinct_88 : decode cX8_distinct 88 = .ok (.invokevirtual 239, 3) := by decide +kernel
theorem dX8_distinct_91 : decode cX8_distinct 91 = .ok (.ireturn, 1) := by decide +kernel
theorem dX8_tells_0 : decode cX8_tells 0 = .ok (.aload_n 0, 1) := by decide +kernel
theorem dX8_tells_1 : decode cX8_tells 1 = .ok (.iload_n 1, 1) := by decide +kernel
theorem dX8_tells_2 : decode cX8_tells 2 = .ok (.invokevirtual 187, 3) := by decide +kernel
theorem dX8_tells_5 : decode cX8_tells 5 = .ok (.ifCond .eq 31, 3) := by decide +kernel
theorem dX8_tells_8 : decode cX8_tells 8 = .ok (.aload_n 0, 1) := by decide +kernel
theorem dX8_tells_9 : decode cX8_tells 9 = .ok (.iload_n 2, 1) := by decide +kernel
theorem dX8_tells_10 : decode cX8_tells 10 = .ok (.invokevirtual 187, 3) := by decide +kernel
theorem dX8_tells_13 : decode cX8_tells 13 = .ok (.ifCond .eq 23, 3) := by decide +kernel
theorem dX8_tells_16 : decode cX8_tells 16 = .ok (.aload_n 0, 1) := by decide +kernel
theorem dX8_tells_17 : decode cX8_tells 17 = .ok (.getfield 42, 3) := by decide +kernel
theorem dX8_tells_20 : decode cX8_tells 20 = .ok (.aload_n 0, 1) := by decide +kernel
theorem dX8_tells_21 : decode cX8_tells 21 = .ok (.getfield 32, 3) := by decide +kernel
theorem dX8_tells_24 : decode cX8_tells 24 = .ok (.iload_n 1, 1) := by decide +kernel
theorem dX8_tells_25 : decode cX8_tells 25 = .ok (.iload_n 2, 1) := by decide +kernel
theorem dX8_tells_26 : decode cX8_tells 26 = .ok (.invokevirtual 242, 3) := by decide +kernel
theorem dX8_tells_29 : decode cX8_tells 29 = .ok (.ifCond .eq 7, 3) := by decide +kernel
theorem dX8_tells_32 : decode cX8_tells 32 = .ok (.iconst 1, 1) := by decide +kernel
theorem dX8_tells_33 : decode cX8_tells 33 = .ok (.goto 4, 3) := by decide +kernel
theorem dX8_tells_36 : decode cX8_tells 36 = .ok (.iconst 0, 1) := by decide +kernel
theorem dX8_tells_37 : decode cX8_tells 37 = .ok (.ireturn, 1) := by decide +kernel
theorem dX8_behind_0 : decode cX8_behind 0 = .ok (.aload_n 0, 1) := by decide +kernel
theorem dX8_behind_1 : decode cX8_behind 1 = .ok (.getfield 19, 3) := by decide +kernel
theorem dX8_behind_4 : decode cX8_behind 4 = .ok (.getfield 134, 3) := by decide +kernel
theorem dX8_behind_7 : decode cX8_behind 7 = .ok (.ifCond .ne 5, 3) := by decide +kernel
theorem dX8_behind_10 : decode cX8_behind 10 = .ok (.iconst (-1), 1) := by decide +kernel
theorem dX8_behind_11 : decode cX8_behind 11 = .ok (.ireturn, 1) := by decide +kernel
theorem dX8_behind_12 : decode cX8_behind 12 = .ok (.iconst 0, 1) := by decide +kernel
theorem dX8_behind_13 : decode cX8_behind 13 = .ok (.istore 5, 2) := by decide +kernel
theorem dX8_behind_15 : decode cX8_behind 15 = .ok (.iload 5, 2) := by decide +kernel
theorem dX8_behind_17 : decode cX8_behind 17 = .ok (.aload_n 0, 1) := by decide +kernel
theorem dX8_behind_18 : decode cX8_behind 18 = .ok (.getfield 32, 3) := by decide +kernel
theorem dX8_behind_21 : decode cX8_behind 21 = .ok (.getfield 186, 3) := by decide +kernel
theorem dX8_behind_24 : decode cX8_behind 24 = .ok (.if_icmp .ge 29, 3) := by decide +kernel
theorem dX8_behind_27 : decode cX8_behind 27 = .ok (.aload_n 0, 1) := by decide +kernel
theorem dX8_behind_28 : decode cX8_behind 28 = .ok (.getfield 32, 3) := by decide +kernel
theorem dX8_behind_31 : decode cX8_behind 31 = .ok (.iload 5, 2) := by decide +kernel
theorem dX8_behind_33 : decode cX8_behind 33 = .ok (.iload_n 1, 1) := by decide +kernel
theorem dX8_behind_34 : decode cX8_behind 34 = .ok (.iload_n 2, 1) := by decide +kernel
theorem dX8_behind_35 : decode cX8_behind 35 = .ok (.iload_n 3, 1) := by decide +kernel
theorem dX8_behind_36 : decode cX8_behind 36 = .ok (.iload 4, 2) := by decide +kernel
theorem dX8_behind_38 : decode cX8_behind 38 = .ok (.invokevirtual 246, 3) := by decide +kernel
theorem dX8_behind_41 : decode cX8_behind 41 = .ok (.ifCond .le 6, 3) := by decide +kernel
theorem dX8_behind_44 : decode cX8_behind 44 = .ok (.iload 5, 2) := by decide +kernel
theorem dX8_behind_46 : decode cX8_behind 46 = .ok (.ireturn, 1) := by decide +kernel
theorem dX8_behind_47 : decode cX8_behind 47 = .ok (.iinc 5 1, 3) := by decide +kernel
theorem dX8_behind_50 : decode cX8_behind 50 = .ok (.goto (-35), 3) := by decide +kernel
theorem dX8_behind_53 : decode cX8_behind 53 = .ok (.iconst (-1), 1) := by decide +kernel
theorem dX8_behind_54 : decode cX8_behind 54 = .ok (.ireturn, 1) := by decide +kernel
theorem dX8_has_0 : decode cX8_has 0 = .ok (.aload_n 0, 1) := by decide +kernel
theorem dX8_has_1 : decode cX8_has 1 = .ok (.getfield 19, 3) := by decide +kernel
theorem dX8_has_4 : decode cX8_has 4 = .ok (.getfield 134, 3) := by decide +kernel
theorem dX8_has_7 : decode cX8_has 7 = .ok (.ifCond .ne 5, 3) := by decide +kernel
theorem dX8_has_10 : decode cX8_has 10 = .ok (.iconst 0, 1) := by decide +kernel
theorem dX8_has_11 : decode cX8_has 11 = .ok (.ireturn, 1) := by decide +kernel
theorem dX8_has_12 : decode cX8_has 12 = .ok (.iconst 0, 1) := by decide +kernel
theorem dX8_has_13 : decode cX8_has 13 = .ok (.istore 5, 2) := by decide +kernel
theorem dX8_has_15 : decode cX8_has 15 = .ok (.iload 5, 2) := by decide +kernel
theorem dX8_has_17 : decode cX8_has 17 = .ok (.aload_n 0, 1) := by decide +kernel
theorem dX8_has_18 : decode cX8_has 18 = .ok (.getfield 32, 3) := by decide +kernel
theorem dX8_has_21 : decode cX8_has 21 = .ok (.getfield 186, 3) := by decide +kernel
theorem dX8_has_24 : decode cX8_has 24 = .ok (.if_icmp .ge 28, 3) := by decide +kernel
theorem dX8_has_27 : decode cX8_has 27 = .ok (.aload_n 0, 1) := by decide +kernel
theorem dX8_has_28 : decode cX8_has 28 = .ok (.getfield 32, 3) := by decide +kernel
theorem dX8_has_31 : decode cX8_has 31 = .ok (.iload 5, 2) := by decide +kernel
theorem dX8_has_33 : decode cX8_has 33 = .ok (.iload_n 1, 1) := by decide +kernel
theorem dX8_has_34 : decode cX8_has 34 = .ok (.iload_n 2, 1) := by decide +kernel
theorem dX8_has_35 : decode cX8_has 35 = .ok (.iload_n 3, 1) := by decide +kernel
theorem dX8_has_36 : decode cX8_has 36 = .ok (.iload 4, 2) := by decide +kernel
theorem dX8_has_38 : decode cX8_has 38 = .ok (.invokevirtual 246, 3) := by decide +kernel
theorem dX8_has_41 : decode cX8_has 41 = .ok (.ifCond .ne 5, 3) := by decide +kernel
theorem dX8_has_44 : decode cX8_has 44 = .ok (.iconst 1, 1) := by decide +kernel
theorem dX8_has_45 : decode cX8_has 45 = .ok (.ireturn, 1) := by decide +kernel
theorem dX8_has_46 : decode cX8_has 46 = .ok (.iinc 5 1, 3) := by decide +kernel
theorem dX8_has_49 : decode cX8_has 49 = .ok (.goto (-34), 3) := by decide +kernel
theorem dX8_has_52 : decode cX8_has 52 = .ok (.iconst 0, 1) := by decide +kernel
theorem dX8_has_53 : decode cX8_has 53 = .ok (.ireturn, 1) := by decide +kernel
theorem dX8_mean_0 : decode cX8_mean 0 = .ok (.aload_n 0, 1) := by decide +kernel
theorem dX8_mean_1 : decode cX8_mean 1 = .ok (.iload_n 1, 1) := by decide +kernel
theorem dX8_mean_2 : decode cX8_mean 2 = .ok (.invokevirtual 187, 3) := by decide +kernel
theorem dX8_mean_5 : decode cX8_mean 5 = .ok (.ifCond .eq 13, 3) := by decide +kernel
theorem dX8_mean_8 : decode cX8_mean 8 = .ok (.aload_n 0, 1) := by decide +kernel
theorem dX8_mean_9 : decode cX8_mean 9 = .ok (.getfield 32, 3) := by decide +kernel
theorem dX8_mean_12 : decode cX8_mean 12 = .ok (.getfield 186, 3) := by decide +kernel
theorem dX8_mean_15 : decode cX8_mean 15 = .ok (.ifCond .ne 7, 3) := by decide +kernel
theorem dX8_mean_18 : decode cX8_mean 18 = .ok (.ldc2_w 250, 3) := by decide +kernel
theorem dX8_mean_21 : decode cX8_mean 21 = .ok (.lreturn, 1) := by decide +kernel
theorem dX8_mean_22 : decode cX8_mean 22 = .ok (.aload_n 0, 1) := by decide +kernel
theorem dX8_mean_23 : decode cX8_mean 23 = .ok (.getfield 42, 3) := by decide +kernel
theorem dX8_mean_26 : decode cX8_mean 26 = .ok (.aload_n 0, 1) := by decide +kernel
theorem dX8_mean_27 : decode cX8_mean 27 = .ok (.getfield 32, 3) := by decide +kernel
theorem dX8_mean_30 : decode cX8_mean 30 = .ok (.iload_n 1, 1) := by decide +kernel
theorem dX8_mean_31 : decode cX8_mean 31 = .ok (.invokevirtual 252, 3) := by decide +kernel
theorem dX8_mean_34 : decode cX8_mean 34 = .ok (.invokestatic 256, 3) := by decide +kernel
theorem dX8_mean_37 : decode cX8_mean 37 = .ok (.lreturn, 1) := by decide +kernel
theorem dX8_meanAs_0 : decode cX8_meanAs 0 = .ok (.aload_n 0, 1) := by decide +kernel
theorem dX8_meanAs_1 : decode cX8_meanAs 1 = .ok (.iload_n 1, 1) := by decide +kernel
theorem dX8_meanAs_2 : decode cX8_meanAs 2 = .ok (.invokevirtual 187, 3) := by decide +kernel
theorem dX8_meanAs_5 : decode cX8_meanAs 5 = .ok (.ifCond .eq 22, 3) := by decide +kernel
theorem dX8_meanAs_8 : decode cX8_meanAs 8 = .ok (.aload_n 0, 1) := by decide +kernel
theorem dX8_meanAs_9 : decode cX8_meanAs 9 = .ok (.getfield 32, 3) := by decide +kernel
theorem dX8_meanAs_12 : decode cX8_meanAs 12 = .ok (.getfield 186, 3) := by decide +kernel
theorem dX8_meanAs_15 : decode cX8_meanAs 15 = .ok (.ifCond .eq 12, 3) := by decide +kernel
theorem dX8_meanAs_18 : decode cX8_meanAs 18 = .ok (.iload_n 2, 1) := by decide +kernel
theorem dX8_meanAs_19 : decode cX8_meanAs 19 = .ok (.ifCond .lt 8, 3) := by decide +kernel
theorem dX8_meanAs_22 : decode cX8_meanAs 22 = .ok (.iload_n 2, 1) := by decide +kernel
theorem dX8_meanAs_23 : decode cX8_meanAs 23 = .ok (.iconst 1, 1) := by decide +kernel
theorem dX8_meanAs_24 : decode cX8_meanAs 24 = .ok (.if_icmp .le 7, 3) := by decide +kernel
theorem dX8_meanAs_27 : decode cX8_meanAs 27 = .ok (.ldc_w 260, 3) := by decide +kernel
theorem dX8_meanAs_30 : decode cX8_meanAs 30 = .ok (.ireturn, 1) := by decide +kernel
theorem dX8_meanAs_31 : decode cX8_meanAs 31 = .ok (.aload_n 0, 1) := by decide +kernel
theorem dX8_meanAs_32 : decode cX8_meanAs 32 = .ok (.getfield 42, 3) := by decide +kernel
theorem dX8_meanAs_35 : decode cX8_meanAs 35 = .ok (.aload_n 0, 1) := by decide +kernel
theorem dX8_meanAs_36 : decode cX8_meanAs 36 = .ok (.getfield 32, 3) := by decide +kernel
theorem dX8_meanAs_39 : decode cX8_meanAs 39 = .ok (.iload_n 1, 1) := by decide +kernel
theorem dX8_meanAs_40 : decode cX8_meanAs 40 = .ok (.invokevirtual 252, 3) := by decide +kernel
theorem dX8_meanAs_43 : decode cX8_meanAs 43 = .ok (.dstore_n 3, 1) := by decide +kernel
theorem dX8_meanAs_44 : decode cX8_meanAs 44 = .ok (.iload_n 2, 1) := by decide +kernel
theorem dX8_meanAs_45 : decode cX8_meanAs 45 = .ok (.ifCond .ne 11, 3) := by decide +kernel
theorem dX8_meanAs_48 : decode cX8_meanAs 48 = .ok (.dload_n 3, 1) := by decide +kernel
theorem dX8_meanAs_49 : decode cX8_meanAs 49 = .ok (.d2f, 1) := by decide +kernel
theorem dX8_meanAs_50 : decode cX8_meanAs 50 = .ok (.invokestatic 261, 3) := by decide +kernel
theorem dX8_meanAs_53 : decode cX8_meanAs 53 = .ok (.goto 5, 3) := by decide +kernel
theorem dX8_meanAs_56 : decode cX8_meanAs 56 = .ok (.dload_n 3, 1) := by decide +kernel
theorem dX8_meanAs_57 : decode cX8_meanAs 57 = .ok (.d2i, 1) := by decide +kernel
theorem dX8_meanAs_58 : decode cX8_meanAs 58 = .ok (.ireturn, 1) := by decide +kernel
theorem dX8_spread_0 : decode cX8_spread 0 = .ok (.aload_n 0, 1) := by decide +kernel
theorem dX8_spread_1 : decode cX8_spread 1 = .ok (.iload_n 1, 1) := by decide +kernel
theorem dX8_spread_2 : decode cX8_spread 2 = .ok (.invokevirtual 187, 3) := by decide +kernel
theorem dX8_spread_5 : decode cX8_spread 5 = .ok (.ifCond .eq 13, 3) := by decide +kernel
theorem dX8_spread_8 : decode cX8_spread 8 = .ok (.aload_n 0, 1) := by decide +kernel
theorem dX8_spread_9 : decode cX8_spread 9 = .ok (.getfield 32, 3) := by decide +kernel
theorem dX8_spread_12 : decode cX8_spread 12 = .ok (.getfield 186, 3) := by decide +kernel
theorem dX8_spread_15 : decode cX8_spread 15 = .ok (.ifCond .ne 7, 3) := by decide +kernel
theorem dX8_spread_18 : decode cX8_spread 18 = .ok (.ldc2_w 250, 3) := by decide +kernel
theorem dX8_spread_21 : decode cX8_spread 21 = .ok (.lreturn, 1) := by decide +kernel
theorem dX8_spread_22 : decode cX8_spread 22 = .ok (.aload_n 0, 1) := by decide +kernel
theorem dX8_spread_23 : decode cX8_spread 23 = .ok (.getfield 42, 3) := by decide +kernel
theorem dX8_spread_26 : decode cX8_spread 26 = .ok (.aload_n 0, 1) := by decide +kernel
theorem dX8_spread_27 : decode cX8_spread 27 = .ok (.getfield 32, 3) := by decide +kernel
theorem dX8_spread_30 : decode cX8_spread 30 = .ok (.iload_n 1, 1) := by decide +kernel
theorem dX8_spread_31 : decode cX8_spread 31 = .ok (.invokevirtual 265, 3) := by decide +kernel
theorem dX8_spread_34 : decode cX8_spread 34 = .ok (.invokestatic 256, 3) := by decide +kernel
theorem dX8_spread_37 : decode cX8_spread 37 = .ok (.lreturn, 1) := by decide +kernel
theorem dX8_skew_0 : decode cX8_skew 0 = .ok (.aload_n 0, 1) := by decide +kernel
theorem dX8_skew_1 : decode cX8_skew 1 = .ok (.iload_n 1, 1) := by decide +kernel
theorem dX8_skew_2 : decode cX8_skew 2 = .ok (.invokevirtual 187, 3) := by decide +kernel
theorem dX8_skew_5 : decode cX8_skew 5 = .ok (.ifCond .eq 13, 3) := by decide +kernel
theorem dX8_skew_8 : decode cX8_skew 8 = .ok (.aload_n 0, 1) := by decide +kernel
theorem dX8_skew_9 : decode cX8_skew 9 = .ok (.getfield 32, 3) := by decide +kernel
theorem dX8_skew_12 : decode cX8_skew 12 = .ok (.getfield 186, 3) := by decide +kernel
theorem dX8_skew_15 : decode cX8_skew 15 = .ok (.ifCond .ne 7, 3) := by decide +kernel
theorem dX8_skew_18 : decode cX8_skew 18 = .ok (.ldc_w 260, 3) := by decide +kernel
theorem dX8_skew_21 : decode cX8_skew 21 = .ok (.ireturn, 1) := by decide +kernel
theorem dX8_skew_22 : decode cX8_skew 22 = .ok (.aload_n 0, 1) := by decide +kernel
theorem dX8_skew_23 : decode cX8_skew 23 = .ok (.getfield 42, 3) := by decide +kernel
theorem dX8_skew_26 : decode cX8_skew 26 = .ok (.aload_n 0, 1) := by decide +kernel
theorem dX8_skew_27 : decode cX8_skew 27 = .ok (.getfield 32, 3) := by decide +kernel
theorem dX8_skew_30 : decode cX8_skew 30 = .ok (.iload_n 1, 1) := by decide +kernel
theorem dX8_skew_31 : decode cX8_skew 31 = .ok (.invokevirtual 223, 3) := by decide +kernel
theorem dX8_skew_34 : decode cX8_skew 34 = .ok (.aload_n 0, 1) := by decide +kernel
theorem dX8_skew_35 : decode cX8_skew 35 = .ok (.getfield 42, 3) := by decide +kernel
theorem dX8_skew_38 : decode cX8_skew 38 = .ok (.invokevirtual 239, 3) := by decide +kernel
theorem dX8_skew_41 : decode cX8_skew 41 = .ok (.istore_n 2, 1) := by decide +kernel
theorem dX8_skew_42 : decode cX8_skew 42 = .ok (.iload_n 2, 1) := by decide +kernel
theorem dX8_skew_43 : decode cX8_skew 43 = .ok (.ifCond .lt 9, 3) := by decide +kernel
theorem dX8_skew_46 : decode cX8_skew 46 = .ok (.iload_n 2, 1) := by decide +kernel
theorem dX8_skew_47 : decode cX8_skew 47 = .ok (.bipush 100, 2) := by decide +kernel
theorem dX8_skew_49 : decode cX8_skew 49 = .ok (.if_icmp .lt 7, 3) := by decide +kernel
theorem dX8_skew_52 : decode cX8_skew 52 = .ok (.ldc_w 260, 3) := by decide +kernel
theorem dX8_skew_55 : decode cX8_skew 55 = .ok (.ireturn, 1) := by decide +kernel
theorem dX8_skew_56 : decode cX8_skew 56 = .ok (.aload_n 0, 1) := by decide +kernel
theorem dX8_skew_57 : decode cX8_skew 57 = .ok (.getfield 42, 3) := by decide +kernel
theorem dX8_skew_60 : decode cX8_skew 60 = .ok (.getfield 227, 3) := by decide +kernel
theorem dX8_skew_63 : decode cX8_skew 63 = .ok (.iload_n 2, 1) := by decide +kernel
theorem dX8_skew_64 : decode cX8_skew 64 = .ok (.iaload, 1) := by decide +kernel
theorem dX8_skew_65 : decode cX8_skew 65 = .ok (.i2f, 1) := by decide +kernel
theorem dX8_skew_66 : decode cX8_skew 66 = .ok (.aload_n 0, 1) := by decide +kernel
theorem dX8_skew_67 : decode cX8_skew 67 = .ok (.getfield 32, 3) := by decide +kernel
theorem dX8_skew_70 : decode cX8_skew 70 = .ok (.getfield 186, 3) := by decide +kernel
theorem dX8_skew_73 : decode cX8_skew 73 = .ok (.i2f, 1) := by decide +kernel
theorem dX8_skew_74 : decode cX8_skew 74 = .ok (.fdiv, 1) := by decide +kernel
theorem dX8_skew_75 : decode cX8_skew 75 = .ok (.invokestatic 261, 3) := by decide +kernel
theorem dX8_skew_78 : decode cX8_skew 78 = .ok (.ireturn, 1) := by decide +kernel
theorem dX8_put_0 : decode cX8_put 0 = .ok (.aload_n 0, 1) := by decide +kernel
theorem dX8_put_1 : decode cX8_put 1 = .ok (.iconst 0, 1) := by decide +kernel
theorem dX8_put_2 : decode cX8_put 2 = .ok (.iload_n 1, 1) := by decide +kernel
theorem dX8_put_3 : decode cX8_put 3 = .ok (.iload_n 2, 1) := by decide +kernel
theorem dX8_put_4 : decode cX8_put 4 = .ok (.iload_n 3, 1) := by decide +kernel
theorem dX8_put_5 : decode cX8_put 5 = .ok (.iload 4, 2) := by decide +kernel
theorem dX8_put_7 : decode cX8_put 7 = .ok (.invokevirtual 268, 3) := by decide +kernel
theorem dX8_put_10 : decode cX8_put 10 = .ok (.ifCond .eq 15, 3) := by decide +kernel
theorem dX8_put_13 : decode cX8_put 13 = .ok (.aload_n 0, 1) := by decide +kernel
theorem dX8_put_14 : decode cX8_put 14 = .ok (.getfield 19, 3) := by decide +kernel
theorem dX8_put_17 : decode cX8_put 17 = .ok (.getfield 176, 3) := by decide +kernel
theorem dX8_put_20 : decode cX8_put 20 = .ok (.iload_n 1, 1) := by decide +kernel
theorem dX8_put_21 : decode cX8_put 21 = .ok (.iaload, 1) := by decide +kernel
theorem dX8_put_22 : decode cX8_put 22 = .ok (.goto 4, 3) := by decide +kernel
theorem dX8_put_25 : decode cX8_put 25 = .ok (.iconst (-1), 1) := by decide +kernel
theorem dX8_put_26 : decode cX8_put 26 = .ok (.ireturn, 1) := by decide +kernel
theorem dX8_isDone_0 : decode cX8_isDone 0 = .ok (.aload_n 0, 1) := by decide +kernel
theorem dX8_isDone_1 : decode cX8_isDone 1 = .ok (.iload_n 1, 1) := by decide +kernel
theorem dX8_isDone_2 : decode cX8_isDone 2 = .ok (.iload_n 2, 1) := by decide +kernel
theorem dX8_isDone_3 : decode cX8_isDone 3 = .ok (.iload_n 3, 1) := by decide +kernel
theorem dX8_isDone_4 : decode cX8_isDone 4 = .ok (.iload 4, 2) := by decide +kernel
theorem dX8_isDone_6 : decode cX8_isDone 6 = .ok (.iload 5, 2) := by decide +kernel
theorem dX8_isDone_8 : decode cX8_isDone 8 = .ok (.invokevirtual 272, 3) := by decide +kernel
theorem dX8_isDone_11 : decode cX8_isDone 11 = .ok (.istore 6, 2) := by decide +kernel
theorem dX8_isDone_13 : decode cX8_isDone 13 = .ok (.iload 6, 2) := by decide +kernel
theorem dX8_isDone_15 : decode cX8_isDone 15 = .ok (.ifCond .lt 20, 3) := by decide +kernel
theorem dX8_isDone_18 : decode cX8_isDone 18 = .ok (.iload 6, 2) := by decide +kernel
theorem dX8_isDone_20 : decode cX8_isDone 20 = .ok (.iconst 4, 1) := by decide +kernel
theorem dX8_isDone_21 : decode cX8_isDone 21 = .ok (.if_icmp .ge 14, 3) := by decide +kernel
theorem dX8_isDone_24 : decode cX8_isDone 24 = .ok (.aload_n 0, 1) := by decide +kernel
theorem dX8_isDone_25 : decode cX8_isDone 25 = .ok (.getfield 81, 3) := by decide +kernel
theorem dX8_isDone_28 : decode cX8_isDone 28 = .ok (.iload 6, 2) := by decide +kernel
theorem dX8_isDone_30 : decode cX8_isDone 30 = .ok (.dup2, 1) := by decide +kernel
theorem dX8_isDone_31 : decode cX8_isDone 31 = .ok (.iaload, 1) := by decide +kernel
theorem dX8_isDone_32 : decode cX8_isDone 32 = .ok (.iconst 1, 1) := by decide +kernel
theorem dX8_isDone_33 : decode cX8_isDone 33 = .ok (.iadd, 1) := by decide +kernel
theorem dX8_isDone_34 : decode cX8_isDone 34 = .ok (.iastore, 1) := by decide +kernel
theorem dX8_isDone_35 : decode cX8_isDone 35 = .ok (.iload 6, 2) := by decide +kernel
theorem dX8_isDone_37 : decode cX8_isDone 37 = .ok (.iconst (-1), 1) := by decide +kernel
theorem dX8_isDone_38 : decode cX8_isDone 38 = .ok (.if_icmp .ne 7, 3) := by decide +kernel
theorem dX8_isDone_41 : decode cX8_isDone 41 = .ok (.iconst 1, 1) := by decide +kernel
theorem dX8_isDone_42 : decode cX8_isDone 42 = .ok (.goto 4, 3) := by decide +kernel
theorem dX8_isDone_45 : decode cX8_isDone 45 = .ok (.iconst 0, 1) := by decide +kernel
theorem dX8_isDone_46 : decode cX8_isDone 46 = .ok (.ireturn, 1) := by decide +kernel
theorem dX8_attempt_0 : decode cX8_attempt 0 = .ok (.aload_n 0, 1) := by decide +kernel
theorem dX8_attempt_1 : decode cX8_attempt 1 = .ok (.getfield 19, 3) := by decide +kernel
theorem dX8_attempt_4 : decode cX8_attempt 4 = .ok (.iload_n 1, 1) := by decide +kernel
theorem dX8_attempt_5 : decode cX8_attempt 5 = .ok (.iload_n 2, 1) := by decide +kernel
theorem dX8_attempt_6 : decode cX8_attempt 6 = .ok (.iload_n 3, 1) := by decide +kernel
theorem dX8_attempt_7 : decode cX8_attempt 7 = .ok (.iload 4, 2) := by decide +kernel
theorem dX8_attempt_9 : decode cX8_attempt 9 = .ok (.iload 5, 2) := by decide +kernel
theorem dX8_attempt_11 : decode cX8_attempt 11 = .ok (.invokevirtual 275, 3) := by decide +kernel
theorem dX8_attempt_14 : decode cX8_attempt 14 = .ok (.istore 6, 2) := by decide +kernel
theorem dX8_attempt_16 : decode cX8_attempt 16 = .ok (.iload 6, 2) := by decide +kernel
theorem dX8_attempt_18 : decode cX8_attempt 18 = .ok (.iconst (-1), 1) := by decide +kernel
theorem dX8_attempt_19 : decode cX8_attempt 19 = .ok (.if_icmp .eq 6, 3) := by decide +kernel
theorem dX8_attempt_22 : decode cX8_attempt 22 = .ok (.iload 6, 2) := by decide +kernel
theorem dX8_attempt_24 : decode cX8_attempt 24 = .ok (.ireturn, 1) := by decide +kernel
theorem dX8_attempt_25 : decode cX8_attempt 25 = .ok (.iload_n 3, 1) := by decide +kernel
theorem dX8_attempt_26 : decode cX8_attempt 26 = .ok (.iload 4, 2) := by decide +kernel
theorem dX8_attempt_28 : decode cX8_attempt 28 = .ok (.iload 5, 2) := by decide +kernel
theorem dX8_attempt_30 : decode cX8_attempt 30 = .ok (.invokestatic 278, 3) := by decide +kernel
theorem dX8_attempt_33 : decode cX8_attempt 33 = .ok (.istore 7, 2) := by decide +kernel
theorem dX8_attempt_35 : decode cX8_attempt 35 = .ok (.aload_n 0, 1) := by decide +kernel
theorem dX8_attempt_36 : decode cX8_attempt 36 = .ok (.getfield 66, 3) := by decide +kernel
theorem dX8_attempt_39 : decode cX8_attempt 39 = .ok (.iload_n 1, 1) := by decide +kernel
theorem dX8_attempt_40 : decode cX8_attempt 40 = .ok (.iload_n 1, 1) := by decide +kernel
theorem dX8_attempt_41 : decode cX8_attempt 41 = .ok (.iconst 3, 1) := by decide +kernel
theorem dX8_attempt_42 : decode cX8_attempt 42 = .ok (.if_icmp .ne 13, 3) := by decide +kernel
theorem dX8_attempt_45 : decode cX8_attempt 45 = .ok (.aload_n 0, 1) := by decide +kernel
theorem dX8_attempt_46 : decode cX8_attempt 46 = .ok (.getfield 19, 3) := by decide +kernel
theorem dX8_attempt_49 : decode cX8_attempt 49 = .ok (.getfield 140, 3) := by decide +kernel
theorem dX8_attempt_52 : decode cX8_attempt 52 = .ok (.goto 4, 3) := by decide +kernel
theorem dX8_attempt_55 : decode cX8_attempt 55 = .ok (.iload_n 2, 1) := by decide +kernel
theorem dX8_attempt_56 : decode cX8_attempt 56 = .ok (.iload 7, 2) := by decide +kernel
theorem dX8_attempt_58 : decode cX8_attempt 58 = .ok (.invokevirtual 282, 3) := by decide +kernel
theorem dX8_attempt_61 : decode cX8_attempt 61 = .ok (.aload_n 0, 1) := by decide +kernel
theorem dX8_attempt_62 : decode cX8_attempt 62 = .ok (.getfield 19, 3) := by decide +kernel
theorem dX8_attempt_65 : decode cX8_attempt 65 = .ok (.iload_n 1, 1) := by decide +kernel
theorem dX8_attempt_66 : decode cX8_attempt 66 = .ok (.iload_n 2, 1) := by decide +kernel
theorem dX8_attempt_67 : decode cX8_attempt 67 = .ok (.iload 7, 2) := by decide +kernel
theorem dX8_attempt_69 : decode cX8_attempt 69 = .ok (.invokevirtual 286, 3) := by decide +kernel
theorem dX8_attempt_72 : decode cX8_attempt 72 = .ok (.aload_n 0, 1) := by decide +kernel
theorem dX8_attempt_73 : decode cX8_attempt 73 = .ok (.invokevirtual 131, 3) := by decide +kernel
theorem dX8_attempt_76 : decode cX8_attempt 76 = .ok (.aload_n 0, 1) := by decide +kernel
theorem dX8_attempt_77 : decode cX8_attempt 77 = .ok (.getfield 56, 3) := by decide +kernel
theorem dX8_attempt_80 : decode cX8_attempt 80 = .ok (.iload_n 1, 1) := by decide +kernel
theorem dX8_attempt_81 : decode cX8_attempt 81 = .ok (.iload_n 2, 1) := by decide +kernel
theorem dX8_attempt_82 : decode cX8_attempt 82 = .ok (.aload_n 0, 1) := by decide +kernel
theorem dX8_attempt_83 : decode cX8_attempt 83 = .ok (.getfield 32, 3) := by decide +kernel
theorem dX8_attempt_86 : decode cX8_attempt 86 = .ok (.getfield 186, 3) := by decide +kernel
theorem dX8_attempt_89 : decode cX8_attempt 89 = .ok (.invokevirtual 289, 3) := by decide +kernel
theorem dX8_attempt_92 : decode cX8_attempt 92 = .ok (.iconst (-1), 1) := by decide +kernel
theorem dX8_attempt_93 : decode cX8_attempt 93 = .ok (.ireturn, 1) := by decide +kernel
theorem dX5_refusal_0 : decode cX5_refusal 0 = .ok (.aload_n 0, 1) := by decide +kernel
theorem dX5_refusal_1 : decode cX5_refusal 1 = .ok (.getfield 9, 3) := by decide +kernel
theorem dX5_refusal_4 : decode cX5_refusal 4 = .ok (.ifCond .ne 5, 3) := by decide +kernel
theorem dX5_refusal_7 : decode cX5_refusal 7 = .ok (.iconst 0, 1) := by decide +kernel
theorem dX5_refusal_8 : decode cX5_refusal 8 = .ok (.ireturn, 1) := by decide +kernel
theorem dX5_refusal_9 : decode cX5_refusal 9 = .ok (.iload_n 1, 1) := by decide +kernel
theorem dX5_refusal_10 : decode cX5_refusal 10 = .ok (.iconst 3, 1) := by decide +kernel
theorem dX5_refusal_11 : decode cX5_refusal 11 = .ok (.if_icmp .ne 29, 3) := by decide +kernel
theorem dX5_refusal_14 : decode cX5_refusal 14 = .ok (.iload_n 2, 1) := by decide +kernel
theorem dX5_refusal_15 : decode cX5_refusal 15 = .ok (.ifCond .lt 9, 3) := by decide +kernel
theorem dX5_refusal_18 : decode cX5_refusal 18 = .ok (.iload_n 2, 1) := by decide +kernel
theorem dX5_refusal_19 : decode cX5_refusal 19 = .ok (.bipush 24, 2) := by decide +kernel
theorem dX5_refusal_21 : decode cX5_refusal 21 = .ok (.if_icmp .lt 5, 3) := by decide +kernel
theorem dX5_refusal_24 : decode cX5_refusal 24 = .ok (.iconst 1, 1) := by decide +kernel
theorem dX5_refusal_25 : decode cX5_refusal 25 = .ok (.ireturn, 1) := by decide +kernel
theorem dX5_refusal_26 : decode cX5_refusal 26 = .ok (.iload_n 2, 1) := by decide +kernel
theorem dX5_refusal_27 : decode cX5_refusal 27 = .ok (.aload_n 0, 1) := by decide +kernel
theorem dX5_refusal_28 : decode cX5_refusal 28 = .ok (.getfield 18, 3) := by decide +kernel
theorem dX5_refusal_31 : decode cX5_refusal 31 = .ok (.if_icmp .ne 7, 3) := by decide +kernel
theorem dX5_refusal_34 : decode cX5_refusal 34 = .ok (.iconst 2, 1) := by decide +kernel
theorem dX5_refusal_35 : decode cX5_refusal 35 = .ok (.goto 4, 3) := by decide +kernel
theorem dX5_refusal_38 : decode cX5_refusal 38 = .ok (.iconst (-1), 1) := by decide +kernel
theorem dX5_refusal_39 : decode cX5_refusal 39 = .ok (.ireturn, 1) := by decide +kernel
theorem dX5_refusal_40 : decode cX5_refusal 40 = .ok (.aload_n 0, 1) := by decide +kernel
theorem dX5_refusal_41 : decode cX5_refusal 41 = .ok (.iload_n 2, 1) := by decide +kernel
theorem dX5_refusal_42 : decode cX5_refusal 42 = .ok (.invokevirtual 52, 3) := by decide +kernel
theorem dX5_refusal_45 : decode cX5_refusal 45 = .ok (.ifCond .ne 5, 3) := by decide +kernel
theorem dX5_refusal_48 : decode cX5_refusal 48 = .ok (.iconst 0, 1) := by decide +kernel
theorem dX5_refusal_49 : decode cX5_refusal 49 = .ok (.ireturn, 1) := by decide +kernel
theorem dX5_refusal_50 : decode cX5_refusal 50 = .ok (.iload_n 1, 1) := by decide +kernel
theorem dX5_refusal_51 : decode cX5_refusal 51 = .ok (.iconst 2, 1) := by decide +kernel
theorem dX5_refusal_52 : decode cX5_refusal 52 = .ok (.if_icmp .ne 19, 3) := by decide +kernel
theorem dX5_refusal_55 : decode cX5_refusal 55 = .ok (.aload_n 0, 1) := by decide +kernel
theorem dX5_refusal_56 : decode cX5_refusal 56 = .ok (.getfield 15, 3) := by decide +kernel
theorem dX5_refusal_59 : decode cX5_refusal 59 = .ok (.iconst 1, 1) := by decide +kernel
theorem dX5_refusal_60 : decode cX5_refusal 60 = .ok (.iload_n 2, 1) := by decide +kernel
theorem dX5_refusal_61 : decode cX5_refusal 61 = .ok (.ishl, 1) := by decide +kernel
theorem dX5_refusal_62 : decode cX5_refusal 62 = .ok (.if_icmp .ne 7, 3) := by decide +kernel
theorem dX5_refusal_65 : decode cX5_refusal 65 = .ok (.iconst 2, 1) := by decide +kernel
theorem dX5_refusal_66 : decode cX5_refusal 66 = .ok (.goto 4, 3) := by decide +kernel
theorem dX5_refusal_69 : decode cX5_refusal 69 = .ok (.iconst (-1), 1) := by decide +kernel
theorem dX5_refusal_70 : decode cX5_refusal 70 = .ok (.ireturn, 1) := by decide +kernel
theorem dX5_refusal_71 : decode cX5_refusal 71 = .ok (.aload_n 0, 1) := by decide +kernel
theorem dX5_refusal_72 : decode cX5_refusal 72 = .ok (.iload_n 2, 1) := by decide +kernel
theorem dX5_refusal_73 : decode cX5_refusal 73 = .ok (.iconst 0, 1) := by decide +kernel
theorem dX5_refusal_74 : decode cX5_refusal 74 = .ok (.iload_n 3, 1) := by decide +kernel
theorem dX5_refusal_75 : decode cX5_refusal 75 = .ok (.invokevirtual 72, 3) := by decide +kernel
theorem dX5_refusal_78 : decode cX5_refusal 78 = .ok (.ifCond .eq 25, 3) := by decide +kernel
theorem dX5_refusal_81 : decode cX5_refusal 81 = .ok (.aload_n 0, 1) := by decide +kernel
theorem dX5_refusal_82 : decode cX5_refusal 82 = .ok (.iload_n 2, 1) := by decide +kernel
theorem dX5_refusal_83 : decode cX5_refusal 83 = .ok (.iconst 1, 1) := by decide +kernel
theorem dX5_refusal_84 : decode cX5_refusal 84 = .ok (.iload 4, 2) := by decide +kernel
theorem dX5_refusal_86 : decode cX5_refusal 86 = .ok (.invokevirtual 72, 3) := by decide +kernel
theorem dX5_refusal_89 : decode cX5_refusal 89 = .ok (.ifCond .eq 14, 3) := by decide +kernel
theorem dX5_refusal_92 : decode cX5_refusal 92 = .ok (.aload_n 0, 1) := by decide +kernel
theorem dX5_refusal_93 : decode cX5_refusal 93 = .ok (.iload_n 2, 1) := by decide +kernel
theorem dX5_refusal_94 : decode cX5_refusal 94 = .ok (.iconst 2, 1) := by decide +kernel
theorem dX5_refusal_95 : decode cX5_refusal 95 = .ok (.iload 5, 2) := by decide +kernel
theorem dX5_refusal_97 : decode cX5_refusal 97 = .ok (.invokevirtual 72, 3) := by decide +kernel
theorem dX5_refusal_100 : decode cX5_refusal 100 = .ok (.ifCond .ne 5, 3) := by decide +kernel
theorem dX5_refusal_103 : decode cX5_refusal 103 = .ok (.iconst 1, 1) := by decide +kernel
theorem dX5_refusal_104 : decode cX5_refusal 104 = .ok (.ireturn, 1) := by decide +kernel
theorem dX5_refusal_105 : decode cX5_refusal 105 = .ok (.aload_n 0, 1) := by decide +kernel
theorem dX5_refusal_106 : decode cX5_refusal 106 = .ok (.iload_n 2, 1) := by decide +kernel
theorem dX5_refusal_107 : decode cX5_refusal 107 = .ok (.iload_n 3, 1) := by decide +kernel
theorem dX5_refusal_108 : decode cX5_refusal 108 = .ok (.iload 4, 2) := by decide +kernel
theorem dX5_refusal_110 : decode cX5_refusal 110 = .ok (.iload 5, 2) := by decide +kernel
theorem dX5_refusal_112 : decode cX5_refusal 112 = .ok (.invokestatic 76, 3) := by decide +kernel
theorem dX5_refusal_115 : decode cX5_refusal 115 = .ok (.invokevirtual 69, 3) := by decide +kernel
theorem dX5_refusal_118 : decode cX5_refusal 118 = .ok (.iconst (-1), 1) := by decide +kernel
theorem dX5_refusal_119 : decode cX5_refusal 119 = .ok (.if_icmp .eq 7, 3) := by decide +kernel
theorem dX5_refusal_122 : decode cX5_refusal 122 = .ok (.iconst 1, 1) := by decide +kernel
theorem dX5_refusal_123 : decode cX5_refusal 123 = .ok (.goto 4, 3) := by decide +kernel
theorem dX5_refusal_126 : decode cX5_refusal 126 = .ok (.iconst 0, 1) := by decide +kernel
theorem dX5_refusal_127 : decode cX5_refusal 127 = .ok (.istore 6, 2) := by decide +kernel
theorem dX5_refusal_129 : decode cX5_refusal 129 = .ok (.iload 6, 2) := by decide +kernel
theorem dX5_refusal_131 : decode cX5_refusal 131 = .ok (.iload_n 1, 1) := by decide +kernel
theorem dX5_refusal_132 : decode cX5_refusal 132 = .ok (.iconst 1, 1) := by decide +kernel
theorem dX5_refusal_133 : decode cX5_refusal 133 = .ok (.if_icmp .ne 7, 3) := by decide +kernel
theorem dX5_refusal_136 : decode cX5_refusal 136 = .ok (.iconst 1, 1) := by decide +kernel
theorem dX5_refusal_137 : decode cX5_refusal 137 = .ok (.goto 4, 3) := by decide +kernel
theorem dX5_refusal_140 : decode cX5_refusal 140 = .ok (.iconst 0, 1) := by decide +kernel
theorem dX5_refusal_141 : decode cX5_refusal 141 = .ok (.if_icmp .eq 5, 3) := by decide +kernel
theorem dX5_refusal_144 : decode cX5_refusal 144 = .ok (.iconst 2, 1) := by decide +kernel
theorem dX5_refusal_145 : decode cX5_refusal 145 = .ok (.ireturn, 1) := by decide +kernel
theorem dX5_refusal_146 : decode cX5_refusal 146 = .ok (.iload_n 1, 1) := by decide +kernel
theorem dX5_refusal_147 : decode cX5_refusal 147 = .ok (.ifCond .ne 18, 3) := by decide +kernel
theorem dX5_refusal_150 : decode cX5_refusal 150 = .ok (.aload_n 0, 1) := by decide +kernel
theorem dX5_refusal_151 : decode cX5_refusal 151 = .ok (.getfield 25, 3) := by decide +kernel
theorem dX5_refusal_154 : decode cX5_refusal 154 = .ok (.iload_n 2, 1) := by decide +kernel
theorem dX5_refusal_155 : decode cX5_refusal 155 = .ok (.iaload, 1) := by decide +kernel
theorem dX5_refusal_156 : decode cX5_refusal 156 = .ok (.bipush 12, 2) := by decide +kernel
theorem dX5_refusal_158 : decode cX5_refusal 158 = .ok (.if_icmp .lt 7, 3) := by decide +kernel
theorem dX5_refusal_161 : decode cX5_refusal 161 = .ok (.iconst 3, 1) := by decide +kernel
theorem dX5_refusal_162 : decode cX5_refusal 162 = .ok (.goto 4, 3) := by decide +kernel
theorem dX5_refusal_165 : decode cX5_refusal 165 = .ok (.iconst (-1), 1) := by decide +kernel
theorem dX5_refusal_166 : decode cX5_refusal 166 = .ok (.ireturn, 1) := by decide +kernel
theorem dX8_take_0 : decode cX8_take 0 = .ok (.aload_n 0, 1) := by decide +kernel
theorem dX8_take_1 : decode cX8_take 1 = .ok (.iconst 1, 1) := by decide +kernel
theorem dX8_take_2 : decode cX8_take 2 = .ok (.iload_n 1, 1) := by decide +kernel
theorem dX8_take_3 : decode cX8_take 3 = .ok (.iload_n 2, 1) := by decide +kernel
theorem dX8_take_4 : decode cX8_take 4 = .ok (.iload_n 3, 1) := by decide +kernel
theorem dX8_take_5 : decode cX8_take 5 = .ok (.iload 4, 2) := by decide +kernel
theorem dX8_take_7 : decode cX8_take 7 = .ok (.invokevirtual 268, 3) := by decide +kernel
theorem dX8_take_10 : decode cX8_take 10 = .ok (.ifCond .eq 15, 3) := by decide +kernel
theorem dX8_take_13 : decode cX8_take 13 = .ok (.aload_n 0, 1) := by decide +kernel
theorem dX8_take_14 : decode cX8_take 14 = .ok (.getfield 19, 3) := by decide +kernel
theorem dX8_take_17 : decode cX8_take 17 = .ok (.getfield 176, 3) := by decide +kernel
theorem dX8_take_20 : decode cX8_take 20 = .ok (.iload_n 1, 1) := by decide +kernel
theorem dX8_take_21 : decode cX8_take 21 = .ok (.iaload, 1) := by decide +kernel
theorem dX8_take_22 : decode cX8_take 22 = .ok (.goto 4, 3) := by decide +kernel
theorem dX8_take_25 : decode cX8_take 25 = .ok (.iconst (-1), 1) := by decide +kernel
theorem dX8_take_26 : decode cX8_take 26 = .ok (.ireturn, 1) := by decide +kernel
theorem dX8_use_0 : decode cX8_use 0 = .ok (.aload_n 0, 1) := by decide +kernel
theorem dX8_use_1 : decode cX8_use 1 = .ok (.iconst 2, 1) := by decide +kernel
theorem dX8_use_2 : decode cX8_use 2 = .ok (.iload_n 1, 1) := by decide +kernel
theorem dX8_use_3 : decode cX8_use 3 = .ok (.iconst (-1), 1) := by decide +kernel
theorem dX8_use_4 : decode cX8_use 4 = .ok (.iconst (-1), 1) := by decide +kernel
theorem dX8_use_5 : decode cX8_use 5 = .ok (.iconst (-1), 1) := by decide +kernel
theorem dX8_use_6 : decode cX8_use 6 = .ok (.invokevirtual 268, 3) := by decide +kernel
theorem dX8_use_9 : decode cX8_use 9 = .ok (.ifCond .ne 5, 3) := by decide +kernel
theorem dX8_use_12 : decode cX8_use 12 = .ok (.iconst (-1), 1) := by decide +kernel
theorem dX8_use_13 : decode cX8_use 13 = .ok (.ireturn, 1) := by decide +kernel
theorem dX8_use_14 : decode cX8_use 14 = .ok (.aload_n 0, 1) := by decide +kernel
theorem dX8_use_15 : decode cX8_use 15 = .ok (.getfield 19, 3) := by decide +kernel
theorem dX8_use_18 : decode cX8_use 18 = .ok (.iload_n 1, 1) := by decide +kernel
theorem dX8_use_19 : decode cX8_use 19 = .ok (.invokevirtual 179, 3) := by decide +kernel
theorem dX8_use_22 : decode cX8_use 22 = .ok (.ifCond .eq 7, 3) := by decide +kernel
theorem dX8_use_25 : decode cX8_use 25 = .ok (.iconst 1, 1) := by decide +kernel
theorem dX8_use_26 : decode cX8_use 26 = .ok (.goto 4, 3) := by decide +kernel
theorem dX8_use_29 : decode cX8_use 29 = .ok (.iconst 0, 1) := by decide +kernel
theorem dX8_use_30 : decode cX8_use 30 = .ok (.ireturn, 1) := by decide +kernel
theorem dX8_order_0 : decode cX8_order 0 = .ok (.aload_n 0, 1) := by decide +kernel
theorem dX8_order_1 : decode cX8_order 1 = .ok (.getfield 19, 3) := by decide +kernel
theorem dX8_order_4 : decode cX8_order 4 = .ok (.getfield 140, 3) := by decide +kernel
theorem dX8_order_7 : decode cX8_order 7 = .ok (.istore_n 2, 1) := by decide +kernel
theorem dX8_order_8 : decode cX8_order 8 = .ok (.aload_n 0, 1) := by decide +kernel
theorem dX8_order_9 : decode cX8_order 9 = .ok (.iconst 3, 1) := by decide +kernel
theorem dX8_order_10 : decode cX8_order 10 = .ok (.iload_n 1, 1) := by decide +kernel
theorem dX8_order_11 : decode cX8_order 11 = .ok (.iconst (-1), 1) := by decide +kernel
theorem dX8_order_12 : decode cX8_order 12 = .ok (.iconst (-1), 1) := by decide +kernel
theorem dX8_order_13 : decode cX8_order 13 = .ok (.iconst (-1), 1) := by decide +kernel
theorem dX8_order_14 : decode cX8_order 14 = .ok (.invokevirtual 268, 3) := by decide +kernel
theorem dX8_order_17 : decode cX8_order 17 = .ok (.ifCond .eq 7, 3) := by decide +kernel
theorem dX8_order_20 : decode cX8_order 20 = .ok (.iload_n 2, 1) := by decide +kernel
theorem dX8_order_21 : decode cX8_order 21 = .ok (.goto 4, 3) := by decide +kernel
theorem dX8_order_24 : decode cX8_order 24 = .ok (.iconst (-1), 1) := by decide +kernel
theorem dX8_order_25 : decode cX8_order 25 = .ok (.ireturn, 1) := by decide +kernel
theorem dX8_ways_0 : decode cX8_ways 0 = .ok (.aload_n 0, 1) := by decide +kernel
theorem dX8_ways_1 : decode cX8_ways 1 = .ok (.getfield 19, 3) := by decide +kernel
theorem dX8_ways_4 : decode cX8_ways 4 = .ok (.getfield 134, 3) := by decide +kernel
theorem dX8_ways_7 : decode cX8_ways 7 = .ok (.ifCond .eq 14, 3) := by decide +kernel
theorem dX8_ways_10 : decode cX8_ways 10 = .ok (.iload_n 1, 1) := by decide +kernel
theorem dX8_ways_11 : decode cX8_ways 11 = .ok (.iconst 1, 1) := by decide +kernel
theorem dX8_ways_12 : decode cX8_ways 12 = .ok (.if_icmp .lt 9, 3) := by decide +kernel
theorem dX8_ways_15 : decode cX8_ways 15 = .ok (.iload_n 1, 1) := by decide +kernel
theorem dX8_ways_16 : decode cX8_ways 16 = .ok (.bipush 40, 2) := by decide +kernel
theorem dX8_ways_18 : decode cX8_ways 18 = .ok (.if_icmp .le 5, 3) := by decide +kernel
theorem dX8_ways_21 : decode cX8_ways 21 = .ok (.iconst (-1), 1) := by decide +kernel
theorem dX8_ways_22 : decode cX8_ways 22 = .ok (.ireturn, 1) := by decide +kernel
theorem dX8_ways_23 : decode cX8_ways 23 = .ok (.aload_n 0, 1) := by decide +kernel
theorem dX8_ways_24 : decode cX8_ways 24 = .ok (.lload_n 2, 1) := by decide +kernel
theorem dX8_ways_25 : decode cX8_ways 25 = .ok (.putfield 93, 3) := by decide +kernel
theorem dX8_ways_28 : decode cX8_ways 28 = .ok (.iconst 0, 1) := by decide +kernel
theorem dX8_ways_29 : decode cX8_ways 29 = .ok (.istore 4, 2) := by decide +kernel
theorem dX8_ways_31 : decode cX8_ways 31 = .ok (.iload 4, 2) := by decide +kernel
theorem dX8_ways_33 : decode cX8_ways 33 = .ok (.iload_n 1, 1) := by decide +kernel
theorem dX8_ways_34 : decode cX8_ways 34 = .ok (.if_icmp .ge 13, 3) := by decide +kernel
theorem dX8_ways_37 : decode cX8_ways 37 = .ok (.aload_n 0, 1) := by decide +kernel
theorem dX8_ways_38 : decode cX8_ways 38 = .ok (.invokevirtual 290, 3) := by decide +kernel
theorem dX8_ways_41 : decode cX8_ways 41 = .ok (.iinc 4 1, 3) := by decide +kernel
theorem dX8_ways_44 : decode cX8_ways 44 = .ok (.goto (-13), 3) := by decide +kernel
theorem dX8_ways_47 : decode cX8_ways 47 = .ok (.aload_n 0, 1) := by decide +kernel
theorem dX8_ways_48 : decode cX8_ways 48 = .ok (.getfield 32, 3) := by decide +kernel
theorem dX8_ways_51 : decode cX8_ways 51 = .ok (.getfield 186, 3) := by decide +kernel
theorem dX8_ways_54 : decode cX8_ways 54 = .ok (.ireturn, 1) := by decide +kernel
theorem dX8_status_0 : decode cX8_status 0 = .ok (.iload_n 1, 1) := by decide +kernel
theorem dX8_status_1 : decode cX8_status 1 = .ok (.ifCond .lt 17, 3) := by decide +kernel
theorem dX8_status_4 : decode cX8_status 4 = .ok (.iload_n 1, 1) := by decide +kernel
theorem dX8_status_5 : decode cX8_status 5 = .ok (.iconst 4, 1) := by decide +kernel
theorem dX8_status_6 : decode cX8_status 6 = .ok (.if_icmp .ge 12, 3) := by decide +kernel
theorem dX8_status_9 : decode cX8_status 9 = .ok (.aload_n 0, 1) := by decide +kernel
theorem dX8_status_10 : decode cX8_status 10 = .ok (.getfield 81, 3) := by decide +kernel
theorem dX8_status_13 : decode cX8_status 13 = .ok (.iload_n 1, 1) := by decide +kernel
theorem dX8_status_14 : decode cX8_status 14 = .ok (.iaload, 1) := by decide +kernel
theorem dX8_status_15 : decode cX8_status 15 = .ok (.goto 4, 3) := by decide +kernel
theorem dX8_status_18 : decode cX8_status 18 = .ok (.iconst (-1), 1) := by decide +kernel
theorem dX8_status_19 : decode cX8_status 19 = .ok (.ireturn, 1) := by decide +kernel
theorem dX8_undo_0 : decode cX8_undo 0 = .ok (.aload_n 0, 1) := by decide +kernel
theorem dX8_undo_1 : decode cX8_undo 1 = .ok (.getfield 66, 3) := by decide +kernel
theorem dX8_undo_4 : decode cX8_undo 4 = .ok (.getfield 303, 3) := by decide +kernel
theorem dX8_undo_7 : decode cX8_undo 7 = .ok (.ifCond .ne 5, 3) := by decide +kernel
theorem dX8_undo_10 : decode cX8_undo 10 = .ok (.iconst (-1), 1) := by decide +kernel
theorem dX8_undo_11 : decode cX8_undo 11 = .ok (.ireturn, 1) := by decide +kernel
theorem dX8_undo_12 : decode cX8_undo 12 = .ok (.aload_n 0, 1) := by decide +kernel
theorem dX8_undo_13 : decode cX8_undo 13 = .ok (.getfield 66, 3) := by decide +kernel
theorem dX8_undo_16 : decode cX8_undo 16 = .ok (.invokevirtual 304, 3) := by decide +kernel
theorem dX8_undo_19 : decode cX8_undo 19 = .ok (.aload_n 0, 1) := by decide +kernel
theorem dX8_undo_20 : decode cX8_undo 20 = .ok (.getfield 19, 3) := by decide +kernel
theorem dX8_undo_23 : decode cX8_undo 23 = .ok (.aload_n 0, 1) := by decide +kernel
theorem dX8_undo_24 : decode cX8_undo 24 = .ok (.getfield 66, 3) := by decide +kernel
theorem dX8_undo_27 : decode cX8_undo 27 = .ok (.invokevirtual 307, 3) := by decide +kernel
theorem dX8_undo_30 : decode cX8_undo 30 = .ok (.aload_n 0, 1) := by decide +kernel
theorem dX8_undo_31 : decode cX8_undo 31 = .ok (.getfield 66, 3) := by decide +kernel
theorem dX8_undo_34 : decode cX8_undo 34 = .ok (.invokevirtual 310, 3) := by decide +kernel
theorem dX8_undo_37 : decode cX8_undo 37 = .ok (.aload_n 0, 1) := by decide +kernel
theorem dX8_undo_38 : decode cX8_undo 38 = .ok (.getfield 66, 3) := by decide +kernel
theorem dX8_undo_41 : decode cX8_undo 41 = .ok (.invokevirtual 313, 3) := by decide +kernel
theorem dX8_undo_44 : decode cX8_undo 44 = .ok (.invokevirtual 316, 3) := by decide +kernel
theorem dX8_undo_47 : decode cX8_undo 47 = .ok (.aload_n 0, 1) := by decide +kernel
theorem dX8_undo_48 : decode cX8_undo 48 = .ok (.getfield 56, 3) := by decide +kernel
theorem dX8_undo_51 : decode cX8_undo 51 = .ok (.invokevirtual 319, 3) := by decide +kernel
theorem dX8_undo_54 : decode cX8_undo 54 = .ok (.aload_n 0, 1) := by decide +kernel
theorem dX8_undo_55 : decode cX8_undo 55 = .ok (.invokevirtual 131, 3) := by decide +kernel
theorem dX8_undo_58 : decode cX8_undo 58 = .ok (.aload_n 0, 1) := by decide +kernel
theorem dX8_undo_59 : decode cX8_undo 59 = .ok (.getfield 66, 3) := by decide +kernel
theorem dX8_undo_62 : decode cX8_undo 62 = .ok (.getfield 303, 3) := by decide +kernel
theorem dX8_undo_65 : decode cX8_undo 65 = .ok (.ireturn, 1) := by decide +kernel
theorem dX8_log_0 : decode cX8_log 0 = .ok (.iload_n 1, 1) := by decide +kernel
theorem dX8_log_1 : decode cX8_log 1 = .ok (.ifCond .lt 23, 3) := by decide +kernel
theorem dX8_log_4 : decode cX8_log 4 = .ok (.iload_n 1, 1) := by decide +kernel
theorem dX8_log_5 : decode cX8_log 5 = .ok (.aload_n 0, 1) := by decide +kernel
theorem dX8_log_6 : decode cX8_log 6 = .ok (.getfield 56, 3) := by decide +kernel
theorem dX8_log_9 : decode cX8_log 9 = .ok (.invokevirtual 320, 3) := by decide +kernel
theorem dX8_log_12 : decode cX8_log 12 = .ok (.if_icmp .ge 12, 3) := by decide +kernel
theorem dX8_log_15 : decode cX8_log 15 = .ok (.iload_n 2, 1) := by decide +kernel
theorem dX8_log_16 : decode cX8_log 16 = .ok (.ifCond .lt 8, 3) := by decide +kernel
theorem dX8_log_19 : decode cX8_log 19 = .ok (.iload_n 2, 1) := by decide +kernel
theorem dX8_log_20 : decode cX8_log 20 = .ok (.iconst 3, 1) := by decide +kernel
theorem dX8_log_21 : decode cX8_log 21 = .ok (.if_icmp .lt 7, 3) := by decide +kernel
theorem dX8_log_24 : decode cX8_log 24 = .ok (.ldc_w 260, 3) := by decide +kernel
theorem dX8_log_27 : decode cX8_log 27 = .ok (.ireturn, 1) := by decide +kernel
theorem dX8_log_28 : decode cX8_log 28 = .ok (.aload_n 0, 1) := by decide +kernel
theorem dX8_log_29 : decode cX8_log 29 = .ok (.getfield 56, 3) := by decide +kernel
theorem dX8_log_32 : decode cX8_log 32 = .ok (.iload_n 1, 1) := by decide +kernel
theorem dX8_log_33 : decode cX8_log 33 = .ok (.iload_n 2, 1) := by decide +kernel
theorem dX8_log_34 : decode cX8_log 34 = .ok (.invokevirtual 323, 3) := by decide +kernel
theorem dX8_log_37 : decode cX8_log 37 = .ok (.ireturn, 1) := by decide +kernel
theorem dX2_shown_0 : decode cX2_shown 0 = .ok (.aload_n 0, 1) := by decide +kernel
theorem dX2_shown_1 : decode cX2_shown 1 = .ok (.getfield 19, 3) := by decide +kernel
theorem dX2_shown_4 : decode cX2_shown 4 = .ok (.bipush 60, 2) := by decide +kernel
theorem dX2_shown_6 : decode cX2_shown 6 = .ok (.invokestatic 28, 3) := by decide +kernel
theorem dX2_shown_9 : decode cX2_shown 9 = .ok (.ireturn, 1) := by decide +kernel
theorem dX8_would_0 : decode cX8_would 0 = .ok (.iload 5, 2) := by decide +kernel
theorem dX8_would_2 : decode cX8_would 2 = .ok (.ifCond .lt 26, 3) := by decide +kernel
theorem dX8_would_5 : decode cX8_would 5 = .ok (.iload 5, 2) := by decide +kernel
theorem dX8_would_7 : decode cX8_would 7 = .ok (.iconst 1, 1) := by decide +kernel
theorem dX8_would_8 : decode cX8_would 8 = .ok (.if_icmp .gt 20, 3) := by decide +kernel
theorem dX8_would_11 : decode cX8_would 11 = .ok (.aload_n 0, 1) := by decide +kernel
theorem dX8_would_12 : decode cX8_would 12 = .ok (.getfield 19, 3) := by decide +kernel
theorem dX8_would_15 : decode cX8_would 15 = .ok (.iconst 0, 1) := by decide +kernel
theorem dX8_would_16 : decode cX8_would 16 = .ok (.iload_n 1, 1) := by decide +kernel
theorem dX8_would_17 : decode cX8_would 17 = .ok (.iload_n 2, 1) := by decide +kernel
theorem dX8_would_18 : decode cX8_would 18 = .ok (.iload_n 3, 1) := by decide +kernel
theorem dX8_would_19 : decode cX8_would 19 = .ok (.iload 4, 2) := by decide +kernel
theorem dX8_would_21 : decode cX8_would 21 = .ok (.invokevirtual 275, 3) := by decide +kernel
theorem dX8_would_24 : decode cX8_would 24 = .ok (.iconst (-1), 1) := by decide +kernel
theorem dX8_would_25 : decode cX8_would 25 = .ok (.if_icmp .eq 5, 3) := by decide +kernel
theorem dX8_would_28 : decode cX8_would 28 = .ok (.iconst (-1), 1) := by decide +kernel
theorem dX8_would_29 : decode cX8_would 29 = .ok (.ireturn, 1) := by decide +kernel
theorem dX8_would_30 : decode cX8_would 30 = .ok (.aload_n 0, 1) := by decide +kernel
theorem dX8_would_31 : decode cX8_would 31 = .ok (.getfield 23, 3) := by decide +kernel
theorem dX8_would_34 : decode cX8_would 34 = .ok (.aload_n 0, 1) := by decide +kernel
theorem dX8_would_35 : decode cX8_would 35 = .ok (.getfield 19, 3) := by decide +kernel
theorem dX8_would_38 : decode cX8_would 38 = .ok (.invokevirtual 123, 3) := by decide +kernel
theorem dX8_would_41 : decode cX8_would 41 = .ok (.aload_n 0, 1) := by decide +kernel
theorem dX8_would_42 : decode cX8_would 42 = .ok (.getfield 23, 3) := by decide +kernel
theorem dX8_would_45 : decode cX8_would 45 = .ok (.iconst 0, 1) := by decide +kernel
theorem dX8_would_46 : decode cX8_would 46 = .ok (.iload_n 1, 1) := by decide +kernel
theorem dX8_would_47 : decode cX8_would 47 = .ok (.iload_n 2, 1) := by decide +kernel
theorem dX8_would_48 : decode cX8_would 48 = .ok (.iload_n 3, 1) := by decide +kernel
theorem dX8_would_49 : decode cX8_would 49 = .ok (.iload 4, 2) := by decide +kernel
theorem dX8_would_51 : decode cX8_would 51 = .ok (.invokestatic 278, 3) := by decide +kernel
theorem dX8_would_54 : decode cX8_would 54 = .ok (.invokevirtual 286, 3) := by decide +kernel
theorem dX8_would_57 : decode cX8_would 57 = .ok (.aload_n 0, 1) := by decide +kernel
theorem dX8_would_58 : decode cX8_would 58 = .ok (.getfield 36, 3) := by decide +kernel
theorem dX8_would_61 : decode cX8_would 61 = .ok (.aload_n 0, 1) := by decide +kernel
theorem dX8_would_62 : decode cX8_would 62 = .ok (.getfield 23, 3) := by decide +kernel
theorem dX8_would_65 : decode cX8_would 65 = .ok (.aload_n 0, 1) := by decide +kernel
theorem dX8_would_66 : decode cX8_would 66 = .ok (.getfield 23, 3) := by decide +kernel
theorem dX8_would_69 : decode cX8_would 69 = .ok (.getfield 140, 3) := by decide +kernel
theorem dX8_would_72 : decode cX8_would 72 = .ok (.invokevirtual 143, 3) := by decide +kernel
theorem dX8_would_75 : decode cX8_would 75 = .ok (.iload 5, 2) := by decide +kernel
theorem dX8_would_77 : decode cX8_would 77 = .ok (.ifCond .ne 13, 3) := by decide +kernel
theorem dX8_would_80 : decode cX8_would 80 = .ok (.aload_n 0, 1) := by decide +kernel
theorem dX8_would_81 : decode cX8_would 81 = .ok (.getfield 36, 3) := by decide +kernel
theorem dX8_would_84 : decode cX8_would 84 = .ok (.getfield 186, 3) := by decide +kernel
theorem dX8_would_87 : decode cX8_would 87 = .ok (.goto 10, 3) := by decide +kernel
theorem dX8_would_90 : decode cX8_would 90 = .ok (.aload_n 0, 1) := by decide +kernel
theorem dX8_would_91 : decode cX8_would 91 = .ok (.getfield 36, 3) := by decide +kernel
theorem dX8_would_94 : decode cX8_would 94 = .ok (.getfield 193, 3) := by decide +kernel
theorem dX8_would_97 : decode cX8_would 97 = .ok (.ireturn, 1) := by decide +kernel
theorem dX8_step_0 : decode cX8_step 0 = .ok (.aload_n 0, 1) := by decide +kernel
theorem dX8_step_1 : decode cX8_step 1 = .ok (.iload_n 1, 1) := by decide +kernel
theorem dX8_step_2 : decode cX8_step 2 = .ok (.invokevirtual 326, 3) := by decide +kernel
theorem dX8_step_5 : decode cX8_step 5 = .ok (.ifCond .eq 29, 3) := by decide +kernel
theorem dX8_step_8 : decode cX8_step 8 = .ok (.iload_n 2, 1) := by decide +kernel
theorem dX8_step_9 : decode cX8_step 9 = .ok (.ifCond .lt 25, 3) := by decide +kernel
theorem dX8_step_12 : decode cX8_step 12 = .ok (.iload_n 2, 1) := by decide +kernel
theorem dX8_step_13 : decode cX8_step 13 = .ok (.aload_n 0, 1) := by decide +kernel
theorem dX8_step_14 : decode cX8_step 14 = .ok (.getfield 72, 3) := by decide +kernel
theorem dX8_step_17 : decode cX8_step 17 = .ok (.iload_n 1, 1) := by decide +kernel
theorem dX8_step_18 : decode cX8_step 18 = .ok (.aaload, 1) := by decide +kernel
theorem dX8_step_19 : decode cX8_step 19 = .ok (.getfield 329, 3) := by decide +kernel
theorem dX8_step_22 : decode cX8_step 22 = .ok (.if_icmp .ge 12, 3) := by decide +kernel
theorem dX8_step_25 : decode cX8_step 25 = .ok (.iload_n 3, 1) := by decide +kernel
theorem dX8_step_26 : decode cX8_step 26 = .ok (.ifCond .lt 8, 3) := by decide +kernel
theorem dX8_step_29 : decode cX8_step 29 = .ok (.iload_n 3, 1) := by decide +kernel
theorem dX8_step_30 : decode cX8_step 30 = .ok (.iconst 5, 1) := by decide +kernel
theorem dX8_step_31 : decode cX8_step 31 = .ok (.if_icmp .lt 7, 3) := by decide +kernel
theorem dX8_step_34 : decode cX8_step 34 = .ok (.ldc_w 260, 3) := by decide +kernel
theorem dX8_step_37 : decode cX8_step 37 = .ok (.ireturn, 1) := by decide +kernel
theorem dX8_step_38 : decode cX8_step 38 = .ok (.aload_n 0, 1) := by decide +kernel
theorem dX8_step_39 : decode cX8_step 39 = .ok (.getfield 72, 3) := by decide +kernel
theorem dX8_step_42 : decode cX8_step 42 = .ok (.iload_n 1, 1) := by decide +kernel
theorem dX8_step_43 : decode cX8_step 43 = .ok (.aaload, 1) := by decide +kernel
theorem dX8_step_44 : decode cX8_step 44 = .ok (.iload_n 2, 1) := by decide +kernel
theorem dX8_step_45 : decode cX8_step 45 = .ok (.iload_n 3, 1) := by decide +kernel
theorem dX8_step_46 : decode cX8_step 46 = .ok (.invokevirtual 330, 3) := by decide +kernel
theorem dX8_step_49 : decode cX8_step 49 = .ok (.ireturn, 1) := by decide +kernel
theorem dX8_isScript_0 : decode cX8_isScript 0 = .ok (.iload_n 1, 1) := by decide +kernel
theorem dX8_isScript_1 : decode cX8_isScript 1 = .ok (.ifCond .lt 20, 3) := by decide +kernel
theorem dX8_isScript_4 : decode cX8_isScript 4 = .ok (.iload_n 1, 1) := by decide +kernel
theorem dX8_isScript_5 : decode cX8_isScript 5 = .ok (.aload_n 0, 1) := by decide +kernel
theorem dX8_isScript_6 : decode cX8_isScript 6 = .ok (.getfield 85, 3) := by decide +kernel
theorem dX8_isScript_9 : decode cX8_isScript 9 = .ok (.if_icmp .ge 12, 3) := by decide +kernel
theorem dX8_isScript_12 : decode cX8_isScript 12 = .ok (.iload_n 1, 1) := by decide +kernel
theorem dX8_isScript_13 : decode cX8_isScript 13 = .ok (.iconst 4, 1) := by decide +kernel
theorem dX8_isScript_14 : decode cX8_isScript 14 = .ok (.if_icmp .ge 7, 3) := by decide +kernel
theorem dX8_isScript_17 : decode cX8_isScript 17 = .ok (.iconst 1, 1) := by decide +kernel
theorem dX8_isScript_18 : decode cX8_isScript 18 = .ok (.goto 4, 3) := by decide +kernel
theorem dX8_isScript_21 : decode cX8_isScript 21 = .ok (.iconst 0, 1) := by decide +kernel
theorem dX8_isScript_22 : decode cX8_isScript 22 = .ok (.ireturn, 1) := by decide +kernel
theorem dX8_run_0 : decode cX8_run 0 = .ok (.aload_n 0, 1) := by decide +kernel
theorem dX8_run_1 : decode cX8_run 1 = .ok (.iload_n 1, 1) := by decide +kernel
theorem dX8_run_2 : decode cX8_run 2 = .ok (.invokevirtual 326, 3) := by decide +kernel
theorem dX8_run_5 : decode cX8_run 5 = .ok (.ifCond .eq 22, 3) := by decide +kernel
theorem dX8_run_8 : decode cX8_run 8 = .ok (.aload_n 0, 1) := by decide +kernel
theorem dX8_run_9 : decode cX8_run 9 = .ok (.getfield 19, 3) := by decide +kernel
theorem dX8_run_12 : decode cX8_run 12 = .ok (.getfield 134, 3) := by decide +kernel
theorem dX8_run_15 : decode cX8_run 15 = .ok (.ifCond .eq 12, 3) := by decide +kernel
theorem dX8_run_18 : decode cX8_run 18 = .ok (.iload_n 2, 1) := by decide +kernel
theorem dX8_run_19 : decode cX8_run 19 = .ok (.ifCond .lt 8, 3) := by decide +kernel
theorem dX8_run_22 : decode cX8_run 22 = .ok (.iload_n 2, 1) := by decide +kernel
theorem dX8_run_23 : decode cX8_run 23 = .ok (.iconst 1, 1) := by decide +kernel
theorem dX8_run_24 : decode cX8_run 24 = .ok (.if_icmp .le 7, 3) := by decide +kernel
theorem dX8_run_27 : decode cX8_run 27 = .ok (.ldc_w 260, 3) := by decide +kernel
theorem dX8_run_30 : decode cX8_run 30 = .ok (.ireturn, 1) := by decide +kernel
theorem dX8_run_31 : decode cX8_run 31 = .ok (.aload_n 0, 1) := by decide +kernel
theorem dX8_run_32 : decode cX8_run 32 = .ok (.getfield 23, 3) := by decide +kernel
theorem dX8_run_35 : decode cX8_run 35 = .ok (.aload_n 0, 1) := by decide +kernel
theorem dX8_run_36 : decode cX8_run 36 = .ok (.getfield 19, 3) := by decide +kernel
theorem dX8_run_39 : decode cX8_run 39 = .ok (.invokevirtual 123, 3) := by decide +kernel
theorem dX8_run_42 : decode cX8_run 42 = .ok (.aload_n 0, 1) := by decide +kernel
theorem dX8_run_43 : decode cX8_run 43 = .ok (.getfield 72, 3) := by decide +kernel
theorem dX8_run_46 : decode cX8_run 46 = .ok (.iload_n 1, 1) := by decide +kernel
theorem dX8_run_47 : decode cX8_run 47 = .ok (.aaload, 1) := by decide +kernel
theorem dX8_run_48 : decode cX8_run 48 = .ok (.aload_n 0, 1) := by decide +kernel
theorem dX8_run_49 : decode cX8_run 49 = .ok (.getfield 23, 3) := by decide +kernel
theorem dX8_run_52 : decode cX8_run 52 = .ok (.invokevirtual 331, 3) := by decide +kernel
theorem dX8_run_55 : decode cX8_run 55 = .ok (.istore_n 3, 1) := by decide +kernel
theorem dX8_run_56 : decode cX8_run 56 = .ok (.iload_n 2, 1) := by decide +kernel
theorem dX8_run_57 : decode cX8_run 57 = .ok (.ifCond .ne 22, 3) := by decide +kernel
theorem dX8_run_60 : decode cX8_run 60 = .ok (.iload_n 3, 1) := by decide +kernel
theorem dX8_run_61 : decode cX8_run 61 = .ok (.aload_n 0, 1) := by decide +kernel
theorem dX8_run_62 : decode cX8_run 62 = .ok (.getfield 72, 3) := by decide +kernel
theorem dX8_run_65 : decode cX8_run 65 = .ok (.iload_n 1, 1) := by decide +kernel
theorem dX8_run_66 : decode cX8_run 66 = .ok (.aaload, 1) := by decide +kernel
theorem dX8_run_67 : decode cX8_run 67 = .ok (.getfield 329, 3) := by decide +kernel
theorem dX8_run_70 : decode cX8_run 70 = .ok (.if_icmp .ne 7, 3) := by decide +kernel
theorem dX8_run_73 : decode cX8_run 73 = .ok (.iconst (-1), 1) := by decide +kernel
theorem dX8_run_74 : decode cX8_run 74 = .ok (.goto 4, 3) := by decide +kernel
theorem dX8_run_77 : decode cX8_run 77 = .ok (.iload_n 3, 1) := by decide +kernel
theorem dX8_run_78 : decode cX8_run 78 = .ok (.ireturn, 1) := by decide +kernel
theorem dX8_run_79 : decode cX8_run 79 = .ok (.aload_n 0, 1) := by decide +kernel
theorem dX8_run_80 : decode cX8_run 80 = .ok (.getfield 36, 3) := by decide +kernel
theorem dX8_run_83 : decode cX8_run 83 = .ok (.aload_n 0, 1) := by decide +kernel
theorem dX8_run_84 : decode cX8_run 84 = .ok (.getfield 23, 3) := by decide +kernel
theorem dX8_run_87 : decode cX8_run 87 = .ok (.aload_n 0, 1) := by decide +kernel
theorem dX8_run_88 : decode cX8_run 88 = .ok (.getfield 23, 3) := by decide +kernel
theorem dX8_run_91 : decode cX8_run 91 = .ok (.getfield 140, 3) := by decide +kernel
theorem dX8_run_94 : decode cX8_run 94 = .ok (.invokevirtual 143, 3) := by decide +kernel
theorem dX8_run_97 : decode cX8_run 97 = .ok (.aload_n 0, 1) := by decide +kernel
theorem dX8_run_98 : decode cX8_run 98 = .ok (.getfield 36, 3) := by decide +kernel
theorem dX8_run_101 : decode cX8_run 101 = .ok (.getfield 186, 3) := by decide +kernel
theorem dX8_run_104 : decode cX8_run 104 = .ok (.ireturn, 1) := by decide +kernel
theorem dX8_perform_0 : decode cX8_perform 0 = .ok (.aload_n 0, 1) := by decide +kernel
theorem dX8_perform_1 : decode cX8_perform 1 = .ok (.iload_n 1, 1) := by decide +kernel
theorem dX8_perform_2 : decode cX8_perform 2 = .ok (.invokevirtual 326, 3) := by decide +kernel
theorem dX8_perform_5 : decode cX8_perform 5 = .ok (.ifCond .eq 13, 3) := by decide +kernel
theorem dX8_perform_8 : decode cX8_perform 8 = .ok (.aload_n 0, 1) := by decide +kernel
theorem dX8_perform_9 : decode cX8_perform 9 = .ok (.getfield 19, 3) := by decide +kernel
theorem dX8_perform_12 : decode cX8_perform 12 = .ok (.getfield 134, 3) := by decide +kernel
theorem dX8_perform_15 : decode cX8_perform 15 = .ok (.ifCond .ne 5, 3) := by decide +kernel
theorem dX8_perform_18 : decode cX8_perform 18 = .ok (.iconst (-1), 1) := by decide +kernel
theorem dX8_perform_19 : decode cX8_perform 19 = .ok (.ireturn, 1) := by decide +kernel
theorem dX8_perform_20 : decode cX8_perform 20 = .ok (.aload_n 0, 1) := by decide +kernel
theorem dX8_perform_21 : decode cX8_perform 21 = .ok (.getfield 72, 3) := by decide +kernel
theorem dX8_perform_24 : decode cX8_perform 24 = .ok (.iload_n 1, 1) := by decide +kernel
theorem dX8_perform_25 : decode cX8_perform 25 = .ok (.aaload, 1) := by decide +kernel
theorem dX8_perform_26 : decode cX8_perform 26 = .ok (.astore_n 2, 1) := by decide +kernel
theorem dX8_perform_27 : decode cX8_perform 27 = .ok (.iconst 0, 1) := by decide +kernel
theorem dX8_perform_28 : decode cX8_perform 28 = .ok (.istore_n 3, 1) := by decide +kernel
theorem dX8_perform_29 : decode cX8_perform 29 = .ok (.iload_n 3, 1) := by decide +kernel
theorem dX8_perform_30 : decode cX8_perform 30 = .ok (.aload_n 2, 1) := by decide +kernel
theorem dX8_perform_31 : decode cX8_perform 31 = .ok (.getfield 329, 3) := by decide +kernel
theorem dX8_perform_34 : decode cX8_perform 34 = .ok (.if_icmp .ge 53, 3) := by decide +kernel
theorem dX8_perform_37 : decode cX8_perform 37 = .ok (.aload_n 0, 1) := by decide +kernel
theorem dX8_perform_38 : decode cX8_perform 38 = .ok (.aload_n 2, 1) := by decide +kernel
theorem dX8_perform_39 : decode cX8_perform 39 = .ok (.iload_n 3, 1) := by decide +kernel
theorem dX8_perform_40 : decode cX8_perform 40 = .ok (.iconst 0, 1) := by decide +kernel
theorem dX8_perform_41 : decode cX8_perform 41 = .ok (.invokevirtual 330, 3) := by decide +kernel
theorem dX8_perform_44 : decode cX8_perform 44 = .ok (.aload_n 2, 1) := by decide +kernel
theorem dX8_perform_45 : decode cX8_perform 45 = .ok (.iload_n 3, 1) := by decide +kernel
theorem dX8_perform_46 : decode cX8_perform 46 = .ok (.iconst 1, 1) := by decide +kernel
theorem dX8_perform_47 : decode cX8_perform 47 = .ok (.invokevirtual 330, 3) := by decide +kernel
theorem dX8_perform_50 : decode cX8_perform 50 = .ok (.aload_n 2, 1) := by decide +kernel
theorem dX8_perform_51 : decode cX8_perform 51 = .ok (.iload_n 3, 1) := by decide +kernel
theorem dX8_perform_52 : decode cX8_perform 52 = .ok (.iconst 2, 1) := by decide +kernel
theorem dX8_perform_53 : decode cX8_perform 53 = .ok (.invokevirtual 330, 3) := by decide +kernel
theorem dX8_perform_56 : decode cX8_perform 56 = .ok (.aload_n 2, 1) := by decide +kernel
theorem dX8_perform_57 : decode cX8_perform 57 = .ok (.iload_n 3, 1) := by decide +kernel
theorem dX8_perform_58 : decode cX8_perform 58 = .ok (.iconst 3, 1) := by decide +kernel
theorem dX8_perform_59 : decode cX8_perform 59 = .ok (.invokevirtual 330, 3) := by decide +kernel
theorem dX8_perform_62 : decode cX8_perform 62 = .ok (.aload_n 2, 1) := by decide +kernel
theorem dX8_perform_63 : decode cX8_perform 63 = .ok (.iload_n 3, 1) := by decide +kernel
theorem dX8_perform_64 : decode cX8_perform 64 = .ok (.iconst 4, 1) := by decide +kernel
theorem dX8_perform_65 : decode cX8_perform 65 = .ok (.invokevirtual 330, 3) := by decide +kernel
theorem dX8_perform_68 : decode cX8_perform 68 = .ok (.invokevirtual 272, 3) := by decide +kernel
theorem dX8_perform_71 : decode cX8_perform 71 = .ok (.istore 4, 2) := by decide +kernel
theorem dX8_perform_73 : decode cX8_perform 73 = .ok (.iload 4, 2) := by decide +kernel
theorem dX8_perform_75 : decode cX8_perform 75 = .ok (.iconst (-1), 1) := by decide +kernel
theorem dX8_perform_76 : decode cX8_perform 76 = .ok (.if_icmp .eq 5, 3) := by decide +kernel
theorem dX8_perform_79 : decode cX8_perform 79 = .ok (.iload_n 3, 1) := by decide +kernel
theorem dX8_perform_80 : decode cX8_perform 80 = .ok (.ireturn, 1) := by decide +kernel
theorem dX8_perform_81 : decode cX8_perform 81 = .ok (.iinc 3 1, 3) := by decide +kernel
theorem dX8_perform_84 : decode cX8_perform 84 = .ok (.goto (-55), 3) := by decide +kernel
theorem dX8_perform_87 : decode cX8_perform 87 = .ok (.aload_n 2, 1) := by decide +kernel
theorem dX8_perform_88 : decode cX8_perform 88 = .ok (.getfield 329, 3) := by decide +kernel
theorem dX8_perform_91 : decode cX8_perform 91 = .ok (.ireturn, 1) := by decide +kernel
theorem dX8_most_0 : decode cX8_most 0 = .ok (.aload_n 0, 1) := by decide +kernel
theorem dX8_most_1 : decode cX8_most 1 = .ok (.getfield 19, 3) := by decide +kernel
theorem dX8_most_4 : decode cX8_most 4 = .ok (.getfield 134, 3) := by decide +kernel
theorem dX8_most_7 : decode cX8_most 7 = .ok (.ifCond .ne 7, 3) := by decide +kernel
theorem dX8_most_10 : decode cX8_most 10 = .ok (.ldc_w 260, 3) := by decide +kernel
theorem dX8_most_13 : decode cX8_most 13 = .ok (.ireturn, 1) := by decide +kernel
theorem dX8_most_14 : decode cX8_most 14 = .ok (.iload_n 1, 1) := by decide +kernel
theorem dX8_most_15 : decode cX8_most 15 = .ok (.tableswitch 112 0 6 #[41, 49, 54, 59, 64, 69, 89], 41) := by decide +kernel
theorem dX8_most_56 : decode cX8_most 56 = .ok (.aload_n 0, 1) := by decide +kernel
theorem dX8_most_57 : decode cX8_most 57 = .ok (.getfield 19, 3) := by decide +kernel
theorem dX8_most_60 : decode cX8_most 60 = .ok (.invokevirtual 334, 3) := by decide +kernel
theorem dX8_most_63 : decode cX8_most 63 = .ok (.ireturn, 1) := by decide +kernel
theorem dX8_most_64 : decode cX8_most 64 = .ok (.aload_n 0, 1) := by decide +kernel
theorem dX8_most_65 : decode cX8_most 65 = .ok (.invokevirtual 337, 3) := by decide +kernel
theorem dX8_most_68 : decode cX8_most 68 = .ok (.ireturn, 1) := by decide +kernel
theorem dX8_most_69 : decode cX8_most 69 = .ok (.aload_n 0, 1) := by decide +kernel
theorem dX8_most_70 : decode cX8_most 70 = .ok (.invokevirtual 340, 3) := by decide +kernel
theorem dX8_most_73 : decode cX8_most 73 = .ok (.ireturn, 1) := by decide +kernel
theorem dX8_most_74 : decode cX8_most 74 = .ok (.aload_n 0, 1) := by decide +kernel
theorem dX8_most_75 : decode cX8_most 75 = .ok (.invokevirtual 343, 3) := by decide +kernel
theorem dX8_most_78 : decode cX8_most 78 = .ok (.ireturn, 1) := by decide +kernel
theorem dX8_most_79 : decode cX8_most 79 = .ok (.aload_n 0, 1) := by decide +kernel
theorem dX8_most_80 : decode cX8_most 80 = .ok (.invokevirtual 346, 3) := by decide +kernel
theorem dX8_most_83 : decode cX8_most 83 = .ok (.ireturn, 1) := by decide +kernel
theorem dX8_most_84 : decode cX8_most 84 = .ok (.aload_n 0, 1) := by decide +kernel
theorem dX8_most_85 : decode cX8_most 85 = .ok (.getfield 36, 3) := by decide +kernel
theorem dX8_most_88 : decode cX8_most 88 = .ok (.aload_n 0, 1) := by decide +kernel
theorem dX8_most_89 : decode cX8_most 89 = .ok (.getfield 19, 3) := by decide +kernel
theorem dX8_most_92 : decode cX8_most 92 = .ok (.iconst 0, 1) := by decide +kernel
theorem dX8_most_93 : decode cX8_most 93 = .ok (.invokevirtual 143, 3) := by decide +kernel
theorem dX8_most_96 : decode cX8_most 96 = .ok (.aload_n 0, 1) := by decide +kernel
theorem dX8_most_97 : decode cX8_most 97 = .ok (.getfield 36, 3) := by decide +kernel
theorem dX8_most_100 : decode cX8_most 100 = .ok (.getfield 193, 3) := by decide +kernel
theorem dX8_most_103 : decode cX8_most 103 = .ok (.ireturn, 1) := by decide +kernel
theorem dX8_most_104 : decode cX8_most 104 = .ok (.aload_n 0, 1) := by decide +kernel
theorem dX8_most_105 : decode cX8_most 105 = .ok (.getfield 49, 3) := by decide +kernel
theorem dX8_most_108 : decode cX8_most 108 = .ok (.aload_n 0, 1) := by decide +kernel
theorem dX8_most_109 : decode cX8_most 109 = .ok (.getfield 19, 3) := by decide +kernel
theorem dX8_most_112 : decode cX8_most 112 = .ok (.aload_n 0, 1) := by decide +kernel
theorem dX8_most_113 : decode cX8_most 113 = .ok (.getfield 36, 3) := by decide +kernel
theorem dX8_most_116 : decode cX8_most 116 = .ok (.invokevirtual 202, 3) := by decide +kernel
theorem dX8_most_119 : decode cX8_most 119 = .ok (.aload_n 0, 1) := by decide +kernel
theorem dX8_most_120 : decode cX8_most 120 = .ok (.getfield 49, 3) := by decide +kernel
theorem dX8_most_123 : decode cX8_most 123 = .ok (.getfield 349, 3) := by decide +kernel
theorem dX8_most_126 : decode cX8_most 126 = .ok (.ireturn, 1) := by decide +kernel
theorem dX8_most_127 : decode cX8_most 127 = .ok (.ldc_w 260, 3) := by decide +kernel
theorem dX8_most_130 : decode cX8_most 130 = .ok (.ireturn, 1) := by decide +kernel
theorem dX8_image_0 : decode cX8_image 0 = .ok (.aload_n 0, 1) := by decide +kernel
theorem dX8_image_1 : decode cX8_image 1 = .ok (.getfield 19, 3) := by decide +kernel
theorem dX8_image_4 : decode cX8_image 4 = .ok (.getfield 134, 3) := by decide +kernel
theorem dX8_image_7 : decode cX8_image 7 = .ok (.ifCond .ne 5, 3) := by decide +kernel
theorem dX8_image_10 : decode cX8_image 10 = .ok (.iconst (-1), 1) := by decide +kernel
theorem dX8_image_11 : decode cX8_image 11 = .ok (.ireturn, 1) := by decide +kernel
theorem dX8_image_12 : decode cX8_image 12 = .ok (.aload_n 0, 1) := by decide +kernel
theorem dX8_image_13 : decode cX8_image 13 = .ok (.getfield 26, 3) := by decide +kernel
theorem dX8_image_16 : decode cX8_image 16 = .ok (.aload_n 0, 1) := by decide +kernel
theorem dX8_image_17 : decode cX8_image 17 = .ok (.getfield 19, 3) := by decide +kernel
theorem dX8_image_20 : decode cX8_image 20 = .ok (.invokevirtual 123, 3) := by decide +kernel
theorem dX8_image_23 : decode cX8_image 23 = .ok (.aload_n 0, 1) := by decide +kernel
theorem dX8_image_24 : decode cX8_image 24 = .ok (.getfield 60, 3) := by decide +kernel
theorem dX8_image_27 : decode cX8_image 27 = .ok (.aload_n 0, 1) := by decide +kernel
theorem dX8_image_28 : decode cX8_image 28 = .ok (.getfield 56, 3) := by decide +kernel
theorem dX8_image_31 : decode cX8_image 31 = .ok (.invokevirtual 364, 3) := by decide +kernel
theorem dX8_image_34 : decode cX8_image 34 = .ok (.aload_n 0, 1) := by decide +kernel
theorem dX8_image_35 : decode cX8_image 35 = .ok (.iconst 1, 1) := by decide +kernel
theorem dX8_image_36 : decode cX8_image 36 = .ok (.putfield 89, 3) := by decide +kernel
theorem dX8_image_39 : decode cX8_image 39 = .ok (.aload_n 0, 1) := by decide +kernel
theorem dX8_image_40 : decode cX8_image 40 = .ok (.getfield 32, 3) := by decide +kernel
theorem dX8_image_43 : decode cX8_image 43 = .ok (.getfield 186, 3) := by decide +kernel
theorem dX8_image_46 : decode cX8_image 46 = .ok (.ireturn, 1) := by decide +kernel
theorem dX8_back_0 : decode cX8_back 0 = .ok (.aload_n 0, 1) := by decide +kernel
theorem dX8_back_1 : decode cX8_back 1 = .ok (.getfield 89, 3) := by decide +kernel
theorem dX8_back_4 : decode cX8_back 4 = .ok (.ifCond .ne 5, 3) := by decide +kernel
theorem dX8_back_7 : decode cX8_back 7 = .ok (.iconst (-1), 1) := by decide +kernel
theorem dX8_back_8 : decode cX8_back 8 = .ok (.ireturn, 1) := by decide +kernel
theorem dX8_back_9 : decode cX8_back 9 = .ok (.aload_n 0, 1) := by decide +kernel
theorem dX8_back_10 : decode cX8_back 10 = .ok (.getfield 19, 3) := by decide +kernel
theorem dX8_back_13 : decode cX8_back 13 = .ok (.aload_n 0, 1) := by decide +kernel
theorem dX8_back_14 : decode cX8_back 14 = .ok (.getfield 26, 3) := by decide +kernel
theorem dX8_back_17 : decode cX8_back 17 = .ok (.invokevirtual 123, 3) := by decide +kernel
theorem dX8_back_20 : decode cX8_back 20 = .ok (.aload_n 0, 1) := by decide +kernel
theorem dX8_back_21 : decode cX8_back 21 = .ok (.getfield 56, 3) := by decide +kernel
theorem dX8_back_24 : decode cX8_back 24 = .ok (.aload_n 0, 1) := by decide +kernel
theorem dX8_back_25 : decode cX8_back 25 = .ok (.getfield 60, 3) := by decide +kernel
theorem dX8_back_28 : decode cX8_back 28 = .ok (.invokevirtual 364, 3) := by decide +kernel
theorem dX8_back_31 : decode cX8_back 31 = .ok (.aload_n 0, 1) := by decide +kernel
theorem dX8_back_32 : decode cX8_back 32 = .ok (.getfield 66, 3) := by decide +kernel
theorem dX8_back_35 : decode cX8_back 35 = .ok (.invokevirtual 130, 3) := by decide +kernel
theorem dX8_back_38 : decode cX8_back 38 = .ok (.aload_n 0, 1) := by decide +kernel
theorem dX8_back_39 : decode cX8_back 39 = .ok (.invokevirtual 131, 3) := by decide +kernel
theorem dX8_back_42 : decode cX8_back 42 = .ok (.aload_n 0, 1) := by decide +kernel
theorem dX8_back_43 : decode cX8_back 43 = .ok (.getfield 32, 3) := by decide +kernel
theorem dX8_back_46 : decode cX8_back 46 = .ok (.getfield 186, 3) := by decide +kernel
theorem dX8_back_49 : decode cX8_back 49 = .ok (.ireturn, 1) := by decide +kernel
theorem dX8_count_0 : decode cX8_count 0 = .ok (.iload_n 1, 1) := by decide +kernel
theorem dX8_count_1 : decode cX8_count 1 = .ok (.tableswitch 72 0 4 #[35, 43, 48, 56, 64], 35) := by decide +kernel
theorem dX8_count_36 : decode cX8_count 36 = .ok (.aload_n 0, 1) := by decide +kernel
theorem dX8_count_37 : decode cX8_count 37 = .ok (.getfield 19, 3) := by decide +kernel
theorem dX8_count_40 : decode cX8_count 40 = .ok (.getfield 134, 3) := by decide +kernel
theorem dX8_count_43 : decode cX8_count 43 = .ok (.ireturn, 1) := by decide +kernel
theorem dX8_count_44 : decode cX8_count 44 = .ok (.aload_n 0, 1) := by decide +kernel
theorem dX8_count_45 : decode cX8_count 45 = .ok (.getfield 85, 3) := by decide +kernel
theorem dX8_count_48 : decode cX8_count 48 = .ok (.ireturn, 1) := by decide +kernel
theorem dX8_count_49 : decode cX8_count 49 = .ok (.aload_n 0, 1) := by decide +kernel
theorem dX8_count_50 : decode cX8_count 50 = .ok (.getfield 12, 3) := by decide +kernel
theorem dX8_count_53 : decode cX8_count 53 = .ok (.getfield 101, 3) := by decide +kernel
theorem dX8_count_56 : decode cX8_count 56 = .ok (.ireturn, 1) := by decide +kernel
theorem dX8_count_57 : decode cX8_count 57 = .ok (.aload_n 0, 1) := by decide +kernel
theorem dX8_count_58 : decode cX8_count 58 = .ok (.getfield 56, 3) := by decide +kernel
theorem dX8_count_61 : decode cX8_count 61 = .ok (.invokevirtual 320, 3) := by decide +kernel
theorem dX8_count_64 : decode cX8_count 64 = .ok (.ireturn, 1) := by decide +kernel
theorem dX8_count_65 : decode cX8_count 65 = .ok (.aload_n 0, 1) := by decide +kernel
theorem dX8_count_66 : decode cX8_count 66 = .ok (.getfield 66, 3) := by decide +kernel
theorem dX8_count_69 : decode cX8_count 69 = .ok (.getfield 303, 3) := by decide +kernel
theorem dX8_count_72 : decode cX8_count 72 = .ok (.ireturn, 1) := by decide +kernel
theorem dX8_count_73 : decode cX8_count 73 = .ok (.ldc_w 260, 3) := by decide +kernel
theorem dX8_count_76 : decode cX8_count 76 = .ok (.ireturn, 1) := by decide +kernel
theorem dX9_end_0 : decode cX9_end 0 = .ok (.iload_n 1, 1) := by decide +kernel
theorem dX9_end_1 : decode cX9_end 1 = .ok (.iconst 0, 1) := by decide +kernel
theorem dX9_end_2 : decode cX9_end 2 = .ok (.aload_n 0, 1) := by decide +kernel
theorem dX9_end_3 : decode cX9_end 3 = .ok (.getfield 101, 3) := by decide +kernel
theorem dX9_end_6 : decode cX9_end 6 = .ok (.invokestatic 104, 3) := by decide +kernel
theorem dX9_end_9 : decode cX9_end 9 = .ok (.ifCond .ne 5, 3) := by decide +kernel
theorem dX9_end_12 : decode cX9_end 12 = .ok (.iconst 0, 1) := by decide +kernel
theorem dX9_end_13 : decode cX9_end 13 = .ok (.ireturn, 1) := by decide +kernel
theorem dX9_end_14 : decode cX9_end 14 = .ok (.aload_n 0, 1) := by decide +kernel
theorem dX9_end_15 : decode cX9_end 15 = .ok (.iload_n 1, 1) := by decide +kernel
theorem dX9_end_16 : decode cX9_end 16 = .ok (.putfield 101, 3) := by decide +kernel
theorem dX9_end_19 : decode cX9_end 19 = .ok (.iconst 1, 1) := by decide +kernel
theorem dX9_end_20 : decode cX9_end 20 = .ok (.ireturn, 1) := by decide +kernel
theorem dX9_in_0 : decode cX9_in 0 = .ok (.iload_n 0, 1) := by decide +kernel
theorem dX9_in_1 : decode cX9_in 1 = .ok (.iload_n 1, 1) := by decide +kernel
theorem dX9_in_2 : decode cX9_in 2 = .ok (.if_icmp .lt 12, 3) := by decide +kernel
theorem dX9_in_5 : decode cX9_in 5 = .ok (.iload_n 0, 1) := by decide +kernel
theorem dX9_in_6 : decode cX9_in 6 = .ok (.iload_n 2, 1) := by decide +kernel
theorem dX9_in_7 : decode cX9_in 7 = .ok (.if_icmp .gt 7, 3) := by decide +kernel
theorem dX9_in_10 : decode cX9_in 10 = .ok (.iconst 1, 1) := by decide +kernel
theorem dX9_in_11 : decode cX9_in 11 = .ok (.goto 4, 3) := by decide +kernel
theorem dX9_in_14 : decode cX9_in 14 = .ok (.iconst 0, 1) := by decide +kernel
theorem dX9_in_15 : decode cX9_in 15 = .ok (.ireturn, 1) := by decide +kernel
theorem dX9_fault_0 : decode cX9_fault 0 = .ok (.iload_n 1, 1) := by decide +kernel
theorem dX9_fault_1 : decode cX9_fault 1 = .ok (.ifCond .ne 10, 3) := by decide +kernel
theorem dX9_fault_4 : decode cX9_fault 4 = .ok (.aload_n 0, 1) := by decide +kernel
theorem dX9_fault_5 : decode cX9_fault 5 = .ok (.invokevirtual 167, 3) := by decide +kernel
theorem dX9_fault_8 : decode cX9_fault 8 = .ok (.goto 18, 3) := by decide +kernel
theorem dX9_fault_11 : decode cX9_fault 11 = .ok (.iload_n 1, 1) := by decide +kernel
theorem dX9_fault_12 : decode cX9_fault 12 = .ok (.iconst 1, 1) := by decide +kernel
theorem dX9_fault_13 : decode cX9_fault 13 = .ok (.if_icmp .ne 11, 3) := by decide +kernel
theorem dX9_fault_16 : decode cX9_fault 16 = .ok (.aload_n 0, 1) := by decide +kernel
theorem dX9_fault_17 : decode cX9_fault 17 = .ok (.iconst 4, 1) := by decide +kernel
theorem dX9_fault_18 : decode cX9_fault 18 = .ok (.invokevirtual 170, 3) := by decide +kernel
theorem dX9_fault_21 : decode cX9_fault 21 = .ok (.goto 5, 3) := by decide +kernel
theorem dX9_fault_24 : decode cX9_fault 24 = .ok (.bipush (-2), 2) := by decide +kernel
theorem dX9_fault_26 : decode cX9_fault 26 = .ok (.ireturn, 1) := by decide +kernel
theorem dX9_readScript_0 : decode cX9_readScript 0 = .ok (.aload_n 0, 1) := by decide +kernel
theorem dX9_readScript_1 : decode cX9_readScript 1 = .ok (.invokevirtual 149, 3) := by decide +kernel
theorem dX9_readScript_4 : decode cX9_readScript 4 = .ok (.aload_n 0, 1) := by decide +kernel
theorem dX9_readScript_5 : decode cX9_readScript 5 = .ok (.getfield 28, 3) := by decide +kernel
theorem dX9_readScript_8 : decode cX9_readScript 8 = .ok (.iload_n 1, 1) := by decide +kernel
theorem dX9_readScript_9 : decode cX9_readScript 9 = .ok (.iconst 0, 1) := by decide +kernel
theorem dX9_readScript_10 : decode cX9_readScript 10 = .ok (.iastore, 1) := by decide +kernel
theorem dX9_readScript_11 : decode cX9_readScript 11 = .ok (.iconst 1, 1) := by decide +kernel
theorem dX9_readScript_12 : decode cX9_readScript 12 = .ok (.istore_n 2, 1) := by decide +kernel
theorem dX9_readScript_13 : decode cX9_readScript 13 = .ok (.iload_n 2, 1) := by decide +kernel
theorem dX9_readScript_14 : decode cX9_readScript 14 = .ok (.ifCond .eq 85, 3) := by decide +kernel
theorem dX9_readScript_17 : decode cX9_readScript 17 = .ok (.aload_n 0, 1) := by decide +kernel
theorem dX9_readScript_18 : decode cX9_readScript 18 = .ok (.iconst 5, 1) := by decide +kernel
theorem dX9_readScript_19 : decode cX9_readScript 19 = .ok (.bipush 12, 2) := by decide +kernel
theorem dX9_readScript_21 : decode cX9_readScript 21 = .ok (.iload_n 1, 1) := by decide +kernel
theorem dX9_readScript_22 : decode cX9_readScript 22 = .ok (.imul, 1) := by decide +kernel
theorem dX9_readScript_23 : decode cX9_readScript 23 = .ok (.aload_n 0, 1) := by decide +kernel
theorem dX9_readScript_24 : decode cX9_readScript 24 = .ok (.getfield 28, 3) := by decide +kernel
theorem dX9_readScript_27 : decode cX9_readScript 27 = .ok (.iload_n 1, 1) := by decide +kernel
theorem dX9_readScript_28 : decode cX9_readScript 28 = .ok (.iaload, 1) := by decide +kernel
theorem dX9_readScript_29 : decode cX9_readScript 29 = .ok (.iadd, 1) := by decide +kernel
theorem dX9_readScript_30 : decode cX9_readScript 30 = .ok (.imul, 1) := by decide +kernel
theorem dX9_readScript_31 : decode cX9_readScript 31 = .ok (.invokevirtual 164, 3) := by decide +kernel
theorem dX9_readScript_34 : decode cX9_readScript 34 = .ok (.aload_n 0, 1) := by decide +kernel
theorem dX9_readScript_35 : decode cX9_readScript 35 = .ok (.getfield 28, 3) := by decide +kernel
theorem dX9_readScript_38 : decode cX9_readScript 38 = .ok (.iload_n 1, 1) := by decide +kernel
theorem dX9_readScript_39 : decode cX9_readScript 39 = .ok (.dup2, 1) := by decide +kernel
theorem dX9_readScript_40 : decode cX9_readScript 40 = .ok (.iaload, 1) := by decide +kernel
theorem dX9_readScript_41 : decode cX9_readScript 41 = .ok (.iconst 1, 1) := by decide +kernel
theorem dX9_readScript_42 : decode cX9_readScript 42 = .ok (.iadd, 1) := by decide +kernel
theorem dX9_readScript_43 : decode cX9_readScript 43 = .ok (.iastore, 1) := by decide +kernel
theorem dX9_readScript_44 : decode cX9_readScript 44 = .ok (.aload_n 0, 1) := by decide +kernel
theorem dX9_readScript_45 : decode cX9_readScript 45 = .ok (.getfield 115, 3) := by decide +kernel
theorem dX9_readScript_48 : decode cX9_readScript 48 = .ok (.iconst (-1), 1) := by decide +kernel
theorem dX9_readScript_49 : decode cX9_readScript 49 = .ok (.if_icmp .ne 27, 3) := by decide +kernel
theorem dX9_readScript_52 : decode cX9_readScript 52 = .ok (.aload_n 0, 1) := by decide +kernel
theorem dX9_readScript_53 : decode cX9_readScript 53 = .ok (.invokevirtual 118, 3) := by decide +kernel
theorem dX9_readScript_56 : decode cX9_readScript 56 = .ok (.bipush 59, 2) := by decide +kernel
theorem dX9_readScript_58 : decode cX9_readScript 58 = .ok (.if_icmp .ne 18, 3) := by decide +kernel
theorem dX9_readScript_61 : decode cX9_readScript 61 = .ok (.aload_n 0, 1) := by decide +kernel
theorem dX9_readScript_62 : decode cX9_readScript 62 = .ok (.getfield 28, 3) := by decide +kernel
theorem dX9_readScript_65 : decode cX9_readScript 65 = .ok (.iload_n 1, 1) := by decide +kernel
theorem dX9_readScript_66 : decode cX9_readScript 66 = .ok (.iaload, 1) := by decide +kernel
theorem dX9_readScript_67 : decode cX9_readScript 67 = .ok (.bipush 12, 2) := by decide +kernel
theorem dX9_readScript_69 : decode cX9_readScript 69 = .ok (.if_icmp .ge 7, 3) := by decide +kernel
theorem dX9_readScript_72 : decode cX9_readScript 72 = .ok (.iconst 1, 1) := by decide +kernel
theorem dX9_readScript_73 : decode cX9_readScript 73 = .ok (.goto 4, 3) := by decide +kernel
theorem dX9_readScript_76 : decode cX9_readScript 76 = .ok (.iconst 0, 1) := by decide +kernel
theorem dX9_readScript_77 : decode cX9_readScript 77 = .ok (.istore_n 2, 1) := by decide +kernel
theorem dX9_readScript_78 : decode cX9_readScript 78 = .ok (.aload_n 0, 1) := by decide +kernel
theorem dX9_readScript_79 : decode cX9_readScript 79 = .ok (.dup, 1) := by decide +kernel
theorem dX9_readScript_80 : decode cX9_readScript 80 = .ok (.getfield 108, 3) := by decide +kernel
theorem dX9_readScript_83 : decode cX9_readScript 83 = .ok (.iload_n 2, 1) := by decide +kernel
theorem dX9_readScript_84 : decode cX9_readScript 84 = .ok (.ifCond .eq 7, 3) := by decide +kernel
theorem dX9_readScript_87 : decode cX9_readScript 87 = .ok (.iconst 1, 1) := by decide +kernel
theorem dX9_readScript_88 : decode cX9_readScript 88 = .ok (.goto 4, 3) := by decide +kernel
theorem dX9_readScript_91 : decode cX9_readScript 91 = .ok (.iconst 0, 1) := by decide +kernel
theorem dX9_readScript_92 : decode cX9_readScript 92 = .ok (.iadd, 1) := by decide +kernel
theorem dX9_readScript_93 : decode cX9_readScript 93 = .ok (.putfield 108, 3) := by decide +kernel
theorem dX9_readScript_96 : decode cX9_readScript 96 = .ok (.goto (-83), 3) := by decide +kernel
theorem dX9_readScript_99 : decode cX9_readScript 99 = .ok (.aload_n 0, 1) := by decide +kernel
theorem dX9_readScript_100 : decode cX9_readScript 100 = .ok (.invokevirtual 158, 3) := by decide +kernel
theorem dX9_readScript_103 : decode cX9_readScript 103 = .ok (.ireturn, 1) := by decide +kernel
theorem dX9_begins_0 : decode cX9_begins 0 = .ok (.aload_n 0, 1) := by decide +kernel
theorem dX9_begins_1 : decode cX9_begins 1 = .ok (.iconst 0, 1) := by decide +kernel
theorem dX9_begins_2 : decode cX9_begins 2 = .ok (.putfield 108, 3) := by decide +kernel
theorem dX9_begins_5 : decode cX9_begins 5 = .ok (.aload_n 0, 1) := by decide +kernel
theorem dX9_begins_6 : decode cX9_begins 6 = .ok (.iconst (-1), 1) := by decide +kernel
theorem dX9_begins_7 : decode cX9_begins 7 = .ok (.putfield 115, 3) := by decide +kernel
theorem dX9_begins_10 : decode cX9_begins 10 = .ok (.return_, 1) := by decide +kernel
theorem dX9_readStep_0 : decode cX9_readStep 0 = .ok (.aload_n 0, 1) := by decide +kernel
theorem dX9_readStep_1 : decode cX9_readStep 1 = .ok (.invokevirtual 118, 3) := by decide +kernel
theorem dX9_readStep_4 : decode cX9_readStep 4 = .ok (.istore_n 2, 1) := by decide +kernel
theorem dX9_readStep_5 : decode cX9_readStep 5 = .ok (.iload_n 2, 1) := by decide +kernel
theorem dX9_readStep_6 : decode cX9_readStep 6 = .ok (.bipush 112, 2) := by decide +kernel
theorem dX9_readStep_8 : decode cX9_readStep 8 = .ok (.if_icmp .ne 7, 3) := by decide +kernel
theorem dX9_readStep_11 : decode cX9_readStep 11 = .ok (.iconst 0, 1) := by decide +kernel
theorem dX9_readStep_12 : decode cX9_readStep 12 = .ok (.goto 34, 3) := by decide +kernel
theorem dX9_readStep_15 : decode cX9_readStep 15 = .ok (.iload_n 2, 1) := by decide +kernel
theorem dX9_readStep_16 : decode cX9_readStep 16 = .ok (.bipush 116, 2) := by decide +kernel
theorem dX9_readStep_18 : decode cX9_readStep 18 = .ok (.if_icmp .ne 7, 3) := by decide +kernel
theorem dX9_readStep_21 : decode cX9_readStep 21 = .ok (.iconst 1, 1) := by decide +kernel
theorem dX9_readStep_22 : decode cX9_readStep 22 = .ok (.goto 24, 3) := by decide +kernel
theorem dX9_readStep_25 : decode cX9_readStep 25 = .ok (.iload_n 2, 1) := by decide +kernel
theorem dX9_readStep_26 : decode cX9_readStep 26 = .ok (.bipush 117, 2) := by decide +kernel
theorem dX9_readStep_28 : decode cX9_readStep 28 = .ok (.if_icmp .ne 7, 3) := by decide +kernel
theorem dX9_readStep_31 : decode cX9_readStep 31 = .ok (.iconst 2, 1) := by decide +kernel
theorem dX9_readStep_32 : decode cX9_readStep 32 = .ok (.goto 14, 3) := by decide +kernel
theorem dX9_readStep_35 : decode cX9_readStep 35 = .ok (.iload_n 2, 1) := by decide +kernel
theorem dX9_readStep_36 : decode cX9_readStep 36 = .ok (.bipush 111, 2) := by decide +kernel
theorem dX9_readStep_38 : decode cX9_readStep 38 = .ok (.if_icmp .ne 7, 3) := by decide +kernel
theorem dX9_readStep_41 : decode cX9_readStep 41 = .ok (.iconst 3, 1) := by decide +kernel
theorem dX9_readStep_42 : decode cX9_readStep 42 = .ok (.goto 4, 3) := by decide +kernel
theorem dX9_readStep_45 : decode cX9_readStep 45 = .ok (.iconst (-1), 1) := by decide +kernel
theorem dX9_readStep_46 : decode cX9_readStep 46 = .ok (.istore_n 3, 1) := by decide +kernel
theorem dX9_readStep_47 : decode cX9_readStep 47 = .ok (.iload_n 3, 1) := by decide +kernel
theorem dX9_readStep_48 : decode cX9_readStep 48 = .ok (.iconst (-1), 1) := by decide +kernel
theorem dX9_readStep_49 : decode cX9_readStep 49 = .ok (.if_icmp .ne 8, 3) := by decide +kernel
theorem dX9_readStep_52 : decode cX9_readStep 52 = .ok (.aload_n 0, 1) := by decide +kernel
theorem dX9_readStep_53 : decode cX9_readStep 53 = .ok (.invokevirtual 121, 3) := by decide +kernel
theorem dX9_readStep_56 : decode cX9_readStep 56 = .ok (.return_, 1) := by decide +kernel
theorem dX9_readStep_57 : decode cX9_readStep 57 = .ok (.aload_n 0, 1) := by decide +kernel
theorem dX9_readStep_58 : decode cX9_readStep 58 = .ok (.dup, 1) := by decide +kernel
theorem dX9_readStep_59 : decode cX9_readStep 59 = .ok (.getfield 108, 3) := by decide +kernel
theorem dX9_readStep_62 : decode cX9_readStep 62 = .ok (.iconst 1, 1) := by decide +kernel
theorem dX9_readStep_63 : decode cX9_readStep 63 = .ok (.iadd, 1) := by decide +kernel
theorem dX9_readStep_64 : decode cX9_readStep 64 = .ok (.putfield 108, 3) := by decide +kernel
theorem dX9_readStep_67 : decode cX9_readStep 67 = .ok (.aload_n 0, 1) := by decide +kernel
theorem dX9_readStep_68 : decode cX9_readStep 68 = .ok (.getfield 25, 3) := by decide +kernel
theorem dX9_readStep_71 : decode cX9_readStep 71 = .ok (.iload_n 1, 1) := by decide +kernel
theorem dX9_readStep_72 : decode cX9_readStep 72 = .ok (.iload_n 3, 1) := by decide +kernel
theorem dX9_readStep_73 : decode cX9_readStep 73 = .ok (.iastore, 1) := by decide +kernel
theorem dX9_readStep_74 : decode cX9_readStep 74 = .ok (.aload_n 0, 1) := by decide +kernel
theorem dX9_readStep_75 : decode cX9_readStep 75 = .ok (.getfield 25, 3) := by decide +kernel
theorem dX9_readStep_78 : decode cX9_readStep 78 = .ok (.iload_n 1, 1) := by decide +kernel
theorem dX9_readStep_79 : decode cX9_readStep 79 = .ok (.iconst 1, 1) := by decide +kernel
theorem dX9_readStep_80 : decode cX9_readStep 80 = .ok (.iadd, 1) := by decide +kernel
theorem dX9_readStep_81 : decode cX9_readStep 81 = .ok (.iload_n 3, 1) := by decide +kernel
theorem dX9_readStep_82 : decode cX9_readStep 82 = .ok (.iconst 3, 1) := by decide +kernel
theorem dX9_readStep_83 : decode cX9_readStep 83 = .ok (.if_icmp .ne 12, 3) := by decide +kernel
theorem dX9_readStep_86 : decode cX9_readStep 86 = .ok (.aload_n 0, 1) := by decide +kernel
theorem dX9_readStep_87 : decode cX9_readStep 87 = .ok (.bipush 23, 2) := by decide +kernel
theorem dX9_readStep_89 : decode cX9_readStep 89 = .ok (.invokevirtual 139, 3) := by decide +kernel
theorem dX9_readStep_92 : decode cX9_readStep 92 = .ok (.goto 7, 3) := by decide +kernel
theorem dX9_readStep_95 : decode cX9_readStep 95 = .ok (.aload_n 0, 1) := by decide +kernel
theorem dX9_readStep_96 : decode cX9_readStep 96 = .ok (.invokevirtual 161, 3) := by decide +kernel
theorem dX9_readStep_99 : decode cX9_readStep 99 = .ok (.iastore, 1) := by decide +kernel
theorem dX9_readStep_100 : decode cX9_readStep 100 = .ok (.iconst 0, 1) := by decide +kernel
theorem dX9_readStep_101 : decode cX9_readStep 101 = .ok (.istore 4, 2) := by decide +kernel
theorem dX9_readStep_103 : decode cX9_readStep 103 = .ok (.iload 4, 2) := by decide +kernel
theorem dX9_readStep_105 : decode cX9_readStep 105 = .ok (.iconst 3, 1) := by decide +kernel
theorem dX9_readStep_106 : decode cX9_readStep 106 = .ok (.if_icmp .ge 21, 3) := by decide +kernel
theorem dX9_readStep_109 : decode cX9_readStep 109 = .ok (.aload_n 0, 1) := by decide +kernel
theorem dX9_readStep_110 : decode cX9_readStep 110 = .ok (.getfield 25, 3) := by decide +kernel
theorem dX9_readStep_113 : decode cX9_readStep 113 = .ok (.iload_n 1, 1) := by decide +kernel
theorem dX9_readStep_114 : decode cX9_readStep 114 = .ok (.iconst 2, 1) := by decide +kernel
theorem dX9_readStep_115 : decode cX9_readStep 115 = .ok (.iadd, 1) := by decide +kernel
theorem dX9_readStep_116 : decode cX9_readStep 116 = .ok (.iload 4, 2) := by decide +kernel
theorem dX9_readStep_118 : decode cX9_readStep 118 = .ok (.iadd, 1) := by decide +kernel
theorem dX9_readStep_119 : decode cX9_readStep 119 = .ok (.iconst (-1), 1) := by decide +kernel
theorem dX9_readStep_120 : decode cX9_readStep 120 = .ok (.iastore, 1) := by decide +kernel
theorem dX9_readStep_121 : decode cX9_readStep 121 = .ok (.iinc 4 1, 3) := by decide +kernel
theorem dX9_readStep_124 : decode cX9_readStep 124 = .ok (.goto (-21), 3) := by decide +kernel
theorem dX9_readStep_127 : decode cX9_readStep 127 = .ok (.iload_n 3, 1) := by decide +kernel
theorem dX9_readStep_128 : decode cX9_readStep 128 = .ok (.iconst 1, 1) := by decide +kernel
theorem dX9_readStep_129 : decode cX9_readStep 129 = .ok (.if_icmp .le 4, 3) := by decide +kernel
theorem dX9_readStep_132 : decode cX9_readStep 132 = .ok (.return_, 1) := by decide +kernel
theorem dX9_readStep_133 : decode cX9_readStep 133 = .ok (.aload_n 0, 1) := by decide +kernel
theorem dX9_readStep_134 : decode cX9_readStep 134 = .ok (.bipush 58, 2) := by decide +kernel
theorem dX9_readStep_136 : decode cX9_readStep 136 = .ok (.invokevirtual 135, 3) := by decide +kernel
theorem dX9_readStep_139 : decode cX9_readStep 139 = .ok (.aload_n 0, 1) := by decide +kernel
theorem dX9_readStep_140 : decode cX9_readStep 140 = .ok (.getfield 115, 3) := by decide +kernel
theorem dX9_readStep_143 : decode cX9_readStep 143 = .ok (.iconst (-1), 1) := by decide +kernel
theorem dX9_readStep_144 : decode cX9_readStep 144 = .ok (.if_icmp .ne 7, 3) := by decide +kernel
theorem dX9_readStep_147 : decode cX9_readStep 147 = .ok (.iconst 1, 1) := by decide +kernel
theorem dX9_readStep_148 : decode cX9_readStep 148 = .ok (.goto 4, 3) := by decide +kernel
theorem dX9_readStep_151 : decode cX9_readStep 151 = .ok (.iconst 0, 1) := by decide +kernel
theorem dX9_readStep_152 : decode cX9_readStep 152 = .ok (.istore 4, 2) := by decide +kernel
theorem dX9_readStep_154 : decode cX9_readStep 154 = .ok (.iconst 0, 1) := by decide +kernel
theorem dX9_readStep_155 : decode cX9_readStep 155 = .ok (.istore 5, 2) := by decide +kernel
theorem dX9_readStep_157 : decode cX9_readStep 157 = .ok (.iload 5, 2) := by decide +kernel
theorem dX9_readStep_159 : decode cX9_readStep 159 = .ok (.iconst 3, 1) := by decide +kernel
theorem dX9_readStep_160 : decode cX9_readStep 160 = .ok (.if_icmp .ge 80, 3) := by decide +kernel
theorem dX9_readStep_163 : decode cX9_readStep 163 = .ok (.iload 4, 2) := by decide +kernel
theorem dX9_readStep_165 : decode cX9_readStep 165 = .ok (.ifCond .eq 75, 3) := by decide +kernel
theorem dX9_readStep_168 : decode cX9_readStep 168 = .ok (.aload_n 0, 1) := by decide +kernel
theorem dX9_readStep_169 : decode cX9_readStep 169 = .ok (.getfield 25, 3) := by decide +kernel
theorem dX9_readStep_172 : decode cX9_readStep 172 = .ok (.iload_n 1, 1) := by decide +kernel
theorem dX9_readStep_173 : decode cX9_readStep 173 = .ok (.iconst 2, 1) := by decide +kernel
theorem dX9_readStep_174 : decode cX9_readStep 174 = .ok (.iadd, 1) := by decide +kernel
theorem dX9_readStep_175 : decode cX9_readStep 175 = .ok (.iload 5, 2) := by decide +kernel
theorem dX9_readStep_177 : decode cX9_readStep 177 = .ok (.iadd, 1) := by decide +kernel
theorem dX9_readStep_178 : decode cX9_readStep 178 = .ok (.aload_n 0, 1) := by decide +kernel
theorem dX9_readStep_179 : decode cX9_readStep 179 = .ok (.bipush 99, 2) := by decide +kernel
theorem dX9_readStep_181 : decode cX9_readStep 181 = .ok (.invokevirtual 139, 3) := by decide +kernel
theorem dX9_readStep_184 : decode cX9_readStep 184 = .ok (.iastore, 1) := by decide +kernel
theorem dX9_readStep_185 : decode cX9_readStep 185 = .ok (.aload_n 0, 1) := by decide +kernel
theorem dX9_readStep_186 : decode cX9_readStep 186 = .ok (.getfield 115, 3) := by decide +kernel
theorem dX9_readStep_189 : decode cX9_readStep 189 = .ok (.iconst (-1), 1) := by decide +kernel
theorem dX9_readStep_190 : decode cX9_readStep 190 = .ok (.if_icmp .ne 22, 3) := by decide +kernel
theorem dX9_readStep_193 : decode cX9_readStep 193 = .ok (.iload 5, 2) := by decide +kernel
theorem dX9_readStep_195 : decode cX9_readStep 195 = .ok (.iconst 2, 1) := by decide +kernel
theorem dX9_readStep_196 : decode cX9_readStep 196 = .ok (.if_icmp .ge 16, 3) := by decide +kernel
theorem dX9_readStep_199 : decode cX9_readStep 199 = .ok (.aload_n 0, 1) := by decide +kernel
theorem dX9_readStep_200 : decode cX9_readStep 200 = .ok (.invokevirtual 118, 3) := by decide +kernel
theorem dX9_readStep_203 : decode cX9_readStep 203 = .ok (.bipush 44, 2) := by decide +kernel
theorem dX9_readStep_205 : decode cX9_readStep 205 = .ok (.if_icmp .ne 7, 3) := by decide +kernel
theorem dX9_readStep_208 : decode cX9_readStep 208 = .ok (.iconst 1, 1) := by decide +kernel
theorem dX9_readStep_209 : decode cX9_readStep 209 = .ok (.goto 4, 3) := by decide +kernel
theorem dX9_readStep_212 : decode cX9_readStep 212 = .ok (.iconst 0, 1) := by decide +kernel
theorem dX9_readStep_213 : decode cX9_readStep 213 = .ok (.istore 4, 2) := by decide +kernel
theorem dX9_readStep_215 : decode cX9_readStep 215 = .ok (.aload_n 0, 1) := by decide +kernel
theorem dX9_readStep_216 : decode cX9_readStep 216 = .ok (.dup, 1) := by decide +kernel
theorem dX9_readStep_217 : decode cX9_readStep 217 = .ok (.getfield 108, 3) := by decide +kernel
theorem dX9_readStep_220 : decode cX9_readStep 220 = .ok (.iload 4, 2) := by decide +kernel
theorem dX9_readStep_222 : decode cX9_readStep 222 = .ok (.ifCond .eq 7, 3) := by decide +kernel
theorem dX9_readStep_225 : decode cX9_readStep 225 = .ok (.iconst 1, 1) := by decide +kernel
theorem dX9_readStep_226 : decode cX9_readStep 226 = .ok (.goto 4, 3) := by decide +kernel
theorem dX9_readStep_229 : decode cX9_readStep 229 = .ok (.iconst 0, 1) := by decide +kernel
theorem dX9_readStep_230 : decode cX9_readStep 230 = .ok (.iadd, 1) := by decide +kernel
theorem dX9_readStep_231 : decode cX9_readStep 231 = .ok (.putfield 108, 3) := by decide +kernel
theorem dX9_readStep_234 : decode cX9_readStep 234 = .ok (.iinc 5 1, 3) := by decide +kernel
theorem dX9_readStep_237 : decode cX9_readStep 237 = .ok (.goto (-80), 3) := by decide +kernel
theorem dX9_readStep_240 : decode cX9_readStep 240 = .ok (.return_, 1) := by decide +kernel
theorem dX9_ahead_0 : decode cX9_ahead 0 = .ok (.aload_n 0, 1) := by decide +kernel
theorem dX9_ahead_1 : decode cX9_ahead 1 = .ok (.invokevirtual 111, 3) := by decide +kernel
theorem dX9_ahead_4 : decode cX9_ahead 4 = .ok (.bipush 32, 2) := by decide +kernel
theorem dX9_ahead_6 : decode cX9_ahead 6 = .ok (.if_icmp .ne 16, 3) := by decide +kernel
theorem dX9_ahead_9 : decode cX9_ahead 9 = .ok (.aload_n 0, 1) := by decide +kernel
theorem dX9_ahead_10 : decode cX9_ahead 10 = .ok (.dup, 1) := by decide +kernel
theorem dX9_ahead_11 : decode cX9_ahead 11 = .ok (.getfield 108, 3) := by decide +kernel
theorem dX9_ahead_14 : decode cX9_ahead 14 = .ok (.iconst 1, 1) := by decide +kernel
theorem dX9_ahead_15 : decode cX9_ahead 15 = .ok (.iadd, 1) := by decide +kernel
theorem dX9_ahead_16 : decode cX9_ahead 16 = .ok (.putfield 108, 3) := by decide +kernel
theorem dX9_ahead_19 : decode cX9_ahead 19 = .ok (.goto (-19), 3) := by decide +kernel
theorem dX9_ahead_22 : decode cX9_ahead 22 = .ok (.aload_n 0, 1) := by decide +kernel
theorem dX9_ahead_23 : decode cX9_ahead 23 = .ok (.invokevirtual 111, 3) := by decide +kernel
theorem dX9_ahead_26 : decode cX9_ahead 26 = .ok (.ireturn, 1) := by decide +kernel
theorem dX9_here_0 : decode cX9_here 0 = .ok (.aload_n 0, 1) := by decide +kernel
theorem dX9_here_1 : decode cX9_here 1 = .ok (.getfield 108, 3) := by decide +kernel
theorem dX9_here_4 : decode cX9_here 4 = .ok (.aload_n 0, 1) := by decide +kernel
theorem dX9_here_5 : decode cX9_here 5 = .ok (.getfield 101, 3) := by decide +kernel
theorem dX9_here_8 : decode cX9_here 8 = .ok (.if_icmp .ge 15, 3) := by decide +kernel
theorem dX9_here_11 : decode cX9_here 11 = .ok (.aload_n 0, 1) := by decide +kernel
theorem dX9_here_12 : decode cX9_here 12 = .ok (.getfield 9, 3) := by decide +kernel
theorem dX9_here_15 : decode cX9_here 15 = .ok (.aload_n 0, 1) := by decide +kernel
theorem dX9_here_16 : decode cX9_here 16 = .ok (.getfield 108, 3) := by decide +kernel
theorem dX9_here_19 : decode cX9_here 19 = .ok (.iaload, 1) := by decide +kernel
theorem dX9_here_20 : decode cX9_here 20 = .ok (.goto 4, 3) := by decide +kernel
theorem dX9_here_23 : decode cX9_here 23 = .ok (.iconst (-1), 1) := by decide +kernel
theorem dX9_here_24 : decode cX9_here 24 = .ok (.ireturn, 1) := by decide +kernel
theorem dX9_bad_0 : decode cX9_bad 0 = .ok (.aload_n 0, 1) := by decide +kernel
theorem dX9_bad_1 : decode cX9_bad 1 = .ok (.aload_n 0, 1) := by decide +kernel
theorem dX9_bad_2 : decode cX9_bad 2 = .ok (.getfield 115, 3) := by decide +kernel
theorem dX9_bad_5 : decode cX9_bad 5 = .ok (.iconst (-1), 1) := by decide +kernel
theorem dX9_bad_6 : decode cX9_bad 6 = .ok (.if_icmp .ne 10, 3) := by decide +kernel
theorem dX9_bad_9 : decode cX9_bad 9 = .ok (.aload_n 0, 1) := by decide +kernel
theorem dX9_bad_10 : decode cX9_bad 10 = .ok (.getfield 108, 3) := by decide +kernel
theorem dX9_bad_13 : decode cX9_bad 13 = .ok (.goto 7, 3) := by decide +kernel
theorem dX9_bad_16 : decode cX9_bad 16 = .ok (.aload_n 0, 1) := by decide +kernel
theorem dX9_bad_17 : decode cX9_bad 17 = .ok (.getfield 115, 3) := by decide +kernel
theorem dX9_bad_20 : decode cX9_bad 20 = .ok (.putfield 115, 3) := by decide +kernel
theorem dX9_bad_23 : decode cX9_bad 23 = .ok (.return_, 1) := by decide +kernel
theorem dX9_ends_0 : decode cX9_ends 0 = .ok (.aload_n 0, 1) := by decide +kernel
theorem dX9_ends_1 : decode cX9_ends 1 = .ok (.getfield 115, 3) := by decide +kernel
theorem dX9_ends_4 : decode cX9_ends 4 = .ok (.iconst (-1), 1) := by decide +kernel
theorem dX9_ends_5 : decode cX9_ends 5 = .ok (.if_icmp .ne 15, 3) := by decide +kernel
theorem dX9_ends_8 : decode cX9_ends 8 = .ok (.aload_n 0, 1) := by decide +kernel
theorem dX9_ends_9 : decode cX9_ends 9 = .ok (.invokevirtual 118, 3) := by decide +kernel
theorem dX9_ends_12 : decode cX9_ends 12 = .ok (.iconst (-1), 1) := by decide +kernel
theorem dX9_ends_13 : decode cX9_ends 13 = .ok (.if_icmp .eq 7, 3) := by decide +kernel
theorem dX9_ends_16 : decode cX9_ends 16 = .ok (.aload_n 0, 1) := by decide +kernel
theorem dX9_ends_17 : decode cX9_ends 17 = .ok (.invokevirtual 121, 3) := by decide +kernel
theorem dX9_ends_20 : decode cX9_ends 20 = .ok (.aload_n 0, 1) := by decide +kernel
theorem dX9_ends_21 : decode cX9_ends 21 = .ok (.getfield 115, 3) := by decide +kernel
theorem dX9_ends_24 : decode cX9_ends 24 = .ok (.ireturn, 1) := by decide +kernel
theorem dX9_readAll_0 : decode cX9_readAll 0 = .ok (.aload_n 0, 1) := by decide +kernel
theorem dX9_readAll_1 : decode cX9_readAll 1 = .ok (.invokevirtual 149, 3) := by decide +kernel
theorem dX9_readAll_4 : decode cX9_readAll 4 = .ok (.aload_n 0, 1) := by decide +kernel
theorem dX9_readAll_5 : decode cX9_readAll 5 = .ok (.iconst 0, 1) := by decide +kernel
theorem dX9_readAll_6 : decode cX9_readAll 6 = .ok (.putfield 152, 3) := by decide +kernel
theorem dX9_readAll_9 : decode cX9_readAll 9 = .ok (.iconst 1, 1) := by decide +kernel
theorem dX9_readAll_10 : decode cX9_readAll 10 = .ok (.istore_n 1, 1) := by decide +kernel
theorem dX9_readAll_11 : decode cX9_readAll 11 = .ok (.iload_n 1, 1) := by decide +kernel
theorem dX9_readAll_12 : decode cX9_readAll 12 = .ok (.ifCond .eq 73, 3) := by decide +kernel
theorem dX9_readAll_15 : decode cX9_readAll 15 = .ok (.aload_n 0, 1) := by decide +kernel
theorem dX9_readAll_16 : decode cX9_readAll 16 = .ok (.aload_n 0, 1) := by decide +kernel
theorem dX9_readAll_17 : decode cX9_readAll 17 = .ok (.getfield 152, 3) := by decide +kernel
theorem dX9_readAll_20 : decode cX9_readAll 20 = .ok (.invokevirtual 155, 3) := by decide +kernel
theorem dX9_readAll_23 : decode cX9_readAll 23 = .ok (.aload_n 0, 1) := by decide +kernel
theorem dX9_readAll_24 : decode cX9_readAll 24 = .ok (.dup, 1) := by decide +kernel
theorem dX9_readAll_25 : decode cX9_readAll 25 = .ok (.getfield 152, 3) := by decide +kernel
theorem dX9_readAll_28 : decode cX9_readAll 28 = .ok (.iconst 1, 1) := by decide +kernel
theorem dX9_readAll_29 : decode cX9_readAll 29 = .ok (.iadd, 1) := by decide +kernel
theorem dX9_readAll_30 : decode cX9_readAll 30 = .ok (.putfield 152, 3) := by decide +kernel
theorem dX9_readAll_33 : decode cX9_readAll 33 = .ok (.aload_n 0, 1) := by decide +kernel
theorem dX9_readAll_34 : decode cX9_readAll 34 = .ok (.getfield 115, 3) := by decide +kernel
theorem dX9_readAll_37 : decode cX9_readAll 37 = .ok (.iconst (-1), 1) := by decide +kernel
theorem dX9_readAll_38 : decode cX9_readAll 38 = .ok (.if_icmp .ne 24, 3) := by decide +kernel
theorem dX9_readAll_41 : decode cX9_readAll 41 = .ok (.aload_n 0, 1) := by decide +kernel
theorem dX9_readAll_42 : decode cX9_readAll 42 = .ok (.invokevirtual 118, 3) := by decide +kernel
theorem dX9_readAll_45 : decode cX9_readAll 45 = .ok (.bipush 59, 2) := by decide +kernel
theorem dX9_readAll_47 : decode cX9_readAll 47 = .ok (.if_icmp .ne 15, 3) := by decide +kernel
theorem dX9_readAll_50 : decode cX9_readAll 50 = .ok (.aload_n 0, 1) := by decide +kernel
theorem dX9_readAll_51 : decode cX9_readAll 51 = .ok (.getfield 152, 3) := by decide +kernel
theorem dX9_readAll_54 : decode cX9_readAll 54 = .ok (.iconst 4, 1) := by decide +kernel
theorem dX9_readAll_55 : decode cX9_readAll 55 = .ok (.if_icmp .ge 7, 3) := by decide +kernel
theorem dX9_readAll_58 : decode cX9_readAll 58 = .ok (.iconst 1, 1) := by decide +kernel
theorem dX9_readAll_59 : decode cX9_readAll 59 = .ok (.goto 4, 3) := by decide +kernel
theorem dX9_readAll_62 : decode cX9_readAll 62 = .ok (.iconst 0, 1) := by decide +kernel
theorem dX9_readAll_63 : decode cX9_readAll 63 = .ok (.istore_n 1, 1) := by decide +kernel
theorem dX9_readAll_64 : decode cX9_readAll 64 = .ok (.aload_n 0, 1) := by decide +kernel
theorem dX9_readAll_65 : decode cX9_readAll 65 = .ok (.dup, 1) := by decide +kernel
theorem dX9_readAll_66 : decode cX9_readAll 66 = .ok (.getfield 108, 3) := by decide +kernel
theorem dX9_readAll_69 : decode cX9_readAll 69 = .ok (.iload_n 1, 1) := by decide +kernel
theorem dX9_readAll_70 : decode cX9_readAll 70 = .ok (.ifCond .eq 7, 3) := by decide +kernel
theorem dX9_readAll_73 : decode cX9_readAll 73 = .ok (.iconst 1, 1) := by decide +kernel
theorem dX9_readAll_74 : decode cX9_readAll 74 = .ok (.goto 4, 3) := by decide +kernel
theorem dX9_readAll_77 : decode cX9_readAll 77 = .ok (.iconst 0, 1) := by decide +kernel
theorem dX9_readAll_78 : decode cX9_readAll 78 = .ok (.iadd, 1) := by decide +kernel
theorem dX9_readAll_79 : decode cX9_readAll 79 = .ok (.putfield 108, 3) := by decide +kernel
theorem dX9_readAll_82 : decode cX9_readAll 82 = .ok (.goto (-71), 3) := by decide +kernel
theorem dX9_readAll_85 : decode cX9_readAll 85 = .ok (.aload_n 0, 1) := by decide +kernel
theorem dX9_readAll_86 : decode cX9_readAll 86 = .ok (.invokevirtual 158, 3) := by decide +kernel
theorem dX9_readAll_89 : decode cX9_readAll 89 = .ok (.ireturn, 1) := by decide +kernel
theorem dX9_readTable_0 : decode cX9_readTable 0 = .ok (.aload_n 0, 1) := by decide +kernel
theorem dX9_readTable_1 : decode cX9_readTable 1 = .ok (.iload_n 1, 1) := by decide +kernel
theorem dX9_readTable_2 : decode cX9_readTable 2 = .ok (.invokevirtual 143, 3) := by decide +kernel
theorem dX9_readTable_5 : decode cX9_readTable 5 = .ok (.aload_n 0, 1) := by decide +kernel
theorem dX9_readTable_6 : decode cX9_readTable 6 = .ok (.getfield 19, 3) := by decide +kernel
theorem dX9_readTable_9 : decode cX9_readTable 9 = .ok (.iload_n 1, 1) := by decide +kernel
theorem dX9_readTable_10 : decode cX9_readTable 10 = .ok (.iconst 0, 1) := by decide +kernel
theorem dX9_readTable_11 : decode cX9_readTable 11 = .ok (.iastore, 1) := by decide +kernel
theorem dX9_readTable_12 : decode cX9_readTable 12 = .ok (.aload_n 0, 1) := by decide +kernel
theorem dX9_readTable_13 : decode cX9_readTable 13 = .ok (.getfield 115, 3) := by decide +kernel
theorem dX9_readTable_16 : decode cX9_readTable 16 = .ok (.iconst (-1), 1) := by decide +kernel
theorem dX9_readTable_17 : decode cX9_readTable 17 = .ok (.if_icmp .ne 17, 3) := by decide +kernel
theorem dX9_readTable_20 : decode cX9_readTable 20 = .ok (.aload_n 0, 1) := by decide +kernel
theorem dX9_readTable_21 : decode cX9_readTable 21 = .ok (.invokevirtual 118, 3) := by decide +kernel
theorem dX9_readTable_24 : decode cX9_readTable 24 = .ok (.invokestatic 124, 3) := by decide +kernel
theorem dX9_readTable_27 : decode cX9_readTable 27 = .ok (.ifCond .eq 7, 3) := by decide +kernel
theorem dX9_readTable_30 : decode cX9_readTable 30 = .ok (.iconst 1, 1) := by decide +kernel
theorem dX9_readTable_31 : decode cX9_readTable 31 = .ok (.goto 4, 3) := by decide +kernel
theorem dX9_readTable_34 : decode cX9_readTable 34 = .ok (.iconst 0, 1) := by decide +kernel
theorem dX9_readTable_35 : decode cX9_readTable 35 = .ok (.istore_n 2, 1) := by decide +kernel
theorem dX9_readTable_36 : decode cX9_readTable 36 = .ok (.iload_n 2, 1) := by decide +kernel
theorem dX9_readTable_37 : decode cX9_readTable 37 = .ok (.ifCond .eq 63, 3) := by decide +kernel
theorem dX9_readTable_40 : decode cX9_readTable 40 = .ok (.aload_n 0, 1) := by decide +kernel
theorem dX9_readTable_41 : decode cX9_readTable 41 = .ok (.iload_n 1, 1) := by decide +kernel
theorem dX9_readTable_42 : decode cX9_readTable 42 = .ok (.invokevirtual 146, 3) := by decide +kernel
theorem dX9_readTable_45 : decode cX9_readTable 45 = .ok (.aload_n 0, 1) := by decide +kernel
theorem dX9_readTable_46 : decode cX9_readTable 46 = .ok (.getfield 115, 3) := by decide +kernel
theorem dX9_readTable_49 : decode cX9_readTable 49 = .ok (.iconst (-1), 1) := by decide +kernel
theorem dX9_readTable_50 : decode cX9_readTable 50 = .ok (.if_icmp .ne 27, 3) := by decide +kernel
theorem dX9_readTable_53 : decode cX9_readTable 53 = .ok (.aload_n 0, 1) := by decide +kernel
theorem dX9_readTable_54 : decode cX9_readTable 54 = .ok (.invokevirtual 118, 3) := by decide +kernel
theorem dX9_readTable_57 : decode cX9_readTable 57 = .ok (.bipush 47, 2) := by decide +kernel
theorem dX9_readTable_59 : decode cX9_readTable 59 = .ok (.if_icmp .ne 18, 3) := by decide +kernel
theorem dX9_readTable_62 : decode cX9_readTable 62 = .ok (.aload_n 0, 1) := by decide +kernel
theorem dX9_readTable_63 : decode cX9_readTable 63 = .ok (.getfield 19, 3) := by decide +kernel
theorem dX9_readTable_66 : decode cX9_readTable 66 = .ok (.iload_n 1, 1) := by decide +kernel
theorem dX9_readTable_67 : decode cX9_readTable 67 = .ok (.iaload, 1) := by decide +kernel
theorem dX9_readTable_68 : decode cX9_readTable 68 = .ok (.bipush 12, 2) := by decide +kernel
theorem dX9_readTable_70 : decode cX9_readTable 70 = .ok (.if_icmp .ge 7, 3) := by decide +kernel
theorem dX9_readTable_73 : decode cX9_readTable 73 = .ok (.iconst 1, 1) := by decide +kernel
theorem dX9_readTable_74 : decode cX9_readTable 74 = .ok (.goto 4, 3) := by decide +kernel
theorem dX9_readTable_77 : decode cX9_readTable 77 = .ok (.iconst 0, 1) := by decide +kernel
theorem dX9_readTable_78 : decode cX9_readTable 78 = .ok (.istore_n 2, 1) := by decide +kernel
theorem dX9_readTable_79 : decode cX9_readTable 79 = .ok (.aload_n 0, 1) := by decide +kernel
theorem dX9_readTable_80 : decode cX9_readTable 80 = .ok (.dup, 1) := by decide +kernel
theorem dX9_readTable_81 : decode cX9_readTable 81 = .ok (.getfield 108, 3) := by decide +kernel
theorem dX9_readTable_84 : decode cX9_readTable 84 = .ok (.iload_n 2, 1) := by decide +kernel
theorem dX9_readTable_85 : decode cX9_readTable 85 = .ok (.ifCond .eq 7, 3) := by decide +kernel
theorem dX9_readTable_88 : decode cX9_readTable 88 = .ok (.iconst 1, 1) := by decide +kernel
theorem dX9_readTable_89 : decode cX9_readTable 89 = .ok (.goto 4, 3) := by decide +kernel
theorem dX9_readTable_92 : decode cX9_readTable 92 = .ok (.iconst 0, 1) := by decide +kernel
theorem dX9_readTable_93 : decode cX9_readTable 93 = .ok (.iadd, 1) := by decide +kernel
theorem dX9_readTable_94 : decode cX9_readTable 94 = .ok (.putfield 108, 3) := by decide +kernel
theorem dX9_readTable_97 : decode cX9_readTable 97 = .ok (.goto (-61), 3) := by decide +kernel
theorem dX9_readTable_100 : decode cX9_readTable 100 = .ok (.return_, 1) := by decide +kernel
theorem dX9_readHead_0 : decode cX9_readHead 0 = .ok (.aload_n 0, 1) := by decide +kernel
theorem dX9_readHead_1 : decode cX9_readHead 1 = .ok (.getfield 13, 3) := by decide +kernel
theorem dX9_readHead_4 : decode cX9_readHead 4 = .ok (.iload_n 1, 1) := by decide +kernel
theorem dX9_readHead_5 : decode cX9_readHead 5 = .ok (.iconst 0, 1) := by decide +kernel
theorem dX9_readHead_6 : decode cX9_readHead 6 = .ok (.iastore, 1) := by decide +kernel
theorem dX9_readHead_7 : decode cX9_readHead 7 = .ok (.iconst 0, 1) := by decide +kernel
theorem dX9_readHead_8 : decode cX9_readHead 8 = .ok (.istore_n 2, 1) := by decide +kernel
theorem dX9_readHead_9 : decode cX9_readHead 9 = .ok (.aload_n 0, 1) := by decide +kernel
theorem dX9_readHead_10 : decode cX9_readHead 10 = .ok (.aload_n 0, 1) := by decide +kernel
theorem dX9_readHead_11 : decode cX9_readHead 11 = .ok (.invokevirtual 118, 3) := by decide +kernel
theorem dX9_readHead_14 : decode cX9_readHead 14 = .ok (.invokevirtual 128, 3) := by decide +kernel
theorem dX9_readHead_17 : decode cX9_readHead 17 = .ok (.ifCond .ne 7, 3) := by decide +kernel
theorem dX9_readHead_20 : decode cX9_readHead 20 = .ok (.aload_n 0, 1) := by decide +kernel
theorem dX9_readHead_21 : decode cX9_readHead 21 = .ok (.invokevirtual 121, 3) := by decide +kernel
theorem dX9_readHead_24 : decode cX9_readHead 24 = .ok (.aload_n 0, 1) := by decide +kernel
theorem dX9_readHead_25 : decode cX9_readHead 25 = .ok (.getfield 115, 3) := by decide +kernel
theorem dX9_readHead_28 : decode cX9_readHead 28 = .ok (.iconst (-1), 1) := by decide +kernel
theorem dX9_readHead_29 : decode cX9_readHead 29 = .ok (.if_icmp .ne 92, 3) := by decide +kernel
theorem dX9_readHead_32 : decode cX9_readHead 32 = .ok (.aload_n 0, 1) := by decide +kernel
theorem dX9_readHead_33 : decode cX9_readHead 33 = .ok (.aload_n 0, 1) := by decide +kernel
theorem dX9_readHead_34 : decode cX9_readHead 34 = .ok (.invokevirtual 118, 3) := by decide +kernel
theorem dX9_readHead_37 : decode cX9_readHead 37 = .ok (.invokevirtual 128, 3) := by decide +kernel
theorem dX9_readHead_40 : decode cX9_readHead 40 = .ok (.ifCond .eq 81, 3) := by decide +kernel
theorem dX9_readHead_43 : decode cX9_readHead 43 = .ok (.aload_n 0, 1) := by decide +kernel
theorem dX9_readHead_44 : decode cX9_readHead 44 = .ok (.invokevirtual 111, 3) := by decide +kernel
theorem dX9_readHead_47 : decode cX9_readHead 47 = .ok (.bipush 97, 2) := by decide +kernel
theorem dX9_readHead_49 : decode cX9_readHead 49 = .ok (.isub, 1) := by decide +kernel
theorem dX9_readHead_50 : decode cX9_readHead 50 = .ok (.istore_n 3, 1) := by decide +kernel
theorem dX9_readHead_51 : decode cX9_readHead 51 = .ok (.aload_n 0, 1) := by decide +kernel
theorem dX9_readHead_52 : decode cX9_readHead 52 = .ok (.getfield 13, 3) := by decide +kernel
theorem dX9_readHead_55 : decode cX9_readHead 55 = .ok (.iload_n 1, 1) := by decide +kernel
theorem dX9_readHead_56 : decode cX9_readHead 56 = .ok (.iaload, 1) := by decide +kernel
theorem dX9_readHead_57 : decode cX9_readHead 57 = .ok (.iconst 3, 1) := by decide +kernel
theorem dX9_readHead_58 : decode cX9_readHead 58 = .ok (.if_icmp .eq 11, 3) := by decide +kernel
theorem dX9_readHead_61 : decode cX9_readHead 61 = .ok (.iload_n 2, 1) := by decide +kernel
theorem dX9_readHead_62 : decode cX9_readHead 62 = .ok (.iload_n 3, 1) := by decide +kernel
theorem dX9_readHead_63 : decode cX9_readHead 63 = .ok (.invokestatic 131, 3) := by decide +kernel
theorem dX9_readHead_66 : decode cX9_readHead 66 = .ok (.ifCond .eq 10, 3) := by decide +kernel
theorem dX9_readHead_69 : decode cX9_readHead 69 = .ok (.aload_n 0, 1) := by decide +kernel
theorem dX9_readHead_70 : decode cX9_readHead 70 = .ok (.invokevirtual 121, 3) := by decide +kernel
theorem dX9_readHead_73 : decode cX9_readHead 73 = .ok (.goto 45, 3) := by decide +kernel
theorem dX9_readHead_76 : decode cX9_readHead 76 = .ok (.iload_n 2, 1) := by decide +kernel
theorem dX9_readHead_77 : decode cX9_readHead 77 = .ok (.iconst 1, 1) := by decide +kernel
theorem dX9_readHead_78 : decode cX9_readHead 78 = .ok (.iload_n 3, 1) := by decide +kernel
theorem dX9_readHead_79 : decode cX9_readHead 79 = .ok (.ishl, 1) := by decide +kernel
theorem dX9_readHead_80 : decode cX9_readHead 80 = .ok (.ior, 1) := by decide +kernel
theorem dX9_readHead_81 : decode cX9_readHead 81 = .ok (.istore_n 2, 1) := by decide +kernel
theorem dX9_readHead_82 : decode cX9_readHead 82 = .ok (.aload_n 0, 1) := by decide +kernel
theorem dX9_readHead_83 : decode cX9_readHead 83 = .ok (.getfield 16, 3) := by decide +kernel
theorem dX9_readHead_86 : decode cX9_readHead 86 = .ok (.iconst 3, 1) := by decide +kernel
theorem dX9_readHead_87 : decode cX9_readHead 87 = .ok (.iload_n 1, 1) := by decide +kernel
theorem dX9_readHead_88 : decode cX9_readHead 88 = .ok (.imul, 1) := by decide +kernel
theorem dX9_readHead_89 : decode cX9_readHead 89 = .ok (.aload_n 0, 1) := by decide +kernel
theorem dX9_readHead_90 : decode cX9_readHead 90 = .ok (.getfield 13, 3) := by decide +kernel
theorem dX9_readHead_93 : decode cX9_readHead 93 = .ok (.iload_n 1, 1) := by decide +kernel
theorem dX9_readHead_94 : decode cX9_readHead 94 = .ok (.iaload, 1) := by decide +kernel
theorem dX9_readHead_95 : decode cX9_readHead 95 = .ok (.iadd, 1) := by decide +kernel
theorem dX9_readHead_96 : decode cX9_readHead 96 = .ok (.iload_n 3, 1) := by decide +kernel
theorem dX9_readHead_97 : decode cX9_readHead 97 = .ok (.iastore, 1) := by decide +kernel
theorem dX9_readHead_98 : decode cX9_readHead 98 = .ok (.aload_n 0, 1) := by decide +kernel
theorem dX9_readHead_99 : decode cX9_readHead 99 = .ok (.getfield 13, 3) := by decide +kernel
theorem dX9_readHead_102 : decode cX9_readHead 102 = .ok (.iload_n 1, 1) := by decide +kernel
theorem dX9_readHead_103 : decode cX9_readHead 103 = .ok (.dup2, 1) := by decide +kernel
theorem dX9_readHead_104 : decode cX9_readHead 104 = .ok (.iaload, 1) := by decide +kernel
theorem dX9_readHead_105 : decode cX9_readHead 105 = .ok (.iconst 1, 1) := by decide +kernel
theorem dX9_readHead_106 : decode cX9_readHead 106 = .ok (.iadd, 1) := by decide +kernel
theorem dX9_readHead_107 : decode cX9_readHead 107 = .ok (.iastore, 1) := by decide +kernel
theorem dX9_readHead_108 : decode cX9_readHead 108 = .ok (.aload_n 0, 1) := by decide +kernel
theorem dX9_readHead_109 : decode cX9_readHead 109 = .ok (.dup, 1) := by decide +kernel
theorem dX9_readHead_110 : decode cX9_readHead 110 = .ok (.getfield 108, 3) := by decide +kernel
theorem dX9_readHead_113 : decode cX9_readHead 113 = .ok (.iconst 1, 1) := by decide +kernel
theorem dX9_readHead_114 : decode cX9_readHead 114 = .ok (.iadd, 1) := by decide +kernel
theorem dX9_readHead_115 : decode cX9_readHead 115 = .ok (.putfield 108, 3) := by decide +kernel
theorem dX9_readHead_118 : decode cX9_readHead 118 = .ok (.goto (-94), 3) := by decide +kernel
theorem dX9_readHead_121 : decode cX9_readHead 121 = .ok (.aload_n 0, 1) := by decide +kernel
theorem dX9_readHead_122 : decode cX9_readHead 122 = .ok (.bipush 58, 2) := by decide +kernel
theorem dX9_readHead_124 : decode cX9_readHead 124 = .ok (.invokevirtual 135, 3) := by decide +kernel
theorem dX9_readHead_127 : decode cX9_readHead 127 = .ok (.return_, 1) := by decide +kernel
theorem dX9_isLetter_0 : decode cX9_isLetter 0 = .ok (.iload_n 1, 1) := by decide +kernel
theorem dX9_isLetter_1 : decode cX9_isLetter 1 = .ok (.bipush 97, 2) := by decide +kernel
theorem dX9_isLetter_3 : decode cX9_isLetter 3 = .ok (.if_icmp .lt 13, 3) := by decide +kernel
theorem dX9_isLetter_6 : decode cX9_isLetter 6 = .ok (.iload_n 1, 1) := by decide +kernel
theorem dX9_isLetter_7 : decode cX9_isLetter 7 = .ok (.bipush 100, 2) := by decide +kernel
theorem dX9_isLetter_9 : decode cX9_isLetter 9 = .ok (.if_icmp .gt 7, 3) := by decide +kernel
theorem dX9_isLetter_12 : decode cX9_isLetter 12 = .ok (.iconst 1, 1) := by decide +kernel
theorem dX9_isLetter_13 : decode cX9_isLetter 13 = .ok (.goto 4, 3) := by decide +kernel
theorem dX9_isLetter_16 : decode cX9_isLetter 16 = .ok (.iconst 0, 1) := by decide +kernel
theorem dX9_isLetter_17 : decode cX9_isLetter 17 = .ok (.ireturn, 1) := by decide +kernel
theorem dX9_must_0 : decode cX9_must 0 = .ok (.aload_n 0, 1) := by decide +kernel
theorem dX9_must_1 : decode cX9_must 1 = .ok (.getfield 115, 3) := by decide +kernel
theorem dX9_must_4 : decode cX9_must 4 = .ok (.iconst (-1), 1) := by decide +kernel
theorem dX9_must_5 : decode cX9_must 5 = .ok (.if_icmp .ne 24, 3) := by decide +kernel
theorem dX9_must_8 : decode cX9_must 8 = .ok (.aload_n 0, 1) := by decide +kernel
theorem dX9_must_9 : decode cX9_must 9 = .ok (.invokevirtual 118, 3) := by decide +kernel
theorem dX9_must_12 : decode cX9_must 12 = .ok (.iload_n 1, 1) := by decide +kernel
theorem dX9_must_13 : decode cX9_must 13 = .ok (.if_icmp .ne 16, 3) := by decide +kernel
theorem dX9_must_16 : decode cX9_must 16 = .ok (.aload_n 0, 1) := by decide +kernel
theorem dX9_must_17 : decode cX9_must 17 = .ok (.dup, 1) := by decide +kernel
theorem dX9_must_18 : decode cX9_must 18 = .ok (.getfield 108, 3) := by decide +kernel
theorem dX9_must_21 : decode cX9_must 21 = .ok (.iconst 1, 1) := by decide +kernel
theorem dX9_must_22 : decode cX9_must 22 = .ok (.iadd, 1) := by decide +kernel
theorem dX9_must_23 : decode cX9_must 23 = .ok (.putfield 108, 3) := by decide +kernel
theorem dX9_must_26 : decode cX9_must 26 = .ok (.goto 7, 3) := by decide +kernel
theorem dX9_must_29 : decode cX9_must 29 = .ok (.aload_n 0, 1) := by decide +kernel
theorem dX9_must_30 : decode cX9_must 30 = .ok (.invokevirtual 121, 3) := by decide +kernel
theorem dX9_must_33 : decode cX9_must 33 = .ok (.return_, 1) := by decide +kernel
theorem dX9_text_0 : decode cX9_text 0 = .ok (.iload_n 1, 1) := by decide +kernel
theorem dX9_text_1 : decode cX9_text 1 = .ok (.ifCond .ne 21, 3) := by decide +kernel
theorem dX9_text_4 : decode cX9_text 4 = .ok (.aload_n 0, 1) := by decide +kernel
theorem dX9_text_5 : decode cX9_text 5 = .ok (.invokevirtual 167, 3) := by decide +kernel
theorem dX9_text_8 : decode cX9_text 8 = .ok (.iconst (-1), 1) := by decide +kernel
theorem dX9_text_9 : decode cX9_text 9 = .ok (.if_icmp .ne 13, 3) := by decide +kernel
theorem dX9_text_12 : decode cX9_text 12 = .ok (.aload_n 0, 1) := by decide +kernel
theorem dX9_text_13 : decode cX9_text 13 = .ok (.iconst 0, 1) := by decide +kernel
theorem dX9_text_14 : decode cX9_text 14 = .ok (.putfield 101, 3) := by decide +kernel
theorem dX9_text_17 : decode cX9_text 17 = .ok (.aload_n 0, 1) := by decide +kernel
theorem dX9_text_18 : decode cX9_text 18 = .ok (.invokevirtual 211, 3) := by decide +kernel
theorem dX9_text_21 : decode cX9_text 21 = .ok (.ireturn, 1) := by decide +kernel
theorem dX9_text_22 : decode cX9_text 22 = .ok (.iload_n 1, 1) := by decide +kernel
theorem dX9_text_23 : decode cX9_text 23 = .ok (.iconst 1, 1) := by decide +kernel
theorem dX9_text_24 : decode cX9_text 24 = .ok (.if_icmp .ne 45, 3) := by decide +kernel
theorem dX9_text_27 : decode cX9_text 27 = .ok (.aload_n 0, 1) := by decide +kernel
theorem dX9_text_28 : decode cX9_text 28 = .ok (.getfield 214, 3) := by decide +kernel
theorem dX9_text_31 : decode cX9_text 31 = .ok (.iconst 4, 1) := by decide +kernel
theorem dX9_text_32 : decode cX9_text 32 = .ok (.if_icmp .ge 37, 3) := by decide +kernel
theorem dX9_text_35 : decode cX9_text 35 = .ok (.aload_n 0, 1) := by decide +kernel
theorem dX9_text_36 : decode cX9_text 36 = .ok (.aload_n 0, 1) := by decide +kernel
theorem dX9_text_37 : decode cX9_text 37 = .ok (.getfield 214, 3) := by decide +kernel
theorem dX9_text_40 : decode cX9_text 40 = .ok (.invokevirtual 170, 3) := by decide +kernel
theorem dX9_text_43 : decode cX9_text 43 = .ok (.iconst (-1), 1) := by decide +kernel
theorem dX9_text_44 : decode cX9_text 44 = .ok (.if_icmp .ne 25, 3) := by decide +kernel
theorem dX9_text_47 : decode cX9_text 47 = .ok (.aload_n 0, 1) := by decide +kernel
theorem dX9_text_48 : decode cX9_text 48 = .ok (.iconst 0, 1) := by decide +kernel
theorem dX9_text_49 : decode cX9_text 49 = .ok (.putfield 101, 3) := by decide +kernel
theorem dX9_text_52 : decode cX9_text 52 = .ok (.aload_n 0, 1) := by decide +kernel
theorem dX9_text_53 : decode cX9_text 53 = .ok (.dup, 1) := by decide +kernel
theorem dX9_text_54 : decode cX9_text 54 = .ok (.getfield 214, 3) := by decide +kernel
theorem dX9_text_57 : decode cX9_text 57 = .ok (.iconst 1, 1) := by decide +kernel
theorem dX9_text_58 : decode cX9_text 58 = .ok (.iadd, 1) := by decide +kernel
theorem dX9_text_59 : decode cX9_text 59 = .ok (.putfield 214, 3) := by decide +kernel
theorem dX9_text_62 : decode cX9_text 62 = .ok (.aload_n 0, 1) := by decide +kernel
theorem dX9_text_63 : decode cX9_text 63 = .ok (.getfield 214, 3) := by decide +kernel
theorem dX9_text_66 : decode cX9_text 66 = .ok (.iconst 1, 1) := by decide +kernel
theorem dX9_text_67 : decode cX9_text 67 = .ok (.isub, 1) := by decide +kernel
theorem dX9_text_68 : decode cX9_text 68 = .ok (.ireturn, 1) := by decide +kernel
theorem dX9_text_69 : decode cX9_text 69 = .ok (.iconst (-1), 1) := by decide +kernel
theorem dX9_text_70 : decode cX9_text 70 = .ok (.ireturn, 1) := by decide +kernel
theorem dX9_rule_0 : decode cX9_rule 0 = .ok (.aload_n 0, 1) := by decide +kernel
theorem dX9_rule_1 : decode cX9_rule 1 = .ok (.invokevirtual 277, 3) := by decide +kernel
theorem dX9_rule_4 : decode cX9_rule 4 = .ok (.ifCond .eq 12, 3) := by decide +kernel
theorem dX9_rule_7 : decode cX9_rule 7 = .ok (.iload_n 1, 1) := by decide +kernel
theorem dX9_rule_8 : decode cX9_rule 8 = .ok (.iconst 0, 1) := by decide +kernel
theorem dX9_rule_9 : decode cX9_rule 9 = .ok (.iconst 4, 1) := by decide +kernel
theorem dX9_rule_10 : decode cX9_rule 10 = .ok (.invokestatic 104, 3) := by decide +kernel
theorem dX9_rule_13 : decode cX9_rule 13 = .ok (.ifCond .ne 5, 3) := by decide +kernel
theorem dX9_rule_16 : decode cX9_rule 16 = .ok (.iconst (-1), 1) := by decide +kernel
theorem dX9_rule_17 : decode cX9_rule 17 = .ok (.ireturn, 1) := by decide +kernel
theorem dX9_rule_18 : decode cX9_rule 18 = .ok (.iload_n 1, 1) := by decide +kernel
theorem dX9_rule_19 : decode cX9_rule 19 = .ok (.tableswitch 53 0 3 #[29, 34, 41, 48], 29) := by decide +kernel
theorem dX9_rule_48 : decode cX9_rule 48 = .ok (.aload_n 0, 1) := by decide +kernel
theorem dX9_rule_49 : decode cX9_rule 49 = .ok (.getfield 173, 3) := by decide +kernel
theorem dX9_rule_52 : decode cX9_rule 52 = .ok (.ireturn, 1) := by decide +kernel
theorem dX9_rule_53 : decode cX9_rule 53 = .ok (.aload_n 0, 1) := by decide +kernel
theorem dX9_rule_54 : decode cX9_rule 54 = .ok (.getfield 31, 3) := by decide +kernel
theorem dX9_rule_57 : decode cX9_rule 57 = .ok (.iconst 0, 1) := by decide +kernel
theorem dX9_rule_58 : decode cX9_rule 58 = .ok (.iaload, 1) := by decide +kernel
theorem dX9_rule_59 : decode cX9_rule 59 = .ok (.ireturn, 1) := by decide +kernel
theorem dX9_rule_60 : decode cX9_rule 60 = .ok (.aload_n 0, 1) := by decide +kernel
theorem dX9_rule_61 : decode cX9_rule 61 = .ok (.getfield 31, 3) := by decide +kernel
theorem dX9_rule_64 : decode cX9_rule 64 = .ok (.iconst 1, 1) := by decide +kernel
theorem dX9_rule_65 : decode cX9_rule 65 = .ok (.iaload, 1) := by decide +kernel
theorem dX9_rule_66 : decode cX9_rule 66 = .ok (.ireturn, 1) := by decide +kernel
theorem dX9_rule_67 : decode cX9_rule 67 = .ok (.aload_n 0, 1) := by decide +kernel
theorem dX9_rule_68 : decode cX9_rule 68 = .ok (.invokevirtual 220, 3) := by decide +kernel
theorem dX9_rule_71 : decode cX9_rule 71 = .ok (.ireturn, 1) := by decide +kernel
theorem dX9_rule_72 : decode cX9_rule 72 = .ok (.aload_n 0, 1) := by decide +kernel
theorem dX9_rule_73 : decode cX9_rule 73 = .ok (.invokevirtual 339, 3) := by decide +kernel
theorem dX9_rule_76 : decode cX9_rule 76 = .ok (.ireturn, 1) := by decide +kernel
theorem dX9_areTables_0 : decode cX9_areTables 0 = .ok (.aload_n 0, 1) := by decide +kernel
theorem dX9_areTables_1 : decode cX9_areTables 1 = .ok (.getfield 173, 3) := by decide +kernel
theorem dX9_areTables_4 : decode cX9_areTables 4 = .ok (.ifCond .le 7, 3) := by decide +kernel
theorem dX9_areTables_7 : decode cX9_areTables 7 = .ok (.iconst 1, 1) := by decide +kernel
theorem dX9_areTables_8 : decode cX9_areTables 8 = .ok (.goto 4, 3) := by decide +kernel
theorem dX9_areTables_11 : decode cX9_areTables 11 = .ok (.iconst 0, 1) := by decide +kernel
theorem dX9_areTables_12 : decode cX9_areTables 12 = .ok (.ireturn, 1) := by decide +kernel
theorem dX9_cell_0 : decode cX9_cell 0 = .ok (.aload_n 0, 1) := by decide +kernel
theorem dX9_cell_1 : decode cX9_cell 1 = .ok (.iload_n 1, 1) := by decide +kernel
theorem dX9_cell_2 : decode cX9_cell 2 = .ok (.invokevirtual 281, 3) := by decide +kernel
theorem dX9_cell_5 : decode cX9_cell 5 = .ok (.ifCond .eq 49, 3) := by decide +kernel
theorem dX9_cell_8 : decode cX9_cell 8 = .ok (.iload_n 2, 1) := by decide +kernel
theorem dX9_cell_9 : decode cX9_cell 9 = .ok (.iconst 0, 1) := by decide +kernel
theorem dX9_cell_10 : decode cX9_cell 10 = .ok (.aload_n 0, 1) := by decide +kernel
theorem dX9_cell_11 : decode cX9_cell 11 = .ok (.iload_n 1, 1) := by decide +kernel
theorem dX9_cell_12 : decode cX9_cell 12 = .ok (.invokevirtual 186, 3) := by decide +kernel
theorem dX9_cell_15 : decode cX9_cell 15 = .ok (.iconst 1, 1) := by decide +kernel
theorem dX9_cell_16 : decode cX9_cell 16 = .ok (.isub, 1) := by decide +kernel
theorem dX9_cell_17 : decode cX9_cell 17 = .ok (.invokestatic 104, 3) := by decide +kernel
theorem dX9_cell_20 : decode cX9_cell 20 = .ok (.ifCond .eq 34, 3) := by decide +kernel
theorem dX9_cell_23 : decode cX9_cell 23 = .ok (.iload_n 3, 1) := by decide +kernel
theorem dX9_cell_24 : decode cX9_cell 24 = .ok (.iconst 0, 1) := by decide +kernel
theorem dX9_cell_25 : decode cX9_cell 25 = .ok (.aload_n 0, 1) := by decide +kernel
theorem dX9_cell_26 : decode cX9_cell 26 = .ok (.getfield 37, 3) := by decide +kernel
theorem dX9_cell_29 : decode cX9_cell 29 = .ok (.iload_n 1, 1) := by decide +kernel
theorem dX9_cell_30 : decode cX9_cell 30 = .ok (.iaload, 1) := by decide +kernel
theorem dX9_cell_31 : decode cX9_cell 31 = .ok (.iconst 1, 1) := by decide +kernel
theorem dX9_cell_32 : decode cX9_cell 32 = .ok (.isub, 1) := by decide +kernel
theorem dX9_cell_33 : decode cX9_cell 33 = .ok (.invokestatic 104, 3) := by decide +kernel
theorem dX9_cell_36 : decode cX9_cell 36 = .ok (.ifCond .eq 18, 3) := by decide +kernel
theorem dX9_cell_39 : decode cX9_cell 39 = .ok (.aload_n 0, 1) := by decide +kernel
theorem dX9_cell_40 : decode cX9_cell 40 = .ok (.getfield 31, 3) := by decide +kernel
theorem dX9_cell_43 : decode cX9_cell 43 = .ok (.iload_n 1, 1) := by decide +kernel
theorem dX9_cell_44 : decode cX9_cell 44 = .ok (.iload_n 2, 1) := by decide +kernel
theorem dX9_cell_45 : decode cX9_cell 45 = .ok (.invokestatic 182, 3) := by decide +kernel
theorem dX9_cell_48 : decode cX9_cell 48 = .ok (.iload_n 3, 1) := by decide +kernel
theorem dX9_cell_49 : decode cX9_cell 49 = .ok (.iadd, 1) := by decide +kernel
theorem dX9_cell_50 : decode cX9_cell 50 = .ok (.iaload, 1) := by decide +kernel
theorem dX9_cell_51 : decode cX9_cell 51 = .ok (.goto 4, 3) := by decide +kernel
theorem dX9_cell_54 : decode cX9_cell 54 = .ok (.iconst (-1), 1) := by decide +kernel
theorem dX9_cell_55 : decode cX9_cell 55 = .ok (.ireturn, 1) := by decide +kernel
theorem dX9_isTable_0 : decode cX9_isTable 0 = .ok (.iload_n 1, 1) := by decide +kernel
theorem dX9_isTable_1 : decode cX9_isTable 1 = .ok (.iconst 0, 1) := by decide +kernel
theorem dX9_isTable_2 : decode cX9_isTable 2 = .ok (.aload_n 0, 1) := by decide +kernel
theorem dX9_isTable_3 : decode cX9_isTable 3 = .ok (.getfield 173, 3) := by decide +kernel
theorem dX9_isTable_6 : decode cX9_isTable 6 = .ok (.iconst 1, 1) := by decide +kernel
theorem dX9_isTable_7 : decode cX9_isTable 7 = .ok (.isub, 1) := by decide +kernel
theorem dX9_isTable_8 : decode cX9_isTable 8 = .ok (.invokestatic 104, 3) := by decide +kernel
theorem dX9_isTable_11 : decode cX9_isTable 11 = .ok (.ireturn, 1) := by decide +kernel
theorem dX9_rows_0 : decode cX9_rows 0 = .ok (.aload_n 0, 1) := by decide +kernel
theorem dX9_rows_1 : decode cX9_rows 1 = .ok (.invokevirtual 277, 3) := by decide +kernel
theorem dX9_rows_4 : decode cX9_rows 4 = .ok (.ifCond .eq 10, 3) := by decide +kernel
theorem dX9_rows_7 : decode cX9_rows 7 = .ok (.aload_n 0, 1) := by decide +kernel
theorem dX9_rows_8 : decode cX9_rows 8 = .ok (.invokevirtual 299, 3) := by decide +kernel
theorem dX9_rows_11 : decode cX9_rows 11 = .ok (.goto 4, 3) := by decide +kernel
theorem dX9_rows_14 : decode cX9_rows 14 = .ok (.iconst (-1), 1) := by decide +kernel
theorem dX9_rows_15 : decode cX9_rows 15 = .ok (.ireturn, 1) := by decide +kernel
theorem dX9_row_0 : decode cX9_row 0 = .ok (.aload_n 0, 1) := by decide +kernel
theorem dX9_row_1 : decode cX9_row 1 = .ok (.iload_n 2, 1) := by decide +kernel
theorem dX9_row_2 : decode cX9_row 2 = .ok (.invokevirtual 342, 3) := by decide +kernel
theorem dX9_row_5 : decode cX9_row 5 = .ok (.ifCond .eq 24, 3) := by decide +kernel
theorem dX9_row_8 : decode cX9_row 8 = .ok (.iload_n 1, 1) := by decide +kernel
theorem dX9_row_9 : decode cX9_row 9 = .ok (.ifCond .lt 20, 3) := by decide +kernel
theorem dX9_row_12 : decode cX9_row 12 = .ok (.iload_n 1, 1) := by decide +kernel
theorem dX9_row_13 : decode cX9_row 13 = .ok (.aload_n 0, 1) := by decide +kernel
theorem dX9_row_14 : decode cX9_row 14 = .ok (.invokevirtual 299, 3) := by decide +kernel
theorem dX9_row_17 : decode cX9_row 17 = .ok (.if_icmp .ge 12, 3) := by decide +kernel
theorem dX9_row_20 : decode cX9_row 20 = .ok (.aload_n 0, 1) := by decide +kernel
theorem dX9_row_21 : decode cX9_row 21 = .ok (.iload_n 1, 1) := by decide +kernel
theorem dX9_row_22 : decode cX9_row 22 = .ok (.iload_n 2, 1) := by decide +kernel
theorem dX9_row_23 : decode cX9_row 23 = .ok (.invokevirtual 345, 3) := by decide +kernel
theorem dX9_row_26 : decode cX9_row 26 = .ok (.goto 4, 3) := by decide +kernel
theorem dX9_row_29 : decode cX9_row 29 = .ok (.iconst (-1), 1) := by decide +kernel
theorem dX9_row_30 : decode cX9_row 30 = .ok (.ireturn, 1) := by decide +kernel
theorem dX9_isAsked_0 : decode cX9_isAsked 0 = .ok (.aload_n 0, 1) := by decide +kernel
theorem dX9_isAsked_1 : decode cX9_isAsked 1 = .ok (.invokevirtual 277, 3) := by decide +kernel
theorem dX9_isAsked_4 : decode cX9_isAsked 4 = .ok (.ifCond .eq 27, 3) := by decide +kernel
theorem dX9_isAsked_7 : decode cX9_isAsked 7 = .ok (.iload_n 1, 1) := by decide +kernel
theorem dX9_isAsked_8 : decode cX9_isAsked 8 = .ok (.iconst 0, 1) := by decide +kernel
theorem dX9_isAsked_9 : decode cX9_isAsked 9 = .ok (.iconst 3, 1) := by decide +kernel
theorem dX9_isAsked_10 : decode cX9_isAsked 10 = .ok (.invokestatic 104, 3) := by decide +kernel
theorem dX9_isAsked_13 : decode cX9_isAsked 13 = .ok (.ifCond .eq 18, 3) := by decide +kernel
theorem dX9_isAsked_16 : decode cX9_isAsked 16 = .ok (.aload_n 0, 1) := by decide +kernel
theorem dX9_isAsked_17 : decode cX9_isAsked 17 = .ok (.invokevirtual 220, 3) := by decide +kernel
theorem dX9_isAsked_20 : decode cX9_isAsked 20 = .ok (.iload_n 1, 1) := by decide +kernel
theorem dX9_isAsked_21 : decode cX9_isAsked 21 = .ok (.invokestatic 131, 3) := by decide +kernel
theorem dX9_isAsked_24 : decode cX9_isAsked 24 = .ok (.ifCond .eq 7, 3) := by decide +kernel
theorem dX9_isAsked_27 : decode cX9_isAsked 27 = .ok (.iconst 1, 1) := by decide +kernel
theorem dX9_isAsked_28 : decode cX9_isAsked 28 = .ok (.goto 4, 3) := by decide +kernel
theorem dX9_isAsked_31 : decode cX9_isAsked 31 = .ok (.iconst 0, 1) := by decide +kernel
theorem dX9_isAsked_32 : decode cX9_isAsked 32 = .ok (.ireturn, 1) := by decide +kernel
theorem dX9_leaps__0 : decode cX9_leaps_ 0 = .ok (.aload_n 0, 1) := by decide +kernel
theorem dX9_leaps__1 : decode cX9_leaps_ 1 = .ok (.invokevirtual 277, 3) := by decide +kernel
theorem dX9_leaps__4 : decode cX9_leaps_ 4 = .ok (.ifCond .ne 5, 3) := by decide +kernel
theorem dX9_leaps__7 : decode cX9_leaps_ 7 = .ok (.iconst (-1), 1) := by decide +kernel
theorem dX9_leaps__8 : decode cX9_leaps_ 8 = .ok (.ireturn, 1) := by decide +kernel
theorem dX9_leaps__9 : decode cX9_leaps_ 9 = .ok (.aload_n 0, 1) := by decide +kernel
theorem dX9_leaps__10 : decode cX9_leaps_ 10 = .ok (.invokevirtual 296, 3) := by decide +kernel
theorem dX9_leaps__13 : decode cX9_leaps_ 13 = .ok (.aload_n 0, 1) := by decide +kernel
theorem dX9_leaps__14 : decode cX9_leaps_ 14 = .ok (.getfield 244, 3) := by decide +kernel
theorem dX9_leaps__17 : decode cX9_leaps_ 17 = .ok (.ireturn, 1) := by decide +kernel
theorem dX9_beginnings_0 : decode cX9_beginnings 0 = .ok (.aload_n 0, 1) := by decide +kernel
theorem dX9_beginnings_1 : decode cX9_beginnings 1 = .ok (.invokevirtual 277, 3) := by decide +kernel
theorem dX9_beginnings_4 : decode cX9_beginnings 4 = .ok (.ifCond .eq 8, 3) := by decide +kernel
theorem dX9_beginnings_7 : decode cX9_beginnings 7 = .ok (.iload_n 1, 1) := by decide +kernel
theorem dX9_beginnings_8 : decode cX9_beginnings 8 = .ok (.iconst 1, 1) := by decide +kernel
theorem dX9_beginnings_9 : decode cX9_beginnings 9 = .ok (.if_icmp .ge 5, 3) := by decide +kernel
theorem dX9_beginnings_12 : decode cX9_beginnings 12 = .ok (.iconst (-1), 1) := by decide +kernel
theorem dX9_beginnings_13 : decode cX9_beginnings 13 = .ok (.ireturn, 1) := by decide +kernel
theorem dX9_beginnings_14 : decode cX9_beginnings 14 = .ok (.aload_n 0, 1) := by decide +kernel
theorem dX9_beginnings_15 : decode cX9_beginnings 15 = .ok (.invokevirtual 296, 3) := by decide +kernel
theorem dX9_beginnings_18 : decode cX9_beginnings 18 = .ok (.iload_n 1, 1) := by decide +kernel
theorem dX9_beginnings_19 : decode cX9_beginnings 19 = .ok (.aload_n 0, 1) := by decide +kernel
theorem dX9_beginnings_20 : decode cX9_beginnings 20 = .ok (.getfield 217, 3) := by decide +kernel
theorem dX9_beginnings_23 : decode cX9_beginnings 23 = .ok (.if_icmp .gt 12, 3) := by decide +kernel
theorem dX9_beginnings_26 : decode cX9_beginnings 26 = .ok (.aload_n 0, 1) := by decide +kernel
theorem dX9_beginnings_27 : decode cX9_beginnings 27 = .ok (.getfield 58, 3) := by decide +kernel
theorem dX9_beginnings_30 : decode cX9_beginnings 30 = .ok (.iload_n 1, 1) := by decide +kernel
theorem dX9_beginnings_31 : decode cX9_beginnings 31 = .ok (.iaload, 1) := by decide +kernel
theorem dX9_beginnings_32 : decode cX9_beginnings 32 = .ok (.goto 4, 3) := by decide +kernel
theorem dX9_beginnings_35 : decode cX9_beginnings 35 = .ok (.iconst (-1), 1) := by decide +kernel
theorem dX9_beginnings_36 : decode cX9_beginnings 36 = .ok (.ireturn, 1) := by decide +kernel
theorem dX9_best_0 : decode cX9_best 0 = .ok (.aload_n 0, 1) := by decide +kernel
theorem dX9_best_1 : decode cX9_best 1 = .ok (.invokevirtual 277, 3) := by decide +kernel
theorem dX9_best_4 : decode cX9_best 4 = .ok (.ifCond .eq 12, 3) := by decide +kernel
theorem dX9_best_7 : decode cX9_best 7 = .ok (.iload_n 1, 1) := by decide +kernel
theorem dX9_best_8 : decode cX9_best 8 = .ok (.iconst 0, 1) := by decide +kernel
theorem dX9_best_9 : decode cX9_best 9 = .ok (.iconst 1, 1) := by decide +kernel
theorem dX9_best_10 : decode cX9_best 10 = .ok (.invokestatic 104, 3) := by decide +kernel
theorem dX9_best_13 : decode cX9_best 13 = .ok (.ifCond .ne 5, 3) := by decide +kernel
theorem dX9_best_16 : decode cX9_best 16 = .ok (.iconst (-1), 1) := by decide +kernel
theorem dX9_best_17 : decode cX9_best 17 = .ok (.ireturn, 1) := by decide +kernel
theorem dX9_best_18 : decode cX9_best 18 = .ok (.aload_n 0, 1) := by decide +kernel
theorem dX9_best_19 : decode cX9_best 19 = .ok (.invokevirtual 357, 3) := by decide +kernel
theorem dX9_best_22 : decode cX9_best 22 = .ok (.iload_n 1, 1) := by decide +kernel
theorem dX9_best_23 : decode cX9_best 23 = .ok (.ifCond .ne 10, 3) := by decide +kernel
theorem dX9_best_26 : decode cX9_best 26 = .ok (.aload_n 0, 1) := by decide +kernel
theorem dX9_best_27 : decode cX9_best 27 = .ok (.getfield 348, 3) := by decide +kernel
theorem dX9_best_30 : decode cX9_best 30 = .ok (.goto 7, 3) := by decide +kernel
theorem dX9_best_33 : decode cX9_best 33 = .ok (.aload_n 0, 1) := by decide +kernel
theorem dX9_best_34 : decode cX9_best 34 = .ok (.getfield 354, 3) := by decide +kernel
theorem dX9_best_37 : decode cX9_best 37 = .ok (.ireturn, 1) := by decide +kernel
theorem dX9_plain_0 : decode cX9_plain 0 = .ok (.aload_n 0, 1) := by decide +kernel
theorem dX9_plain_1 : decode cX9_plain 1 = .ok (.invokevirtual 277, 3) := by decide +kernel
theorem dX9_plain_4 : decode cX9_plain 4 = .ok (.ifCond .ne 5, 3) := by decide +kernel
theorem dX9_plain_7 : decode cX9_plain 7 = .ok (.iconst (-1), 1) := by decide +kernel
theorem dX9_plain_8 : decode cX9_plain 8 = .ok (.ireturn, 1) := by decide +kernel
theorem dX9_plain_9 : decode cX9_plain 9 = .ok (.iconst 1, 1) := by decide +kernel
theorem dX9_plain_10 : decode cX9_plain 10 = .ok (.istore_n 1, 1) := by decide +kernel
theorem dX9_plain_11 : decode cX9_plain 11 = .ok (.iconst 0, 1) := by decide +kernel
theorem dX9_plain_12 : decode cX9_plain 12 = .ok (.istore_n 2, 1) := by decide +kernel
theorem dX9_plain_13 : decode cX9_plain 13 = .ok (.iload_n 2, 1) := by decide +kernel
theorem dX9_plain_14 : decode cX9_plain 14 = .ok (.aload_n 0, 1) := by decide +kernel
theorem dX9_plain_15 : decode cX9_plain 15 = .ok (.getfield 173, 3) := by decide +kernel
theorem dX9_plain_18 : decode cX9_plain 18 = .ok (.if_icmp .ge 29, 3) := by decide +kernel
theorem dX9_plain_21 : decode cX9_plain 21 = .ok (.iload_n 1, 1) := by decide +kernel
theorem dX9_plain_22 : decode cX9_plain 22 = .ok (.aload_n 0, 1) := by decide +kernel
theorem dX9_plain_23 : decode cX9_plain 23 = .ok (.iload_n 2, 1) := by decide +kernel
theorem dX9_plain_24 : decode cX9_plain 24 = .ok (.invokevirtual 176, 3) := by decide +kernel
theorem dX9_plain_27 : decode cX9_plain 27 = .ok (.ifCond .eq 11, 3) := by decide +kernel
theorem dX9_plain_30 : decode cX9_plain 30 = .ok (.aload_n 0, 1) := by decide +kernel
theorem dX9_plain_31 : decode cX9_plain 31 = .ok (.iload_n 2, 1) := by decide +kernel
theorem dX9_plain_32 : decode cX9_plain 32 = .ok (.invokevirtual 186, 3) := by decide +kernel
theorem dX9_plain_35 : decode cX9_plain 35 = .ok (.goto 4, 3) := by decide +kernel
theorem dX9_plain_38 : decode cX9_plain 38 = .ok (.iconst 1, 1) := by decide +kernel
theorem dX9_plain_39 : decode cX9_plain 39 = .ok (.imul, 1) := by decide +kernel
theorem dX9_plain_40 : decode cX9_plain 40 = .ok (.istore_n 1, 1) := by decide +kernel
theorem dX9_plain_41 : decode cX9_plain 41 = .ok (.iinc 2 1, 3) := by decide +kernel
theorem dX9_plain_44 : decode cX9_plain 44 = .ok (.goto (-31), 3) := by decide +kernel
theorem dX9_plain_47 : decode cX9_plain 47 = .ok (.iload_n 1, 1) := by decide +kernel
theorem dX9_plain_48 : decode cX9_plain 48 = .ok (.ireturn, 1) := by decide +kernel
theorem dX9_given_0 : decode cX9_given 0 = .ok (.aload_n 0, 1) := by decide +kernel
theorem dX9_given_1 : decode cX9_given 1 = .ok (.iload_n 1, 1) := by decide +kernel
theorem dX9_given_2 : decode cX9_given 2 = .ok (.invokevirtual 281, 3) := by decide +kernel
theorem dX9_given_5 : decode cX9_given 5 = .ok (.ifCond .ne 5, 3) := by decide +kernel
theorem dX9_given_8 : decode cX9_given 8 = .ok (.iconst (-1), 1) := by decide +kernel
theorem dX9_given_9 : decode cX9_given 9 = .ok (.ireturn, 1) := by decide +kernel
theorem dX9_given_10 : decode cX9_given 10 = .ok (.aload_n 0, 1) := by decide +kernel
theorem dX9_given_11 : decode cX9_given 11 = .ok (.invokevirtual 296, 3) := by decide +kernel
theorem dX9_given_14 : decode cX9_given 14 = .ok (.aload_n 0, 1) := by decide +kernel
theorem dX9_given_15 : decode cX9_given 15 = .ok (.iload_n 1, 1) := by decide +kernel
theorem dX9_given_16 : decode cX9_given 16 = .ok (.invokevirtual 363, 3) := by decide +kernel
theorem dX9_given_19 : decode cX9_given 19 = .ok (.ireturn, 1) := by decide +kernel
theorem dX9_without_0 : decode cX9_without 0 = .ok (.aload_n 0, 1) := by decide +kernel
theorem dX9_without_1 : decode cX9_without 1 = .ok (.iload_n 1, 1) := by decide +kernel
theorem dX9_without_2 : decode cX9_without 2 = .ok (.invokevirtual 281, 3) := by decide +kernel
theorem dX9_without_5 : decode cX9_without 5 = .ok (.ifCond .eq 15, 3) := by decide +kernel
theorem dX9_without_8 : decode cX9_without 8 = .ok (.aload_n 0, 1) := by decide +kernel
theorem dX9_without_9 : decode cX9_without 9 = .ok (.getfield 31, 3) := by decide +kernel
theorem dX9_without_12 : decode cX9_without 12 = .ok (.iconst 0, 1) := by decide +kernel
theorem dX9_without_13 : decode cX9_without 13 = .ok (.iaload, 1) := by decide +kernel
theorem dX9_without_14 : decode cX9_without 14 = .ok (.iconst 1, 1) := by decide +kernel
theorem dX9_without_15 : decode cX9_without 15 = .ok (.iload_n 1, 1) := by decide +kernel
theorem dX9_without_16 : decode cX9_without 16 = .ok (.ishl, 1) := by decide +kernel
theorem dX9_without_17 : decode cX9_without 17 = .ok (.if_icmp .ne 5, 3) := by decide +kernel
theorem dX9_without_20 : decode cX9_without 20 = .ok (.iconst (-1), 1) := by decide +kernel
theorem dX9_without_21 : decode cX9_without 21 = .ok (.ireturn, 1) := by decide +kernel
theorem dX9_without_22 : decode cX9_without 22 = .ok (.aload_n 0, 1) := by decide +kernel
theorem dX9_without_23 : decode cX9_without 23 = .ok (.getfield 31, 3) := by decide +kernel
theorem dX9_without_26 : decode cX9_without 26 = .ok (.iconst 0, 1) := by decide +kernel
theorem dX9_without_27 : decode cX9_without 27 = .ok (.iaload, 1) := by decide +kernel
theorem dX9_without_28 : decode cX9_without 28 = .ok (.istore_n 2, 1) := by decide +kernel
theorem dX9_without_29 : decode cX9_without 29 = .ok (.aload_n 0, 1) := by decide +kernel
theorem dX9_without_30 : decode cX9_without 30 = .ok (.getfield 31, 3) := by decide +kernel
theorem dX9_without_33 : decode cX9_without 33 = .ok (.iconst 0, 1) := by decide +kernel
theorem dX9_without_34 : decode cX9_without 34 = .ok (.dup2, 1) := by decide +kernel
theorem dX9_without_35 : decode cX9_without 35 = .ok (.iaload, 1) := by decide +kernel
theorem dX9_without_36 : decode cX9_without 36 = .ok (.iconst 1, 1) := by decide +kernel
theorem dX9_without_37 : decode cX9_without 37 = .ok (.iload_n 1, 1) := by decide +kernel
theorem dX9_without_38 : decode cX9_without 38 = .ok (.ishl, 1) := by decide +kernel
theorem dX9_without_39 : decode cX9_without 39 = .ok (.iconst (-1), 1) := by decide +kernel
theorem dX9_without_40 : decode cX9_without 40 = .ok (.ixor, 1) := by decide +kernel
theorem dX9_without_41 : decode cX9_without 41 = .ok (.iand, 1) := by decide +kernel
theorem dX9_without_42 : decode cX9_without 42 = .ok (.iastore, 1) := by decide +kernel
theorem dX9_without_43 : decode cX9_without 43 = .ok (.aload_n 0, 1) := by decide +kernel
theorem dX9_without_44 : decode cX9_without 44 = .ok (.invokevirtual 299, 3) := by decide +kernel
theorem dX9_without_47 : decode cX9_without 47 = .ok (.istore_n 3, 1) := by decide +kernel
theorem dX9_without_48 : decode cX9_without 48 = .ok (.aload_n 0, 1) := by decide +kernel
theorem dX9_without_49 : decode cX9_without 49 = .ok (.getfield 31, 3) := by decide +kernel
theorem dX9_without_52 : decode cX9_without 52 = .ok (.iconst 0, 1) := by decide +kernel
theorem dX9_without_53 : decode cX9_without 53 = .ok (.iload_n 2, 1) := by decide +kernel
theorem dX9_without_54 : decode cX9_without 54 = .ok (.iastore, 1) := by decide +kernel
theorem dX9_without_55 : decode cX9_without 55 = .ok (.iload_n 3, 1) := by decide +kernel
theorem dX9_without_56 : decode cX9_without 56 = .ok (.ireturn, 1) := by decide +kernel
theorem dX9_projected_0 : decode cX9_projected 0 = .ok (.aload_n 0, 1) := by decide +kernel
theorem dX9_projected_1 : decode cX9_projected 1 = .ok (.invokevirtual 277, 3) := by decide +kernel
theorem dX9_projected_4 : decode cX9_projected 4 = .ok (.ifCond .eq 24, 3) := by decide +kernel
theorem dX9_projected_7 : decode cX9_projected 7 = .ok (.iload_n 1, 1) := by decide +kernel
theorem dX9_projected_8 : decode cX9_projected 8 = .ok (.iconst 1, 1) := by decide +kernel
theorem dX9_projected_9 : decode cX9_projected 9 = .ok (.bipush 15, 2) := by decide +kernel
theorem dX9_projected_11 : decode cX9_projected 11 = .ok (.invokestatic 104, 3) := by decide +kernel
theorem dX9_projected_14 : decode cX9_projected 14 = .ok (.ifCond .eq 14, 3) := by decide +kernel
theorem dX9_projected_17 : decode cX9_projected 17 = .ok (.iload_n 1, 1) := by decide +kernel
theorem dX9_projected_18 : decode cX9_projected 18 = .ok (.aload_n 0, 1) := by decide +kernel
theorem dX9_projected_19 : decode cX9_projected 19 = .ok (.invokevirtual 220, 3) := by decide +kernel
theorem dX9_projected_22 : decode cX9_projected 22 = .ok (.iconst (-1), 1) := by decide +kernel
theorem dX9_projected_23 : decode cX9_projected 23 = .ok (.ixor, 1) := by decide +kernel
theorem dX9_projected_24 : decode cX9_projected 24 = .ok (.iand, 1) := by decide +kernel
theorem dX9_projected_25 : decode cX9_projected 25 = .ok (.ifCond .eq 5, 3) := by decide +kernel
theorem dX9_projected_28 : decode cX9_projected 28 = .ok (.iconst (-1), 1) := by decide +kernel
theorem dX9_projected_29 : decode cX9_projected 29 = .ok (.ireturn, 1) := by decide +kernel
theorem dX9_projected_30 : decode cX9_projected 30 = .ok (.aload_n 0, 1) := by decide +kernel
theorem dX9_projected_31 : decode cX9_projected 31 = .ok (.invokevirtual 366, 3) := by decide +kernel
theorem dX9_projected_34 : decode cX9_projected 34 = .ok (.iconst 0, 1) := by decide +kernel
theorem dX9_projected_35 : decode cX9_projected 35 = .ok (.istore_n 2, 1) := by decide +kernel
theorem dX9_projected_36 : decode cX9_projected 36 = .ok (.iload_n 2, 1) := by decide +kernel
theorem dX9_projected_37 : decode cX9_projected 37 = .ok (.sipush 20736, 3) := by decide +kernel
theorem dX9_projected_40 : decode cX9_projected 40 = .ok (.if_icmp .ge 16, 3) := by decide +kernel
theorem dX9_projected_43 : decode cX9_projected 43 = .ok (.aload_n 0, 1) := by decide +kernel
theorem dX9_projected_44 : decode cX9_projected 44 = .ok (.getfield 77, 3) := by decide +kernel
theorem dX9_projected_47 : decode cX9_projected 47 = .ok (.iload_n 2, 1) := by decide +kernel
theorem dX9_projected_48 : decode cX9_projected 48 = .ok (.iconst 0, 1) := by decide +kernel
theorem dX9_projected_49 : decode cX9_projected 49 = .ok (.bastore, 1) := by decide +kernel
theorem dX9_projected_50 : decode cX9_projected 50 = .ok (.iinc 2 1, 3) := by decide +kernel
theorem dX9_projected_53 : decode cX9_projected 53 = .ok (.goto (-17), 3) := by decide +kernel
theorem dX9_projected_56 : decode cX9_projected 56 = .ok (.iconst 0, 1) := by decide +kernel
theorem dX9_projected_57 : decode cX9_projected 57 = .ok (.istore_n 2, 1) := by decide +kernel
theorem dX9_projected_58 : decode cX9_projected 58 = .ok (.iconst 0, 1) := by decide +kernel
theorem dX9_projected_59 : decode cX9_projected 59 = .ok (.istore_n 3, 1) := by decide +kernel
theorem dX9_projected_60 : decode cX9_projected 60 = .ok (.iload_n 3, 1) := by decide +kernel
theorem dX9_projected_61 : decode cX9_projected 61 = .ok (.aload_n 0, 1) := by decide +kernel
theorem dX9_projected_62 : decode cX9_projected 62 = .ok (.getfield 247, 3) := by decide +kernel
theorem dX9_projected_65 : decode cX9_projected 65 = .ok (.if_icmp .ge 93, 3) := by decide +kernel
theorem dX9_projected_68 : decode cX9_projected 68 = .ok (.iconst 0, 1) := by decide +kernel
theorem dX9_projected_69 : decode cX9_projected 69 = .ok (.istore 4, 2) := by decide +kernel
theorem dX9_projected_71 : decode cX9_projected 71 = .ok (.iconst 0, 1) := by decide +kernel
theorem dX9_projected_72 : decode cX9_projected 72 = .ok (.istore 5, 2) := by decide +kernel
theorem dX9_projected_74 : decode cX9_projected 74 = .ok (.iload 5, 2) := by decide +kernel
theorem dX9_projected_76 : decode cX9_projected 76 = .ok (.iconst 4, 1) := by decide +kernel
theorem dX9_projected_77 : decode cX9_projected 77 = .ok (.if_icmp .ge 49, 3) := by decide +kernel
theorem dX9_projected_80 : decode cX9_projected 80 = .ok (.iload_n 1, 1) := by decide +kernel
theorem dX9_projected_81 : decode cX9_projected 81 = .ok (.iload 5, 2) := by decide +kernel
theorem dX9_projected_83 : decode cX9_projected 83 = .ok (.invokestatic 131, 3) := by decide +kernel
theorem dX9_projected_86 : decode cX9_projected 86 = .ok (.ifCond .eq 30, 3) := by decide +kernel
theorem dX9_projected_89 : decode cX9_projected 89 = .ok (.bipush 12, 2) := by decide +kernel
theorem dX9_projected_91 : decode cX9_projected 91 = .ok (.iload 4, 2) := by decide +kernel
theorem dX9_projected_93 : decode cX9_projected 93 = .ok (.imul, 1) := by decide +kernel
theorem dX9_projected_94 : decode cX9_projected 94 = .ok (.aload_n 0, 1) := by decide +kernel
theorem dX9_projected_95 : decode cX9_projected 95 = .ok (.getfield 71, 3) := by decide +kernel
theorem dX9_projected_98 : decode cX9_projected 98 = .ok (.bipush 100, 2) := by decide +kernel
theorem dX9_projected_100 : decode cX9_projected 100 = .ok (.iload 5, 2) := by decide +kernel
theorem dX9_projected_102 : decode cX9_projected 102 = .ok (.imul, 1) := by decide +kernel
theorem dX9_projected_103 : decode cX9_projected 103 = .ok (.aload_n 0, 1) := by decide +kernel
theorem dX9_projected_104 : decode cX9_projected 104 = .ok (.iload_n 3, 1) := by decide +kernel
theorem dX9_projected_105 : decode cX9_projected 105 = .ok (.iload 5, 2) := by decide +kernel
theorem dX9_projected_107 : decode cX9_projected 107 = .ok (.invokevirtual 345, 3) := by decide +kernel
theorem dX9_projected_110 : decode cX9_projected 110 = .ok (.iadd, 1) := by decide +kernel
theorem dX9_projected_111 : decode cX9_projected 111 = .ok (.iaload, 1) := by decide +kernel
theorem dX9_projected_112 : decode cX9_projected 112 = .ok (.iadd, 1) := by decide +kernel
theorem dX9_projected_113 : decode cX9_projected 113 = .ok (.goto 5, 3) := by decide +kernel
theorem dX9_projected_116 : decode cX9_projected 116 = .ok (.iload 4, 2) := by decide +kernel
theorem dX9_projected_118 : decode cX9_projected 118 = .ok (.istore 4, 2) := by decide +kernel
theorem dX9_projected_120 : decode cX9_projected 120 = .ok (.iinc 5 1, 3) := by decide +kernel
theorem dX9_projected_123 : decode cX9_projected 123 = .ok (.goto (-49), 3) := by decide +kernel
theorem dX9_projected_126 : decode cX9_projected 126 = .ok (.iload_n 2, 1) := by decide +kernel
theorem dX9_projected_127 : decode cX9_projected 127 = .ok (.aload_n 0, 1) := by decide +kernel
theorem dX9_projected_128 : decode cX9_projected 128 = .ok (.getfield 77, 3) := by decide +kernel
theorem dX9_projected_131 : decode cX9_projected 131 = .ok (.iload 4, 2) := by decide +kernel
theorem dX9_projected_133 : decode cX9_projected 133 = .ok (.baload, 1) := by decide +kernel
theorem dX9_projected_134 : decode cX9_projected 134 = .ok (.ifCond .eq 7, 3) := by decide +kernel
theorem dX9_projected_137 : decode cX9_projected 137 = .ok (.iconst 0, 1) := by decide +kernel
theorem dX9_projected_138 : decode cX9_projected 138 = .ok (.goto 4, 3) := by decide +kernel
theorem dX9_projected_141 : decode cX9_projected 141 = .ok (.iconst 1, 1) := by decide +kernel
theorem dX9_projected_142 : decode cX9_projected 142 = .ok (.iadd, 1) := by decide +kernel
theorem dX9_projected_143 : decode cX9_projected 143 = .ok (.istore_n 2, 1) := by decide +kernel
theorem dX9_projected_144 : decode cX9_projected 144 = .ok (.aload_n 0, 1) := by decide +kernel
theorem dX9_projected_145 : decode cX9_projected 145 = .ok (.getfield 77, 3) := by decide +kernel
theorem dX9_projected_148 : decode cX9_projected 148 = .ok (.iload 4, 2) := by decide +kernel
theorem dX9_projected_150 : decode cX9_projected 150 = .ok (.iconst 1, 1) := by decide +kernel
theorem dX9_projected_151 : decode cX9_projected 151 = .ok (.bastore, 1) := by decide +kernel
theorem dX9_projected_152 : decode cX9_projected 152 = .ok (.iinc 3 1, 3) := by decide +kernel
theorem dX9_projected_155 : decode cX9_projected 155 = .ok (.goto (-95), 3) := by decide +kernel
theorem dX9_projected_158 : decode cX9_projected 158 = .ok (.iload_n 2, 1) := by decide +kernel
theorem dX9_projected_159 : decode cX9_projected 159 = .ok (.ireturn, 1) := by decide +kernel
theorem dX9_times_0 : decode cX9_times 0 = .ok (.aload_n 0, 1) := by decide +kernel
theorem dX9_times_1 : decode cX9_times 1 = .ok (.iload_n 1, 1) := by decide +kernel
theorem dX9_times_2 : decode cX9_times 2 = .ok (.invokevirtual 342, 3) := by decide +kernel
theorem dX9_times_5 : decode cX9_times 5 = .ok (.ifCond .ne 5, 3) := by decide +kernel
theorem dX9_times_8 : decode cX9_times 8 = .ok (.iconst (-1), 1) := by decide +kernel
theorem dX9_times_9 : decode cX9_times 9 = .ok (.ireturn, 1) := by decide +kernel
theorem dX9_times_10 : decode cX9_times 10 = .ok (.aload_n 0, 1) := by decide +kernel
theorem dX9_times_11 : decode cX9_times 11 = .ok (.invokevirtual 366, 3) := by decide +kernel
theorem dX9_times_14 : decode cX9_times 14 = .ok (.iload_n 2, 1) := by decide +kernel
theorem dX9_times_15 : decode cX9_times 15 = .ok (.iconst 0, 1) := by decide +kernel
theorem dX9_times_16 : decode cX9_times 16 = .ok (.bipush 99, 2) := by decide +kernel
theorem dX9_times_18 : decode cX9_times 18 = .ok (.invokestatic 104, 3) := by decide +kernel
theorem dX9_times_21 : decode cX9_times 21 = .ok (.ifCond .eq 17, 3) := by decide +kernel
theorem dX9_times_24 : decode cX9_times 24 = .ok (.aload_n 0, 1) := by decide +kernel
theorem dX9_times_25 : decode cX9_times 25 = .ok (.getfield 68, 3) := by decide +kernel
theorem dX9_times_28 : decode cX9_times 28 = .ok (.bipush 100, 2) := by decide +kernel
theorem dX9_times_30 : decode cX9_times 30 = .ok (.iload_n 1, 1) := by decide +kernel
theorem dX9_times_31 : decode cX9_times 31 = .ok (.imul, 1) := by decide +kernel
theorem dX9_times_32 : decode cX9_times 32 = .ok (.iload_n 2, 1) := by decide +kernel
theorem dX9_times_33 : decode cX9_times 33 = .ok (.iadd, 1) := by decide +kernel
theorem dX9_times_34 : decode cX9_times 34 = .ok (.iaload, 1) := by decide +kernel
theorem dX9_times_35 : decode cX9_times 35 = .ok (.goto 4, 3) := by decide +kernel
theorem dX9_times_38 : decode cX9_times 38 = .ok (.iconst 0, 1) := by decide +kernel
theorem dX9_times_39 : decode cX9_times 39 = .ok (.ireturn, 1) := by decide +kernel
theorem dX9_distinct_0 : decode cX9_distinct 0 = .ok (.aload_n 0, 1) := by decide +kernel
theorem dX9_distinct_1 : decode cX9_distinct 1 = .ok (.iload_n 1, 1) := by decide +kernel
theorem dX9_distinct_2 : decode cX9_distinct 2 = .ok (.invokevirtual 342, 3) := by decide +kernel
theorem dX9_distinct_5 : decode cX9_distinct 5 = .ok (.ifCond .eq 12, 3) := by decide +kernel
theorem dX9_distinct_8 : decode cX9_distinct 8 = .ok (.iload_n 2, 1) := by decide +kernel
theorem dX9_distinct_9 : decode cX9_distinct 9 = .ok (.iconst 0, 1) := by decide +kernel
theorem dX9_distinct_10 : decode cX9_distinct 10 = .ok (.iconst 3, 1) := by decide +kernel
theorem dX9_distinct_11 : decode cX9_distinct 11 = .ok (.invokestatic 104, 3) := by decide +kernel
theorem dX9_distinct_14 : decode cX9_distinct 14 = .ok (.ifCond .ne 5, 3) := by decide +kernel
theorem dX9_distinct_17 : decode cX9_distinct 17 = .ok (.iconst (-1), 1) := by decide +kernel
theorem dX9_distinct_18 : decode cX9_distinct 18 = .ok (.ireturn, 1) := by decide +kernel
theorem dX9_distinct_19 : decode cX9_distinct 19 = .ok (.aload_n 0, 1) := by decide +kernel
theorem dX9_distinct_20 : decode cX9_distinct 20 = .ok (.invokevirtual 366, 3) := by decide +kernel
theorem dX9_distinct_23 : decode cX9_distinct 23 = .ok (.iload_n 2, 1) := by decide +kernel
theorem dX9_distinct_24 : decode cX9_distinct 24 = .ok (.ifCond .ne 12, 3) := by decide +kernel
theorem dX9_distinct_27 : decode cX9_distinct 27 = .ok (.aload_n 0, 1) := by decide +kernel
theorem dX9_distinct_28 : decode cX9_distinct 28 = .ok (.getfield 74, 3) := by decide +kernel
theorem dX9_distinct_31 : decode cX9_distinct 31 = .ok (.iload_n 1, 1) := by decide +kernel
theorem dX9_distinct_32 : decode cX9_distinct 32 = .ok (.iaload, 1) := by decide +kernel
theorem dX9_distinct_33 : decode cX9_distinct 33 = .ok (.goto 9, 3) := by decide +kernel
theorem dX9_distinct_36 : decode cX9_distinct 36 = .ok (.aload_n 0, 1) := by decide +kernel
theorem dX9_distinct_37 : decode cX9_distinct 37 = .ok (.iload_n 1, 1) := by decide +kernel
theorem dX9_distinct_38 : decode cX9_distinct 38 = .ok (.iload_n 2, 1) := by decide +kernel
theorem dX9_distinct_39 : decode cX9_distinct 39 = .ok (.invokevirtual 369, 3) := by decide +kernel
theorem dX9_distinct_42 : decode cX9_distinct 42 = .ok (.ireturn, 1) := by decide +kernel
theorem dX9_tells_0 : decode cX9_tells 0 = .ok (.aload_n 0, 1) := by decide +kernel
theorem dX9_tells_1 : decode cX9_tells 1 = .ok (.iload_n 1, 1) := by decide +kernel
theorem dX9_tells_2 : decode cX9_tells 2 = .ok (.invokevirtual 342, 3) := by decide +kernel
theorem dX9_tells_5 : decode cX9_tells 5 = .ok (.ifCond .eq 11, 3) := by decide +kernel
theorem dX9_tells_8 : decode cX9_tells 8 = .ok (.aload_n 0, 1) := by decide +kernel
theorem dX9_tells_9 : decode cX9_tells 9 = .ok (.iload_n 2, 1) := by decide +kernel
theorem dX9_tells_10 : decode cX9_tells 10 = .ok (.invokevirtual 342, 3) := by decide +kernel
theorem dX9_tells_13 : decode cX9_tells 13 = .ok (.ifCond .ne 5, 3) := by decide +kernel
theorem dX9_tells_16 : decode cX9_tells 16 = .ok (.iconst 0, 1) := by decide +kernel
theorem dX9_tells_17 : decode cX9_tells 17 = .ok (.ireturn, 1) := by decide +kernel
theorem dX9_tells_18 : decode cX9_tells 18 = .ok (.aload_n 0, 1) := by decide +kernel
theorem dX9_tells_19 : decode cX9_tells 19 = .ok (.invokevirtual 296, 3) := by decide +kernel
theorem dX9_tells_22 : decode cX9_tells 22 = .ok (.aload_n 0, 1) := by decide +kernel
theorem dX9_tells_23 : decode cX9_tells 23 = .ok (.iload_n 1, 1) := by decide +kernel
theorem dX9_tells_24 : decode cX9_tells 24 = .ok (.iload_n 2, 1) := by decide +kernel
theorem dX9_tells_25 : decode cX9_tells 25 = .ok (.invokevirtual 372, 3) := by decide +kernel
theorem dX9_tells_28 : decode cX9_tells 28 = .ok (.ireturn, 1) := by decide +kernel
theorem dX9_behind_0 : decode cX9_behind 0 = .ok (.aload_n 0, 1) := by decide +kernel
theorem dX9_behind_1 : decode cX9_behind 1 = .ok (.invokevirtual 277, 3) := by decide +kernel
theorem dX9_behind_4 : decode cX9_behind 4 = .ok (.ifCond .ne 5, 3) := by decide +kernel
theorem dX9_behind_7 : decode cX9_behind 7 = .ok (.iconst (-1), 1) := by decide +kernel
theorem dX9_behind_8 : decode cX9_behind 8 = .ok (.ireturn, 1) := by decide +kernel
theorem dX9_behind_9 : decode cX9_behind 9 = .ok (.aload_n 0, 1) := by decide +kernel
theorem dX9_behind_10 : decode cX9_behind 10 = .ok (.iload_n 1, 1) := by decide +kernel
theorem dX9_behind_11 : decode cX9_behind 11 = .ok (.iload_n 2, 1) := by decide +kernel
theorem dX9_behind_12 : decode cX9_behind 12 = .ok (.iload_n 3, 1) := by decide +kernel
theorem dX9_behind_13 : decode cX9_behind 13 = .ok (.iload 4, 2) := by decide +kernel
theorem dX9_behind_15 : decode cX9_behind 15 = .ok (.invokevirtual 375, 3) := by decide +kernel
theorem dX9_behind_18 : decode cX9_behind 18 = .ok (.aload_n 0, 1) := by decide +kernel
theorem dX9_behind_19 : decode cX9_behind 19 = .ok (.invokevirtual 296, 3) := by decide +kernel
theorem dX9_behind_22 : decode cX9_behind 22 = .ok (.iconst 0, 1) := by decide +kernel
theorem dX9_behind_23 : decode cX9_behind 23 = .ok (.istore 5, 2) := by decide +kernel
theorem dX9_behind_25 : decode cX9_behind 25 = .ok (.iload 5, 2) := by decide +kernel
theorem dX9_behind_27 : decode cX9_behind 27 = .ok (.aload_n 0, 1) := by decide +kernel
theorem dX9_behind_28 : decode cX9_behind 28 = .ok (.getfield 247, 3) := by decide +kernel
theorem dX9_behind_31 : decode cX9_behind 31 = .ok (.if_icmp .ge 21, 3) := by decide +kernel
theorem dX9_behind_34 : decode cX9_behind 34 = .ok (.aload_n 0, 1) := by decide +kernel
theorem dX9_behind_35 : decode cX9_behind 35 = .ok (.iload 5, 2) := by decide +kernel
theorem dX9_behind_37 : decode cX9_behind 37 = .ok (.invokevirtual 379, 3) := by decide +kernel
theorem dX9_behind_40 : decode cX9_behind 40 = .ok (.ifCond .le 6, 3) := by decide +kernel
theorem dX9_behind_43 : decode cX9_behind 43 = .ok (.iload 5, 2) := by decide +kernel
theorem dX9_behind_45 : decode cX9_behind 45 = .ok (.ireturn, 1) := by decide +kernel
theorem dX9_behind_46 : decode cX9_behind 46 = .ok (.iinc 5 1, 3) := by decide +kernel
theorem dX9_behind_49 : decode cX9_behind 49 = .ok (.goto (-24), 3) := by decide +kernel
theorem dX9_behind_52 : decode cX9_behind 52 = .ok (.iconst (-1), 1) := by decide +kernel
theorem dX9_behind_53 : decode cX9_behind 53 = .ok (.ireturn, 1) := by decide +kernel
theorem dX9_has__0 : decode cX9_has_ 0 = .ok (.aload_n 0, 1) := by decide +kernel
theorem dX9_has__1 : decode cX9_has_ 1 = .ok (.invokevirtual 277, 3) := by decide +kernel
theorem dX9_has__4 : decode cX9_has_ 4 = .ok (.ifCond .ne 5, 3) := by decide +kernel
theorem dX9_has__7 : decode cX9_has_ 7 = .ok (.iconst 0, 1) := by decide +kernel
theorem dX9_has__8 : decode cX9_has_ 8 = .ok (.ireturn, 1) := by decide +kernel
theorem dX9_has__9 : decode cX9_has_ 9 = .ok (.aload_n 0, 1) := by decide +kernel
theorem dX9_has__10 : decode cX9_has_ 10 = .ok (.iload_n 1, 1) := by decide +kernel
theorem dX9_has__11 : decode cX9_has_ 11 = .ok (.iload_n 2, 1) := by decide +kernel
theorem dX9_has__12 : decode cX9_has_ 12 = .ok (.iload_n 3, 1) := by decide +kernel
theorem dX9_has__13 : decode cX9_has_ 13 = .ok (.iload 4, 2) := by decide +kernel
theorem dX9_has__15 : decode cX9_has_ 15 = .ok (.invokevirtual 375, 3) := by decide +kernel
theorem dX9_has__18 : decode cX9_has_ 18 = .ok (.aload_n 0, 1) := by decide +kernel
theorem dX9_has__19 : decode cX9_has_ 19 = .ok (.invokevirtual 296, 3) := by decide +kernel
theorem dX9_has__22 : decode cX9_has_ 22 = .ok (.iconst 0, 1) := by decide +kernel
theorem dX9_has__23 : decode cX9_has_ 23 = .ok (.istore 5, 2) := by decide +kernel
theorem dX9_has__25 : decode cX9_has_ 25 = .ok (.iload 5, 2) := by decide +kernel
theorem dX9_has__27 : decode cX9_has_ 27 = .ok (.aload_n 0, 1) := by decide +kernel
theorem dX9_has__28 : decode cX9_has_ 28 = .ok (.getfield 247, 3) := by decide +kernel
theorem dX9_has__31 : decode cX9_has_ 31 = .ok (.if_icmp .ge 20, 3) := by decide +kernel
theorem dX9_has__34 : decode cX9_has_ 34 = .ok (.aload_n 0, 1) := by decide +kernel
theorem dX9_has__35 : decode cX9_has_ 35 = .ok (.iload 5, 2) := by decide +kernel
theorem dX9_has__37 : decode cX9_has_ 37 = .ok (.invokevirtual 379, 3) := by decide +kernel
theorem dX9_has__40 : decode cX9_has_ 40 = .ok (.ifCond .ne 5, 3) := by decide +kernel
theorem dX9_has__43 : decode cX9_has_ 43 = .ok (.iconst 1, 1) := by decide +kernel
theorem dX9_has__44 : decode cX9_has_ 44 = .ok (.ireturn, 1) := by decide +kernel
theorem dX9_has__45 : decode cX9_has_ 45 = .ok (.iinc 5 1, 3) := by decide +kernel
theorem dX9_has__48 : decode cX9_has_ 48 = .ok (.goto (-23), 3) := by decide +kernel
theorem dX9_has__51 : decode cX9_has_ 51 = .ok (.iconst 0, 1) := by decide +kernel
theorem dX9_has__52 : decode cX9_has_ 52 = .ok (.ireturn, 1) := by decide +kernel
theorem dX9_mean_0 : decode cX9_mean 0 = .ok (.aload_n 0, 1) := by decide +kernel
theorem dX9_mean_1 : decode cX9_mean 1 = .ok (.iload_n 1, 1) := by decide +kernel
theorem dX9_mean_2 : decode cX9_mean 2 = .ok (.invokevirtual 382, 3) := by decide +kernel
theorem dX9_mean_5 : decode cX9_mean 5 = .ok (.ifCond .eq 14, 3) := by decide +kernel
theorem dX9_mean_8 : decode cX9_mean 8 = .ok (.aload_n 0, 1) := by decide +kernel
theorem dX9_mean_9 : decode cX9_mean 9 = .ok (.iload_n 1, 1) := by decide +kernel
theorem dX9_mean_10 : decode cX9_mean 10 = .ok (.invokevirtual 385, 3) := by decide +kernel
theorem dX9_mean_13 : decode cX9_mean 13 = .ok (.invokestatic 389, 3) := by decide +kernel
theorem dX9_mean_16 : decode cX9_mean 16 = .ok (.goto 6, 3) := by decide +kernel
theorem dX9_mean_19 : decode cX9_mean 19 = .ok (.ldc2_w 395, 3) := by decide +kernel
theorem dX9_mean_22 : decode cX9_mean 22 = .ok (.lreturn, 1) := by decide +kernel
theorem dX9_hasMean_0 : decode cX9_hasMean 0 = .ok (.aload_n 0, 1) := by decide +kernel
theorem dX9_hasMean_1 : decode cX9_hasMean 1 = .ok (.iload_n 1, 1) := by decide +kernel
theorem dX9_hasMean_2 : decode cX9_hasMean 2 = .ok (.invokevirtual 342, 3) := by decide +kernel
theorem dX9_hasMean_5 : decode cX9_hasMean 5 = .ok (.ifCond .eq 14, 3) := by decide +kernel
theorem dX9_hasMean_8 : decode cX9_hasMean 8 = .ok (.aload_n 0, 1) := by decide +kernel
theorem dX9_hasMean_9 : decode cX9_hasMean 9 = .ok (.invokevirtual 299, 3) := by decide +kernel
theorem dX9_hasMean_12 : decode cX9_hasMean 12 = .ok (.ifCond .le 7, 3) := by decide +kernel
theorem dX9_hasMean_15 : decode cX9_hasMean 15 = .ok (.iconst 1, 1) := by decide +kernel
theorem dX9_hasMean_16 : decode cX9_hasMean 16 = .ok (.goto 4, 3) := by decide +kernel
theorem dX9_hasMean_19 : decode cX9_hasMean 19 = .ok (.iconst 0, 1) := by decide +kernel
theorem dX9_hasMean_20 : decode cX9_hasMean 20 = .ok (.ireturn, 1) := by decide +kernel
theorem dX9_meanAs_0 : decode cX9_meanAs 0 = .ok (.iload_n 2, 1) := by decide +kernel
theorem dX9_meanAs_1 : decode cX9_meanAs 1 = .ok (.iconst 0, 1) := by decide +kernel
theorem dX9_meanAs_2 : decode cX9_meanAs 2 = .ok (.iconst 1, 1) := by decide +kernel
theorem dX9_meanAs_3 : decode cX9_meanAs 3 = .ok (.invokestatic 104, 3) := by decide +kernel
theorem dX9_meanAs_6 : decode cX9_meanAs 6 = .ok (.ifCond .eq 11, 3) := by decide +kernel
theorem dX9_meanAs_9 : decode cX9_meanAs 9 = .ok (.aload_n 0, 1) := by decide +kernel
theorem dX9_meanAs_10 : decode cX9_meanAs 10 = .ok (.iload_n 1, 1) := by decide +kernel
theorem dX9_meanAs_11 : decode cX9_meanAs 11 = .ok (.invokevirtual 382, 3) := by decide +kernel
theorem dX9_meanAs_14 : decode cX9_meanAs 14 = .ok (.ifCond .ne 7, 3) := by decide +kernel
theorem dX9_meanAs_17 : decode cX9_meanAs 17 = .ok (.ldc_w 338, 3) := by decide +kernel
theorem dX9_meanAs_20 : decode cX9_meanAs 20 = .ok (.ireturn, 1) := by decide +kernel
theorem dX9_meanAs_21 : decode cX9_meanAs 21 = .ok (.iload_n 2, 1) := by decide +kernel
theorem dX9_meanAs_22 : decode cX9_meanAs 22 = .ok (.ifCond .ne 15, 3) := by decide +kernel
theorem dX9_meanAs_25 : decode cX9_meanAs 25 = .ok (.aload_n 0, 1) := by decide +kernel
theorem dX9_meanAs_26 : decode cX9_meanAs 26 = .ok (.iload_n 1, 1) := by decide +kernel
theorem dX9_meanAs_27 : decode cX9_meanAs 27 = .ok (.invokevirtual 385, 3) := by decide +kernel
theorem dX9_meanAs_30 : decode cX9_meanAs 30 = .ok (.d2f, 1) := by decide +kernel
theorem dX9_meanAs_31 : decode cX9_meanAs 31 = .ok (.invokestatic 397, 3) := by decide +kernel
theorem dX9_meanAs_34 : decode cX9_meanAs 34 = .ok (.goto 9, 3) := by decide +kernel
theorem dX9_meanAs_37 : decode cX9_meanAs 37 = .ok (.aload_n 0, 1) := by decide +kernel
theorem dX9_meanAs_38 : decode cX9_meanAs 38 = .ok (.iload_n 1, 1) := by decide +kernel
theorem dX9_meanAs_39 : decode cX9_meanAs 39 = .ok (.invokevirtual 385, 3) := by decide +kernel
theorem dX9_meanAs_42 : decode cX9_meanAs 42 = .ok (.d2i, 1) := by decide +kernel
theorem dX9_meanAs_43 : decode cX9_meanAs 43 = .ok (.ireturn, 1) := by decide +kernel
theorem dX9_spread_0 : decode cX9_spread 0 = .ok (.aload_n 0, 1) := by decide +kernel
theorem dX9_spread_1 : decode cX9_spread 1 = .ok (.iload_n 1, 1) := by decide +kernel
theorem dX9_spread_2 : decode cX9_spread 2 = .ok (.invokevirtual 382, 3) := by decide +kernel
theorem dX9_spread_5 : decode cX9_spread 5 = .ok (.ifCond .ne 7, 3) := by decide +kernel
theorem dX9_spread_8 : decode cX9_spread 8 = .ok (.ldc2_w 395, 3) := by decide +kernel
theorem dX9_spread_11 : decode cX9_spread 11 = .ok (.lreturn, 1) := by decide +kernel
theorem dX9_spread_12 : decode cX9_spread 12 = .ok (.aload_n 0, 1) := by decide +kernel
theorem dX9_spread_13 : decode cX9_spread 13 = .ok (.iload_n 1, 1) := by decide +kernel
theorem dX9_spread_14 : decode cX9_spread 14 = .ok (.invokevirtual 385, 3) := by decide +kernel
theorem dX9_spread_17 : decode cX9_spread 17 = .ok (.dstore_n 2, 1) := by decide +kernel
theorem dX9_spread_18 : decode cX9_spread 18 = .ok (.dconst 0, 1) := by decide +kernel
theorem dX9_spread_19 : decode cX9_spread 19 = .ok (.dstore 4, 2) := by decide +kernel
theorem dX9_spread_21 : decode cX9_spread 21 = .ok (.iconst 0, 1) := by decide +kernel
theorem dX9_spread_22 : decode cX9_spread 22 = .ok (.istore 6, 2) := by decide +kernel
theorem dX9_spread_24 : decode cX9_spread 24 = .ok (.iload 6, 2) := by decide +kernel
theorem dX9_spread_26 : decode cX9_spread 26 = .ok (.aload_n 0, 1) := by decide +kernel
theorem dX9_spread_27 : decode cX9_spread 27 = .ok (.getfield 247, 3) := by decide +kernel
theorem dX9_spread_30 : decode cX9_spread 30 = .ok (.if_icmp .ge 41, 3) := by decide +kernel
theorem dX9_spread_33 : decode cX9_spread 33 = .ok (.aload_n 0, 1) := by decide +kernel
theorem dX9_spread_34 : decode cX9_spread 34 = .ok (.iload 6, 2) := by decide +kernel
theorem dX9_spread_36 : decode cX9_spread 36 = .ok (.iload_n 1, 1) := by decide +kernel
theorem dX9_spread_37 : decode cX9_spread 37 = .ok (.invokevirtual 345, 3) := by decide +kernel
theorem dX9_spread_40 : decode cX9_spread 40 = .ok (.i2d, 1) := by decide +kernel
theorem dX9_spread_41 : decode cX9_spread 41 = .ok (.dload_n 2, 1) := by decide +kernel
theorem dX9_spread_42 : decode cX9_spread 42 = .ok (.dsub, 1) := by decide +kernel
theorem dX9_spread_43 : decode cX9_spread 43 = .ok (.dstore 7, 2) := by decide +kernel
theorem dX9_spread_45 : decode cX9_spread 45 = .ok (.dload 4, 2) := by decide +kernel
theorem dX9_spread_47 : decode cX9_spread 47 = .ok (.dload 7, 2) := by decide +kernel
theorem dX9_spread_49 : decode cX9_spread 49 = .ok (.dconst 0, 1) := by decide +kernel
theorem dX9_spread_50 : decode cX9_spread 50 = .ok (.dcmp .g, 1) := by decide +kernel
theorem dX9_spread_51 : decode cX9_spread 51 = .ok (.ifCond .ge 9, 3) := by decide +kernel
theorem dX9_spread_54 : decode cX9_spread 54 = .ok (.dload 7, 2) := by decide +kernel
theorem dX9_spread_56 : decode cX9_spread 56 = .ok (.dneg, 1) := by decide +kernel
theorem dX9_spread_57 : decode cX9_spread 57 = .ok (.goto 5, 3) := by decide +kernel
theorem dX9_spread_60 : decode cX9_spread 60 = .ok (.dload 7, 2) := by decide +kernel
theorem dX9_spread_62 : decode cX9_spread 62 = .ok (.dadd, 1) := by decide +kernel
theorem dX9_spread_63 : decode cX9_spread 63 = .ok (.dstore 4, 2) := by decide +kernel
theorem dX9_spread_65 : decode cX9_spread 65 = .ok (.iinc 6 1, 3) := by decide +kernel
theorem dX9_spread_68 : decode cX9_spread 68 = .ok (.goto (-44), 3) := by decide +kernel
theorem dX9_spread_71 : decode cX9_spread 71 = .ok (.dload 4, 2) := by decide +kernel
theorem dX9_spread_73 : decode cX9_spread 73 = .ok (.aload_n 0, 1) := by decide +kernel
theorem dX9_spread_74 : decode cX9_spread 74 = .ok (.getfield 247, 3) := by decide +kernel
theorem dX9_spread_77 : decode cX9_spread 77 = .ok (.i2d, 1) := by decide +kernel
theorem dX9_spread_78 : decode cX9_spread 78 = .ok (.ddiv, 1) := by decide +kernel
theorem dX9_spread_79 : decode cX9_spread 79 = .ok (.invokestatic 389, 3) := by decide +kernel
theorem dX9_spread_82 : decode cX9_spread 82 = .ok (.lreturn, 1) := by decide +kernel
theorem dX9_skew_0 : decode cX9_skew 0 = .ok (.aload_n 0, 1) := by decide +kernel
theorem dX9_skew_1 : decode cX9_skew 1 = .ok (.iload_n 1, 1) := by decide +kernel
theorem dX9_skew_2 : decode cX9_skew 2 = .ok (.invokevirtual 382, 3) := by decide +kernel
theorem dX9_skew_5 : decode cX9_skew 5 = .ok (.ifCond .ne 7, 3) := by decide +kernel
theorem dX9_skew_8 : decode cX9_skew 8 = .ok (.ldc_w 338, 3) := by decide +kernel
theorem dX9_skew_11 : decode cX9_skew 11 = .ok (.ireturn, 1) := by decide +kernel
theorem dX9_skew_12 : decode cX9_skew 12 = .ok (.aload_n 0, 1) := by decide +kernel
theorem dX9_skew_13 : decode cX9_skew 13 = .ok (.invokevirtual 366, 3) := by decide +kernel
theorem dX9_skew_16 : decode cX9_skew 16 = .ok (.aload_n 0, 1) := by decide +kernel
theorem dX9_skew_17 : decode cX9_skew 17 = .ok (.getfield 68, 3) := by decide +kernel
theorem dX9_skew_20 : decode cX9_skew 20 = .ok (.bipush 100, 2) := by decide +kernel
theorem dX9_skew_22 : decode cX9_skew 22 = .ok (.iload_n 1, 1) := by decide +kernel
theorem dX9_skew_23 : decode cX9_skew 23 = .ok (.imul, 1) := by decide +kernel
theorem dX9_skew_24 : decode cX9_skew 24 = .ok (.aload_n 0, 1) := by decide +kernel
theorem dX9_skew_25 : decode cX9_skew 25 = .ok (.iload_n 1, 1) := by decide +kernel
theorem dX9_skew_26 : decode cX9_skew 26 = .ok (.iconst 3, 1) := by decide +kernel
theorem dX9_skew_27 : decode cX9_skew 27 = .ok (.invokevirtual 369, 3) := by decide +kernel
theorem dX9_skew_30 : decode cX9_skew 30 = .ok (.iadd, 1) := by decide +kernel
theorem dX9_skew_31 : decode cX9_skew 31 = .ok (.iaload, 1) := by decide +kernel
theorem dX9_skew_32 : decode cX9_skew 32 = .ok (.istore_n 2, 1) := by decide +kernel
theorem dX9_skew_33 : decode cX9_skew 33 = .ok (.iload_n 2, 1) := by decide +kernel
theorem dX9_skew_34 : decode cX9_skew 34 = .ok (.i2f, 1) := by decide +kernel
theorem dX9_skew_35 : decode cX9_skew 35 = .ok (.aload_n 0, 1) := by decide +kernel
theorem dX9_skew_36 : decode cX9_skew 36 = .ok (.getfield 247, 3) := by decide +kernel
theorem dX9_skew_39 : decode cX9_skew 39 = .ok (.i2f, 1) := by decide +kernel
theorem dX9_skew_40 : decode cX9_skew 40 = .ok (.fdiv, 1) := by decide +kernel
theorem dX9_skew_41 : decode cX9_skew 41 = .ok (.invokestatic 397, 3) := by decide +kernel
theorem dX9_skew_44 : decode cX9_skew 44 = .ok (.ireturn, 1) := by decide +kernel
theorem dX9_put_0 : decode cX9_put 0 = .ok (.aload_n 0, 1) := by decide +kernel
theorem dX9_put_1 : decode cX9_put 1 = .ok (.iconst 0, 1) := by decide +kernel
theorem dX9_put_2 : decode cX9_put 2 = .ok (.iload_n 1, 1) := by decide +kernel
theorem dX9_put_3 : decode cX9_put 3 = .ok (.iload_n 2, 1) := by decide +kernel
theorem dX9_put_4 : decode cX9_put 4 = .ok (.iload_n 3, 1) := by decide +kernel
theorem dX9_put_5 : decode cX9_put 5 = .ok (.iload 4, 2) := by decide +kernel
theorem dX9_put_7 : decode cX9_put 7 = .ok (.invokevirtual 317, 3) := by decide +kernel
theorem dX9_put_10 : decode cX9_put 10 = .ok (.ireturn, 1) := by decide +kernel
theorem dX9_hand_0 : decode cX9_hand 0 = .ok (.aload_n 0, 1) := by decide +kernel
theorem dX9_hand_1 : decode cX9_hand 1 = .ok (.iload_n 1, 1) := by decide +kernel
theorem dX9_hand_2 : decode cX9_hand 2 = .ok (.iload_n 2, 1) := by decide +kernel
theorem dX9_hand_3 : decode cX9_hand 3 = .ok (.iload_n 3, 1) := by decide +kernel
theorem dX9_hand_4 : decode cX9_hand 4 = .ok (.iload 4, 2) := by decide +kernel
theorem dX9_hand_6 : decode cX9_hand 6 = .ok (.iload 5, 2) := by decide +kernel
theorem dX9_hand_8 : decode cX9_hand 8 = .ok (.invokevirtual 311, 3) := by decide +kernel
theorem dX9_hand_11 : decode cX9_hand 11 = .ok (.istore 6, 2) := by decide +kernel
theorem dX9_hand_13 : decode cX9_hand 13 = .ok (.iload 6, 2) := by decide +kernel
theorem dX9_hand_15 : decode cX9_hand 15 = .ok (.iconst (-1), 1) := by decide +kernel
theorem dX9_hand_16 : decode cX9_hand 16 = .ok (.if_icmp .eq 16, 3) := by decide +kernel
theorem dX9_hand_19 : decode cX9_hand 19 = .ok (.aload_n 0, 1) := by decide +kernel
theorem dX9_hand_20 : decode cX9_hand 20 = .ok (.getfield 34, 3) := by decide +kernel
theorem dX9_hand_23 : decode cX9_hand 23 = .ok (.iload 6, 2) := by decide +kernel
theorem dX9_hand_25 : decode cX9_hand 25 = .ok (.dup2, 1) := by decide +kernel
theorem dX9_hand_26 : decode cX9_hand 26 = .ok (.iaload, 1) := by decide +kernel
theorem dX9_hand_27 : decode cX9_hand 27 = .ok (.iconst 1, 1) := by decide +kernel
theorem dX9_hand_28 : decode cX9_hand 28 = .ok (.iadd, 1) := by decide +kernel
theorem dX9_hand_29 : decode cX9_hand 29 = .ok (.iastore, 1) := by decide +kernel
theorem dX9_hand_30 : decode cX9_hand 30 = .ok (.iconst (-1), 1) := by decide +kernel
theorem dX9_hand_31 : decode cX9_hand 31 = .ok (.ireturn, 1) := by decide +kernel
theorem dX9_hand_32 : decode cX9_hand 32 = .ok (.aload_n 0, 1) := by decide +kernel
theorem dX9_hand_33 : decode cX9_hand 33 = .ok (.iload_n 1, 1) := by decide +kernel
theorem dX9_hand_34 : decode cX9_hand 34 = .ok (.iload_n 2, 1) := by decide +kernel
theorem dX9_hand_35 : decode cX9_hand 35 = .ok (.iload_n 3, 1) := by decide +kernel
theorem dX9_hand_36 : decode cX9_hand 36 = .ok (.iload 4, 2) := by decide +kernel
theorem dX9_hand_38 : decode cX9_hand 38 = .ok (.iload 5, 2) := by decide +kernel
theorem dX9_hand_40 : decode cX9_hand 40 = .ok (.invokevirtual 314, 3) := by decide +kernel
theorem dX9_hand_43 : decode cX9_hand 43 = .ok (.ireturn, 1) := by decide +kernel
theorem dX9_whyNot_0 : decode cX9_whyNot 0 = .ok (.iload_n 1, 1) := by decide +kernel
theorem dX9_whyNot_1 : decode cX9_whyNot 1 = .ok (.tableswitch 79 0 2 #[27, 38, 49], 27) := by decide +kernel
theorem dX9_whyNot_28 : decode cX9_whyNot 28 = .ok (.aload_n 0, 1) := by decide +kernel
theorem dX9_whyNot_29 : decode cX9_whyNot 29 = .ok (.iload_n 2, 1) := by decide +kernel
theorem dX9_whyNot_30 : decode cX9_whyNot 30 = .ok (.iload_n 3, 1) := by decide +kernel
theorem dX9_whyNot_31 : decode cX9_whyNot 31 = .ok (.iload 4, 2) := by decide +kernel
theorem dX9_whyNot_33 : decode cX9_whyNot 33 = .ok (.iload 5, 2) := by decide +kernel
theorem dX9_whyNot_35 : decode cX9_whyNot 35 = .ok (.invokevirtual 287, 3) := by decide +kernel
theorem dX9_whyNot_38 : decode cX9_whyNot 38 = .ok (.ireturn, 1) := by decide +kernel
theorem dX9_whyNot_39 : decode cX9_whyNot 39 = .ok (.aload_n 0, 1) := by decide +kernel
theorem dX9_whyNot_40 : decode cX9_whyNot 40 = .ok (.iload_n 2, 1) := by decide +kernel
theorem dX9_whyNot_41 : decode cX9_whyNot 41 = .ok (.iload_n 3, 1) := by decide +kernel
theorem dX9_whyNot_42 : decode cX9_whyNot 42 = .ok (.iload 4, 2) := by decide +kernel
theorem dX9_whyNot_44 : decode cX9_whyNot 44 = .ok (.iload 5, 2) := by decide +kernel
theorem dX9_whyNot_46 : decode cX9_whyNot 46 = .ok (.invokevirtual 290, 3) := by decide +kernel
theorem dX9_whyNot_49 : decode cX9_whyNot 49 = .ok (.ireturn, 1) := by decide +kernel
theorem dX9_whyNot_50 : decode cX9_whyNot 50 = .ok (.aload_n 0, 1) := by decide +kernel
theorem dX9_whyNot_51 : decode cX9_whyNot 51 = .ok (.iload_n 2, 1) := by decide +kernel
theorem dX9_whyNot_52 : decode cX9_whyNot 52 = .ok (.invokevirtual 281, 3) := by decide +kernel
theorem dX9_whyNot_55 : decode cX9_whyNot 55 = .ok (.ifCond .ne 7, 3) := by decide +kernel
theorem dX9_whyNot_58 : decode cX9_whyNot 58 = .ok (.iconst 0, 1) := by decide +kernel
theorem dX9_whyNot_59 : decode cX9_whyNot 59 = .ok (.goto 20, 3) := by decide +kernel
theorem dX9_whyNot_62 : decode cX9_whyNot 62 = .ok (.aload_n 0, 1) := by decide +kernel
theorem dX9_whyNot_63 : decode cX9_whyNot 63 = .ok (.getfield 31, 3) := by decide +kernel
theorem dX9_whyNot_66 : decode cX9_whyNot 66 = .ok (.iconst 0, 1) := by decide +kernel
theorem dX9_whyNot_67 : decode cX9_whyNot 67 = .ok (.iaload, 1) := by decide +kernel
theorem dX9_whyNot_68 : decode cX9_whyNot 68 = .ok (.iconst 1, 1) := by decide +kernel
theorem dX9_whyNot_69 : decode cX9_whyNot 69 = .ok (.iload_n 2, 1) := by decide +kernel
theorem dX9_whyNot_70 : decode cX9_whyNot 70 = .ok (.ishl, 1) := by decide +kernel
theorem dX9_whyNot_71 : decode cX9_whyNot 71 = .ok (.if_icmp .ne 7, 3) := by decide +kernel
theorem dX9_whyNot_74 : decode cX9_whyNot 74 = .ok (.iconst 2, 1) := by decide +kernel
theorem dX9_whyNot_75 : decode cX9_whyNot 75 = .ok (.goto 4, 3) := by decide +kernel
theorem dX9_whyNot_78 : decode cX9_whyNot 78 = .ok (.iconst (-1), 1) := by decide +kernel
theorem dX9_whyNot_79 : decode cX9_whyNot 79 = .ok (.ireturn, 1) := by decide +kernel
theorem dX9_whyNot_80 : decode cX9_whyNot 80 = .ok (.aload_n 0, 1) := by decide +kernel
theorem dX9_whyNot_81 : decode cX9_whyNot 81 = .ok (.invokevirtual 277, 3) := by decide +kernel
theorem dX9_whyNot_84 : decode cX9_whyNot 84 = .ok (.ifCond .ne 7, 3) := by decide +kernel
theorem dX9_whyNot_87 : decode cX9_whyNot 87 = .ok (.iconst 0, 1) := by decide +kernel
theorem dX9_whyNot_88 : decode cX9_whyNot 88 = .ok (.goto 32, 3) := by decide +kernel
theorem dX9_whyNot_91 : decode cX9_whyNot 91 = .ok (.iload_n 2, 1) := by decide +kernel
theorem dX9_whyNot_92 : decode cX9_whyNot 92 = .ok (.iconst 0, 1) := by decide +kernel
theorem dX9_whyNot_93 : decode cX9_whyNot 93 = .ok (.bipush 23, 2) := by decide +kernel
theorem dX9_whyNot_95 : decode cX9_whyNot 95 = .ok (.invokestatic 104, 3) := by decide +kernel
theorem dX9_whyNot_98 : decode cX9_whyNot 98 = .ok (.ifCond .ne 7, 3) := by decide +kernel
theorem dX9_whyNot_101 : decode cX9_whyNot 101 = .ok (.iconst 1, 1) := by decide +kernel
theorem dX9_whyNot_102 : decode cX9_whyNot 102 = .ok (.goto 18, 3) := by decide +kernel
theorem dX9_whyNot_105 : decode cX9_whyNot 105 = .ok (.aload_n 0, 1) := by decide +kernel
theorem dX9_whyNot_106 : decode cX9_whyNot 106 = .ok (.getfield 31, 3) := by decide +kernel
theorem dX9_whyNot_109 : decode cX9_whyNot 109 = .ok (.iconst 1, 1) := by decide +kernel
theorem dX9_whyNot_110 : decode cX9_whyNot 110 = .ok (.iaload, 1) := by decide +kernel
theorem dX9_whyNot_111 : decode cX9_whyNot 111 = .ok (.iload_n 2, 1) := by decide +kernel
theorem dX9_whyNot_112 : decode cX9_whyNot 112 = .ok (.if_icmp .ne 7, 3) := by decide +kernel
theorem dX9_whyNot_115 : decode cX9_whyNot 115 = .ok (.iconst 2, 1) := by decide +kernel
theorem dX9_whyNot_116 : decode cX9_whyNot 116 = .ok (.goto 4, 3) := by decide +kernel
theorem dX9_whyNot_119 : decode cX9_whyNot 119 = .ok (.iconst (-1), 1) := by decide +kernel
theorem dX9_whyNot_120 : decode cX9_whyNot 120 = .ok (.ireturn, 1) := by decide +kernel
theorem dX9_whyPut_0 : decode cX9_whyPut 0 = .ok (.aload_n 0, 1) := by decide +kernel
theorem dX9_whyPut_1 : decode cX9_whyPut 1 = .ok (.iload_n 1, 1) := by decide +kernel
theorem dX9_whyPut_2 : decode cX9_whyPut 2 = .ok (.invokevirtual 281, 3) := by decide +kernel
theorem dX9_whyPut_5 : decode cX9_whyPut 5 = .ok (.ifCond .ne 5, 3) := by decide +kernel
theorem dX9_whyPut_8 : decode cX9_whyPut 8 = .ok (.iconst 0, 1) := by decide +kernel
theorem dX9_whyPut_9 : decode cX9_whyPut 9 = .ok (.ireturn, 1) := by decide +kernel
theorem dX9_whyPut_10 : decode cX9_whyPut 10 = .ok (.aload_n 0, 1) := by decide +kernel
theorem dX9_whyPut_11 : decode cX9_whyPut 11 = .ok (.iload_n 1, 1) := by decide +kernel
theorem dX9_whyPut_12 : decode cX9_whyPut 12 = .ok (.iload_n 2, 1) := by decide +kernel
theorem dX9_whyPut_13 : decode cX9_whyPut 13 = .ok (.iload_n 3, 1) := by decide +kernel
theorem dX9_whyPut_14 : decode cX9_whyPut 14 = .ok (.iload 4, 2) := by decide +kernel
theorem dX9_whyPut_16 : decode cX9_whyPut 16 = .ok (.invokevirtual 284, 3) := by decide +kernel
theorem dX9_whyPut_19 : decode cX9_whyPut 19 = .ok (.ifCond .ne 7, 3) := by decide +kernel
theorem dX9_whyPut_22 : decode cX9_whyPut 22 = .ok (.iconst 1, 1) := by decide +kernel
theorem dX9_whyPut_23 : decode cX9_whyPut 23 = .ok (.goto 34, 3) := by decide +kernel
theorem dX9_whyPut_26 : decode cX9_whyPut 26 = .ok (.aload_n 0, 1) := by decide +kernel
theorem dX9_whyPut_27 : decode cX9_whyPut 27 = .ok (.iload_n 1, 1) := by decide +kernel
theorem dX9_whyPut_28 : decode cX9_whyPut 28 = .ok (.iload_n 2, 1) := by decide +kernel
theorem dX9_whyPut_29 : decode cX9_whyPut 29 = .ok (.iload_n 3, 1) := by decide +kernel
theorem dX9_whyPut_30 : decode cX9_whyPut 30 = .ok (.iload 4, 2) := by decide +kernel
theorem dX9_whyPut_32 : decode cX9_whyPut 32 = .ok (.invokevirtual 197, 3) := by decide +kernel
theorem dX9_whyPut_35 : decode cX9_whyPut 35 = .ok (.ifCond .eq 7, 3) := by decide +kernel
theorem dX9_whyPut_38 : decode cX9_whyPut 38 = .ok (.iconst 2, 1) := by decide +kernel
theorem dX9_whyPut_39 : decode cX9_whyPut 39 = .ok (.goto 18, 3) := by decide +kernel
theorem dX9_whyPut_42 : decode cX9_whyPut 42 = .ok (.aload_n 0, 1) := by decide +kernel
theorem dX9_whyPut_43 : decode cX9_whyPut 43 = .ok (.iload_n 1, 1) := by decide +kernel
theorem dX9_whyPut_44 : decode cX9_whyPut 44 = .ok (.invokevirtual 186, 3) := by decide +kernel
theorem dX9_whyPut_47 : decode cX9_whyPut 47 = .ok (.bipush 12, 2) := by decide +kernel
theorem dX9_whyPut_49 : decode cX9_whyPut 49 = .ok (.if_icmp .ne 7, 3) := by decide +kernel
theorem dX9_whyPut_52 : decode cX9_whyPut 52 = .ok (.iconst 3, 1) := by decide +kernel
theorem dX9_whyPut_53 : decode cX9_whyPut 53 = .ok (.goto 4, 3) := by decide +kernel
theorem dX9_whyPut_56 : decode cX9_whyPut 56 = .ok (.iconst (-1), 1) := by decide +kernel
theorem dX9_whyPut_57 : decode cX9_whyPut 57 = .ok (.ireturn, 1) := by decide +kernel
theorem dX9_take_0 : decode cX9_take 0 = .ok (.aload_n 0, 1) := by decide +kernel
theorem dX9_take_1 : decode cX9_take 1 = .ok (.iconst 1, 1) := by decide +kernel
theorem dX9_take_2 : decode cX9_take 2 = .ok (.iload_n 1, 1) := by decide +kernel
theorem dX9_take_3 : decode cX9_take 3 = .ok (.iload_n 2, 1) := by decide +kernel
theorem dX9_take_4 : decode cX9_take 4 = .ok (.iload_n 3, 1) := by decide +kernel
theorem dX9_take_5 : decode cX9_take 5 = .ok (.iload 4, 2) := by decide +kernel
theorem dX9_take_7 : decode cX9_take 7 = .ok (.invokevirtual 317, 3) := by decide +kernel
theorem dX9_take_10 : decode cX9_take 10 = .ok (.ireturn, 1) := by decide +kernel
theorem dX9_whyTake_0 : decode cX9_whyTake 0 = .ok (.aload_n 0, 1) := by decide +kernel
theorem dX9_whyTake_1 : decode cX9_whyTake 1 = .ok (.iload_n 1, 1) := by decide +kernel
theorem dX9_whyTake_2 : decode cX9_whyTake 2 = .ok (.invokevirtual 281, 3) := by decide +kernel
theorem dX9_whyTake_5 : decode cX9_whyTake 5 = .ok (.ifCond .ne 5, 3) := by decide +kernel
theorem dX9_whyTake_8 : decode cX9_whyTake 8 = .ok (.iconst 0, 1) := by decide +kernel
theorem dX9_whyTake_9 : decode cX9_whyTake 9 = .ok (.ireturn, 1) := by decide +kernel
theorem dX9_whyTake_10 : decode cX9_whyTake 10 = .ok (.aload_n 0, 1) := by decide +kernel
theorem dX9_whyTake_11 : decode cX9_whyTake 11 = .ok (.iload_n 1, 1) := by decide +kernel
theorem dX9_whyTake_12 : decode cX9_whyTake 12 = .ok (.iload_n 2, 1) := by decide +kernel
theorem dX9_whyTake_13 : decode cX9_whyTake 13 = .ok (.iload_n 3, 1) := by decide +kernel
theorem dX9_whyTake_14 : decode cX9_whyTake 14 = .ok (.iload 4, 2) := by decide +kernel
theorem dX9_whyTake_16 : decode cX9_whyTake 16 = .ok (.invokevirtual 284, 3) := by decide +kernel
theorem dX9_whyTake_19 : decode cX9_whyTake 19 = .ok (.ifCond .ne 7, 3) := by decide +kernel
theorem dX9_whyTake_22 : decode cX9_whyTake 22 = .ok (.iconst 1, 1) := by decide +kernel
theorem dX9_whyTake_23 : decode cX9_whyTake 23 = .ok (.goto 20, 3) := by decide +kernel
theorem dX9_whyTake_26 : decode cX9_whyTake 26 = .ok (.aload_n 0, 1) := by decide +kernel
theorem dX9_whyTake_27 : decode cX9_whyTake 27 = .ok (.iload_n 1, 1) := by decide +kernel
theorem dX9_whyTake_28 : decode cX9_whyTake 28 = .ok (.iload_n 2, 1) := by decide +kernel
theorem dX9_whyTake_29 : decode cX9_whyTake 29 = .ok (.iload_n 3, 1) := by decide +kernel
theorem dX9_whyTake_30 : decode cX9_whyTake 30 = .ok (.iload 4, 2) := by decide +kernel
theorem dX9_whyTake_32 : decode cX9_whyTake 32 = .ok (.invokevirtual 197, 3) := by decide +kernel
theorem dX9_whyTake_35 : decode cX9_whyTake 35 = .ok (.ifCond .eq 7, 3) := by decide +kernel
theorem dX9_whyTake_38 : decode cX9_whyTake 38 = .ok (.iconst (-1), 1) := by decide +kernel
theorem dX9_whyTake_39 : decode cX9_whyTake 39 = .ok (.goto 4, 3) := by decide +kernel
theorem dX9_whyTake_42 : decode cX9_whyTake 42 = .ok (.iconst 2, 1) := by decide +kernel
theorem dX9_whyTake_43 : decode cX9_whyTake 43 = .ok (.ireturn, 1) := by decide +kernel
theorem dX9_use_0 : decode cX9_use 0 = .ok (.aload_n 0, 1) := by decide +kernel
theorem dX9_use_1 : decode cX9_use 1 = .ok (.iconst 2, 1) := by decide +kernel
theorem dX9_use_2 : decode cX9_use 2 = .ok (.iload_n 1, 1) := by decide +kernel
theorem dX9_use_3 : decode cX9_use 3 = .ok (.iconst 0, 1) := by decide +kernel
theorem dX9_use_4 : decode cX9_use 4 = .ok (.iconst 0, 1) := by decide +kernel
theorem dX9_use_5 : decode cX9_use 5 = .ok (.iconst 0, 1) := by decide +kernel
theorem dX9_use_6 : decode cX9_use 6 = .ok (.invokevirtual 317, 3) := by decide +kernel
theorem dX9_use_9 : decode cX9_use 9 = .ok (.ireturn, 1) := by decide +kernel
theorem dX9_order_0 : decode cX9_order 0 = .ok (.aload_n 0, 1) := by decide +kernel
theorem dX9_order_1 : decode cX9_order 1 = .ok (.iconst 3, 1) := by decide +kernel
theorem dX9_order_2 : decode cX9_order 2 = .ok (.iload_n 1, 1) := by decide +kernel
theorem dX9_order_3 : decode cX9_order 3 = .ok (.iconst 0, 1) := by decide +kernel
theorem dX9_order_4 : decode cX9_order 4 = .ok (.iconst 0, 1) := by decide +kernel
theorem dX9_order_5 : decode cX9_order 5 = .ok (.iconst 0, 1) := by decide +kernel
theorem dX9_order_6 : decode cX9_order 6 = .ok (.invokevirtual 317, 3) := by decide +kernel
theorem dX9_order_9 : decode cX9_order 9 = .ok (.ireturn, 1) := by decide +kernel
theorem dX9_ways_0 : decode cX9_ways 0 = .ok (.aload_n 0, 1) := by decide +kernel
theorem dX9_ways_1 : decode cX9_ways 1 = .ok (.invokevirtual 277, 3) := by decide +kernel
theorem dX9_ways_4 : decode cX9_ways 4 = .ok (.ifCond .eq 13, 3) := by decide +kernel
theorem dX9_ways_7 : decode cX9_ways 7 = .ok (.iload_n 1, 1) := by decide +kernel
theorem dX9_ways_8 : decode cX9_ways 8 = .ok (.iconst 1, 1) := by decide +kernel
theorem dX9_ways_9 : decode cX9_ways 9 = .ok (.bipush 40, 2) := by decide +kernel
theorem dX9_ways_11 : decode cX9_ways 11 = .ok (.invokestatic 104, 3) := by decide +kernel
theorem dX9_ways_14 : decode cX9_ways 14 = .ok (.ifCond .ne 5, 3) := by decide +kernel
theorem dX9_ways_17 : decode cX9_ways 17 = .ok (.iconst (-1), 1) := by decide +kernel
theorem dX9_ways_18 : decode cX9_ways 18 = .ok (.ireturn, 1) := by decide +kernel
theorem dX9_ways_19 : decode cX9_ways 19 = .ok (.aload_n 0, 1) := by decide +kernel
theorem dX9_ways_20 : decode cX9_ways 20 = .ok (.lload_n 2, 1) := by decide +kernel
theorem dX9_ways_21 : decode cX9_ways 21 = .ok (.putfield 320, 3) := by decide +kernel
theorem dX9_ways_24 : decode cX9_ways 24 = .ok (.iconst 0, 1) := by decide +kernel
theorem dX9_ways_25 : decode cX9_ways 25 = .ok (.istore 4, 2) := by decide +kernel
theorem dX9_ways_27 : decode cX9_ways 27 = .ok (.iload 4, 2) := by decide +kernel
theorem dX9_ways_29 : decode cX9_ways 29 = .ok (.iload_n 1, 1) := by decide +kernel
theorem dX9_ways_30 : decode cX9_ways 30 = .ok (.if_icmp .ge 13, 3) := by decide +kernel
theorem dX9_ways_33 : decode cX9_ways 33 = .ok (.aload_n 0, 1) := by decide +kernel
theorem dX9_ways_34 : decode cX9_ways 34 = .ok (.invokevirtual 335, 3) := by decide +kernel
theorem dX9_ways_37 : decode cX9_ways 37 = .ok (.iinc 4 1, 3) := by decide +kernel
theorem dX9_ways_40 : decode cX9_ways 40 = .ok (.goto (-13), 3) := by decide +kernel
theorem dX9_ways_43 : decode cX9_ways 43 = .ok (.aload_n 0, 1) := by decide +kernel
theorem dX9_ways_44 : decode cX9_ways 44 = .ok (.invokevirtual 299, 3) := by decide +kernel
theorem dX9_ways_47 : decode cX9_ways 47 = .ok (.ireturn, 1) := by decide +kernel
theorem dX9_status_0 : decode cX9_status 0 = .ok (.iload_n 1, 1) := by decide +kernel
theorem dX9_status_1 : decode cX9_status 1 = .ok (.iconst 0, 1) := by decide +kernel
theorem dX9_status_2 : decode cX9_status 2 = .ok (.iconst 3, 1) := by decide +kernel
theorem dX9_status_3 : decode cX9_status 3 = .ok (.invokestatic 104, 3) := by decide +kernel
theorem dX9_status_6 : decode cX9_status 6 = .ok (.ifCond .eq 12, 3) := by decide +kernel
theorem dX9_status_9 : decode cX9_status 9 = .ok (.aload_n 0, 1) := by decide +kernel
theorem dX9_status_10 : decode cX9_status 10 = .ok (.getfield 34, 3) := by decide +kernel
theorem dX9_status_13 : decode cX9_status 13 = .ok (.iload_n 1, 1) := by decide +kernel
theorem dX9_status_14 : decode cX9_status 14 = .ok (.iaload, 1) := by decide +kernel
theorem dX9_status_15 : decode cX9_status 15 = .ok (.goto 4, 3) := by decide +kernel
theorem dX9_status_18 : decode cX9_status 18 = .ok (.iconst (-1), 1) := by decide +kernel
theorem dX9_status_19 : decode cX9_status 19 = .ok (.ireturn, 1) := by decide +kernel
theorem dX9_undo_0 : decode cX9_undo 0 = .ok (.aload_n 0, 1) := by decide +kernel
theorem dX9_undo_1 : decode cX9_undo 1 = .ok (.getfield 204, 3) := by decide +kernel
theorem dX9_undo_4 : decode cX9_undo 4 = .ok (.ifCond .ne 5, 3) := by decide +kernel
theorem dX9_undo_7 : decode cX9_undo 7 = .ok (.iconst (-1), 1) := by decide +kernel
theorem dX9_undo_8 : decode cX9_undo 8 = .ok (.ireturn, 1) := by decide +kernel
theorem dX9_undo_9 : decode cX9_undo 9 = .ok (.aload_n 0, 1) := by decide +kernel
theorem dX9_undo_10 : decode cX9_undo 10 = .ok (.dup, 1) := by decide +kernel
theorem dX9_undo_11 : decode cX9_undo 11 = .ok (.getfield 204, 3) := by decide +kernel
theorem dX9_undo_14 : decode cX9_undo 14 = .ok (.iconst 1, 1) := by decide +kernel
theorem dX9_undo_15 : decode cX9_undo 15 = .ok (.isub, 1) := by decide +kernel
theorem dX9_undo_16 : decode cX9_undo 16 = .ok (.putfield 204, 3) := by decide +kernel
theorem dX9_undo_19 : decode cX9_undo 19 = .ok (.iconst 0, 1) := by decide +kernel
theorem dX9_undo_20 : decode cX9_undo 20 = .ok (.istore_n 1, 1) := by decide +kernel
theorem dX9_undo_21 : decode cX9_undo 21 = .ok (.iload_n 1, 1) := by decide +kernel
theorem dX9_undo_22 : decode cX9_undo 22 = .ok (.sipush 331, 3) := by decide +kernel
theorem dX9_undo_25 : decode cX9_undo 25 = .ok (.if_icmp .ge 30, 3) := by decide +kernel
theorem dX9_undo_28 : decode cX9_undo 28 = .ok (.aload_n 0, 1) := by decide +kernel
theorem dX9_undo_29 : decode cX9_undo 29 = .ok (.getfield 31, 3) := by decide +kernel
theorem dX9_undo_32 : decode cX9_undo 32 = .ok (.iload_n 1, 1) := by decide +kernel
theorem dX9_undo_33 : decode cX9_undo 33 = .ok (.aload_n 0, 1) := by decide +kernel
theorem dX9_undo_34 : decode cX9_undo 34 = .ok (.getfield 65, 3) := by decide +kernel
theorem dX9_undo_37 : decode cX9_undo 37 = .ok (.sipush 331, 3) := by decide +kernel
theorem dX9_undo_40 : decode cX9_undo 40 = .ok (.aload_n 0, 1) := by decide +kernel
theorem dX9_undo_41 : decode cX9_undo 41 = .ok (.getfield 204, 3) := by decide +kernel
theorem dX9_undo_44 : decode cX9_undo 44 = .ok (.imul, 1) := by decide +kernel
theorem dX9_undo_45 : decode cX9_undo 45 = .ok (.iload_n 1, 1) := by decide +kernel
theorem dX9_undo_46 : decode cX9_undo 46 = .ok (.iadd, 1) := by decide +kernel
theorem dX9_undo_47 : decode cX9_undo 47 = .ok (.iaload, 1) := by decide +kernel
theorem dX9_undo_48 : decode cX9_undo 48 = .ok (.iastore, 1) := by decide +kernel
theorem dX9_undo_49 : decode cX9_undo 49 = .ok (.iinc 1 1, 3) := by decide +kernel
theorem dX9_undo_52 : decode cX9_undo 52 = .ok (.goto (-31), 3) := by decide +kernel
theorem dX9_undo_55 : decode cX9_undo 55 = .ok (.aload_n 0, 1) := by decide +kernel
theorem dX9_undo_56 : decode cX9_undo 56 = .ok (.getfield 204, 3) := by decide +kernel
theorem dX9_undo_59 : decode cX9_undo 59 = .ok (.ireturn, 1) := by decide +kernel
theorem dX9_log_0 : decode cX9_log 0 = .ok (.iload_n 1, 1) := by decide +kernel
theorem dX9_log_1 : decode cX9_log 1 = .ok (.iconst 0, 1) := by decide +kernel
theorem dX9_log_2 : decode cX9_log 2 = .ok (.aload_n 0, 1) := by decide +kernel
theorem dX9_log_3 : decode cX9_log 3 = .ok (.getfield 31, 3) := by decide +kernel
theorem dX9_log_6 : decode cX9_log 6 = .ok (.sipush 150, 3) := by decide +kernel
theorem dX9_log_9 : decode cX9_log 9 = .ok (.iaload, 1) := by decide +kernel
theorem dX9_log_10 : decode cX9_log 10 = .ok (.iconst 1, 1) := by decide +kernel
theorem dX9_log_11 : decode cX9_log 11 = .ok (.isub, 1) := by decide +kernel
theorem dX9_log_12 : decode cX9_log 12 = .ok (.invokestatic 104, 3) := by decide +kernel
theorem dX9_log_15 : decode cX9_log 15 = .ok (.ifCond .eq 40, 3) := by decide +kernel
theorem dX9_log_18 : decode cX9_log 18 = .ok (.iload_n 2, 1) := by decide +kernel
theorem dX9_log_19 : decode cX9_log 19 = .ok (.iconst 0, 1) := by decide +kernel
theorem dX9_log_20 : decode cX9_log 20 = .ok (.iconst 2, 1) := by decide +kernel
theorem dX9_log_21 : decode cX9_log 21 = .ok (.invokestatic 104, 3) := by decide +kernel
theorem dX9_log_24 : decode cX9_log 24 = .ok (.ifCond .eq 31, 3) := by decide +kernel
theorem dX9_log_27 : decode cX9_log 27 = .ok (.aload_n 0, 1) := by decide +kernel
theorem dX9_log_28 : decode cX9_log 28 = .ok (.getfield 31, 3) := by decide +kernel
theorem dX9_log_31 : decode cX9_log 31 = .ok (.sipush 151, 3) := by decide +kernel
theorem dX9_log_34 : decode cX9_log 34 = .ok (.iconst 3, 1) := by decide +kernel
theorem dX9_log_35 : decode cX9_log 35 = .ok (.aload_n 0, 1) := by decide +kernel
theorem dX9_log_36 : decode cX9_log 36 = .ok (.getfield 31, 3) := by decide +kernel
theorem dX9_log_39 : decode cX9_log 39 = .ok (.sipush 150, 3) := by decide +kernel
theorem dX9_log_42 : decode cX9_log 42 = .ok (.iaload, 1) := by decide +kernel
theorem dX9_log_43 : decode cX9_log 43 = .ok (.iconst 1, 1) := by decide +kernel
theorem dX9_log_44 : decode cX9_log 44 = .ok (.isub, 1) := by decide +kernel
theorem dX9_log_45 : decode cX9_log 45 = .ok (.iload_n 1, 1) := by decide +kernel
theorem dX9_log_46 : decode cX9_log 46 = .ok (.isub, 1) := by decide +kernel
theorem dX9_log_47 : decode cX9_log 47 = .ok (.imul, 1) := by decide +kernel
theorem dX9_log_48 : decode cX9_log 48 = .ok (.iadd, 1) := by decide +kernel
theorem dX9_log_49 : decode cX9_log 49 = .ok (.iload_n 2, 1) := by decide +kernel
theorem dX9_log_50 : decode cX9_log 50 = .ok (.iadd, 1) := by decide +kernel
theorem dX9_log_51 : decode cX9_log 51 = .ok (.iaload, 1) := by decide +kernel
theorem dX9_log_52 : decode cX9_log 52 = .ok (.goto 6, 3) := by decide +kernel
theorem dX9_log_55 : decode cX9_log 55 = .ok (.ldc_w 338, 3) := by decide +kernel
theorem dX9_log_58 : decode cX9_log 58 = .ok (.ireturn, 1) := by decide +kernel
theorem dX9_would_0 : decode cX9_would 0 = .ok (.aload_n 0, 1) := by decide +kernel
theorem dX9_would_1 : decode cX9_would 1 = .ok (.iload_n 1, 1) := by decide +kernel
theorem dX9_would_2 : decode cX9_would 2 = .ok (.iload_n 2, 1) := by decide +kernel
theorem dX9_would_3 : decode cX9_would 3 = .ok (.iload_n 3, 1) := by decide +kernel
theorem dX9_would_4 : decode cX9_would 4 = .ok (.iload 4, 2) := by decide +kernel
theorem dX9_would_6 : decode cX9_would 6 = .ok (.invokevirtual 287, 3) := by decide +kernel
theorem dX9_would_9 : decode cX9_would 9 = .ok (.iconst (-1), 1) := by decide +kernel
theorem dX9_would_10 : decode cX9_would 10 = .ok (.if_icmp .ne 13, 3) := by decide +kernel
theorem dX9_would_13 : decode cX9_would 13 = .ok (.iload 5, 2) := by decide +kernel
theorem dX9_would_15 : decode cX9_would 15 = .ok (.iconst 0, 1) := by decide +kernel
theorem dX9_would_16 : decode cX9_would 16 = .ok (.iconst 1, 1) := by decide +kernel
theorem dX9_would_17 : decode cX9_would 17 = .ok (.invokestatic 104, 3) := by decide +kernel
theorem dX9_would_20 : decode cX9_would 20 = .ok (.ifCond .ne 5, 3) := by decide +kernel
theorem dX9_would_23 : decode cX9_would 23 = .ok (.iconst (-1), 1) := by decide +kernel
theorem dX9_would_24 : decode cX9_would 24 = .ok (.ireturn, 1) := by decide +kernel
theorem dX9_would_25 : decode cX9_would 25 = .ok (.aload_n 0, 1) := by decide +kernel
theorem dX9_would_26 : decode cX9_would 26 = .ok (.invokevirtual 403, 3) := by decide +kernel
theorem dX9_would_29 : decode cX9_would 29 = .ok (.aload_n 0, 1) := by decide +kernel
theorem dX9_would_30 : decode cX9_would 30 = .ok (.iload_n 1, 1) := by decide +kernel
theorem dX9_would_31 : decode cX9_would 31 = .ok (.iload_n 2, 1) := by decide +kernel
theorem dX9_would_32 : decode cX9_would 32 = .ok (.iload_n 3, 1) := by decide +kernel
theorem dX9_would_33 : decode cX9_would 33 = .ok (.iload 4, 2) := by decide +kernel
theorem dX9_would_35 : decode cX9_would 35 = .ok (.invokevirtual 201, 3) := by decide +kernel
theorem dX9_would_38 : decode cX9_would 38 = .ok (.pop, 1) := by decide +kernel
theorem dX9_would_39 : decode cX9_would 39 = .ok (.aload_n 0, 1) := by decide +kernel
theorem dX9_would_40 : decode cX9_would 40 = .ok (.invokevirtual 296, 3) := by decide +kernel
theorem dX9_would_43 : decode cX9_would 43 = .ok (.aload_n 0, 1) := by decide +kernel
theorem dX9_would_44 : decode cX9_would 44 = .ok (.invokevirtual 406, 3) := by decide +kernel
theorem dX9_would_47 : decode cX9_would 47 = .ok (.iload 5, 2) := by decide +kernel
theorem dX9_would_49 : decode cX9_would 49 = .ok (.ifCond .ne 10, 3) := by decide +kernel
theorem dX9_would_52 : decode cX9_would 52 = .ok (.aload_n 0, 1) := by decide +kernel
theorem dX9_would_53 : decode cX9_would 53 = .ok (.getfield 247, 3) := by decide +kernel
theorem dX9_would_56 : decode cX9_would 56 = .ok (.goto 7, 3) := by decide +kernel
theorem dX9_would_59 : decode cX9_would 59 = .ok (.aload_n 0, 1) := by decide +kernel
theorem dX9_would_60 : decode cX9_would 60 = .ok (.getfield 244, 3) := by decide +kernel
theorem dX9_would_63 : decode cX9_would 63 = .ok (.ireturn, 1) := by decide +kernel
theorem dX9_step_0 : decode cX9_step 0 = .ok (.aload_n 0, 1) := by decide +kernel
theorem dX9_step_1 : decode cX9_step 1 = .ok (.iload_n 1, 1) := by decide +kernel
theorem dX9_step_2 : decode cX9_step 2 = .ok (.invokevirtual 409, 3) := by decide +kernel
theorem dX9_step_5 : decode cX9_step 5 = .ok (.ifCond .eq 46, 3) := by decide +kernel
theorem dX9_step_8 : decode cX9_step 8 = .ok (.iload_n 2, 1) := by decide +kernel
theorem dX9_step_9 : decode cX9_step 9 = .ok (.iconst 0, 1) := by decide +kernel
theorem dX9_step_10 : decode cX9_step 10 = .ok (.aload_n 0, 1) := by decide +kernel
theorem dX9_step_11 : decode cX9_step 11 = .ok (.getfield 28, 3) := by decide +kernel
theorem dX9_step_14 : decode cX9_step 14 = .ok (.iload_n 1, 1) := by decide +kernel
theorem dX9_step_15 : decode cX9_step 15 = .ok (.iaload, 1) := by decide +kernel
theorem dX9_step_16 : decode cX9_step 16 = .ok (.iconst 1, 1) := by decide +kernel
theorem dX9_step_17 : decode cX9_step 17 = .ok (.isub, 1) := by decide +kernel
theorem dX9_step_18 : decode cX9_step 18 = .ok (.invokestatic 104, 3) := by decide +kernel
theorem dX9_step_21 : decode cX9_step 21 = .ok (.ifCond .eq 30, 3) := by decide +kernel
theorem dX9_step_24 : decode cX9_step 24 = .ok (.iload_n 3, 1) := by decide +kernel
theorem dX9_step_25 : decode cX9_step 25 = .ok (.iconst 0, 1) := by decide +kernel
theorem dX9_step_26 : decode cX9_step 26 = .ok (.iconst 4, 1) := by decide +kernel
theorem dX9_step_27 : decode cX9_step 27 = .ok (.invokestatic 104, 3) := by decide +kernel
theorem dX9_step_30 : decode cX9_step 30 = .ok (.ifCond .eq 21, 3) := by decide +kernel
theorem dX9_step_33 : decode cX9_step 33 = .ok (.aload_n 0, 1) := by decide +kernel
theorem dX9_step_34 : decode cX9_step 34 = .ok (.getfield 25, 3) := by decide +kernel
theorem dX9_step_37 : decode cX9_step 37 = .ok (.iconst 5, 1) := by decide +kernel
theorem dX9_step_38 : decode cX9_step 38 = .ok (.bipush 12, 2) := by decide +kernel
theorem dX9_step_40 : decode cX9_step 40 = .ok (.iload_n 1, 1) := by decide +kernel
theorem dX9_step_41 : decode cX9_step 41 = .ok (.imul, 1) := by decide +kernel
theorem dX9_step_42 : decode cX9_step 42 = .ok (.iload_n 2, 1) := by decide +kernel
theorem dX9_step_43 : decode cX9_step 43 = .ok (.iadd, 1) := by decide +kernel
theorem dX9_step_44 : decode cX9_step 44 = .ok (.imul, 1) := by decide +kernel
theorem dX9_step_45 : decode cX9_step 45 = .ok (.iload_n 3, 1) := by decide +kernel
theorem dX9_step_46 : decode cX9_step 46 = .ok (.iadd, 1) := by decide +kernel
theorem dX9_step_47 : decode cX9_step 47 = .ok (.iaload, 1) := by decide +kernel
theorem dX9_step_48 : decode cX9_step 48 = .ok (.goto 6, 3) := by decide +kernel
theorem dX9_step_51 : decode cX9_step 51 = .ok (.ldc_w 338, 3) := by decide +kernel
theorem dX9_step_54 : decode cX9_step 54 = .ok (.ireturn, 1) := by decide +kernel
theorem dX9_isScript_0 : decode cX9_isScript 0 = .ok (.iload_n 1, 1) := by decide +kernel
theorem dX9_isScript_1 : decode cX9_isScript 1 = .ok (.iconst 0, 1) := by decide +kernel
theorem dX9_isScript_2 : decode cX9_isScript 2 = .ok (.aload_n 0, 1) := by decide +kernel
theorem dX9_isScript_3 : decode cX9_isScript 3 = .ok (.getfield 214, 3) := by decide +kernel
theorem dX9_isScript_6 : decode cX9_isScript 6 = .ok (.iconst 1, 1) := by decide +kernel
theorem dX9_isScript_7 : decode cX9_isScript 7 = .ok (.isub, 1) := by decide +kernel
theorem dX9_isScript_8 : decode cX9_isScript 8 = .ok (.invokestatic 104, 3) := by decide +kernel
theorem dX9_isScript_11 : decode cX9_isScript 11 = .ok (.ireturn, 1) := by decide +kernel
theorem dX9_run_0 : decode cX9_run 0 = .ok (.aload_n 0, 1) := by decide +kernel
theorem dX9_run_1 : decode cX9_run 1 = .ok (.iload_n 1, 1) := by decide +kernel
theorem dX9_run_2 : decode cX9_run 2 = .ok (.invokevirtual 409, 3) := by decide +kernel
theorem dX9_run_5 : decode cX9_run 5 = .ok (.ifCond .eq 19, 3) := by decide +kernel
theorem dX9_run_8 : decode cX9_run 8 = .ok (.aload_n 0, 1) := by decide +kernel
theorem dX9_run_9 : decode cX9_run 9 = .ok (.invokevirtual 277, 3) := by decide +kernel
theorem dX9_run_12 : decode cX9_run 12 = .ok (.ifCond .eq 12, 3) := by decide +kernel
theorem dX9_run_15 : decode cX9_run 15 = .ok (.iload_n 2, 1) := by decide +kernel
theorem dX9_run_16 : decode cX9_run 16 = .ok (.iconst 0, 1) := by decide +kernel
theorem dX9_run_17 : decode cX9_run 17 = .ok (.iconst 1, 1) := by decide +kernel
theorem dX9_run_18 : decode cX9_run 18 = .ok (.invokestatic 104, 3) := by decide +kernel
theorem dX9_run_21 : decode cX9_run 21 = .ok (.ifCond .ne 7, 3) := by decide +kernel
theorem dX9_run_24 : decode cX9_run 24 = .ok (.ldc_w 338, 3) := by decide +kernel
theorem dX9_run_27 : decode cX9_run 27 = .ok (.ireturn, 1) := by decide +kernel
theorem dX9_run_28 : decode cX9_run 28 = .ok (.aload_n 0, 1) := by decide +kernel
theorem dX9_run_29 : decode cX9_run 29 = .ok (.invokevirtual 403, 3) := by decide +kernel
theorem dX9_run_32 : decode cX9_run 32 = .ok (.aload_n 0, 1) := by decide +kernel
theorem dX9_run_33 : decode cX9_run 33 = .ok (.iload_n 1, 1) := by decide +kernel
theorem dX9_run_34 : decode cX9_run 34 = .ok (.iconst 0, 1) := by decide +kernel
theorem dX9_run_35 : decode cX9_run 35 = .ok (.invokevirtual 412, 3) := by decide +kernel
theorem dX9_run_38 : decode cX9_run 38 = .ok (.istore_n 3, 1) := by decide +kernel
theorem dX9_run_39 : decode cX9_run 39 = .ok (.aload_n 0, 1) := by decide +kernel
theorem dX9_run_40 : decode cX9_run 40 = .ok (.invokevirtual 299, 3) := by decide +kernel
theorem dX9_run_43 : decode cX9_run 43 = .ok (.istore 4, 2) := by decide +kernel
theorem dX9_run_45 : decode cX9_run 45 = .ok (.aload_n 0, 1) := by decide +kernel
theorem dX9_run_46 : decode cX9_run 46 = .ok (.invokevirtual 406, 3) := by decide +kernel
theorem dX9_run_49 : decode cX9_run 49 = .ok (.iload_n 2, 1) := by decide +kernel
theorem dX9_run_50 : decode cX9_run 50 = .ok (.iconst 1, 1) := by decide +kernel
theorem dX9_run_51 : decode cX9_run 51 = .ok (.if_icmp .ne 8, 3) := by decide +kernel
theorem dX9_run_54 : decode cX9_run 54 = .ok (.iload 4, 2) := by decide +kernel
theorem dX9_run_56 : decode cX9_run 56 = .ok (.goto 18, 3) := by decide +kernel
theorem dX9_run_59 : decode cX9_run 59 = .ok (.iload_n 3, 1) := by decide +kernel
theorem dX9_run_60 : decode cX9_run 60 = .ok (.aload_n 0, 1) := by decide +kernel
theorem dX9_run_61 : decode cX9_run 61 = .ok (.getfield 28, 3) := by decide +kernel
theorem dX9_run_64 : decode cX9_run 64 = .ok (.iload_n 1, 1) := by decide +kernel
theorem dX9_run_65 : decode cX9_run 65 = .ok (.iaload, 1) := by decide +kernel
theorem dX9_run_66 : decode cX9_run 66 = .ok (.if_icmp .ne 7, 3) := by decide +kernel
theorem dX9_run_69 : decode cX9_run 69 = .ok (.iconst (-1), 1) := by decide +kernel
theorem dX9_run_70 : decode cX9_run 70 = .ok (.goto 4, 3) := by decide +kernel
theorem dX9_run_73 : decode cX9_run 73 = .ok (.iload_n 3, 1) := by decide +kernel
theorem dX9_run_74 : decode cX9_run 74 = .ok (.ireturn, 1) := by decide +kernel
theorem dX9_perform_0 : decode cX9_perform 0 = .ok (.aload_n 0, 1) := by decide +kernel
theorem dX9_perform_1 : decode cX9_perform 1 = .ok (.iload_n 1, 1) := by decide +kernel
theorem dX9_perform_2 : decode cX9_perform 2 = .ok (.invokevirtual 409, 3) := by decide +kernel
theorem dX9_perform_5 : decode cX9_perform 5 = .ok (.ifCond .eq 19, 3) := by decide +kernel
theorem dX9_perform_8 : decode cX9_perform 8 = .ok (.aload_n 0, 1) := by decide +kernel
theorem dX9_perform_9 : decode cX9_perform 9 = .ok (.invokevirtual 277, 3) := by decide +kernel
theorem dX9_perform_12 : decode cX9_perform 12 = .ok (.ifCond .eq 12, 3) := by decide +kernel
theorem dX9_perform_15 : decode cX9_perform 15 = .ok (.aload_n 0, 1) := by decide +kernel
theorem dX9_perform_16 : decode cX9_perform 16 = .ok (.iload_n 1, 1) := by decide +kernel
theorem dX9_perform_17 : decode cX9_perform 17 = .ok (.iconst 1, 1) := by decide +kernel
theorem dX9_perform_18 : decode cX9_perform 18 = .ok (.invokevirtual 412, 3) := by decide +kernel
theorem dX9_perform_21 : decode cX9_perform 21 = .ok (.goto 4, 3) := by decide +kernel
theorem dX9_perform_24 : decode cX9_perform 24 = .ok (.iconst (-1), 1) := by decide +kernel
theorem dX9_perform_25 : decode cX9_perform 25 = .ok (.ireturn, 1) := by decide +kernel
theorem dX9_most_0 : decode cX9_most 0 = .ok (.aload_n 0, 1) := by decide +kernel
theorem dX9_most_1 : decode cX9_most 1 = .ok (.invokevirtual 277, 3) := by decide +kernel
theorem dX9_most_4 : decode cX9_most 4 = .ok (.ifCond .eq 13, 3) := by decide +kernel
theorem dX9_most_7 : decode cX9_most 7 = .ok (.iload_n 1, 1) := by decide +kernel
theorem dX9_most_8 : decode cX9_most 8 = .ok (.iconst 0, 1) := by decide +kernel
theorem dX9_most_9 : decode cX9_most 9 = .ok (.bipush 6, 2) := by decide +kernel
theorem dX9_most_11 : decode cX9_most 11 = .ok (.invokestatic 104, 3) := by decide +kernel
theorem dX9_most_14 : decode cX9_most 14 = .ok (.ifCond .ne 7, 3) := by decide +kernel
theorem dX9_most_17 : decode cX9_most 17 = .ok (.ldc_w 338, 3) := by decide +kernel
theorem dX9_most_20 : decode cX9_most 20 = .ok (.ireturn, 1) := by decide +kernel
theorem dX9_most_21 : decode cX9_most 21 = .ok (.aload_n 0, 1) := by decide +kernel
theorem dX9_most_22 : decode cX9_most 22 = .ok (.invokevirtual 296, 3) := by decide +kernel
theorem dX9_most_25 : decode cX9_most 25 = .ok (.iload_n 1, 1) := by decide +kernel
theorem dX9_most_26 : decode cX9_most 26 = .ok (.tableswitch 78 0 5 #[38, 43, 43, 58, 63, 68], 38) := by decide +kernel
theorem dX9_most_64 : decode cX9_most 64 = .ok (.aload_n 0, 1) := by decide +kernel
theorem dX9_most_65 : decode cX9_most 65 = .ok (.invokevirtual 419, 3) := by decide +kernel
theorem dX9_most_68 : decode cX9_most 68 = .ok (.ireturn, 1) := by decide +kernel
theorem dX9_most_69 : decode cX9_most 69 = .ok (.aload_n 0, 1) := by decide +kernel
theorem dX9_most_70 : decode cX9_most 70 = .ok (.iload_n 1, 1) := by decide +kernel
theorem dX9_most_71 : decode cX9_most 71 = .ok (.iconst 2, 1) := by decide +kernel
theorem dX9_most_72 : decode cX9_most 72 = .ok (.if_icmp .ne 7, 3) := by decide +kernel
theorem dX9_most_75 : decode cX9_most 75 = .ok (.iconst 1, 1) := by decide +kernel
theorem dX9_most_76 : decode cX9_most 76 = .ok (.goto 4, 3) := by decide +kernel
theorem dX9_most_79 : decode cX9_most 79 = .ok (.iconst 0, 1) := by decide +kernel
theorem dX9_most_80 : decode cX9_most 80 = .ok (.invokevirtual 422, 3) := by decide +kernel
theorem dX9_most_83 : decode cX9_most 83 = .ok (.ireturn, 1) := by decide +kernel
theorem dX9_most_84 : decode cX9_most 84 = .ok (.aload_n 0, 1) := by decide +kernel
theorem dX9_most_85 : decode cX9_most 85 = .ok (.invokevirtual 426, 3) := by decide +kernel
theorem dX9_most_88 : decode cX9_most 88 = .ok (.ireturn, 1) := by decide +kernel
theorem dX9_most_89 : decode cX9_most 89 = .ok (.aload_n 0, 1) := by decide +kernel
theorem dX9_most_90 : decode cX9_most 90 = .ok (.invokevirtual 429, 3) := by decide +kernel
theorem dX9_most_93 : decode cX9_most 93 = .ok (.ireturn, 1) := by decide +kernel
theorem dX9_most_94 : decode cX9_most 94 = .ok (.aload_n 0, 1) := by decide +kernel
theorem dX9_most_95 : decode cX9_most 95 = .ok (.iconst 0, 1) := by decide +kernel
theorem dX9_most_96 : decode cX9_most 96 = .ok (.invokevirtual 274, 3) := by decide +kernel
theorem dX9_most_99 : decode cX9_most 99 = .ok (.aload_n 0, 1) := by decide +kernel
theorem dX9_most_100 : decode cX9_most 100 = .ok (.getfield 244, 3) := by decide +kernel
theorem dX9_most_103 : decode cX9_most 103 = .ok (.ireturn, 1) := by decide +kernel
theorem dX9_most_104 : decode cX9_most 104 = .ok (.aload_n 0, 1) := by decide +kernel
theorem dX9_most_105 : decode cX9_most 105 = .ok (.invokevirtual 357, 3) := by decide +kernel
theorem dX9_most_108 : decode cX9_most 108 = .ok (.aload_n 0, 1) := by decide +kernel
theorem dX9_most_109 : decode cX9_most 109 = .ok (.getfield 351, 3) := by decide +kernel
theorem dX9_most_112 : decode cX9_most 112 = .ok (.ireturn, 1) := by decide +kernel
theorem dX9_image_0 : decode cX9_image 0 = .ok (.aload_n 0, 1) := by decide +kernel
theorem dX9_image_1 : decode cX9_image 1 = .ok (.invokevirtual 277, 3) := by decide +kernel
theorem dX9_image_4 : decode cX9_image 4 = .ok (.ifCond .ne 5, 3) := by decide +kernel
theorem dX9_image_7 : decode cX9_image 7 = .ok (.iconst (-1), 1) := by decide +kernel
theorem dX9_image_8 : decode cX9_image 8 = .ok (.ireturn, 1) := by decide +kernel
theorem dX9_image_9 : decode cX9_image 9 = .ok (.iconst 0, 1) := by decide +kernel
theorem dX9_image_10 : decode cX9_image 10 = .ok (.istore_n 1, 1) := by decide +kernel
theorem dX9_image_11 : decode cX9_image 11 = .ok (.iload_n 1, 1) := by decide +kernel
theorem dX9_image_12 : decode cX9_image 12 = .ok (.sipush 331, 3) := by decide +kernel
theorem dX9_image_15 : decode cX9_image 15 = .ok (.if_icmp .ge 21, 3) := by decide +kernel
theorem dX9_image_18 : decode cX9_image 18 = .ok (.aload_n 0, 1) := by decide +kernel
theorem dX9_image_19 : decode cX9_image 19 = .ok (.getfield 90, 3) := by decide +kernel
theorem dX9_image_22 : decode cX9_image 22 = .ok (.iload_n 1, 1) := by decide +kernel
theorem dX9_image_23 : decode cX9_image 23 = .ok (.aload_n 0, 1) := by decide +kernel
theorem dX9_image_24 : decode cX9_image 24 = .ok (.getfield 31, 3) := by decide +kernel
theorem dX9_image_27 : decode cX9_image 27 = .ok (.iload_n 1, 1) := by decide +kernel
theorem dX9_image_28 : decode cX9_image 28 = .ok (.iaload, 1) := by decide +kernel
theorem dX9_image_29 : decode cX9_image 29 = .ok (.iastore, 1) := by decide +kernel
theorem dX9_image_30 : decode cX9_image 30 = .ok (.iinc 1 1, 3) := by decide +kernel
theorem dX9_image_33 : decode cX9_image 33 = .ok (.goto (-22), 3) := by decide +kernel
theorem dX9_image_36 : decode cX9_image 36 = .ok (.aload_n 0, 1) := by decide +kernel
theorem dX9_image_37 : decode cX9_image 37 = .ok (.iconst 1, 1) := by decide +kernel
theorem dX9_image_38 : decode cX9_image 38 = .ok (.putfield 207, 3) := by decide +kernel
theorem dX9_image_41 : decode cX9_image 41 = .ok (.aload_n 0, 1) := by decide +kernel
theorem dX9_image_42 : decode cX9_image 42 = .ok (.invokevirtual 299, 3) := by decide +kernel
theorem dX9_image_45 : decode cX9_image 45 = .ok (.ireturn, 1) := by decide +kernel
theorem dX9_back_0 : decode cX9_back 0 = .ok (.aload_n 0, 1) := by decide +kernel
theorem dX9_back_1 : decode cX9_back 1 = .ok (.getfield 207, 3) := by decide +kernel
theorem dX9_back_4 : decode cX9_back 4 = .ok (.ifCond .ne 5, 3) := by decide +kernel
theorem dX9_back_7 : decode cX9_back 7 = .ok (.iconst (-1), 1) := by decide +kernel
theorem dX9_back_8 : decode cX9_back 8 = .ok (.ireturn, 1) := by decide +kernel
theorem dX9_back_9 : decode cX9_back 9 = .ok (.iconst 0, 1) := by decide +kernel
theorem dX9_back_10 : decode cX9_back 10 = .ok (.istore_n 1, 1) := by decide +kernel
theorem dX9_back_11 : decode cX9_back 11 = .ok (.iload_n 1, 1) := by decide +kernel
theorem dX9_back_12 : decode cX9_back 12 = .ok (.sipush 331, 3) := by decide +kernel
theorem dX9_back_15 : decode cX9_back 15 = .ok (.if_icmp .ge 21, 3) := by decide +kernel
theorem dX9_back_18 : decode cX9_back 18 = .ok (.aload_n 0, 1) := by decide +kernel
theorem dX9_back_19 : decode cX9_back 19 = .ok (.getfield 31, 3) := by decide +kernel
theorem dX9_back_22 : decode cX9_back 22 = .ok (.iload_n 1, 1) := by decide +kernel
theorem dX9_back_23 : decode cX9_back 23 = .ok (.aload_n 0, 1) := by decide +kernel
theorem dX9_back_24 : decode cX9_back 24 = .ok (.getfield 90, 3) := by decide +kernel
theorem dX9_back_27 : decode cX9_back 27 = .ok (.iload_n 1, 1) := by decide +kernel
theorem dX9_back_28 : decode cX9_back 28 = .ok (.iaload, 1) := by decide +kernel
theorem dX9_back_29 : decode cX9_back 29 = .ok (.iastore, 1) := by decide +kernel
theorem dX9_back_30 : decode cX9_back 30 = .ok (.iinc 1 1, 3) := by decide +kernel
theorem dX9_back_33 : decode cX9_back 33 = .ok (.goto (-22), 3) := by decide +kernel
theorem dX9_back_36 : decode cX9_back 36 = .ok (.aload_n 0, 1) := by decide +kernel
theorem dX9_back_37 : decode cX9_back 37 = .ok (.iconst 0, 1) := by decide +kernel
theorem dX9_back_38 : decode cX9_back 38 = .ok (.putfield 204, 3) := by decide +kernel
theorem dX9_back_41 : decode cX9_back 41 = .ok (.aload_n 0, 1) := by decide +kernel
theorem dX9_back_42 : decode cX9_back 42 = .ok (.invokevirtual 299, 3) := by decide +kernel
theorem dX9_back_45 : decode cX9_back 45 = .ok (.ireturn, 1) := by decide +kernel
theorem dX9_count_0 : decode cX9_count 0 = .ok (.iload_n 1, 1) := by decide +kernel
theorem dX9_count_1 : decode cX9_count 1 = .ok (.tableswitch 64 0 4 #[35, 40, 45, 50, 59], 35) := by decide +kernel
theorem dX9_count_36 : decode cX9_count 36 = .ok (.aload_n 0, 1) := by decide +kernel
theorem dX9_count_37 : decode cX9_count 37 = .ok (.getfield 173, 3) := by decide +kernel
theorem dX9_count_40 : decode cX9_count 40 = .ok (.ireturn, 1) := by decide +kernel
theorem dX9_count_41 : decode cX9_count 41 = .ok (.aload_n 0, 1) := by decide +kernel
theorem dX9_count_42 : decode cX9_count 42 = .ok (.getfield 214, 3) := by decide +kernel
theorem dX9_count_45 : decode cX9_count 45 = .ok (.ireturn, 1) := by decide +kernel
theorem dX9_count_46 : decode cX9_count 46 = .ok (.aload_n 0, 1) := by decide +kernel
theorem dX9_count_47 : decode cX9_count 47 = .ok (.getfield 101, 3) := by decide +kernel
theorem dX9_count_50 : decode cX9_count 50 = .ok (.ireturn, 1) := by decide +kernel
theorem dX9_count_51 : decode cX9_count 51 = .ok (.aload_n 0, 1) := by decide +kernel
theorem dX9_count_52 : decode cX9_count 52 = .ok (.getfield 31, 3) := by decide +kernel
theorem dX9_count_55 : decode cX9_count 55 = .ok (.sipush 150, 3) := by decide +kernel
theorem dX9_count_58 : decode cX9_count 58 = .ok (.iaload, 1) := by decide +kernel
theorem dX9_count_59 : decode cX9_count 59 = .ok (.ireturn, 1) := by decide +kernel
theorem dX9_count_60 : decode cX9_count 60 = .ok (.aload_n 0, 1) := by decide +kernel
theorem dX9_count_61 : decode cX9_count 61 = .ok (.getfield 204, 3) := by decide +kernel
theorem dX9_count_64 : decode cX9_count 64 = .ok (.ireturn, 1) := by decide +kernel
theorem dX9_count_65 : decode cX9_count 65 = .ok (.ldc_w 338, 3) := by decide +kernel
theorem dX9_count_68 : decode cX9_count 68 = .ok (.ireturn, 1) := by decide +kernel
theorem mX4_clear : gMv yX4_clear cX4_clear 1 none RX4 0 := ⟨q281, q282, q9, q283, rfl, by decide, by decide, by decide +kernel⟩
theorem mX6_peek : gMv yX6_peek cX6_peek 1 (some .int) RX6 0 := ⟨q241, q1348, q2, q242, rfl, by decide, by decide, by decide +kernel⟩
theorem mX6_isStep : gMv yX6_isStep cX6_isStep 4 (some .boolean) RX6 1 := ⟨q285, q1351, q2, q286, rfl, by decide, by decide, by decide +kernel⟩
theorem mX6_readScript : gMv yX6_readScript cX6_readScript 4 (some .int) RX6 1 := ⟨q277, q278, q2, q279, rfl, by decide, by decide, by decide +kernel⟩
theorem mJ7_fill_53178 : gMs yJ7_fill_53178 cJ7_fill_53178 4 none 2 := ⟨q231, q11, q232, by decide, by decide, by decide +kernel⟩
theorem mX5_clear : gMv yX5_clear cX5_clear 1 none RX5 0 := ⟨q227, q228, q3, q229, rfl, by decide, by decide, by decide +kernel⟩
theorem mX5_open : gMv yX5_open cX5_open 1 none RX5 0 := ⟨q237, q238, q3, q239, rfl, by decide, by decide, by decide +kernel⟩
theorem mX6_isClause : gMv yX6_isClause cX6_isClause 5 (some .boolean) RX6 1 := ⟨q234, q1347, q2, q235, rfl, by decide, by decide, by decide +kernel⟩
theorem mX6_readTables : gMv yX6_readTables cX6_readTables 4 (some .int) RX6 1 := ⟨q223, q224, q2, q225, rfl, by decide, by decide, by decide +kernel⟩
theorem mX8_textOfScript : gMv yX8_textOfScript cX8_textOfScript 1 (some .int) RX8 0 := ⟨q392, q1367, q1, q393, rfl, by decide, by decide, by decide +kernel⟩
theorem mX8_textOfTables : gMv yX8_textOfTables cX8_textOfTables 1 (some .int) RX8 0 := ⟨q312, q1354, q1, q313, rfl, by decide, by decide, by decide +kernel⟩
theorem mX5_isTable : gMv yX5_isTable cX5_isTable 2 (some .boolean) RX5 1 := ⟨q248, q249, q3, q250, rfl, by decide, by decide, by decide +kernel⟩
theorem mX5_asked : gMv yX5_asked cX5_asked 3 (some .int) RX5 0 := ⟨q336, q337, q3, q338, rfl, by decide, by decide, by decide +kernel⟩
theorem mX8_isAsked : gMv yX8_isAsked cX8_isAsked 2 (some .boolean) RX8 1 := ⟨q423, q1368, q1, q424, rfl, by decide, by decide, by decide +kernel⟩
theorem mX5_refusal : gMv yX5_refusal cX5_refusal 7 (some .int) RX5 5 := ⟨q585, q586, q3, q587, rfl, by decide, by decide, by decide +kernel⟩
theorem mX8_attempt : gMv yX8_attempt cX8_attempt 8 (some .int) RX8 5 := ⟨q582, q1370, q1, q583, rfl, by decide, by decide, by decide +kernel⟩
theorem mX8_isDone : gMv yX8_isDone cX8_isDone 7 (some .boolean) RX8 5 := ⟨q579, q1369, q1, q580, rfl, by decide, by decide, by decide +kernel⟩
theorem mX2_shown : gMv yX2_shown cX2_shown 1 (some .int) RX2 0 := ⟨q679, q680, q7, q681, rfl, by decide, by decide, by decide +kernel⟩
theorem mX8_isScript : gMv yX8_isScript cX8_isScript 2 (some .boolean) RX8 1 := ⟨q695, q1375, q1, q696, rfl, by decide, by decide, by decide +kernel⟩
theorem mX9_in : gMs yX9_in cX9_in 3 (some .boolean) 3 := ⟨q924, q10, q925, by decide, by decide, by decide +kernel⟩
theorem mX9_begins : gMv yX9_begins cX9_begins 1 none RX9 0 := ⟨q934, q1382, q10, q935, rfl, by decide, by decide, by decide +kernel⟩
theorem mX9_here : gMv yX9_here cX9_here 1 (some .int) RX9 0 := ⟨q946, q1386, q10, q947, rfl, by decide, by decide, by decide +kernel⟩
theorem mX9_ahead : gMv yX9_ahead cX9_ahead 1 (some .int) RX9 0 := ⟨q943, q1385, q10, q944, rfl, by decide, by decide, by decide +kernel⟩
theorem mX9_bad : gMv yX9_bad cX9_bad 1 none RX9 0 := ⟨q952, q1388, q10, q953, rfl, by decide, by decide, by decide +kernel⟩
theorem mX9_readStep : gMv yX9_readStep cX9_readStep 6 none RX9 1 := ⟨q976, q1394, q10, q977, rfl, by decide, by decide, by decide +kernel⟩
theorem mX9_ends : gMv yX9_ends cX9_ends 1 (some .int) RX9 0 := ⟨q970, q1392, q10, q971, rfl, by decide, by decide, by decide +kernel⟩
theorem mX9_readScript : gMv yX9_readScript cX9_readScript 3 (some .int) RX9 1 := ⟨q973, q1393, q10, q974, rfl, by decide, by decide, by decide +kernel⟩
theorem mX9_isLetter : gMv yX9_isLetter cX9_isLetter 2 (some .boolean) RX9 1 := ⟨q949, q1387, q10, q950, rfl, by decide, by decide, by decide +kernel⟩
theorem mX9_must : gMv yX9_must cX9_must 2 none RX9 1 := ⟨q958, q1389, q10, q959, rfl, by decide, by decide, by decide +kernel⟩
theorem mX9_readHead : gMv yX9_readHead cX9_readHead 4 none RX9 1 := ⟨q940, q1384, q10, q941, rfl, by decide, by decide, by decide +kernel⟩
theorem mX9_readTable : gMv yX9_readTable cX9_readTable 3 none RX9 1 := ⟨q937, q1383, q10, q938, rfl, by decide, by decide, by decide +kernel⟩
theorem mX9_readAll : gMv yX9_readAll cX9_readAll 2 (some .int) RX9 0 := ⟨q931, q1381, q10, q932, rfl, by decide, by decide, by decide +kernel⟩
theorem mX9_areTables : gMv yX9_areTables cX9_areTables 1 (some .boolean) RX9 0 := ⟨q1029, q1408, q10, q1030, rfl, by decide, by decide, by decide +kernel⟩
theorem mX9_isTable : gMv yX9_isTable cX9_isTable 2 (some .boolean) RX9 1 := ⟨q1020, q1405, q10, q1021, rfl, by decide, by decide, by decide +kernel⟩
theorem mX9_isAsked : gMv yX9_isAsked cX9_isAsked 2 (some .boolean) RX9 1 := ⟨q1168, q1437, q10, q1169, rfl, by decide, by decide, by decide +kernel⟩
theorem mX9_hasMean : gMv yX9_hasMean cX9_hasMean 2 (some .boolean) RX9 1 := ⟨q1250, q1447, q10, q1251, rfl, by decide, by decide, by decide +kernel⟩
theorem mX9_whyPut : gMv yX9_whyPut cX9_whyPut 5 (some .int) RX9 4 := ⟨q1017, q1404, q10, q1018, rfl, by decide, by decide, by decide +kernel⟩
theorem mX9_whyNot : gMv yX9_whyNot cX9_whyNot 6 (some .int) RX9 5 := ⟨q1014, q1403, q10, q1015, rfl, by decide, by decide, by decide +kernel⟩
theorem mX9_hand : gMv yX9_hand cX9_hand 7 (some .int) RX9 5 := ⟨q1011, q1402, q10, q1012, rfl, by decide, by decide, by decide +kernel⟩
theorem mX9_whyTake : gMv yX9_whyTake cX9_whyTake 5 (some .int) RX9 4 := ⟨q1026, q1407, q10, q1027, rfl, by decide, by decide, by decide +kernel⟩
theorem mX9_isScript : gMv yX9_isScript cX9_isScript 2 (some .boolean) RX9 1 := ⟨q1301, q1451, q10, q1302, rfl, by decide, by decide, by decide +kernel⟩
set_option maxRecDepth 100000 in
set_option maxHeartbeats 4000000 in
theorem kX8_end (l : Launch) (E : gE) (hE : gDist sh E) (a1 : Int32) : Ct l sh E yX8_end cX8_end 2 (some .boolean) (gR 0) [.ref (E.2.1 0), .int a1] g0 h0 (fun r I1 J1 => r = some (.int (if a1 = 0 then 1 else 0)) ∧ Z9 I1 J1) := by
  refine Ct.of "LeapJoin" rfl hE (by decide) (Nat.le_of_ble_eq_true rfl) (fun z F e hl => ?_)
  subst hl
  refine g_iload_n F 1 dX8_end_0 rfl rfl ?_
  refine g_if_lt (tgt := 15) F dX8_end_1 (by decide) (fun c1 => ?_) (fun c1f => ?_)
  · refine g_iconst (v := 0) F dX8_end_15 (by decide) ?_
    exact g_zret F rfl e dX8_end_16 ⟨(congrArg (fun x => some (Value.int x)) (if_neg (by simp only [g_lt, g_le, g_eq, g_l0, g_l1, g_l2, g_l3, g_l4, g_l5, g_lm1, g_l400, g_l40, g_l15] at c1 ⊢; omega)).symm), Z9_0⟩
  · refine g_iload_n F 1 dX8_end_4 rfl rfl ?_
    refine g_aload_n F 0 dX8_end_5 rfl rfl ?_
    refine g_getr (j := 0) (nn := 1) F s0 rfl rfl uX8 (by decide) q169 dX8_end_6 ?_
    refine g_geti (j := 0) (v := 0) F s1 rfl rfl uX6 (by decide) q36 rfl dX8_end_9 ?_
    refine g_icmp_le (tgt := 17) F dX8_end_12 (by decide) (fun c2 => ?_) (fun c2f => ?_)
    · refine g_aload_n F 0 dX8_end_17 rfl rfl ?_
      refine g_getr (j := 0) (nn := 1) F s0 rfl rfl uX8 (by decide) q169 dX8_end_18 ?_
      refine g_iload_n F 1 dX8_end_21 rfl rfl ?_
      refine g_puti (j := 0) F s1 rfl rfl uX6 (by decide) q36 tyX6_ok nmX6 rfl rfl rfl dX8_end_22 ?_
      refine g_iconst (v := 1) F dX8_end_25 (by decide) ?_
      exact g_zret F rfl e dX8_end_26 ⟨(congrArg (fun x => some (Value.int x)) (if_pos (by simp only [g_lt, g_le, g_eq, g_l0, g_l1, g_l2, g_l3, g_l4, g_l5, g_lm1, g_l400, g_l40, g_l15] at c1f c2 ⊢; omega)).symm), (Z9_up (by decide) Z9_0)⟩
    · refine g_iconst (v := 0) F dX8_end_15 (by decide) ?_
      exact g_zret F rfl e dX8_end_16 ⟨(congrArg (fun x => some (Value.int x)) (if_neg (by simp only [g_lt, g_le, g_eq, g_l0, g_l1, g_l2, g_l3, g_l4, g_l5, g_lm1, g_l400, g_l40, g_l15] at c1f c2f ⊢; omega)).symm), Z9_0⟩
set_option maxRecDepth 100000 in
set_option maxHeartbeats 4000000 in
theorem kX4_clear (l : Launch) (E : gE) (hE : gDist sh E) : Ct l sh E yX4_clear cX4_clear 1 none (gR 0) [.ref (E.2.1 51)] g0 h0 (fun r I1 J1 => r = none ∧ I1 = g0 ∧ J1 = h0) := by
  refine Ct.of "LeapJoin$Script" rfl hE (by decide) (Nat.le_of_ble_eq_true rfl) (fun z F e hl => ?_)
  subst hl
  refine g_aload_n F 0 dX4_clear_0 rfl rfl ?_
  refine g_iconst (v := 0) F dX4_clear_1 (by decide) ?_
  refine g_puti (j := 0) F s51 rfl rfl uX4 (by decide) q164 tyX4_ok nmX4 rfl rfl rfl dX4_clear_2 ?_
  refine g_mi (g_up_same rfl) ?_
  exact g_vret F e dX4_clear_5 ⟨rfl, rfl, rfl⟩
set_option maxRecDepth 100000 in
set_option maxHeartbeats 4000000 in
theorem kX6_peek (l : Launch) (E : gE) (hE : gDist sh E) : Ct l sh E yX6_peek cX6_peek 1 (some .int) (gR 0) [.ref (E.2.1 1)] g0 h0 (fun r I1 J1 => r = some (.int (-1)) ∧ I1 = g0 ∧ J1 = h0) := by
  refine Ct.of "LeapJoin$Tape" rfl hE (by decide) (Nat.le_of_ble_eq_true rfl) (fun z F e hl => ?_)
  subst hl
  refine g_aload_n F 0 dX6_peek_0 rfl rfl ?_
  refine g_geti (j := 2) (v := 0) F s1 rfl rfl uX6 (by decide) q38 rfl dX6_peek_1 ?_
  refine g_aload_n F 0 dX6_peek_4 rfl rfl ?_
  refine g_geti (j := 0) (v := 0) F s1 rfl rfl uX6 (by decide) q35 rfl dX6_peek_5 ?_
  refine g_icmp_ge (tgt := 48) F dX6_peek_8 (by decide) (fun _ => ?_) (fun h => absurd (by decide) h)
  refine g_aload_n F 0 dX6_peek_48 rfl rfl ?_
  refine g_geti (j := 2) (v := 0) F s1 rfl rfl uX6 (by decide) q38 rfl dX6_peek_49 ?_
  refine g_aload_n F 0 dX6_peek_52 rfl rfl ?_
  refine g_geti (j := 0) (v := 0) F s1 rfl rfl uX6 (by decide) q35 rfl dX6_peek_53 ?_
  refine g_icmp_ge (tgt := 85) F dX6_peek_56 (by decide) (fun _ => ?_) (fun h => absurd (by decide) h)
  refine g_iconst (v := (-1)) F dX6_peek_85 (by decide) ?_
  exact g_iret F e dX6_peek_86 ⟨rfl, rfl, rfl⟩
set_option maxRecDepth 100000 in
set_option maxHeartbeats 4000000 in
theorem kX6_isStep (l : Launch) (E : gE) (hE : gDist sh E) : Ct l sh E yX6_isStep cX6_isStep 4 (some .boolean) (gR 1) [.ref (E.2.1 1), .ref (E.2.1 51)] g0 h0 (fun r I1 J1 => r = some (.int 0) ∧ I1 = g0 ∧ J1 = h0) := by
  refine Ct.of "LeapJoin$Tape" rfl hE (by decide) (Nat.le_of_ble_eq_true rfl) (fun z F e hl => ?_)
  subst hl
  refine g_aload_n F 0 dX6_isStep_0 rfl rfl ?_
  refine g_callV (k := 1) (As := []) (rest := []) F (kX6_peek (zl z) E hE) mX6_peek q240 rfl s1 rfl rfl rfl (Nat.le_of_ble_eq_true rfl) dX6_isStep_1 (fun r I2 J2 h => ?_)
  obtain ⟨rfl, rfl, rfl⟩ := h
  refine g_st (sn := [.int (-1)]) rfl ?_
  refine g_istore_n (Ln := [(2, .int (-1)), (0, .ref (E.2.1 1)), (1, .ref (E.2.1 51))]) F dX6_isStep_4 rfl (by decide) rfl ?_
  refine g_iload_n F 0 dX6_isStep_5 rfl rfl ?_
  refine g_bipush (v := 112) F dX6_isStep_6 (by decide) ?_
  refine g_icmp_eq (tgt := 31) F dX6_isStep_8 (by decide) (fun h => absurd h (by decide)) (fun _ => ?_)
  refine g_iload_n F 0 dX6_isStep_11 rfl rfl ?_
  refine g_bipush (v := 116) F dX6_isStep_12 (by decide) ?_
  refine g_icmp_eq (tgt := 31) F dX6_isStep_14 (by decide) (fun h => absurd h (by decide)) (fun _ => ?_)
  refine g_iload_n F 0 dX6_isStep_17 rfl rfl ?_
  refine g_bipush (v := 117) F dX6_isStep_18 (by decide) ?_
  refine g_icmp_eq (tgt := 31) F dX6_isStep_20 (by decide) (fun h => absurd h (by decide)) (fun _ => ?_)
  refine g_iload_n F 0 dX6_isStep_23 rfl rfl ?_
  refine g_bipush (v := 111) F dX6_isStep_24 (by decide) ?_
  refine g_icmp_eq (tgt := 31) F dX6_isStep_26 (by decide) (fun h => absurd h (by decide)) (fun _ => ?_)
  refine g_iconst (v := 0) F dX6_isStep_29 (by decide) ?_
  exact g_zret F rfl e dX6_isStep_30 ⟨rfl, rfl, rfl⟩
set_option maxRecDepth 100000 in
set_option maxHeartbeats 4000000 in
theorem kX6_readScript (l : Launch) (E : gE) (hE : gDist sh E) : Ct l sh E yX6_readScript cX6_readScript 4 (some .int) (gR 2) [.ref (E.2.1 1), .ref (E.2.1 51)] g0 h0 (fun r I1 J1 => r = some (.int 0) ∧ I1 = g0 ∧ J1 = h0) := by
  refine Ct.of "LeapJoin$Tape" rfl hE (by decide) (Nat.le_of_ble_eq_true rfl) (fun z F e hl => ?_)
  subst hl
  refine g_aload_n F 0 dX6_readScript_0 rfl rfl ?_
  refine g_iconst (v := 0) F dX6_readScript_1 (by decide) ?_
  refine g_puti (j := 2) F s1 rfl rfl uX6 (by decide) q38 tyX6_ok nmX6 rfl rfl rfl dX6_readScript_2 ?_
  refine g_mi (g_up_same rfl) ?_
  refine g_aload_n F 1 dX6_readScript_5 rfl rfl ?_
  refine g_callV (k := 51) (As := []) (rest := []) F (kX4_clear (zl z) E hE) mX4_clear q280 rfl s51 rfl rfl rfl (Nat.le_of_ble_eq_true rfl) dX6_readScript_6 (fun r I2 J2 h => ?_)
  obtain ⟨rfl, rfl, rfl⟩ := h
  refine g_st (sn := []) rfl ?_
  refine g_aload_n F 0 dX6_readScript_9 rfl rfl ?_
  refine g_aload_n F 1 dX6_readScript_10 rfl rfl ?_
  refine g_callV (k := 1) (As := [.ref (E.2.1 51)]) (rest := []) F (kX6_isStep (zl z) E hE) mX6_isStep q284 rfl s1 rfl rfl rfl (Nat.le_of_ble_eq_true rfl) dX6_readScript_11 (fun r I2 J2 h => ?_)
  obtain ⟨rfl, rfl, rfl⟩ := h
  refine g_st (sn := [.int 0]) rfl ?_
  refine g_istore_n (Ln := [(2, .int 0), (0, .ref (E.2.1 1)), (1, .ref (E.2.1 51))]) F dX6_readScript_14 rfl (by decide) rfl ?_
  refine g_iconst (v := 1) F dX6_readScript_15 (by decide) ?_
  refine g_istore_n (Ln := [(3, .int 1), (2, .int 0), (0, .ref (E.2.1 1)), (1, .ref (E.2.1 51))]) F dX6_readScript_16 rfl (by decide) rfl ?_
  refine g_iload_n F 1 dX6_readScript_17 rfl rfl ?_
  refine g_if_eq (tgt := 58) F dX6_readScript_18 (by decide) (fun _ => ?_) (fun h => absurd (by decide) h)
  refine g_iload_n F 1 dX6_readScript_58 rfl rfl ?_
  refine g_if_eq (tgt := 74) F dX6_readScript_59 (by decide) (fun _ => ?_) (fun h => absurd (by decide) h)
  refine g_aload_n F 2 dX6_readScript_74 rfl rfl ?_
  refine g_geti (j := 2) (v := 0) F s1 rfl rfl uX6 (by decide) q38 rfl dX6_readScript_75 ?_
  exact g_iret F e dX6_readScript_78 ⟨rfl, rfl, rfl⟩
set_option maxRecDepth 100000 in
set_option maxHeartbeats 4000000 in
theorem kJ7_fill_53178 (l : Launch) (E : gE) (hE : gDist sh E) : Ct l sh E yJ7_fill_53178 cJ7_fill_53178 4 none (gR 0) [.ref (E.2.1 9), .int 0] g0 h0 (fun r I1 J1 => r = none ∧ I1 = g0 ∧ J1 = h0) := by
  refine Ct.of "java/util/Arrays" rfl hE (by decide) (Nat.le_of_ble_eq_true rfl) (fun z F e hl => ?_)
  subst hl
  refine g_iconst (v := 0) F dJ7_fill_53178_0 (by decide) ?_
  refine g_istore_n (Ln := [(2, .int 0), (0, .ref (E.2.1 9)), (1, .int 0)]) F dJ7_fill_53178_1 rfl (by decide) rfl ?_
  refine g_aload_n F 1 dJ7_fill_53178_2 rfl rfl ?_
  refine g_alen (v := 4) F s9 rfl (by decide) dJ7_fill_53178_3 ?_
  refine g_istore_n (Ln := [(3, .int 4), (2, .int 0), (0, .ref (E.2.1 9)), (1, .int 0)]) F dJ7_fill_53178_4 rfl (by decide) rfl ?_
  refine g_iload_n F 1 dJ7_fill_53178_5 rfl rfl ?_
  refine g_iload_n F 0 dJ7_fill_53178_6 rfl rfl ?_
  refine g_icmp_ge (tgt := 20) F dJ7_fill_53178_7 (by decide) (fun h => absurd h (by decide)) (fun _ => ?_)
  refine g_aload_n F 2 dJ7_fill_53178_10 rfl rfl ?_
  refine g_iload_n F 1 dJ7_fill_53178_11 rfl rfl ?_
  refine g_iload_n F 3 dJ7_fill_53178_12 rfl rfl ?_
  refine g_iast (v := 0) F 0 s9 (by decide) (by decide) (by decide) rfl dJ7_fill_53178_13 ?_
  refine g_mi (g_up_same rfl) ?_
  refine g_iinc (v := 1) (Ln := [(2, .int 1), (3, .int 4), (0, .ref (E.2.1 9)), (1, .int 0)]) F 1 dJ7_fill_53178_14 rfl (by decide) (by decide) rfl ?_
  refine g_goto (tgt := 5) F dJ7_fill_53178_17 (by decide) ?_
  refine g_iload_n F 0 dJ7_fill_53178_5 rfl rfl ?_
  refine g_iload_n F 1 dJ7_fill_53178_6 rfl rfl ?_
  refine g_icmp_ge (tgt := 20) F dJ7_fill_53178_7 (by decide) (fun h => absurd h (by decide)) (fun _ => ?_)
  refine g_aload_n F 2 dJ7_fill_53178_10 rfl rfl ?_
  refine g_iload_n F 0 dJ7_fill_53178_11 rfl rfl ?_
  refine g_iload_n F 3 dJ7_fill_53178_12 rfl rfl ?_
  refine g_iast (v := 0) F 1 s9 (by decide) (by decide) (by decide) rfl dJ7_fill_53178_13 ?_
  refine g_mi (g_up_same rfl) ?_
  refine g_iinc (v := 2) (Ln := [(2, .int 2), (3, .int 4), (0, .ref (E.2.1 9)), (1, .int 0)]) F 0 dJ7_fill_53178_14 rfl (by decide) (by decide) rfl ?_
  refine g_goto (tgt := 5) F dJ7_fill_53178_17 (by decide) ?_
  refine g_iload_n F 0 dJ7_fill_53178_5 rfl rfl ?_
  refine g_iload_n F 1 dJ7_fill_53178_6 rfl rfl ?_
  refine g_icmp_ge (tgt := 20) F dJ7_fill_53178_7 (by decide) (fun h => absurd h (by decide)) (fun _ => ?_)
  refine g_aload_n F 2 dJ7_fill_53178_10 rfl rfl ?_
  refine g_iload_n F 0 dJ7_fill_53178_11 rfl rfl ?_
  refine g_iload_n F 3 dJ7_fill_53178_12 rfl rfl ?_
  refine g_iast (v := 0) F 2 s9 (by decide) (by decide) (by decide) rfl dJ7_fill_53178_13 ?_
  refine g_mi (g_up_same rfl) ?_
  refine g_iinc (v := 3) (Ln := [(2, .int 3), (3, .int 4), (0, .ref (E.2.1 9)), (1, .int 0)]) F 0 dJ7_fill_53178_14 rfl (by decide) (by decide) rfl ?_
  refine g_goto (tgt := 5) F dJ7_fill_53178_17 (by decide) ?_
  refine g_iload_n F 0 dJ7_fill_53178_5 rfl rfl ?_
  refine g_iload_n F 1 dJ7_fill_53178_6 rfl rfl ?_
  refine g_icmp_ge (tgt := 20) F dJ7_fill_53178_7 (by decide) (fun h => absurd h (by decide)) (fun _ => ?_)
  refine g_aload_n F 2 dJ7_fill_53178_10 rfl rfl ?_
  refine g_iload_n F 0 dJ7_fill_53178_11 rfl rfl ?_
  refine g_iload_n F 3 dJ7_fill_53178_12 rfl rfl ?_
  refine g_iast (v := 0) F 3 s9 (by decide) (by decide) (by decide) rfl dJ7_fill_53178_13 ?_
  refine g_mi (g_up_same rfl) ?_
  refine g_iinc (v := 4) (Ln := [(2, .int 4), (3, .int 4), (0, .ref (E.2.1 9)), (1, .int 0)]) F 0 dJ7_fill_53178_14 rfl (by decide) (by decide) rfl ?_
  refine g_goto (tgt := 5) F dJ7_fill_53178_17 (by decide) ?_
  refine g_iload_n F 0 dJ7_fill_53178_5 rfl rfl ?_
  refine g_iload_n F 1 dJ7_fill_53178_6 rfl rfl ?_
  refine g_icmp_ge (tgt := 20) F dJ7_fill_53178_7 (by decide) (fun _ => ?_) (fun h => absurd (by decide) h)
  exact g_vret F e dJ7_fill_53178_20 ⟨rfl, rfl, rfl⟩
set_option maxRecDepth 100000 in
set_option maxHeartbeats 4000000 in
theorem kJ7_fill_53178_2 (l : Launch) (E : gE) (hE : gDist sh E) : Ct l sh E yJ7_fill_53178 cJ7_fill_53178 4 none (gR 0) [.ref (E.2.1 10), .int 0] g0 h0 (fun r I1 J1 => r = none ∧ I1 = g0 ∧ J1 = h0) := by
  refine Ct.of "java/util/Arrays" rfl hE (by decide) (Nat.le_of_ble_eq_true rfl) (fun z F e hl => ?_)
  subst hl
  refine g_iconst (v := 0) F dJ7_fill_53178_0 (by decide) ?_
  refine g_istore_n (Ln := [(2, .int 0), (0, .ref (E.2.1 10)), (1, .int 0)]) F dJ7_fill_53178_1 rfl (by decide) rfl ?_
  refine g_aload_n F 1 dJ7_fill_53178_2 rfl rfl ?_
  refine g_alen (v := 4) F s10 rfl (by decide) dJ7_fill_53178_3 ?_
  refine g_istore_n (Ln := [(3, .int 4), (2, .int 0), (0, .ref (E.2.1 10)), (1, .int 0)]) F dJ7_fill_53178_4 rfl (by decide) rfl ?_
  refine g_iload_n F 1 dJ7_fill_53178_5 rfl rfl ?_
  refine g_iload_n F 0 dJ7_fill_53178_6 rfl rfl ?_
  refine g_icmp_ge (tgt := 20) F dJ7_fill_53178_7 (by decide) (fun h => absurd h (by decide)) (fun _ => ?_)
  refine g_aload_n F 2 dJ7_fill_53178_10 rfl rfl ?_
  refine g_iload_n F 1 dJ7_fill_53178_11 rfl rfl ?_
  refine g_iload_n F 3 dJ7_fill_53178_12 rfl rfl ?_
  refine g_iast (v := 0) F 0 s10 (by decide) (by decide) (by decide) rfl dJ7_fill_53178_13 ?_
  refine g_mi (g_up_same rfl) ?_
  refine g_iinc (v := 1) (Ln := [(2, .int 1), (3, .int 4), (0, .ref (E.2.1 10)), (1, .int 0)]) F 1 dJ7_fill_53178_14 rfl (by decide) (by decide) rfl ?_
  refine g_goto (tgt := 5) F dJ7_fill_53178_17 (by decide) ?_
  refine g_iload_n F 0 dJ7_fill_53178_5 rfl rfl ?_
  refine g_iload_n F 1 dJ7_fill_53178_6 rfl rfl ?_
  refine g_icmp_ge (tgt := 20) F dJ7_fill_53178_7 (by decide) (fun h => absurd h (by decide)) (fun _ => ?_)
  refine g_aload_n F 2 dJ7_fill_53178_10 rfl rfl ?_
  refine g_iload_n F 0 dJ7_fill_53178_11 rfl rfl ?_
  refine g_iload_n F 3 dJ7_fill_53178_12 rfl rfl ?_
  refine g_iast (v := 0) F 1 s10 (by decide) (by decide) (by decide) rfl dJ7_fill_53178_13 ?_
  refine g_mi (g_up_same rfl) ?_
  refine g_iinc (v := 2) (Ln := [(2, .int 2), (3, .int 4), (0, .ref (E.2.1 10)), (1, .int 0)]) F 0 dJ7_fill_53178_14 rfl (by decide) (by decide) rfl ?_
  refine g_goto (tgt := 5) F dJ7_fill_53178_17 (by decide) ?_
  refine g_iload_n F 0 dJ7_fill_53178_5 rfl rfl ?_
  refine g_iload_n F 1 dJ7_fill_53178_6 rfl rfl ?_
  refine g_icmp_ge (tgt := 20) F dJ7_fill_53178_7 (by decide) (fun h => absurd h (by decide)) (fun _ => ?_)
  refine g_aload_n F 2 dJ7_fill_53178_10 rfl rfl ?_
  refine g_iload_n F 0 dJ7_fill_53178_11 rfl rfl ?_
  refine g_iload_n F 3 dJ7_fill_53178_12 rfl rfl ?_
  refine g_iast (v := 0) F 2 s10 (by decide) (by decide) (by decide) rfl dJ7_fill_53178_13 ?_
  refine g_mi (g_up_same rfl) ?_
  refine g_iinc (v := 3) (Ln := [(2, .int 3), (3, .int 4), (0, .ref (E.2.1 10)), (1, .int 0)]) F 0 dJ7_fill_53178_14 rfl (by decide) (by decide) rfl ?_
  refine g_goto (tgt := 5) F dJ7_fill_53178_17 (by decide) ?_
  refine g_iload_n F 0 dJ7_fill_53178_5 rfl rfl ?_
  refine g_iload_n F 1 dJ7_fill_53178_6 rfl rfl ?_
  refine g_icmp_ge (tgt := 20) F dJ7_fill_53178_7 (by decide) (fun h => absurd h (by decide)) (fun _ => ?_)
  refine g_aload_n F 2 dJ7_fill_53178_10 rfl rfl ?_
  refine g_iload_n F 0 dJ7_fill_53178_11 rfl rfl ?_
  refine g_iload_n F 3 dJ7_fill_53178_12 rfl rfl ?_
  refine g_iast (v := 0) F 3 s10 (by decide) (by decide) (by decide) rfl dJ7_fill_53178_13 ?_
  refine g_mi (g_up_same rfl) ?_
  refine g_iinc (v := 4) (Ln := [(2, .int 4), (3, .int 4), (0, .ref (E.2.1 10)), (1, .int 0)]) F 0 dJ7_fill_53178_14 rfl (by decide) (by decide) rfl ?_
  refine g_goto (tgt := 5) F dJ7_fill_53178_17 (by decide) ?_
  refine g_iload_n F 0 dJ7_fill_53178_5 rfl rfl ?_
  refine g_iload_n F 1 dJ7_fill_53178_6 rfl rfl ?_
  refine g_icmp_ge (tgt := 20) F dJ7_fill_53178_7 (by decide) (fun _ => ?_) (fun h => absurd (by decide) h)
  exact g_vret F e dJ7_fill_53178_20 ⟨rfl, rfl, rfl⟩
set_option maxRecDepth 100000 in
set_option maxHeartbeats 4000000 in
theorem kX5_clear (l : Launch) (E : gE) (hE : gDist sh E) : Ct l sh E yX5_clear cX5_clear 1 none (gR 1) [.ref (E.2.1 8)] g0 h0 (fun r I1 J1 => r = none ∧ I1 = g0 ∧ J1 = h0) := by
  refine Ct.of "LeapJoin$Tables" rfl hE (by decide) (Nat.le_of_ble_eq_true rfl) (fun z F e hl => ?_)
  subst hl
  refine g_aload_n F 0 dX5_clear_0 rfl rfl ?_
  refine g_iconst (v := 0) F dX5_clear_1 (by decide) ?_
  refine g_puti (j := 0) F s8 rfl rfl uX5 (by decide) q48 tyX5_ok nmX5 rfl rfl rfl dX5_clear_2 ?_
  refine g_mi (g_up_same rfl) ?_
  refine g_aload_n F 0 dX5_clear_5 rfl rfl ?_
  refine g_iconst (v := 0) F dX5_clear_6 (by decide) ?_
  refine g_puti (j := 1) F s8 rfl rfl uX5 (by decide) q51 tyX5_ok nmX5 rfl rfl rfl dX5_clear_7 ?_
  refine g_mi (g_up_same rfl) ?_
  refine g_aload_n F 0 dX5_clear_10 rfl rfl ?_
  refine g_iconst (v := 0) F dX5_clear_11 (by decide) ?_
  refine g_puti (j := 2) F s8 rfl rfl uX5 (by decide) q53 tyX5_ok nmX5 rfl rfl rfl dX5_clear_12 ?_
  refine g_mi (g_up_same rfl) ?_
  refine g_aload_n F 0 dX5_clear_15 rfl rfl ?_
  refine g_getr (j := 3) (nn := 9) F s8 rfl rfl uX5 (by decide) q55 dX5_clear_16 ?_
  refine g_iconst (v := 0) F dX5_clear_19 (by decide) ?_
  refine g_callS (As := [.ref (E.2.1 9), .int 0]) (rest := []) F (kJ7_fill_53178 (zl z) E hE) mJ7_fill_53178 q230 rfl rfl rfl (Nat.le_of_ble_eq_true rfl) dX5_clear_20 (fun r I2 J2 h => ?_)
  obtain ⟨rfl, rfl, rfl⟩ := h
  refine g_st (sn := []) rfl ?_
  refine g_aload_n F 0 dX5_clear_23 rfl rfl ?_
  refine g_getr (j := 4) (nn := 10) F s8 rfl rfl uX5 (by decide) q58 dX5_clear_24 ?_
  refine g_iconst (v := 0) F dX5_clear_27 (by decide) ?_
  refine g_callS (As := [.ref (E.2.1 10), .int 0]) (rest := []) F (kJ7_fill_53178_2 (zl z) E hE) mJ7_fill_53178 q230 rfl rfl rfl (Nat.le_of_ble_eq_true rfl) dX5_clear_28 (fun r I2 J2 h => ?_)
  obtain ⟨rfl, rfl, rfl⟩ := h
  refine g_st (sn := []) rfl ?_
  exact g_vret F e dX5_clear_31 ⟨rfl, rfl, rfl⟩
set_option maxRecDepth 100000 in
set_option maxHeartbeats 4000000 in
theorem kX5_open (l : Launch) (E : gE) (hE : gDist sh E) : Ct l sh E yX5_open cX5_open 1 none (gR 0) [.ref (E.2.1 8)] g0 h0 (fun r I1 J1 => r = none ∧ I1 = (g_up (g_up g0 8 1 1) 8 0 1) ∧ J1 = h0) := by
  refine Ct.of "LeapJoin$Tables" rfl hE (by decide) (Nat.le_of_ble_eq_true rfl) (fun z F e hl => ?_)
  subst hl
  refine g_aload_n F 0 dX5_open_0 rfl rfl ?_
  refine g_geti (j := 0) (v := 0) F s8 rfl rfl uX5 (by decide) q48 rfl dX5_open_1 ?_
  refine g_iconst (v := 4) F dX5_open_4 (by decide) ?_
  refine g_icmp_ge (tgt := 53) F dX5_open_5 (by decide) (fun h => absurd h (by decide)) (fun _ => ?_)
  refine g_aload_n F 0 dX5_open_8 rfl rfl ?_
  refine g_getr (j := 3) (nn := 9) F s8 rfl rfl uX5 (by decide) q55 dX5_open_9 ?_
  refine g_aload_n F 0 dX5_open_12 rfl rfl ?_
  refine g_geti (j := 0) (v := 0) F s8 rfl rfl uX5 (by decide) q48 rfl dX5_open_13 ?_
  refine g_iconst (v := 0) F dX5_open_16 (by decide) ?_
  refine g_iast (v := 0) F 0 s9 (by decide) (by decide) (by decide) rfl dX5_open_17 ?_
  refine g_mi (g_up_same rfl) ?_
  refine g_aload_n F 0 dX5_open_18 rfl rfl ?_
  refine g_getr (j := 4) (nn := 10) F s8 rfl rfl uX5 (by decide) q58 dX5_open_19 ?_
  refine g_aload_n F 0 dX5_open_22 rfl rfl ?_
  refine g_geti (j := 0) (v := 0) F s8 rfl rfl uX5 (by decide) q48 rfl dX5_open_23 ?_
  refine g_iconst (v := 0) F dX5_open_26 (by decide) ?_
  refine g_iast (v := 0) F 0 s10 (by decide) (by decide) (by decide) rfl dX5_open_27 ?_
  refine g_mi (g_up_same rfl) ?_
  refine g_aload_n F 0 dX5_open_28 rfl rfl ?_
  refine g_dup F dX5_open_29 rfl ?_
  refine g_geti (j := 1) (v := 0) F s8 rfl rfl uX5 (by decide) q51 rfl dX5_open_30 ?_
  refine g_iconst (v := 1) F dX5_open_33 (by decide) ?_
  refine g_aload_n F 0 dX5_open_34 rfl rfl ?_
  refine g_geti (j := 0) (v := 0) F s8 rfl rfl uX5 (by decide) q48 rfl dX5_open_35 ?_
  refine g_ishl (v := 1) F dX5_open_38 (by decide) ?_
  refine g_ior (v := 1) F dX5_open_39 (by decide) ?_
  refine g_puti (j := 1) F s8 rfl rfl uX5 (by decide) q51 tyX5_ok nmX5 rfl rfl rfl dX5_open_40 ?_
  refine g_aload_n F 0 dX5_open_43 rfl rfl ?_
  refine g_dup F dX5_open_44 rfl ?_
  refine g_geti (j := 0) (v := 0) F s8 rfl rfl uX5 (by decide) q48 rfl dX5_open_45 ?_
  refine g_iconst (v := 1) F dX5_open_48 (by decide) ?_
  refine g_iadd (v := 1) F dX5_open_49 (by decide) ?_
  refine g_puti (j := 0) F s8 rfl rfl uX5 (by decide) q48 tyX5_ok nmX5 rfl rfl rfl dX5_open_50 ?_
  exact g_vret F e dX5_open_53 ⟨rfl, rfl, rfl⟩
set_option maxRecDepth 100000 in
set_option maxHeartbeats 4000000 in
theorem kX6_peek_2 (l : Launch) (E : gE) (hE : gDist sh E) : Ct l sh E yX6_peek cX6_peek 1 (some .int) (gR 0) [.ref (E.2.1 1)] (g_up (g_up g0 8 1 1) 8 0 1) h0 (fun r I1 J1 => r = some (.int (-1)) ∧ I1 = (g_up (g_up g0 8 1 1) 8 0 1) ∧ J1 = h0) := by
  refine Ct.of "LeapJoin$Tape" rfl hE (by decide) (Nat.le_of_ble_eq_true rfl) (fun z F e hl => ?_)
  subst hl
  refine g_aload_n F 0 dX6_peek_0 rfl rfl ?_
  refine g_geti (j := 2) (v := 0) F s1 rfl rfl uX6 (by decide) q38 rfl dX6_peek_1 ?_
  refine g_aload_n F 0 dX6_peek_4 rfl rfl ?_
  refine g_geti (j := 0) (v := 0) F s1 rfl rfl uX6 (by decide) q35 rfl dX6_peek_5 ?_
  refine g_icmp_ge (tgt := 48) F dX6_peek_8 (by decide) (fun _ => ?_) (fun h => absurd (by decide) h)
  refine g_aload_n F 0 dX6_peek_48 rfl rfl ?_
  refine g_geti (j := 2) (v := 0) F s1 rfl rfl uX6 (by decide) q38 rfl dX6_peek_49 ?_
  refine g_aload_n F 0 dX6_peek_52 rfl rfl ?_
  refine g_geti (j := 0) (v := 0) F s1 rfl rfl uX6 (by decide) q35 rfl dX6_peek_53 ?_
  refine g_icmp_ge (tgt := 85) F dX6_peek_56 (by decide) (fun _ => ?_) (fun h => absurd (by decide) h)
  refine g_iconst (v := (-1)) F dX6_peek_85 (by decide) ?_
  exact g_iret F e dX6_peek_86 ⟨rfl, rfl, rfl⟩
set_option maxRecDepth 100000 in
set_option maxHeartbeats 4000000 in
theorem kX6_isClause (l : Launch) (E : gE) (hE : gDist sh E) : Ct l sh E yX6_isClause cX6_isClause 5 (some .boolean) (gR 1) [.ref (E.2.1 1), .ref (E.2.1 8)] g0 h0 (fun r I1 J1 => r = some (.int 0) ∧ I1 = (g_up (g_up g0 8 1 1) 8 0 1) ∧ J1 = h0) := by
  refine Ct.of "LeapJoin$Tape" rfl hE (by decide) (Nat.le_of_ble_eq_true rfl) (fun z F e hl => ?_)
  subst hl
  refine g_aload_n F 1 dX6_isClause_0 rfl rfl ?_
  refine g_callV (k := 8) (As := []) (rest := []) F (kX5_open (zl z) E hE) mX5_open q236 rfl s8 rfl rfl rfl (Nat.le_of_ble_eq_true rfl) dX6_isClause_1 (fun r I2 J2 h => ?_)
  obtain ⟨rfl, rfl, rfl⟩ := h
  refine g_st (sn := []) rfl ?_
  refine g_aload_n F 1 dX6_isClause_4 rfl rfl ?_
  refine g_geti (j := 0) (v := 1) F s8 rfl rfl uX5 (by decide) q50 rfl dX6_isClause_5 ?_
  refine g_iconst (v := 1) F dX6_isClause_8 (by decide) ?_
  refine g_isub (v := 0) F dX6_isClause_9 (by decide) ?_
  refine g_istore_n (Ln := [(2, .int 0), (0, .ref (E.2.1 1)), (1, .ref (E.2.1 8))]) F dX6_isClause_10 rfl (by decide) rfl ?_
  refine g_iconst (v := 0) F dX6_isClause_11 (by decide) ?_
  refine g_istore_n (Ln := [(3, .int 0), (2, .int 0), (0, .ref (E.2.1 1)), (1, .ref (E.2.1 8))]) F dX6_isClause_12 rfl (by decide) rfl ?_
  refine g_iload_n F 0 dX6_isClause_13 rfl rfl ?_
  refine g_iconst (v := 3) F dX6_isClause_14 (by decide) ?_
  refine g_icmp_ge (tgt := 66) F dX6_isClause_15 (by decide) (fun h => absurd h (by decide)) (fun _ => ?_)
  refine g_aload_n F 2 dX6_isClause_18 rfl rfl ?_
  refine g_callV (k := 1) (As := []) (rest := []) F (kX6_peek_2 (zl z) E hE) mX6_peek q240 rfl s1 rfl rfl rfl (Nat.le_of_ble_eq_true rfl) dX6_isClause_19 (fun r I2 J2 h => ?_)
  obtain ⟨rfl, rfl, rfl⟩ := h
  refine g_st (sn := [.int (-1)]) rfl ?_
  refine g_bipush (v := 97) F dX6_isClause_22 (by decide) ?_
  refine g_isub (v := (-98)) F dX6_isClause_24 (by decide) ?_
  refine g_istore (Ln := [(4, .int (-98)), (3, .int 0), (2, .int 0), (0, .ref (E.2.1 1)), (1, .ref (E.2.1 8))]) F dX6_isClause_25 (by decide) rfl ?_
  refine g_iload F 0 dX6_isClause_27 rfl ?_
  refine g_if_lt (tgt := 66) F dX6_isClause_29 (by decide) (fun _ => ?_) (fun h => absurd (by decide) h)
  refine g_iload_n F 2 dX6_isClause_66 rfl rfl ?_
  refine g_if_lt (tgt := 88) F dX6_isClause_67 (by decide) (fun h => absurd h (by decide)) (fun _ => ?_)
  refine g_aload_n F 4 dX6_isClause_70 rfl rfl ?_
  refine g_getr (j := 3) (nn := 9) F s8 rfl rfl uX5 (by decide) q56 dX6_isClause_71 ?_
  refine g_iload_n F 2 dX6_isClause_74 rfl rfl ?_
  refine g_iald (v := 0) F 0 s9 (by decide) (by decide) (by decide) rfl dX6_isClause_75 ?_
  refine g_if_eq (tgt := 88) F dX6_isClause_76 (by decide) (fun _ => ?_) (fun h => absurd (by decide) h)
  refine g_iconst (v := 0) F dX6_isClause_88 (by decide) ?_
  exact g_zret F rfl e dX6_isClause_89 ⟨rfl, rfl, rfl⟩
set_option maxRecDepth 100000 in
set_option maxHeartbeats 4000000 in
theorem kX6_readTables (l : Launch) (E : gE) (hE : gDist sh E) : Ct l sh E yX6_readTables cX6_readTables 4 (some .int) (gR 2) [.ref (E.2.1 1), .ref (E.2.1 8)] g0 h0 (fun r I1 J1 => r = some (.int 0) ∧ I1 = (g_up (g_up g0 8 1 1) 8 0 1) ∧ J1 = h0) := by
  refine Ct.of "LeapJoin$Tape" rfl hE (by decide) (Nat.le_of_ble_eq_true rfl) (fun z F e hl => ?_)
  subst hl
  refine g_aload_n F 0 dX6_readTables_0 rfl rfl ?_
  refine g_iconst (v := 0) F dX6_readTables_1 (by decide) ?_
  refine g_puti (j := 2) F s1 rfl rfl uX6 (by decide) q38 tyX6_ok nmX6 rfl rfl rfl dX6_readTables_2 ?_
  refine g_mi (g_up_same rfl) ?_
  refine g_aload_n F 1 dX6_readTables_5 rfl rfl ?_
  refine g_callV (k := 8) (As := []) (rest := []) F (kX5_clear (zl z) E hE) mX5_clear q226 rfl s8 rfl rfl rfl (Nat.le_of_ble_eq_true rfl) dX6_readTables_6 (fun r I2 J2 h => ?_)
  obtain ⟨rfl, rfl, rfl⟩ := h
  refine g_st (sn := []) rfl ?_
  refine g_aload_n F 0 dX6_readTables_9 rfl rfl ?_
  refine g_aload_n F 1 dX6_readTables_10 rfl rfl ?_
  refine g_callV (k := 1) (As := [.ref (E.2.1 8)]) (rest := []) F (kX6_isClause (zl z) E hE) mX6_isClause q233 rfl s1 rfl rfl rfl (Nat.le_of_ble_eq_true rfl) dX6_readTables_11 (fun r I2 J2 h => ?_)
  obtain ⟨rfl, rfl, rfl⟩ := h
  refine g_st (sn := [.int 0]) rfl ?_
  refine g_istore_n (Ln := [(2, .int 0), (0, .ref (E.2.1 1)), (1, .ref (E.2.1 8))]) F dX6_readTables_14 rfl (by decide) rfl ?_
  refine g_iconst (v := 1) F dX6_readTables_15 (by decide) ?_
  refine g_istore_n (Ln := [(3, .int 1), (2, .int 0), (0, .ref (E.2.1 1)), (1, .ref (E.2.1 8))]) F dX6_readTables_16 rfl (by decide) rfl ?_
  refine g_iload_n F 1 dX6_readTables_17 rfl rfl ?_
  refine g_if_eq (tgt := 57) F dX6_readTables_18 (by decide) (fun _ => ?_) (fun h => absurd (by decide) h)
  refine g_iload_n F 1 dX6_readTables_57 rfl rfl ?_
  refine g_if_eq (tgt := 73) F dX6_readTables_58 (by decide) (fun _ => ?_) (fun h => absurd (by decide) h)
  refine g_aload_n F 2 dX6_readTables_73 rfl rfl ?_
  refine g_geti (j := 2) (v := 0) F s1 rfl rfl uX6 (by decide) q38 rfl dX6_readTables_74 ?_
  exact g_iret F e dX6_readTables_77 ⟨rfl, rfl, rfl⟩
set_option maxRecDepth 100000 in
set_option maxHeartbeats 4000000 in
theorem kX8_fault (l : Launch) (E : gE) (hE : gDist sh E) (a1 : Int32) : Ct l sh E yX8_fault cX8_fault 2 (some .int) (gR 3) [.ref (E.2.1 0), .int a1] g0 h0 (fun r I1 J1 => r = some (.int (if a1 = 0 ∨ a1 = 1 then 0 else (-2))) ∧ Z9 I1 J1) := by
  refine Ct.of "LeapJoin" rfl hE (by decide) (Nat.le_of_ble_eq_true rfl) (fun z F e hl => ?_)
  subst hl
  refine g_iload_n F 1 dX8_fault_0 rfl rfl ?_
  refine g_if_ne (tgt := 16) F dX8_fault_1 (by decide) (fun c1 => ?_) (fun c1f => ?_)
  · refine g_iload_n F 1 dX8_fault_16 rfl rfl ?_
    refine g_iconst (v := 1) F dX8_fault_17 (by decide) ?_
    refine g_icmp_ne (tgt := 33) F dX8_fault_18 (by decide) (fun c2 => ?_) (fun c2f => ?_)
    · refine g_bipush (v := (-2)) F dX8_fault_33 (by decide) ?_
      exact g_iret F e dX8_fault_35 ⟨(congrArg (fun x => some (Value.int x)) (if_neg (by simp only [g_lt, g_le, g_eq, g_l0, g_l1, g_l2, g_l3, g_l4, g_l5, g_lm1, g_l400, g_l40, g_l15] at c1 c2 ⊢; omega)).symm), Z9_0⟩
    · refine g_aload_n F 0 dX8_fault_21 rfl rfl ?_
      refine g_getr (j := 0) (nn := 1) F s0 rfl rfl uX8 (by decide) q169 dX8_fault_22 ?_
      refine g_aload_n F 0 dX8_fault_25 rfl rfl ?_
      refine g_getr (j := 12) (nn := 51) F s0 rfl rfl uX8 (by decide) q181 dX8_fault_26 ?_
      refine g_callV (k := 1) (As := [.ref (E.2.1 51)]) (rest := []) F (kX6_readScript (zl z) E hE) mX6_readScript q276 rfl s1 rfl rfl rfl (Nat.le_of_ble_eq_true rfl) dX8_fault_29 (fun r I2 J2 h => ?_)
      obtain ⟨rfl, rfl, rfl⟩ := h
      refine g_st (sn := [.int 0]) rfl ?_
      exact g_iret F e dX8_fault_32 ⟨(congrArg (fun x => some (Value.int x)) (if_pos (by simp only [g_lt, g_le, g_eq, g_l0, g_l1, g_l2, g_l3, g_l4, g_l5, g_lm1, g_l400, g_l40, g_l15] at c1 c2f ⊢; omega)).symm), Z9_0⟩
  · refine g_aload_n F 0 dX8_fault_4 rfl rfl ?_
    refine g_getr (j := 0) (nn := 1) F s0 rfl rfl uX8 (by decide) q169 dX8_fault_5 ?_
    refine g_aload_n F 0 dX8_fault_8 rfl rfl ?_
    refine g_getr (j := 2) (nn := 8) F s0 rfl rfl uX8 (by decide) q171 dX8_fault_9 ?_
    refine g_callV (k := 1) (As := [.ref (E.2.1 8)]) (rest := []) F (kX6_readTables (zl z) E hE) mX6_readTables q222 rfl s1 rfl rfl rfl (Nat.le_of_ble_eq_true rfl) dX8_fault_12 (fun r I2 J2 h => ?_)
    obtain ⟨rfl, rfl, rfl⟩ := h
    refine g_st (sn := [.int 0]) rfl ?_
    exact g_iret F e dX8_fault_15 ⟨(congrArg (fun x => some (Value.int x)) (if_pos (by simp only [g_lt, g_le, g_eq, g_l0, g_l1, g_l2, g_l3, g_l4, g_l5, g_lm1, g_l400, g_l40, g_l15] at c1f ⊢; omega)).symm), (Z9_up (by decide) (Z9_up (by decide) Z9_0))⟩
set_option maxRecDepth 100000 in
set_option maxHeartbeats 4000000 in
theorem kX8_textOfScript (l : Launch) (E : gE) (hE : gDist sh E) : Ct l sh E yX8_textOfScript cX8_textOfScript 1 (some .int) (gR 3) [.ref (E.2.1 0)] g0 h0 (fun r I1 J1 => r = some (.int (-1)) ∧ I1 = g0 ∧ J1 = h0) := by
  refine Ct.of "LeapJoin" rfl hE (by decide) (Nat.le_of_ble_eq_true rfl) (fun z F e hl => ?_)
  subst hl
  refine g_aload_n F 0 dX8_textOfScript_0 rfl rfl ?_
  refine g_geti (j := 14) (v := 0) F s0 rfl rfl uX8 (by decide) q183 rfl dX8_textOfScript_1 ?_
  refine g_iconst (v := 4) F dX8_textOfScript_4 (by decide) ?_
  refine g_icmp_ge (tgt := 23) F dX8_textOfScript_5 (by decide) (fun h => absurd h (by decide)) (fun _ => ?_)
  refine g_aload_n F 0 dX8_textOfScript_8 rfl rfl ?_
  refine g_getr (j := 0) (nn := 1) F s0 rfl rfl uX8 (by decide) q169 dX8_textOfScript_9 ?_
  refine g_aload_n F 0 dX8_textOfScript_12 rfl rfl ?_
  refine g_getr (j := 12) (nn := 51) F s0 rfl rfl uX8 (by decide) q181 dX8_textOfScript_13 ?_
  refine g_callV (k := 1) (As := [.ref (E.2.1 51)]) (rest := []) F (kX6_readScript (zl z) E hE) mX6_readScript q276 rfl s1 rfl rfl rfl (Nat.le_of_ble_eq_true rfl) dX8_textOfScript_16 (fun r I2 J2 h => ?_)
  obtain ⟨rfl, rfl, rfl⟩ := h
  refine g_st (sn := [.int 0]) rfl ?_
  refine g_iconst (v := (-1)) F dX8_textOfScript_19 (by decide) ?_
  refine g_icmp_eq (tgt := 25) F dX8_textOfScript_20 (by decide) (fun h => absurd h (by decide)) (fun _ => ?_)
  refine g_iconst (v := (-1)) F dX8_textOfScript_23 (by decide) ?_
  exact g_iret F e dX8_textOfScript_24 ⟨rfl, rfl, rfl⟩
set_option maxRecDepth 100000 in
set_option maxHeartbeats 4000000 in
theorem kX8_textOfTables (l : Launch) (E : gE) (hE : gDist sh E) : Ct l sh E yX8_textOfTables cX8_textOfTables 1 (some .int) (gR 3) [.ref (E.2.1 0)] g0 h0 (fun r I1 J1 => r = some (.int (-1)) ∧ I1 = (g_up (g_up g0 8 1 1) 8 0 1) ∧ J1 = h0) := by
  refine Ct.of "LeapJoin" rfl hE (by decide) (Nat.le_of_ble_eq_true rfl) (fun z F e hl => ?_)
  subst hl
  refine g_aload_n F 0 dX8_textOfTables_0 rfl rfl ?_
  refine g_getr (j := 0) (nn := 1) F s0 rfl rfl uX8 (by decide) q169 dX8_textOfTables_1 ?_
  refine g_aload_n F 0 dX8_textOfTables_4 rfl rfl ?_
  refine g_getr (j := 2) (nn := 8) F s0 rfl rfl uX8 (by decide) q171 dX8_textOfTables_5 ?_
  refine g_callV (k := 1) (As := [.ref (E.2.1 8)]) (rest := []) F (kX6_readTables (zl z) E hE) mX6_readTables q222 rfl s1 rfl rfl rfl (Nat.le_of_ble_eq_true rfl) dX8_textOfTables_8 (fun r I2 J2 h => ?_)
  obtain ⟨rfl, rfl, rfl⟩ := h
  refine g_st (sn := [.int 0]) rfl ?_
  refine g_iconst (v := (-1)) F dX8_textOfTables_11 (by decide) ?_
  refine g_icmp_eq (tgt := 17) F dX8_textOfTables_12 (by decide) (fun h => absurd h (by decide)) (fun _ => ?_)
  refine g_iconst (v := (-1)) F dX8_textOfTables_15 (by decide) ?_
  exact g_iret F e dX8_textOfTables_16 ⟨rfl, rfl, rfl⟩
set_option maxRecDepth 100000 in
set_option maxHeartbeats 4000000 in
theorem kX8_text (l : Launch) (E : gE) (hE : gDist sh E) (a1 : Int32) : Ct l sh E yX8_text cX8_text 2 (some .int) (gR 4) [.ref (E.2.1 0), .int a1] g0 h0 (fun r I1 J1 => r = some (.int (-1)) ∧ Z9 I1 J1) := by
  refine Ct.of "LeapJoin" rfl hE (by decide) (Nat.le_of_ble_eq_true rfl) (fun z F e hl => ?_)
  subst hl
  refine g_iload_n F 1 dX8_text_0 rfl rfl ?_
  refine g_if_ne (tgt := 9) F dX8_text_1 (by decide) (fun c1 => ?_) (fun c1f => ?_)
  · refine g_iload_n F 1 dX8_text_9 rfl rfl ?_
    refine g_iconst (v := 1) F dX8_text_10 (by decide) ?_
    refine g_icmp_ne (tgt := 19) F dX8_text_11 (by decide) (fun c2 => ?_) (fun c2f => ?_)
    · refine g_iconst (v := (-1)) F dX8_text_19 (by decide) ?_
      exact g_iret F e dX8_text_20 ⟨rfl, Z9_0⟩
    · refine g_aload_n F 0 dX8_text_14 rfl rfl ?_
      refine g_callV (k := 0) (As := []) (rest := []) F (kX8_textOfScript (zl z) E hE) mX8_textOfScript q391 rfl s0 rfl rfl rfl (Nat.le_of_ble_eq_true rfl) dX8_text_15 (fun r I2 J2 h => ?_)
      obtain ⟨rfl, rfl, rfl⟩ := h
      refine g_st (sn := [.int (-1)]) rfl ?_
      exact g_iret F e dX8_text_18 ⟨rfl, Z9_0⟩
  · refine g_aload_n F 0 dX8_text_4 rfl rfl ?_
    refine g_callV (k := 0) (As := []) (rest := []) F (kX8_textOfTables (zl z) E hE) mX8_textOfTables q311 rfl s0 rfl rfl rfl (Nat.le_of_ble_eq_true rfl) dX8_text_5 (fun r I2 J2 h => ?_)
    obtain ⟨rfl, rfl, rfl⟩ := h
    refine g_st (sn := [.int (-1)]) rfl ?_
    exact g_iret F e dX8_text_8 ⟨rfl, (Z9_up (by decide) (Z9_up (by decide) Z9_0))⟩
set_option maxRecDepth 100000 in
set_option maxHeartbeats 4000000 in
theorem kX8_rule (l : Launch) (E : gE) (hE : gDist sh E) (a1 : Int32) : Ct l sh E yX8_rule cX8_rule 2 (some .int) (gR 0) [.ref (E.2.1 0), .int a1] g0 h0 (fun r I1 J1 => r = some (.int (-1)) ∧ Z9 I1 J1) := by
  refine Ct.of "LeapJoin" rfl hE (by decide) (Nat.le_of_ble_eq_true rfl) (fun z F e hl => ?_)
  subst hl
  refine g_aload_n F 0 dX8_rule_0 rfl rfl ?_
  refine g_getr (j := 1) (nn := 3) F s0 rfl rfl uX8 (by decide) q170 dX8_rule_1 ?_
  refine g_geti (j := 0) (v := 0) F s3 rfl rfl uX5 (by decide) q49 rfl dX8_rule_4 ?_
  refine g_if_ne (tgt := 12) F dX8_rule_7 (by decide) (fun h => absurd (by decide) h) (fun _ => ?_)
  refine g_iconst (v := (-1)) F dX8_rule_10 (by decide) ?_
  exact g_iret F e dX8_rule_11 ⟨rfl, Z9_0⟩
set_option maxRecDepth 100000 in
set_option maxHeartbeats 4000000 in
theorem kX5_isTable (l : Launch) (E : gE) (hE : gDist sh E) (a1 : Int32) : Ct l sh E yX5_isTable cX5_isTable 2 (some .boolean) (gR 0) [.ref (E.2.1 3), .int a1] g0 h0 (fun r I1 J1 => r = some (.int 0) ∧ I1 = g0 ∧ J1 = h0) := by
  refine Ct.of "LeapJoin$Tables" rfl hE (by decide) (Nat.le_of_ble_eq_true rfl) (fun z F e hl => ?_)
  subst hl
  refine g_iload_n F 1 dX5_isTable_0 rfl rfl ?_
  refine g_if_lt (tgt := 16) F dX5_isTable_1 (by decide) (fun c1 => ?_) (fun c1f => ?_)
  · refine g_iconst (v := 0) F dX5_isTable_16 (by decide) ?_
    exact g_zret F rfl e dX5_isTable_17 ⟨rfl, rfl, rfl⟩
  · refine g_iload_n F 1 dX5_isTable_4 rfl rfl ?_
    refine g_aload_n F 0 dX5_isTable_5 rfl rfl ?_
    refine g_geti (j := 0) (v := 0) F s3 rfl rfl uX5 (by decide) q48 rfl dX5_isTable_6 ?_
    refine g_icmp_ge (tgt := 16) F dX5_isTable_9 (by decide) (fun _ => ?_) (fun c2 => by exfalso; simp only [g_lt, g_le, g_eq, g_l0, g_l1, g_l2, g_l3, g_l4, g_l5, g_lm1, g_l400, g_l40, g_l15] at c2 c1f; omega)
    refine g_iconst (v := 0) F dX5_isTable_16 (by decide) ?_
    exact g_zret F rfl e dX5_isTable_17 ⟨rfl, rfl, rfl⟩
set_option maxRecDepth 100000 in
set_option maxHeartbeats 4000000 in
theorem kX8_cell (l : Launch) (E : gE) (hE : gDist sh E) (a1 : Int32) (a2 : Int32) (a3 : Int32) : Ct l sh E yX8_cell cX8_cell 4 (some .int) (gR 1) [.ref (E.2.1 0), .int a1, .int a2, .int a3] g0 h0 (fun r I1 J1 => r = some (.int (-1)) ∧ Z9 I1 J1) := by
  refine Ct.of "LeapJoin" rfl hE (by decide) (Nat.le_of_ble_eq_true rfl) (fun z F e hl => ?_)
  subst hl
  refine g_aload_n F 0 dX8_cell_0 rfl rfl ?_
  refine g_getr (j := 1) (nn := 3) F s0 rfl rfl uX8 (by decide) q170 dX8_cell_1 ?_
  refine g_iload_n F 1 dX8_cell_4 rfl rfl ?_
  refine g_callV (k := 3) (As := [.int a1]) (rest := []) F (kX5_isTable (zl z) E hE a1) mX5_isTable q412 rfl s3 rfl rfl rfl (Nat.le_of_ble_eq_true rfl) dX8_cell_5 (fun r I2 J2 h => ?_)
  obtain ⟨rfl, rfl, rfl⟩ := h
  refine g_st (sn := [.int 0]) rfl ?_
  refine g_if_eq (tgt := 45) F dX8_cell_8 (by decide) (fun _ => ?_) (fun h => absurd (by decide) h)
  refine g_iconst (v := (-1)) F dX8_cell_45 (by decide) ?_
  exact g_iret F e dX8_cell_46 ⟨rfl, Z9_0⟩
set_option maxRecDepth 100000 in
set_option maxHeartbeats 4000000 in
theorem kX8_rows (l : Launch) (E : gE) (hE : gDist sh E) : Ct l sh E yX8_rows cX8_rows 1 (some .int) (gR 0) [.ref (E.2.1 0)] g0 h0 (fun r I1 J1 => r = some (.int (-1)) ∧ Z9 I1 J1) := by
  refine Ct.of "LeapJoin" rfl hE (by decide) (Nat.le_of_ble_eq_true rfl) (fun z F e hl => ?_)
  subst hl
  refine g_aload_n F 0 dX8_rows_0 rfl rfl ?_
  refine g_getr (j := 1) (nn := 3) F s0 rfl rfl uX8 (by decide) q170 dX8_rows_1 ?_
  refine g_geti (j := 0) (v := 0) F s3 rfl rfl uX5 (by decide) q49 rfl dX8_rows_4 ?_
  refine g_if_ne (tgt := 14) F dX8_rows_7 (by decide) (fun h => absurd (by decide) h) (fun _ => ?_)
  refine g_iconst (v := (-1)) F dX8_rows_10 (by decide) ?_
  refine g_goto (tgt := 21) F dX8_rows_11 (by decide) ?_
  exact g_iret F e dX8_rows_21 ⟨rfl, Z9_0⟩
set_option maxRecDepth 100000 in
set_option maxHeartbeats 4000000 in
theorem kX5_asked (l : Launch) (E : gE) (hE : gDist sh E) : Ct l sh E yX5_asked cX5_asked 3 (some .int) (gR 0) [.ref (E.2.1 3)] g0 h0 (fun r I1 J1 => r = some (.int 0) ∧ I1 = g0 ∧ J1 = h0) := by
  refine Ct.of "LeapJoin$Tables" rfl hE (by decide) (Nat.le_of_ble_eq_true rfl) (fun z F e hl => ?_)
  subst hl
  refine g_iconst (v := 0) F dX5_asked_0 (by decide) ?_
  refine g_istore_n (Ln := [(1, .int 0), (0, .ref (E.2.1 3))]) F dX5_asked_1 rfl (by decide) rfl ?_
  refine g_iconst (v := 0) F dX5_asked_2 (by decide) ?_
  refine g_istore_n (Ln := [(2, .int 0), (1, .int 0), (0, .ref (E.2.1 3))]) F dX5_asked_3 rfl (by decide) rfl ?_
  refine g_iload_n F 0 dX5_asked_4 rfl rfl ?_
  refine g_aload_n F 2 dX5_asked_5 rfl rfl ?_
  refine g_geti (j := 0) (v := 0) F s3 rfl rfl uX5 (by decide) q48 rfl dX5_asked_6 ?_
  refine g_icmp_ge (tgt := 34) F dX5_asked_9 (by decide) (fun _ => ?_) (fun h => absurd (by decide) h)
  refine g_iload_n F 1 dX5_asked_34 rfl rfl ?_
  exact g_iret F e dX5_asked_35 ⟨rfl, rfl, rfl⟩
set_option maxRecDepth 100000 in
set_option maxHeartbeats 4000000 in
theorem kX8_isAsked (l : Launch) (E : gE) (hE : gDist sh E) (a1 : Int32) : Ct l sh E yX8_isAsked cX8_isAsked 2 (some .boolean) (gR 1) [.ref (E.2.1 0), .int a1] g0 h0 (fun r I1 J1 => r = some (.int 0) ∧ I1 = g0 ∧ J1 = h0) := by
  refine Ct.of "LeapJoin" rfl hE (by decide) (Nat.le_of_ble_eq_true rfl) (fun z F e hl => ?_)
  subst hl
  refine g_iload_n F 1 dX8_isAsked_0 rfl rfl ?_
  refine g_if_lt (tgt := 27) F dX8_isAsked_1 (by decide) (fun c1 => ?_) (fun c1f => ?_)
  · refine g_iconst (v := 0) F dX8_isAsked_27 (by decide) ?_
    exact g_zret F rfl e dX8_isAsked_28 ⟨rfl, rfl, rfl⟩
  · refine g_iload_n F 1 dX8_isAsked_4 rfl rfl ?_
    refine g_iconst (v := 4) F dX8_isAsked_5 (by decide) ?_
    refine g_icmp_ge (tgt := 27) F dX8_isAsked_6 (by decide) (fun c2 => ?_) (fun c2f => ?_)
    · refine g_iconst (v := 0) F dX8_isAsked_27 (by decide) ?_
      exact g_zret F rfl e dX8_isAsked_28 ⟨rfl, rfl, rfl⟩
    · refine g_aload_n F 0 dX8_isAsked_9 rfl rfl ?_
      refine g_getr (j := 1) (nn := 3) F s0 rfl rfl uX8 (by decide) q170 dX8_isAsked_10 ?_
      refine g_callV (k := 3) (As := []) (rest := []) F (kX5_asked (zl z) E hE) mX5_asked q403 rfl s3 rfl rfl rfl (Nat.le_of_ble_eq_true rfl) dX8_isAsked_13 (fun r I2 J2 h => ?_)
      obtain ⟨rfl, rfl, rfl⟩ := h
      refine g_st (sn := [.int 0]) rfl ?_
      refine g_iload_n F 1 dX8_isAsked_16 rfl rfl ?_
      refine g_ishr (v := 0) F dX8_isAsked_17 (g_0shr _) ?_
      refine g_iconst (v := 1) F dX8_isAsked_18 (by decide) ?_
      refine g_iand (v := 0) F dX8_isAsked_19 (by decide) ?_
      refine g_if_eq (tgt := 27) F dX8_isAsked_20 (by decide) (fun _ => ?_) (fun h => absurd (by decide) h)
      refine g_iconst (v := 0) F dX8_isAsked_27 (by decide) ?_
      exact g_zret F rfl e dX8_isAsked_28 ⟨rfl, rfl, rfl⟩
set_option maxRecDepth 100000 in
set_option maxHeartbeats 4000000 in
theorem kX8_row (l : Launch) (E : gE) (hE : gDist sh E) (a1 : Int32) (a2 : Int32) : Ct l sh E yX8_row cX8_row 3 (some .int) (gR 2) [.ref (E.2.1 0), .int a1, .int a2] g0 h0 (fun r I1 J1 => r = some (.int (-1)) ∧ Z9 I1 J1) := by
  refine Ct.of "LeapJoin" rfl hE (by decide) (Nat.le_of_ble_eq_true rfl) (fun z F e hl => ?_)
  subst hl
  refine g_aload_n F 0 dX8_row_0 rfl rfl ?_
  refine g_iload_n F 2 dX8_row_1 rfl rfl ?_
  refine g_callV (k := 0) (As := [.int a2]) (rest := []) F (kX8_isAsked (zl z) E hE a2) mX8_isAsked q422 rfl s0 rfl rfl rfl (Nat.le_of_ble_eq_true rfl) dX8_row_2 (fun r I2 J2 h => ?_)
  obtain ⟨rfl, rfl, rfl⟩ := h
  refine g_st (sn := [.int 0]) rfl ?_
  refine g_if_eq (tgt := 23) F dX8_row_5 (by decide) (fun _ => ?_) (fun h => absurd (by decide) h)
  refine g_iconst (v := (-1)) F dX8_row_23 (by decide) ?_
  exact g_iret F e dX8_row_24 ⟨rfl, Z9_0⟩
set_option maxRecDepth 100000 in
set_option maxHeartbeats 4000000 in
theorem kX8_leaps (l : Launch) (E : gE) (hE : gDist sh E) : Ct l sh E yX8_leaps cX8_leaps 1 (some .int) (gR 0) [.ref (E.2.1 0)] g0 h0 (fun r I1 J1 => r = some (.int (-1)) ∧ Z9 I1 J1) := by
  refine Ct.of "LeapJoin" rfl hE (by decide) (Nat.le_of_ble_eq_true rfl) (fun z F e hl => ?_)
  subst hl
  refine g_aload_n F 0 dX8_leaps_0 rfl rfl ?_
  refine g_getr (j := 1) (nn := 3) F s0 rfl rfl uX8 (by decide) q170 dX8_leaps_1 ?_
  refine g_geti (j := 0) (v := 0) F s3 rfl rfl uX5 (by decide) q49 rfl dX8_leaps_4 ?_
  refine g_if_ne (tgt := 14) F dX8_leaps_7 (by decide) (fun h => absurd (by decide) h) (fun _ => ?_)
  refine g_iconst (v := (-1)) F dX8_leaps_10 (by decide) ?_
  refine g_goto (tgt := 21) F dX8_leaps_11 (by decide) ?_
  exact g_iret F e dX8_leaps_21 ⟨rfl, Z9_0⟩
set_option maxRecDepth 100000 in
set_option maxHeartbeats 4000000 in
theorem kX8_beginnings (l : Launch) (E : gE) (hE : gDist sh E) (a1 : Int32) : Ct l sh E yX8_beginnings cX8_beginnings 2 (some .int) (gR 0) [.ref (E.2.1 0), .int a1] g0 h0 (fun r I1 J1 => r = some (.int (-1)) ∧ Z9 I1 J1) := by
  refine Ct.of "LeapJoin" rfl hE (by decide) (Nat.le_of_ble_eq_true rfl) (fun z F e hl => ?_)
  subst hl
  refine g_aload_n F 0 dX8_beginnings_0 rfl rfl ?_
  refine g_getr (j := 1) (nn := 3) F s0 rfl rfl uX8 (by decide) q170 dX8_beginnings_1 ?_
  refine g_geti (j := 0) (v := 0) F s3 rfl rfl uX5 (by decide) q49 rfl dX8_beginnings_4 ?_
  refine g_if_eq (tgt := 26) F dX8_beginnings_7 (by decide) (fun _ => ?_) (fun h => absurd (by decide) h)
  refine g_iconst (v := (-1)) F dX8_beginnings_26 (by decide) ?_
  exact g_iret F e dX8_beginnings_27 ⟨rfl, Z9_0⟩
set_option maxRecDepth 100000 in
set_option maxHeartbeats 4000000 in
theorem kX8_best (l : Launch) (E : gE) (hE : gDist sh E) (a1 : Int32) : Ct l sh E yX8_best cX8_best 2 (some .int) (gR 0) [.ref (E.2.1 0), .int a1] g0 h0 (fun r I1 J1 => r = some (.int (-1)) ∧ Z9 I1 J1) := by
  refine Ct.of "LeapJoin" rfl hE (by decide) (Nat.le_of_ble_eq_true rfl) (fun z F e hl => ?_)
  subst hl
  refine g_aload_n F 0 dX8_best_0 rfl rfl ?_
  refine g_getr (j := 1) (nn := 3) F s0 rfl rfl uX8 (by decide) q170 dX8_best_1 ?_
  refine g_geti (j := 0) (v := 0) F s3 rfl rfl uX5 (by decide) q49 rfl dX8_best_4 ?_
  refine g_if_eq (tgt := 19) F dX8_best_7 (by decide) (fun _ => ?_) (fun h => absurd (by decide) h)
  refine g_iconst (v := (-1)) F dX8_best_19 (by decide) ?_
  exact g_iret F e dX8_best_20 ⟨rfl, Z9_0⟩
set_option maxRecDepth 100000 in
set_option maxHeartbeats 4000000 in
theorem kX8_plain (l : Launch) (E : gE) (hE : gDist sh E) : Ct l sh E yX8_plain cX8_plain 3 (some .int) (gR 0) [.ref (E.2.1 0)] g0 h0 (fun r I1 J1 => r = some (.int (-1)) ∧ Z9 I1 J1) := by
  refine Ct.of "LeapJoin" rfl hE (by decide) (Nat.le_of_ble_eq_true rfl) (fun z F e hl => ?_)
  subst hl
  refine g_aload_n F 0 dX8_plain_0 rfl rfl ?_
  refine g_getr (j := 1) (nn := 3) F s0 rfl rfl uX8 (by decide) q170 dX8_plain_1 ?_
  refine g_geti (j := 0) (v := 0) F s3 rfl rfl uX5 (by decide) q49 rfl dX8_plain_4 ?_
  refine g_if_ne (tgt := 12) F dX8_plain_7 (by decide) (fun h => absurd (by decide) h) (fun _ => ?_)
  refine g_iconst (v := (-1)) F dX8_plain_10 (by decide) ?_
  exact g_iret F e dX8_plain_11 ⟨rfl, Z9_0⟩
set_option maxRecDepth 100000 in
set_option maxHeartbeats 4000000 in
theorem kX8_given (l : Launch) (E : gE) (hE : gDist sh E) (a1 : Int32) : Ct l sh E yX8_given cX8_given 2 (some .int) (gR 1) [.ref (E.2.1 0), .int a1] g0 h0 (fun r I1 J1 => r = some (.int (-1)) ∧ Z9 I1 J1) := by
  refine Ct.of "LeapJoin" rfl hE (by decide) (Nat.le_of_ble_eq_true rfl) (fun z F e hl => ?_)
  subst hl
  refine g_aload_n F 0 dX8_given_0 rfl rfl ?_
  refine g_getr (j := 1) (nn := 3) F s0 rfl rfl uX8 (by decide) q170 dX8_given_1 ?_
  refine g_iload_n F 1 dX8_given_4 rfl rfl ?_
  refine g_callV (k := 3) (As := [.int a1]) (rest := []) F (kX5_isTable (zl z) E hE a1) mX5_isTable q412 rfl s3 rfl rfl rfl (Nat.le_of_ble_eq_true rfl) dX8_given_5 (fun r I2 J2 h => ?_)
  obtain ⟨rfl, rfl, rfl⟩ := h
  refine g_st (sn := [.int 0]) rfl ?_
  refine g_if_eq (tgt := 30) F dX8_given_8 (by decide) (fun _ => ?_) (fun h => absurd (by decide) h)
  refine g_iconst (v := (-1)) F dX8_given_30 (by decide) ?_
  exact g_iret F e dX8_given_31 ⟨rfl, Z9_0⟩
set_option maxRecDepth 100000 in
set_option maxHeartbeats 4000000 in
theorem kX8_without (l : Launch) (E : gE) (hE : gDist sh E) (a1 : Int32) : Ct l sh E yX8_without cX8_without 3 (some .int) (gR 1) [.ref (E.2.1 0), .int a1] g0 h0 (fun r I1 J1 => r = some (.int (-1)) ∧ Z9 I1 J1) := by
  refine Ct.of "LeapJoin" rfl hE (by decide) (Nat.le_of_ble_eq_true rfl) (fun z F e hl => ?_)
  subst hl
  refine g_aload_n F 0 dX8_without_0 rfl rfl ?_
  refine g_getr (j := 1) (nn := 3) F s0 rfl rfl uX8 (by decide) q170 dX8_without_1 ?_
  refine g_iload_n F 1 dX8_without_4 rfl rfl ?_
  refine g_callV (k := 3) (As := [.int a1]) (rest := []) F (kX5_isTable (zl z) E hE a1) mX5_isTable q412 rfl s3 rfl rfl rfl (Nat.le_of_ble_eq_true rfl) dX8_without_5 (fun r I2 J2 h => ?_)
  obtain ⟨rfl, rfl, rfl⟩ := h
  refine g_st (sn := [.int 0]) rfl ?_
  refine g_if_ne (tgt := 13) F dX8_without_8 (by decide) (fun h => absurd (by decide) h) (fun _ => ?_)
  refine g_iconst (v := (-1)) F dX8_without_11 (by decide) ?_
  exact g_iret F e dX8_without_12 ⟨rfl, Z9_0⟩
set_option maxRecDepth 100000 in
set_option maxHeartbeats 4000000 in
theorem kX8_projected (l : Launch) (E : gE) (hE : gDist sh E) (a1 : Int32) : Ct l sh E yX8_projected cX8_projected 2 (some .int) (gR 0) [.ref (E.2.1 0), .int a1] g0 h0 (fun r I1 J1 => r = some (.int (-1)) ∧ Z9 I1 J1) := by
  refine Ct.of "LeapJoin" rfl hE (by decide) (Nat.le_of_ble_eq_true rfl) (fun z F e hl => ?_)
  subst hl
  refine g_aload_n F 0 dX8_projected_0 rfl rfl ?_
  refine g_getr (j := 1) (nn := 3) F s0 rfl rfl uX8 (by decide) q170 dX8_projected_1 ?_
  refine g_geti (j := 0) (v := 0) F s3 rfl rfl uX5 (by decide) q49 rfl dX8_projected_4 ?_
  refine g_if_eq (tgt := 35) F dX8_projected_7 (by decide) (fun _ => ?_) (fun h => absurd (by decide) h)
  refine g_iconst (v := (-1)) F dX8_projected_35 (by decide) ?_
  exact g_iret F e dX8_projected_36 ⟨rfl, Z9_0⟩
set_option maxRecDepth 100000 in
set_option maxHeartbeats 4000000 in
theorem kX8_times (l : Launch) (E : gE) (hE : gDist sh E) (a1 : Int32) (a2 : Int32) : Ct l sh E yX8_times cX8_times 3 (some .int) (gR 2) [.ref (E.2.1 0), .int a1, .int a2] g0 h0 (fun r I1 J1 => r = some (.int (-1)) ∧ Z9 I1 J1) := by
  refine Ct.of "LeapJoin" rfl hE (by decide) (Nat.le_of_ble_eq_true rfl) (fun z F e hl => ?_)
  subst hl
  refine g_aload_n F 0 dX8_times_0 rfl rfl ?_
  refine g_iload_n F 1 dX8_times_1 rfl rfl ?_
  refine g_callV (k := 0) (As := [.int a1]) (rest := []) F (kX8_isAsked (zl z) E hE a1) mX8_isAsked q422 rfl s0 rfl rfl rfl (Nat.le_of_ble_eq_true rfl) dX8_times_2 (fun r I2 J2 h => ?_)
  obtain ⟨rfl, rfl, rfl⟩ := h
  refine g_st (sn := [.int 0]) rfl ?_
  refine g_if_ne (tgt := 10) F dX8_times_5 (by decide) (fun h => absurd (by decide) h) (fun _ => ?_)
  refine g_iconst (v := (-1)) F dX8_times_8 (by decide) ?_
  exact g_iret F e dX8_times_9 ⟨rfl, Z9_0⟩
set_option maxRecDepth 100000 in
set_option maxHeartbeats 4000000 in
theorem kX8_distinct (l : Launch) (E : gE) (hE : gDist sh E) (a1 : Int32) (a2 : Int32) : Ct l sh E yX8_distinct cX8_distinct 3 (some .int) (gR 2) [.ref (E.2.1 0), .int a1, .int a2] g0 h0 (fun r I1 J1 => r = some (.int (-1)) ∧ Z9 I1 J1) := by
  refine Ct.of "LeapJoin" rfl hE (by decide) (Nat.le_of_ble_eq_true rfl) (fun z F e hl => ?_)
  subst hl
  refine g_aload_n F 0 dX8_distinct_0 rfl rfl ?_
  refine g_iload_n F 1 dX8_distinct_1 rfl rfl ?_
  refine g_callV (k := 0) (As := [.int a1]) (rest := []) F (kX8_isAsked (zl z) E hE a1) mX8_isAsked q422 rfl s0 rfl rfl rfl (Nat.le_of_ble_eq_true rfl) dX8_distinct_2 (fun r I2 J2 h => ?_)
  obtain ⟨rfl, rfl, rfl⟩ := h
  refine g_st (sn := [.int 0]) rfl ?_
  refine g_if_eq (tgt := 17) F dX8_distinct_5 (by decide) (fun _ => ?_) (fun h => absurd (by decide) h)
  refine g_iconst (v := (-1)) F dX8_distinct_17 (by decide) ?_
  exact g_iret F e dX8_distinct_18 ⟨rfl, Z9_0⟩
set_option maxRecDepth 100000 in
set_option maxHeartbeats 4000000 in
theorem kX8_tells (l : Launch) (E : gE) (hE : gDist sh E) (a1 : Int32) (a2 : Int32) : Ct l sh E yX8_tells cX8_tells 3 (some .boolean) (gR 2) [.ref (E.2.1 0), .int a1, .int a2] g0 h0 (fun r I1 J1 => r = some (.int (0)) ∧ Z9 I1 J1) := by
  refine Ct.of "LeapJoin" rfl hE (by decide) (Nat.le_of_ble_eq_true rfl) (fun z F e hl => ?_)
  subst hl
  refine g_aload_n F 0 dX8_tells_0 rfl rfl ?_
  refine g_iload_n F 1 dX8_tells_1 rfl rfl ?_
  refine g_callV (k := 0) (As := [.int a1]) (rest := []) F (kX8_isAsked (zl z) E hE a1) mX8_isAsked q422 rfl s0 rfl rfl rfl (Nat.le_of_ble_eq_true rfl) dX8_tells_2 (fun r I2 J2 h => ?_)
  obtain ⟨rfl, rfl, rfl⟩ := h
  refine g_st (sn := [.int 0]) rfl ?_
  refine g_if_eq (tgt := 36) F dX8_tells_5 (by decide) (fun _ => ?_) (fun h => absurd (by decide) h)
  refine g_iconst (v := 0) F dX8_tells_36 (by decide) ?_
  exact g_zret F rfl e dX8_tells_37 ⟨rfl, Z9_0⟩
set_option maxRecDepth 100000 in
set_option maxHeartbeats 4000000 in
theorem kX8_behind (l : Launch) (E : gE) (hE : gDist sh E) (a1 : Int32) (a2 : Int32) (a3 : Int32) (a4 : Int32) : Ct l sh E yX8_behind cX8_behind 6 (some .int) (gR 0) [.ref (E.2.1 0), .int a1, .int a2, .int a3, .int a4] g0 h0 (fun r I1 J1 => r = some (.int (-1)) ∧ Z9 I1 J1) := by
  refine Ct.of "LeapJoin" rfl hE (by decide) (Nat.le_of_ble_eq_true rfl) (fun z F e hl => ?_)
  subst hl
  refine g_aload_n F 0 dX8_behind_0 rfl rfl ?_
  refine g_getr (j := 1) (nn := 3) F s0 rfl rfl uX8 (by decide) q170 dX8_behind_1 ?_
  refine g_geti (j := 0) (v := 0) F s3 rfl rfl uX5 (by decide) q49 rfl dX8_behind_4 ?_
  refine g_if_ne (tgt := 12) F dX8_behind_7 (by decide) (fun h => absurd (by decide) h) (fun _ => ?_)
  refine g_iconst (v := (-1)) F dX8_behind_10 (by decide) ?_
  exact g_iret F e dX8_behind_11 ⟨rfl, Z9_0⟩
set_option maxRecDepth 100000 in
set_option maxHeartbeats 4000000 in
theorem kX8_has (l : Launch) (E : gE) (hE : gDist sh E) (a1 : Int32) (a2 : Int32) (a3 : Int32) (a4 : Int32) : Ct l sh E yX8_has cX8_has 6 (some .boolean) (gR 0) [.ref (E.2.1 0), .int a1, .int a2, .int a3, .int a4] g0 h0 (fun r I1 J1 => r = some (.int (0)) ∧ Z9 I1 J1) := by
  refine Ct.of "LeapJoin" rfl hE (by decide) (Nat.le_of_ble_eq_true rfl) (fun z F e hl => ?_)
  subst hl
  refine g_aload_n F 0 dX8_has_0 rfl rfl ?_
  refine g_getr (j := 1) (nn := 3) F s0 rfl rfl uX8 (by decide) q170 dX8_has_1 ?_
  refine g_geti (j := 0) (v := 0) F s3 rfl rfl uX5 (by decide) q49 rfl dX8_has_4 ?_
  refine g_if_ne (tgt := 12) F dX8_has_7 (by decide) (fun h => absurd (by decide) h) (fun _ => ?_)
  refine g_iconst (v := 0) F dX8_has_10 (by decide) ?_
  exact g_zret F rfl e dX8_has_11 ⟨rfl, Z9_0⟩
set_option maxRecDepth 100000 in
set_option maxHeartbeats 4000000 in
theorem kX8_mean (l : Launch) (E : gE) (hE : gDist sh E) (a1 : Int32) : Ct l sh E yX8_mean cX8_mean 2 (some .long) (gR 2) [.ref (E.2.1 0), .int a1] g0 h0 (fun r I1 J1 => r = some (.long (-1000000)) ∧ Z9 I1 J1) := by
  refine Ct.of "LeapJoin" rfl hE (by decide) (Nat.le_of_ble_eq_true rfl) (fun z F e hl => ?_)
  subst hl
  refine g_aload_n F 0 dX8_mean_0 rfl rfl ?_
  refine g_iload_n F 1 dX8_mean_1 rfl rfl ?_
  refine g_callV (k := 0) (As := [.int a1]) (rest := []) F (kX8_isAsked (zl z) E hE a1) mX8_isAsked q422 rfl s0 rfl rfl rfl (Nat.le_of_ble_eq_true rfl) dX8_mean_2 (fun r I2 J2 h => ?_)
  obtain ⟨rfl, rfl, rfl⟩ := h
  refine g_st (sn := [.int 0]) rfl ?_
  refine g_if_eq (tgt := 18) F dX8_mean_5 (by decide) (fun _ => ?_) (fun h => absurd (by decide) h)
  refine g_ldc2_w F dX8_mean_18 q541 ?_
  exact g_lret F e dX8_mean_21 ⟨rfl, Z9_0⟩
set_option maxRecDepth 100000 in
set_option maxHeartbeats 4000000 in
theorem kX8_meanAs (l : Launch) (E : gE) (hE : gDist sh E) (a1 : Int32) (a2 : Int32) : Ct l sh E yX8_meanAs cX8_meanAs 5 (some .int) (gR 2) [.ref (E.2.1 0), .int a1, .int a2] g0 h0 (fun r I1 J1 => r = some (.int (-1000000)) ∧ Z9 I1 J1) := by
  refine Ct.of "LeapJoin" rfl hE (by decide) (Nat.le_of_ble_eq_true rfl) (fun z F e hl => ?_)
  subst hl
  refine g_aload_n F 0 dX8_meanAs_0 rfl rfl ?_
  refine g_iload_n F 1 dX8_meanAs_1 rfl rfl ?_
  refine g_callV (k := 0) (As := [.int a1]) (rest := []) F (kX8_isAsked (zl z) E hE a1) mX8_isAsked q422 rfl s0 rfl rfl rfl (Nat.le_of_ble_eq_true rfl) dX8_meanAs_2 (fun r I2 J2 h => ?_)
  obtain ⟨rfl, rfl, rfl⟩ := h
  refine g_st (sn := [.int 0]) rfl ?_
  refine g_if_eq (tgt := 27) F dX8_meanAs_5 (by decide) (fun _ => ?_) (fun h => absurd (by decide) h)
  refine g_ldc_w F dX8_meanAs_27 q555 ?_
  exact g_iret F e dX8_meanAs_30 ⟨rfl, Z9_0⟩
set_option maxRecDepth 100000 in
set_option maxHeartbeats 4000000 in
theorem kX8_spread (l : Launch) (E : gE) (hE : gDist sh E) (a1 : Int32) : Ct l sh E yX8_spread cX8_spread 2 (some .long) (gR 2) [.ref (E.2.1 0), .int a1] g0 h0 (fun r I1 J1 => r = some (.long (-1000000)) ∧ Z9 I1 J1) := by
  refine Ct.of "LeapJoin" rfl hE (by decide) (Nat.le_of_ble_eq_true rfl) (fun z F e hl => ?_)
  subst hl
  refine g_aload_n F 0 dX8_spread_0 rfl rfl ?_
  refine g_iload_n F 1 dX8_spread_1 rfl rfl ?_
  refine g_callV (k := 0) (As := [.int a1]) (rest := []) F (kX8_isAsked (zl z) E hE a1) mX8_isAsked q422 rfl s0 rfl rfl rfl (Nat.le_of_ble_eq_true rfl) dX8_spread_2 (fun r I2 J2 h => ?_)
  obtain ⟨rfl, rfl, rfl⟩ := h
  refine g_st (sn := [.int 0]) rfl ?_
  refine g_if_eq (tgt := 18) F dX8_spread_5 (by decide) (fun _ => ?_) (fun h => absurd (by decide) h)
  refine g_ldc2_w F dX8_spread_18 q541 ?_
  exact g_lret F e dX8_spread_21 ⟨rfl, Z9_0⟩
set_option maxRecDepth 100000 in
set_option maxHeartbeats 4000000 in
theorem kX8_skew (l : Launch) (E : gE) (hE : gDist sh E) (a1 : Int32) : Ct l sh E yX8_skew cX8_skew 3 (some .int) (gR 2) [.ref (E.2.1 0), .int a1] g0 h0 (fun r I1 J1 => r = some (.int (-1000000)) ∧ Z9 I1 J1) := by
  refine Ct.of "LeapJoin" rfl hE (by decide) (Nat.le_of_ble_eq_true rfl) (fun z F e hl => ?_)
  subst hl
  refine g_aload_n F 0 dX8_skew_0 rfl rfl ?_
  refine g_iload_n F 1 dX8_skew_1 rfl rfl ?_
  refine g_callV (k := 0) (As := [.int a1]) (rest := []) F (kX8_isAsked (zl z) E hE a1) mX8_isAsked q422 rfl s0 rfl rfl rfl (Nat.le_of_ble_eq_true rfl) dX8_skew_2 (fun r I2 J2 h => ?_)
  obtain ⟨rfl, rfl, rfl⟩ := h
  refine g_st (sn := [.int 0]) rfl ?_
  refine g_if_eq (tgt := 18) F dX8_skew_5 (by decide) (fun _ => ?_) (fun h => absurd (by decide) h)
  refine g_ldc_w F dX8_skew_18 q555 ?_
  exact g_iret F e dX8_skew_21 ⟨rfl, Z9_0⟩
set_option maxRecDepth 100000 in
set_option maxHeartbeats 4000000 in
theorem kX5_refusal (l : Launch) (E : gE) (hE : gDist sh E) (a2 : Int32) (a3 : Int32) (a4 : Int32) (a5 : Int32) : Ct l sh E yX5_refusal cX5_refusal 7 (some .int) (gR 0) [.ref (E.2.1 3), .int 0, .int a2, .int a3, .int a4, .int a5] g0 h0 (fun r I1 J1 => r = some (.int 0) ∧ I1 = g0 ∧ J1 = h0) := by
  refine Ct.of "LeapJoin$Tables" rfl hE (by decide) (Nat.le_of_ble_eq_true rfl) (fun z F e hl => ?_)
  subst hl
  refine g_aload_n F 0 dX5_refusal_0 rfl rfl ?_
  refine g_geti (j := 0) (v := 0) F s3 rfl rfl uX5 (by decide) q48 rfl dX5_refusal_1 ?_
  refine g_if_ne (tgt := 9) F dX5_refusal_4 (by decide) (fun h => absurd (by decide) h) (fun _ => ?_)
  refine g_iconst (v := 0) F dX5_refusal_7 (by decide) ?_
  exact g_iret F e dX5_refusal_8 ⟨rfl, rfl, rfl⟩
set_option maxRecDepth 100000 in
set_option maxHeartbeats 4000000 in
theorem kX8_attempt (l : Launch) (E : gE) (hE : gDist sh E) (a2 : Int32) (a3 : Int32) (a4 : Int32) (a5 : Int32) : Ct l sh E yX8_attempt cX8_attempt 8 (some .int) (gR 1) [.ref (E.2.1 0), .int 0, .int a2, .int a3, .int a4, .int a5] g0 h0 (fun r I1 J1 => r = some (.int 0) ∧ I1 = g0 ∧ J1 = h0) := by
  refine Ct.of "LeapJoin" rfl hE (by decide) (Nat.le_of_ble_eq_true rfl) (fun z F e hl => ?_)
  subst hl
  refine g_aload_n F 0 dX8_attempt_0 rfl rfl ?_
  refine g_getr (j := 1) (nn := 3) F s0 rfl rfl uX8 (by decide) q170 dX8_attempt_1 ?_
  refine g_iload_n F 1 dX8_attempt_4 rfl rfl ?_
  refine g_iload_n F 2 dX8_attempt_5 rfl rfl ?_
  refine g_iload_n F 3 dX8_attempt_6 rfl rfl ?_
  refine g_iload F 4 dX8_attempt_7 rfl ?_
  refine g_iload F 5 dX8_attempt_9 rfl ?_
  refine g_callV (k := 3) (As := [.int 0, .int a2, .int a3, .int a4, .int a5]) (rest := []) F (kX5_refusal (zl z) E hE a2 a3 a4 a5) mX5_refusal q584 rfl s3 rfl rfl rfl (Nat.le_of_ble_eq_true rfl) dX8_attempt_11 (fun r I2 J2 h => ?_)
  obtain ⟨rfl, rfl, rfl⟩ := h
  refine g_st (sn := [.int 0]) rfl ?_
  refine g_istore (Ln := [(6, .int 0), (0, .ref (E.2.1 0)), (1, .int 0), (2, .int a2), (3, .int a3), (4, .int a4), (5, .int a5)]) F dX8_attempt_14 (by decide) rfl ?_
  refine g_iload F 0 dX8_attempt_16 rfl ?_
  refine g_iconst (v := (-1)) F dX8_attempt_18 (by decide) ?_
  refine g_icmp_eq (tgt := 25) F dX8_attempt_19 (by decide) (fun h => absurd h (by decide)) (fun _ => ?_)
  refine g_iload F 0 dX8_attempt_22 rfl ?_
  exact g_iret F e dX8_attempt_24 ⟨rfl, rfl, rfl⟩
set_option maxRecDepth 100000 in
set_option maxHeartbeats 4000000 in
theorem kX8_isDone (l : Launch) (E : gE) (hE : gDist sh E) (a2 : Int32) (a3 : Int32) (a4 : Int32) (a5 : Int32) : Ct l sh E yX8_isDone cX8_isDone 7 (some .boolean) (gR 2) [.ref (E.2.1 0), .int 0, .int a2, .int a3, .int a4, .int a5] g0 h0 (fun r I1 J1 => r = some (.int 0) ∧ I1 = (g_up g0 53 0 1) ∧ J1 = h0) := by
  refine Ct.of "LeapJoin" rfl hE (by decide) (Nat.le_of_ble_eq_true rfl) (fun z F e hl => ?_)
  subst hl
  refine g_aload_n F 0 dX8_isDone_0 rfl rfl ?_
  refine g_iload_n F 1 dX8_isDone_1 rfl rfl ?_
  refine g_iload_n F 2 dX8_isDone_2 rfl rfl ?_
  refine g_iload_n F 3 dX8_isDone_3 rfl rfl ?_
  refine g_iload F 4 dX8_isDone_4 rfl ?_
  refine g_iload F 5 dX8_isDone_6 rfl ?_
  refine g_callV (k := 0) (As := [.int 0, .int a2, .int a3, .int a4, .int a5]) (rest := []) F (kX8_attempt (zl z) E hE a2 a3 a4 a5) mX8_attempt q581 rfl s0 rfl rfl rfl (Nat.le_of_ble_eq_true rfl) dX8_isDone_8 (fun r I2 J2 h => ?_)
  obtain ⟨rfl, rfl, rfl⟩ := h
  refine g_st (sn := [.int 0]) rfl ?_
  refine g_istore (Ln := [(6, .int 0), (0, .ref (E.2.1 0)), (1, .int 0), (2, .int a2), (3, .int a3), (4, .int a4), (5, .int a5)]) F dX8_isDone_11 (by decide) rfl ?_
  refine g_iload F 0 dX8_isDone_13 rfl ?_
  refine g_if_lt (tgt := 35) F dX8_isDone_15 (by decide) (fun h => absurd h (by decide)) (fun _ => ?_)
  refine g_iload F 0 dX8_isDone_18 rfl ?_
  refine g_iconst (v := 4) F dX8_isDone_20 (by decide) ?_
  refine g_icmp_ge (tgt := 35) F dX8_isDone_21 (by decide) (fun h => absurd h (by decide)) (fun _ => ?_)
  refine g_aload_n F 1 dX8_isDone_24 rfl rfl ?_
  refine g_getr (j := 13) (nn := 53) F s0 rfl rfl uX8 (by decide) q182 dX8_isDone_25 ?_
  refine g_iload F 0 dX8_isDone_28 rfl ?_
  refine g_dup2 F dX8_isDone_30 rfl rfl ?_
  refine g_iald (v := 0) F 0 s53 (by decide) (by decide) (by decide) rfl dX8_isDone_31 ?_
  refine g_iconst (v := 1) F dX8_isDone_32 (by decide) ?_
  refine g_iadd (v := 1) F dX8_isDone_33 (by decide) ?_
  refine g_iast (v := 1) F 0 s53 (by decide) (by decide) (by decide) rfl dX8_isDone_34 ?_
  refine g_iload F 0 dX8_isDone_35 rfl ?_
  refine g_iconst (v := (-1)) F dX8_isDone_37 (by decide) ?_
  refine g_icmp_ne (tgt := 45) F dX8_isDone_38 (by decide) (fun _ => ?_) (fun h => absurd h (by decide))
  refine g_iconst (v := 0) F dX8_isDone_45 (by decide) ?_
  exact g_zret F rfl e dX8_isDone_46 ⟨rfl, rfl, rfl⟩
set_option maxRecDepth 100000 in
set_option maxHeartbeats 4000000 in
theorem kX8_put (l : Launch) (E : gE) (hE : gDist sh E) (a1 : Int32) (a2 : Int32) (a3 : Int32) (a4 : Int32) : Ct l sh E yX8_put cX8_put 5 (some .int) (gR 3) [.ref (E.2.1 0), .int a1, .int a2, .int a3, .int a4] g0 h0 (fun r I1 J1 => r = some (.int (-1)) ∧ Z9 I1 J1) := by
  refine Ct.of "LeapJoin" rfl hE (by decide) (Nat.le_of_ble_eq_true rfl) (fun z F e hl => ?_)
  subst hl
  refine g_aload_n F 0 dX8_put_0 rfl rfl ?_
  refine g_iconst (v := 0) F dX8_put_1 (by decide) ?_
  refine g_iload_n F 1 dX8_put_2 rfl rfl ?_
  refine g_iload_n F 2 dX8_put_3 rfl rfl ?_
  refine g_iload_n F 3 dX8_put_4 rfl rfl ?_
  refine g_iload F 4 dX8_put_5 rfl ?_
  refine g_callV (k := 0) (As := [.int 0, .int a1, .int a2, .int a3, .int a4]) (rest := []) F (kX8_isDone (zl z) E hE a1 a2 a3 a4) mX8_isDone q578 rfl s0 rfl rfl rfl (Nat.le_of_ble_eq_true rfl) dX8_put_7 (fun r I2 J2 h => ?_)
  obtain ⟨rfl, rfl, rfl⟩ := h
  refine g_st (sn := [.int 0]) rfl ?_
  refine g_if_eq (tgt := 25) F dX8_put_10 (by decide) (fun _ => ?_) (fun h => absurd (by decide) h)
  refine g_iconst (v := (-1)) F dX8_put_25 (by decide) ?_
  exact g_iret F e dX8_put_26 ⟨rfl, (Z9_up (by decide) Z9_0)⟩
set_option maxRecDepth 100000 in
set_option maxHeartbeats 4000000 in
theorem kX5_refusal_2 (l : Launch) (E : gE) (hE : gDist sh E) (a2 : Int32) (a3 : Int32) (a4 : Int32) (a5 : Int32) : Ct l sh E yX5_refusal cX5_refusal 7 (some .int) (gR 0) [.ref (E.2.1 3), .int 1, .int a2, .int a3, .int a4, .int a5] g0 h0 (fun r I1 J1 => r = some (.int 0) ∧ I1 = g0 ∧ J1 = h0) := by
  refine Ct.of "LeapJoin$Tables" rfl hE (by decide) (Nat.le_of_ble_eq_true rfl) (fun z F e hl => ?_)
  subst hl
  refine g_aload_n F 0 dX5_refusal_0 rfl rfl ?_
  refine g_geti (j := 0) (v := 0) F s3 rfl rfl uX5 (by decide) q48 rfl dX5_refusal_1 ?_
  refine g_if_ne (tgt := 9) F dX5_refusal_4 (by decide) (fun h => absurd (by decide) h) (fun _ => ?_)
  refine g_iconst (v := 0) F dX5_refusal_7 (by decide) ?_
  exact g_iret F e dX5_refusal_8 ⟨rfl, rfl, rfl⟩
set_option maxRecDepth 100000 in
set_option maxHeartbeats 4000000 in
theorem kX8_attempt_2 (l : Launch) (E : gE) (hE : gDist sh E) (a2 : Int32) (a3 : Int32) (a4 : Int32) (a5 : Int32) : Ct l sh E yX8_attempt cX8_attempt 8 (some .int) (gR 1) [.ref (E.2.1 0), .int 1, .int a2, .int a3, .int a4, .int a5] g0 h0 (fun r I1 J1 => r = some (.int 0) ∧ I1 = g0 ∧ J1 = h0) := by
  refine Ct.of "LeapJoin" rfl hE (by decide) (Nat.le_of_ble_eq_true rfl) (fun z F e hl => ?_)
  subst hl
  refine g_aload_n F 0 dX8_attempt_0 rfl rfl ?_
  refine g_getr (j := 1) (nn := 3) F s0 rfl rfl uX8 (by decide) q170 dX8_attempt_1 ?_
  refine g_iload_n F 1 dX8_attempt_4 rfl rfl ?_
  refine g_iload_n F 2 dX8_attempt_5 rfl rfl ?_
  refine g_iload_n F 3 dX8_attempt_6 rfl rfl ?_
  refine g_iload F 4 dX8_attempt_7 rfl ?_
  refine g_iload F 5 dX8_attempt_9 rfl ?_
  refine g_callV (k := 3) (As := [.int 1, .int a2, .int a3, .int a4, .int a5]) (rest := []) F (kX5_refusal_2 (zl z) E hE a2 a3 a4 a5) mX5_refusal q584 rfl s3 rfl rfl rfl (Nat.le_of_ble_eq_true rfl) dX8_attempt_11 (fun r I2 J2 h => ?_)
  obtain ⟨rfl, rfl, rfl⟩ := h
  refine g_st (sn := [.int 0]) rfl ?_
  refine g_istore (Ln := [(6, .int 0), (0, .ref (E.2.1 0)), (1, .int 1), (2, .int a2), (3, .int a3), (4, .int a4), (5, .int a5)]) F dX8_attempt_14 (by decide) rfl ?_
  refine g_iload F 0 dX8_attempt_16 rfl ?_
  refine g_iconst (v := (-1)) F dX8_attempt_18 (by decide) ?_
  refine g_icmp_eq (tgt := 25) F dX8_attempt_19 (by decide) (fun h => absurd h (by decide)) (fun _ => ?_)
  refine g_iload F 0 dX8_attempt_22 rfl ?_
  exact g_iret F e dX8_attempt_24 ⟨rfl, rfl, rfl⟩
set_option maxRecDepth 100000 in
set_option maxHeartbeats 4000000 in
theorem kX8_isDone_2 (l : Launch) (E : gE) (hE : gDist sh E) (a2 : Int32) (a3 : Int32) (a4 : Int32) (a5 : Int32) : Ct l sh E yX8_isDone cX8_isDone 7 (some .boolean) (gR 2) [.ref (E.2.1 0), .int 1, .int a2, .int a3, .int a4, .int a5] g0 h0 (fun r I1 J1 => r = some (.int 0) ∧ I1 = (g_up g0 53 0 1) ∧ J1 = h0) := by
  refine Ct.of "LeapJoin" rfl hE (by decide) (Nat.le_of_ble_eq_true rfl) (fun z F e hl => ?_)
  subst hl
  refine g_aload_n F 0 dX8_isDone_0 rfl rfl ?_
  refine g_iload_n F 1 dX8_isDone_1 rfl rfl ?_
  refine g_iload_n F 2 dX8_isDone_2 rfl rfl ?_
  refine g_iload_n F 3 dX8_isDone_3 rfl rfl ?_
  refine g_iload F 4 dX8_isDone_4 rfl ?_
  refine g_iload F 5 dX8_isDone_6 rfl ?_
  refine g_callV (k := 0) (As := [.int 1, .int a2, .int a3, .int a4, .int a5]) (rest := []) F (kX8_attempt_2 (zl z) E hE a2 a3 a4 a5) mX8_attempt q581 rfl s0 rfl rfl rfl (Nat.le_of_ble_eq_true rfl) dX8_isDone_8 (fun r I2 J2 h => ?_)
  obtain ⟨rfl, rfl, rfl⟩ := h
  refine g_st (sn := [.int 0]) rfl ?_
  refine g_istore (Ln := [(6, .int 0), (0, .ref (E.2.1 0)), (1, .int 1), (2, .int a2), (3, .int a3), (4, .int a4), (5, .int a5)]) F dX8_isDone_11 (by decide) rfl ?_
  refine g_iload F 0 dX8_isDone_13 rfl ?_
  refine g_if_lt (tgt := 35) F dX8_isDone_15 (by decide) (fun h => absurd h (by decide)) (fun _ => ?_)
  refine g_iload F 0 dX8_isDone_18 rfl ?_
  refine g_iconst (v := 4) F dX8_isDone_20 (by decide) ?_
  refine g_icmp_ge (tgt := 35) F dX8_isDone_21 (by decide) (fun h => absurd h (by decide)) (fun _ => ?_)
  refine g_aload_n F 1 dX8_isDone_24 rfl rfl ?_
  refine g_getr (j := 13) (nn := 53) F s0 rfl rfl uX8 (by decide) q182 dX8_isDone_25 ?_
  refine g_iload F 0 dX8_isDone_28 rfl ?_
  refine g_dup2 F dX8_isDone_30 rfl rfl ?_
  refine g_iald (v := 0) F 0 s53 (by decide) (by decide) (by decide) rfl dX8_isDone_31 ?_
  refine g_iconst (v := 1) F dX8_isDone_32 (by decide) ?_
  refine g_iadd (v := 1) F dX8_isDone_33 (by decide) ?_
  refine g_iast (v := 1) F 0 s53 (by decide) (by decide) (by decide) rfl dX8_isDone_34 ?_
  refine g_iload F 0 dX8_isDone_35 rfl ?_
  refine g_iconst (v := (-1)) F dX8_isDone_37 (by decide) ?_
  refine g_icmp_ne (tgt := 45) F dX8_isDone_38 (by decide) (fun _ => ?_) (fun h => absurd h (by decide))
  refine g_iconst (v := 0) F dX8_isDone_45 (by decide) ?_
  exact g_zret F rfl e dX8_isDone_46 ⟨rfl, rfl, rfl⟩
set_option maxRecDepth 100000 in
set_option maxHeartbeats 4000000 in
theorem kX8_take (l : Launch) (E : gE) (hE : gDist sh E) (a1 : Int32) (a2 : Int32) (a3 : Int32) (a4 : Int32) : Ct l sh E yX8_take cX8_take 5 (some .int) (gR 3) [.ref (E.2.1 0), .int a1, .int a2, .int a3, .int a4] g0 h0 (fun r I1 J1 => r = some (.int (-1)) ∧ Z9 I1 J1) := by
  refine Ct.of "LeapJoin" rfl hE (by decide) (Nat.le_of_ble_eq_true rfl) (fun z F e hl => ?_)
  subst hl
  refine g_aload_n F 0 dX8_take_0 rfl rfl ?_
  refine g_iconst (v := 1) F dX8_take_1 (by decide) ?_
  refine g_iload_n F 1 dX8_take_2 rfl rfl ?_
  refine g_iload_n F 2 dX8_take_3 rfl rfl ?_
  refine g_iload_n F 3 dX8_take_4 rfl rfl ?_
  refine g_iload F 4 dX8_take_5 rfl ?_
  refine g_callV (k := 0) (As := [.int 1, .int a1, .int a2, .int a3, .int a4]) (rest := []) F (kX8_isDone_2 (zl z) E hE a1 a2 a3 a4) mX8_isDone q578 rfl s0 rfl rfl rfl (Nat.le_of_ble_eq_true rfl) dX8_take_7 (fun r I2 J2 h => ?_)
  obtain ⟨rfl, rfl, rfl⟩ := h
  refine g_st (sn := [.int 0]) rfl ?_
  refine g_if_eq (tgt := 25) F dX8_take_10 (by decide) (fun _ => ?_) (fun h => absurd (by decide) h)
  refine g_iconst (v := (-1)) F dX8_take_25 (by decide) ?_
  exact g_iret F e dX8_take_26 ⟨rfl, (Z9_up (by decide) Z9_0)⟩
set_option maxRecDepth 100000 in
set_option maxHeartbeats 4000000 in
theorem kX5_refusal_3 (l : Launch) (E : gE) (hE : gDist sh E) (a2 : Int32) : Ct l sh E yX5_refusal cX5_refusal 7 (some .int) (gR 0) [.ref (E.2.1 3), .int 2, .int a2, .int (-1), .int (-1), .int (-1)] g0 h0 (fun r I1 J1 => r = some (.int 0) ∧ I1 = g0 ∧ J1 = h0) := by
  refine Ct.of "LeapJoin$Tables" rfl hE (by decide) (Nat.le_of_ble_eq_true rfl) (fun z F e hl => ?_)
  subst hl
  refine g_aload_n F 0 dX5_refusal_0 rfl rfl ?_
  refine g_geti (j := 0) (v := 0) F s3 rfl rfl uX5 (by decide) q48 rfl dX5_refusal_1 ?_
  refine g_if_ne (tgt := 9) F dX5_refusal_4 (by decide) (fun h => absurd (by decide) h) (fun _ => ?_)
  refine g_iconst (v := 0) F dX5_refusal_7 (by decide) ?_
  exact g_iret F e dX5_refusal_8 ⟨rfl, rfl, rfl⟩
set_option maxRecDepth 100000 in
set_option maxHeartbeats 4000000 in
theorem kX8_attempt_3 (l : Launch) (E : gE) (hE : gDist sh E) (a2 : Int32) : Ct l sh E yX8_attempt cX8_attempt 8 (some .int) (gR 1) [.ref (E.2.1 0), .int 2, .int a2, .int (-1), .int (-1), .int (-1)] g0 h0 (fun r I1 J1 => r = some (.int 0) ∧ I1 = g0 ∧ J1 = h0) := by
  refine Ct.of "LeapJoin" rfl hE (by decide) (Nat.le_of_ble_eq_true rfl) (fun z F e hl => ?_)
  subst hl
  refine g_aload_n F 0 dX8_attempt_0 rfl rfl ?_
  refine g_getr (j := 1) (nn := 3) F s0 rfl rfl uX8 (by decide) q170 dX8_attempt_1 ?_
  refine g_iload_n F 1 dX8_attempt_4 rfl rfl ?_
  refine g_iload_n F 2 dX8_attempt_5 rfl rfl ?_
  refine g_iload_n F 3 dX8_attempt_6 rfl rfl ?_
  refine g_iload F 4 dX8_attempt_7 rfl ?_
  refine g_iload F 5 dX8_attempt_9 rfl ?_
  refine g_callV (k := 3) (As := [.int 2, .int a2, .int (-1), .int (-1), .int (-1)]) (rest := []) F (kX5_refusal_3 (zl z) E hE a2) mX5_refusal q584 rfl s3 rfl rfl rfl (Nat.le_of_ble_eq_true rfl) dX8_attempt_11 (fun r I2 J2 h => ?_)
  obtain ⟨rfl, rfl, rfl⟩ := h
  refine g_st (sn := [.int 0]) rfl ?_
  refine g_istore (Ln := [(6, .int 0), (0, .ref (E.2.1 0)), (1, .int 2), (2, .int a2), (3, .int (-1)), (4, .int (-1)), (5, .int (-1))]) F dX8_attempt_14 (by decide) rfl ?_
  refine g_iload F 0 dX8_attempt_16 rfl ?_
  refine g_iconst (v := (-1)) F dX8_attempt_18 (by decide) ?_
  refine g_icmp_eq (tgt := 25) F dX8_attempt_19 (by decide) (fun h => absurd h (by decide)) (fun _ => ?_)
  refine g_iload F 0 dX8_attempt_22 rfl ?_
  exact g_iret F e dX8_attempt_24 ⟨rfl, rfl, rfl⟩
set_option maxRecDepth 100000 in
set_option maxHeartbeats 4000000 in
theorem kX8_isDone_3 (l : Launch) (E : gE) (hE : gDist sh E) (a2 : Int32) : Ct l sh E yX8_isDone cX8_isDone 7 (some .boolean) (gR 2) [.ref (E.2.1 0), .int 2, .int a2, .int (-1), .int (-1), .int (-1)] g0 h0 (fun r I1 J1 => r = some (.int 0) ∧ I1 = (g_up g0 53 0 1) ∧ J1 = h0) := by
  refine Ct.of "LeapJoin" rfl hE (by decide) (Nat.le_of_ble_eq_true rfl) (fun z F e hl => ?_)
  subst hl
  refine g_aload_n F 0 dX8_isDone_0 rfl rfl ?_
  refine g_iload_n F 1 dX8_isDone_1 rfl rfl ?_
  refine g_iload_n F 2 dX8_isDone_2 rfl rfl ?_
  refine g_iload_n F 3 dX8_isDone_3 rfl rfl ?_
  refine g_iload F 4 dX8_isDone_4 rfl ?_
  refine g_iload F 5 dX8_isDone_6 rfl ?_
  refine g_callV (k := 0) (As := [.int 2, .int a2, .int (-1), .int (-1), .int (-1)]) (rest := []) F (kX8_attempt_3 (zl z) E hE a2) mX8_attempt q581 rfl s0 rfl rfl rfl (Nat.le_of_ble_eq_true rfl) dX8_isDone_8 (fun r I2 J2 h => ?_)
  obtain ⟨rfl, rfl, rfl⟩ := h
  refine g_st (sn := [.int 0]) rfl ?_
  refine g_istore (Ln := [(6, .int 0), (0, .ref (E.2.1 0)), (1, .int 2), (2, .int a2), (3, .int (-1)), (4, .int (-1)), (5, .int (-1))]) F dX8_isDone_11 (by decide) rfl ?_
  refine g_iload F 0 dX8_isDone_13 rfl ?_
  refine g_if_lt (tgt := 35) F dX8_isDone_15 (by decide) (fun h => absurd h (by decide)) (fun _ => ?_)
  refine g_iload F 0 dX8_isDone_18 rfl ?_
  refine g_iconst (v := 4) F dX8_isDone_20 (by decide) ?_
  refine g_icmp_ge (tgt := 35) F dX8_isDone_21 (by decide) (fun h => absurd h (by decide)) (fun _ => ?_)
  refine g_aload_n F 1 dX8_isDone_24 rfl rfl ?_
  refine g_getr (j := 13) (nn := 53) F s0 rfl rfl uX8 (by decide) q182 dX8_isDone_25 ?_
  refine g_iload F 0 dX8_isDone_28 rfl ?_
  refine g_dup2 F dX8_isDone_30 rfl rfl ?_
  refine g_iald (v := 0) F 0 s53 (by decide) (by decide) (by decide) rfl dX8_isDone_31 ?_
  refine g_iconst (v := 1) F dX8_isDone_32 (by decide) ?_
  refine g_iadd (v := 1) F dX8_isDone_33 (by decide) ?_
  refine g_iast (v := 1) F 0 s53 (by decide) (by decide) (by decide) rfl dX8_isDone_34 ?_
  refine g_iload F 0 dX8_isDone_35 rfl ?_
  refine g_iconst (v := (-1)) F dX8_isDone_37 (by decide) ?_
  refine g_icmp_ne (tgt := 45) F dX8_isDone_38 (by decide) (fun _ => ?_) (fun h => absurd h (by decide))
  refine g_iconst (v := 0) F dX8_isDone_45 (by decide) ?_
  exact g_zret F rfl e dX8_isDone_46 ⟨rfl, rfl, rfl⟩
set_option maxRecDepth 100000 in
set_option maxHeartbeats 4000000 in
theorem kX8_use (l : Launch) (E : gE) (hE : gDist sh E) (a1 : Int32) : Ct l sh E yX8_use cX8_use 2 (some .int) (gR 3) [.ref (E.2.1 0), .int a1] g0 h0 (fun r I1 J1 => r = some (.int (-1)) ∧ Z9 I1 J1) := by
  refine Ct.of "LeapJoin" rfl hE (by decide) (Nat.le_of_ble_eq_true rfl) (fun z F e hl => ?_)
  subst hl
  refine g_aload_n F 0 dX8_use_0 rfl rfl ?_
  refine g_iconst (v := 2) F dX8_use_1 (by decide) ?_
  refine g_iload_n F 1 dX8_use_2 rfl rfl ?_
  refine g_iconst (v := (-1)) F dX8_use_3 (by decide) ?_
  refine g_iconst (v := (-1)) F dX8_use_4 (by decide) ?_
  refine g_iconst (v := (-1)) F dX8_use_5 (by decide) ?_
  refine g_callV (k := 0) (As := [.int 2, .int a1, .int (-1), .int (-1), .int (-1)]) (rest := []) F (kX8_isDone_3 (zl z) E hE a1) mX8_isDone q578 rfl s0 rfl rfl rfl (Nat.le_of_ble_eq_true rfl) dX8_use_6 (fun r I2 J2 h => ?_)
  obtain ⟨rfl, rfl, rfl⟩ := h
  refine g_st (sn := [.int 0]) rfl ?_
  refine g_if_ne (tgt := 14) F dX8_use_9 (by decide) (fun h => absurd (by decide) h) (fun _ => ?_)
  refine g_iconst (v := (-1)) F dX8_use_12 (by decide) ?_
  exact g_iret F e dX8_use_13 ⟨rfl, (Z9_up (by decide) Z9_0)⟩
set_option maxRecDepth 100000 in
set_option maxHeartbeats 4000000 in
theorem kX5_refusal_4 (l : Launch) (E : gE) (hE : gDist sh E) (a2 : Int32) : Ct l sh E yX5_refusal cX5_refusal 7 (some .int) (gR 0) [.ref (E.2.1 3), .int 3, .int a2, .int (-1), .int (-1), .int (-1)] g0 h0 (fun r I1 J1 => r = some (.int 0) ∧ I1 = g0 ∧ J1 = h0) := by
  refine Ct.of "LeapJoin$Tables" rfl hE (by decide) (Nat.le_of_ble_eq_true rfl) (fun z F e hl => ?_)
  subst hl
  refine g_aload_n F 0 dX5_refusal_0 rfl rfl ?_
  refine g_geti (j := 0) (v := 0) F s3 rfl rfl uX5 (by decide) q48 rfl dX5_refusal_1 ?_
  refine g_if_ne (tgt := 9) F dX5_refusal_4 (by decide) (fun h => absurd (by decide) h) (fun _ => ?_)
  refine g_iconst (v := 0) F dX5_refusal_7 (by decide) ?_
  exact g_iret F e dX5_refusal_8 ⟨rfl, rfl, rfl⟩
set_option maxRecDepth 100000 in
set_option maxHeartbeats 4000000 in
theorem kX8_attempt_4 (l : Launch) (E : gE) (hE : gDist sh E) (a2 : Int32) : Ct l sh E yX8_attempt cX8_attempt 8 (some .int) (gR 1) [.ref (E.2.1 0), .int 3, .int a2, .int (-1), .int (-1), .int (-1)] g0 h0 (fun r I1 J1 => r = some (.int 0) ∧ I1 = g0 ∧ J1 = h0) := by
  refine Ct.of "LeapJoin" rfl hE (by decide) (Nat.le_of_ble_eq_true rfl) (fun z F e hl => ?_)
  subst hl
  refine g_aload_n F 0 dX8_attempt_0 rfl rfl ?_
  refine g_getr (j := 1) (nn := 3) F s0 rfl rfl uX8 (by decide) q170 dX8_attempt_1 ?_
  refine g_iload_n F 1 dX8_attempt_4 rfl rfl ?_
  refine g_iload_n F 2 dX8_attempt_5 rfl rfl ?_
  refine g_iload_n F 3 dX8_attempt_6 rfl rfl ?_
  refine g_iload F 4 dX8_attempt_7 rfl ?_
  refine g_iload F 5 dX8_attempt_9 rfl ?_
  refine g_callV (k := 3) (As := [.int 3, .int a2, .int (-1), .int (-1), .int (-1)]) (rest := []) F (kX5_refusal_4 (zl z) E hE a2) mX5_refusal q584 rfl s3 rfl rfl rfl (Nat.le_of_ble_eq_true rfl) dX8_attempt_11 (fun r I2 J2 h => ?_)
  obtain ⟨rfl, rfl, rfl⟩ := h
  refine g_st (sn := [.int 0]) rfl ?_
  refine g_istore (Ln := [(6, .int 0), (0, .ref (E.2.1 0)), (1, .int 3), (2, .int a2), (3, .int (-1)), (4, .int (-1)), (5, .int (-1))]) F dX8_attempt_14 (by decide) rfl ?_
  refine g_iload F 0 dX8_attempt_16 rfl ?_
  refine g_iconst (v := (-1)) F dX8_attempt_18 (by decide) ?_
  refine g_icmp_eq (tgt := 25) F dX8_attempt_19 (by decide) (fun h => absurd h (by decide)) (fun _ => ?_)
  refine g_iload F 0 dX8_attempt_22 rfl ?_
  exact g_iret F e dX8_attempt_24 ⟨rfl, rfl, rfl⟩
set_option maxRecDepth 100000 in
set_option maxHeartbeats 4000000 in
theorem kX8_isDone_4 (l : Launch) (E : gE) (hE : gDist sh E) (a2 : Int32) : Ct l sh E yX8_isDone cX8_isDone 7 (some .boolean) (gR 2) [.ref (E.2.1 0), .int 3, .int a2, .int (-1), .int (-1), .int (-1)] g0 h0 (fun r I1 J1 => r = some (.int 0) ∧ I1 = (g_up g0 53 0 1) ∧ J1 = h0) := by
  refine Ct.of "LeapJoin" rfl hE (by decide) (Nat.le_of_ble_eq_true rfl) (fun z F e hl => ?_)
  subst hl
  refine g_aload_n F 0 dX8_isDone_0 rfl rfl ?_
  refine g_iload_n F 1 dX8_isDone_1 rfl rfl ?_
  refine g_iload_n F 2 dX8_isDone_2 rfl rfl ?_
  refine g_iload_n F 3 dX8_isDone_3 rfl rfl ?_
  refine g_iload F 4 dX8_isDone_4 rfl ?_
  refine g_iload F 5 dX8_isDone_6 rfl ?_
  refine g_callV (k := 0) (As := [.int 3, .int a2, .int (-1), .int (-1), .int (-1)]) (rest := []) F (kX8_attempt_4 (zl z) E hE a2) mX8_attempt q581 rfl s0 rfl rfl rfl (Nat.le_of_ble_eq_true rfl) dX8_isDone_8 (fun r I2 J2 h => ?_)
  obtain ⟨rfl, rfl, rfl⟩ := h
  refine g_st (sn := [.int 0]) rfl ?_
  refine g_istore (Ln := [(6, .int 0), (0, .ref (E.2.1 0)), (1, .int 3), (2, .int a2), (3, .int (-1)), (4, .int (-1)), (5, .int (-1))]) F dX8_isDone_11 (by decide) rfl ?_
  refine g_iload F 0 dX8_isDone_13 rfl ?_
  refine g_if_lt (tgt := 35) F dX8_isDone_15 (by decide) (fun h => absurd h (by decide)) (fun _ => ?_)
  refine g_iload F 0 dX8_isDone_18 rfl ?_
  refine g_iconst (v := 4) F dX8_isDone_20 (by decide) ?_
  refine g_icmp_ge (tgt := 35) F dX8_isDone_21 (by decide) (fun h => absurd h (by decide)) (fun _ => ?_)
  refine g_aload_n F 1 dX8_isDone_24 rfl rfl ?_
  refine g_getr (j := 13) (nn := 53) F s0 rfl rfl uX8 (by decide) q182 dX8_isDone_25 ?_
  refine g_iload F 0 dX8_isDone_28 rfl ?_
  refine g_dup2 F dX8_isDone_30 rfl rfl ?_
  refine g_iald (v := 0) F 0 s53 (by decide) (by decide) (by decide) rfl dX8_isDone_31 ?_
  refine g_iconst (v := 1) F dX8_isDone_32 (by decide) ?_
  refine g_iadd (v := 1) F dX8_isDone_33 (by decide) ?_
  refine g_iast (v := 1) F 0 s53 (by decide) (by decide) (by decide) rfl dX8_isDone_34 ?_
  refine g_iload F 0 dX8_isDone_35 rfl ?_
  refine g_iconst (v := (-1)) F dX8_isDone_37 (by decide) ?_
  refine g_icmp_ne (tgt := 45) F dX8_isDone_38 (by decide) (fun _ => ?_) (fun h => absurd h (by decide))
  refine g_iconst (v := 0) F dX8_isDone_45 (by decide) ?_
  exact g_zret F rfl e dX8_isDone_46 ⟨rfl, rfl, rfl⟩
set_option maxRecDepth 100000 in
set_option maxHeartbeats 4000000 in
theorem kX8_order (l : Launch) (E : gE) (hE : gDist sh E) (a1 : Int32) : Ct l sh E yX8_order cX8_order 3 (some .int) (gR 3) [.ref (E.2.1 0), .int a1] g0 h0 (fun r I1 J1 => r = some (.int (-1)) ∧ Z9 I1 J1) := by
  refine Ct.of "LeapJoin" rfl hE (by decide) (Nat.le_of_ble_eq_true rfl) (fun z F e hl => ?_)
  subst hl
  refine g_aload_n F 0 dX8_order_0 rfl rfl ?_
  refine g_getr (j := 1) (nn := 3) F s0 rfl rfl uX8 (by decide) q170 dX8_order_1 ?_
  refine g_geti (j := 2) (v := 0) F s3 rfl rfl uX5 (by decide) q54 rfl dX8_order_4 ?_
  refine g_istore_n (Ln := [(2, .int 0), (0, .ref (E.2.1 0)), (1, .int a1)]) F dX8_order_7 rfl (by decide) rfl ?_
  refine g_aload_n F 1 dX8_order_8 rfl rfl ?_
  refine g_iconst (v := 3) F dX8_order_9 (by decide) ?_
  refine g_iload_n F 2 dX8_order_10 rfl rfl ?_
  refine g_iconst (v := (-1)) F dX8_order_11 (by decide) ?_
  refine g_iconst (v := (-1)) F dX8_order_12 (by decide) ?_
  refine g_iconst (v := (-1)) F dX8_order_13 (by decide) ?_
  refine g_callV (k := 0) (As := [.int 3, .int a1, .int (-1), .int (-1), .int (-1)]) (rest := []) F (kX8_isDone_4 (zl z) E hE a1) mX8_isDone q578 rfl s0 rfl rfl rfl (Nat.le_of_ble_eq_true rfl) dX8_order_14 (fun r I2 J2 h => ?_)
  obtain ⟨rfl, rfl, rfl⟩ := h
  refine g_st (sn := [.int 0]) rfl ?_
  refine g_if_eq (tgt := 24) F dX8_order_17 (by decide) (fun _ => ?_) (fun h => absurd (by decide) h)
  refine g_iconst (v := (-1)) F dX8_order_24 (by decide) ?_
  exact g_iret F e dX8_order_25 ⟨rfl, (Z9_up (by decide) Z9_0)⟩
set_option maxRecDepth 100000 in
set_option maxHeartbeats 4000000 in
theorem kX8_ways (l : Launch) (E : gE) (hE : gDist sh E) (a1 : Int32) (a2 : Int64) : Ct l sh E yX8_ways cX8_ways 5 (some .int) (gR 0) [.ref (E.2.1 0), .int a1, .long a2] g0 h0 (fun r I1 J1 => r = some (.int (-1)) ∧ Z9 I1 J1) := by
  refine Ct.of "LeapJoin" rfl hE (by decide) (Nat.le_of_ble_eq_true rfl) (fun z F e hl => ?_)
  subst hl
  refine g_aload_n F 0 dX8_ways_0 rfl rfl ?_
  refine g_getr (j := 1) (nn := 3) F s0 rfl rfl uX8 (by decide) q170 dX8_ways_1 ?_
  refine g_geti (j := 0) (v := 0) F s3 rfl rfl uX5 (by decide) q49 rfl dX8_ways_4 ?_
  refine g_if_eq (tgt := 21) F dX8_ways_7 (by decide) (fun _ => ?_) (fun h => absurd (by decide) h)
  refine g_iconst (v := (-1)) F dX8_ways_21 (by decide) ?_
  exact g_iret F e dX8_ways_22 ⟨rfl, Z9_0⟩
set_option maxRecDepth 100000 in
set_option maxHeartbeats 4000000 in
theorem kX8_status (l : Launch) (E : gE) (hE : gDist sh E) (a1 : Int32) : Ct l sh E yX8_status cX8_status 2 (some .int) (gR 0) [.ref (E.2.1 0), .int a1] g0 h0 (fun r I1 J1 => r = some (.int (if 0 ≤ a1 ∧ a1 < 4 then 0 else (-1))) ∧ Z9 I1 J1) := by
  refine Ct.of "LeapJoin" rfl hE (by decide) (Nat.le_of_ble_eq_true rfl) (fun z F e hl => ?_)
  subst hl
  refine g_iload_n F 1 dX8_status_0 rfl rfl ?_
  refine g_if_lt (tgt := 18) F dX8_status_1 (by decide) (fun c1 => ?_) (fun c1f => ?_)
  · refine g_iconst (v := (-1)) F dX8_status_18 (by decide) ?_
    exact g_iret F e dX8_status_19 ⟨(congrArg (fun x => some (Value.int x)) (if_neg (by simp only [g_lt, g_le, g_eq, g_l0, g_l1, g_l2, g_l3, g_l4, g_l5, g_lm1, g_l400, g_l40, g_l15] at c1 ⊢; omega)).symm), Z9_0⟩
  · refine g_iload_n F 1 dX8_status_4 rfl rfl ?_
    refine g_iconst (v := 4) F dX8_status_5 (by decide) ?_
    refine g_icmp_ge (tgt := 18) F dX8_status_6 (by decide) (fun c2 => ?_) (fun c2f => ?_)
    · refine g_iconst (v := (-1)) F dX8_status_18 (by decide) ?_
      exact g_iret F e dX8_status_19 ⟨(congrArg (fun x => some (Value.int x)) (if_neg (by simp only [g_lt, g_le, g_eq, g_l0, g_l1, g_l2, g_l3, g_l4, g_l5, g_lm1, g_l400, g_l40, g_l15] at c1f c2 ⊢; omega)).symm), Z9_0⟩
    · refine g_aload_n F 0 dX8_status_9 rfl rfl ?_
      refine g_getr (j := 13) (nn := 53) F s0 rfl rfl uX8 (by decide) q182 dX8_status_10 ?_
      refine g_iload_n F 1 dX8_status_13 rfl rfl ?_
      refine g_ialdX (v := 0) F s53 (vp_in_iff.mpr (by simp only [g_lt, g_le, g_eq, g_l0, g_l1, g_l2, g_l3, g_l4, g_l5, g_lm1, g_l400, g_l40, g_l15] at c1f c2f; omega)) (by decide) rfl dX8_status_14 ?_
      refine g_goto (tgt := 19) F dX8_status_15 (by decide) ?_
      exact g_iret F e dX8_status_19 ⟨(congrArg (fun x => some (Value.int x)) (if_pos (by simp only [g_lt, g_le, g_eq, g_l0, g_l1, g_l2, g_l3, g_l4, g_l5, g_lm1, g_l400, g_l40, g_l15] at c1f c2f ⊢; omega)).symm), Z9_0⟩
set_option maxRecDepth 100000 in
set_option maxHeartbeats 4000000 in
theorem kX8_undo (l : Launch) (E : gE) (hE : gDist sh E) : Ct l sh E yX8_undo cX8_undo 1 (some .int) (gR 0) [.ref (E.2.1 0)] g0 h0 (fun r I1 J1 => r = some (.int (-1)) ∧ Z9 I1 J1) := by
  refine Ct.of "LeapJoin" rfl hE (by decide) (Nat.le_of_ble_eq_true rfl) (fun z F e hl => ?_)
  subst hl
  refine g_aload_n F 0 dX8_undo_0 rfl rfl ?_
  refine g_getr (j := 10) (nn := 48) F s0 rfl rfl uX8 (by decide) q179 dX8_undo_1 ?_
  refine g_geti (j := 0) (v := 0) F s48 rfl rfl uX3 (by decide) q153 rfl dX8_undo_4 ?_
  refine g_if_ne (tgt := 12) F dX8_undo_7 (by decide) (fun h => absurd (by decide) h) (fun _ => ?_)
  refine g_iconst (v := (-1)) F dX8_undo_10 (by decide) ?_
  exact g_iret F e dX8_undo_11 ⟨rfl, Z9_0⟩
set_option maxRecDepth 100000 in
set_option maxHeartbeats 4000000 in
theorem kX2_shown (l : Launch) (E : gE) (hE : gDist sh E) : Ct l sh E yX2_shown cX2_shown 1 (some .int) (gR 1) [.ref (E.2.1 44)] g0 h0 (fun r I1 J1 => r = some (.int 0) ∧ I1 = g0 ∧ J1 = h0) := by
  refine Ct.of "LeapJoin$Log" rfl hE (by decide) (Nat.le_of_ble_eq_true rfl) (fun z F e hl => ?_)
  subst hl
  refine g_aload_n F 0 dX2_shown_0 rfl rfl ?_
  refine g_geti (j := 2) (v := 0) F s44 rfl rfl uX2 (by decide) q143 rfl dX2_shown_1 ?_
  refine g_bipush (v := 60) F dX2_shown_4 (by decide) ?_
  refine g_mmin (v := 0) F q615 (by decide) (Nat.le_of_ble_eq_true rfl) (Nat.le_of_ble_eq_true rfl) (Nat.le_of_ble_eq_true rfl) dX2_shown_6 ?_
  exact g_iret F e dX2_shown_9 ⟨rfl, rfl, rfl⟩
set_option maxRecDepth 100000 in
set_option maxHeartbeats 4000000 in
theorem kX8_log (l : Launch) (E : gE) (hE : gDist sh E) (a1 : Int32) (a2 : Int32) : Ct l sh E yX8_log cX8_log 3 (some .int) (gR 2) [.ref (E.2.1 0), .int a1, .int a2] g0 h0 (fun r I1 J1 => r = some (.int (-1000000)) ∧ Z9 I1 J1) := by
  refine Ct.of "LeapJoin" rfl hE (by decide) (Nat.le_of_ble_eq_true rfl) (fun z F e hl => ?_)
  subst hl
  refine g_iload_n F 1 dX8_log_0 rfl rfl ?_
  refine g_if_lt (tgt := 24) F dX8_log_1 (by decide) (fun c1 => ?_) (fun c1f => ?_)
  · refine g_ldc_w F dX8_log_24 q555 ?_
    exact g_iret F e dX8_log_27 ⟨rfl, Z9_0⟩
  · refine g_iload_n F 1 dX8_log_4 rfl rfl ?_
    refine g_aload_n F 0 dX8_log_5 rfl rfl ?_
    refine g_getr (j := 8) (nn := 44) F s0 rfl rfl uX8 (by decide) q177 dX8_log_6 ?_
    refine g_callV (k := 44) (As := []) (rest := [.int a1]) F (kX2_shown (zl z) E hE) mX2_shown q678 rfl s44 rfl rfl rfl (Nat.le_of_ble_eq_true rfl) dX8_log_9 (fun r I2 J2 h => ?_)
    obtain ⟨rfl, rfl, rfl⟩ := h
    refine g_st (sn := [.int 0, .int a1]) rfl ?_
    refine g_icmp_ge (tgt := 24) F dX8_log_12 (by decide) (fun _ => ?_) (fun c2 => by exfalso; simp only [g_lt, g_le, g_eq, g_l0, g_l1, g_l2, g_l3, g_l4, g_l5, g_lm1, g_l400, g_l40, g_l15] at c2 c1f; omega)
    refine g_ldc_w F dX8_log_24 q555 ?_
    exact g_iret F e dX8_log_27 ⟨rfl, Z9_0⟩
set_option maxRecDepth 100000 in
set_option maxHeartbeats 4000000 in
theorem kX8_would (l : Launch) (E : gE) (hE : gDist sh E) (a1 : Int32) (a2 : Int32) (a3 : Int32) (a4 : Int32) (a5 : Int32) : Ct l sh E yX8_would cX8_would 6 (some .int) (gR 1) [.ref (E.2.1 0), .int a1, .int a2, .int a3, .int a4, .int a5] g0 h0 (fun r I1 J1 => r = some (.int (-1)) ∧ Z9 I1 J1) := by
  refine Ct.of "LeapJoin" rfl hE (by decide) (Nat.le_of_ble_eq_true rfl) (fun z F e hl => ?_)
  subst hl
  refine g_iload F 5 dX8_would_0 rfl ?_
  refine g_if_lt (tgt := 28) F dX8_would_2 (by decide) (fun c1 => ?_) (fun c1f => ?_)
  · refine g_iconst (v := (-1)) F dX8_would_28 (by decide) ?_
    exact g_iret F e dX8_would_29 ⟨rfl, Z9_0⟩
  · refine g_iload F 5 dX8_would_5 rfl ?_
    refine g_iconst (v := 1) F dX8_would_7 (by decide) ?_
    refine g_icmp_gt (tgt := 28) F dX8_would_8 (by decide) (fun c2 => ?_) (fun c2f => ?_)
    · refine g_iconst (v := (-1)) F dX8_would_28 (by decide) ?_
      exact g_iret F e dX8_would_29 ⟨rfl, Z9_0⟩
    · refine g_aload_n F 0 dX8_would_11 rfl rfl ?_
      refine g_getr (j := 1) (nn := 3) F s0 rfl rfl uX8 (by decide) q170 dX8_would_12 ?_
      refine g_iconst (v := 0) F dX8_would_15 (by decide) ?_
      refine g_iload_n F 1 dX8_would_16 rfl rfl ?_
      refine g_iload_n F 2 dX8_would_17 rfl rfl ?_
      refine g_iload_n F 3 dX8_would_18 rfl rfl ?_
      refine g_iload F 4 dX8_would_19 rfl ?_
      refine g_callV (k := 3) (As := [.int 0, .int a1, .int a2, .int a3, .int a4]) (rest := []) F (kX5_refusal (zl z) E hE a1 a2 a3 a4) mX5_refusal q584 rfl s3 rfl rfl rfl (Nat.le_of_ble_eq_true rfl) dX8_would_21 (fun r I2 J2 h => ?_)
      obtain ⟨rfl, rfl, rfl⟩ := h
      refine g_st (sn := [.int 0]) rfl ?_
      refine g_iconst (v := (-1)) F dX8_would_24 (by decide) ?_
      refine g_icmp_eq (tgt := 30) F dX8_would_25 (by decide) (fun h => absurd h (by decide)) (fun _ => ?_)
      refine g_iconst (v := (-1)) F dX8_would_28 (by decide) ?_
      exact g_iret F e dX8_would_29 ⟨rfl, Z9_0⟩
set_option maxRecDepth 100000 in
set_option maxHeartbeats 4000000 in
theorem kX8_isScript (l : Launch) (E : gE) (hE : gDist sh E) (a1 : Int32) : Ct l sh E yX8_isScript cX8_isScript 2 (some .boolean) (gR 0) [.ref (E.2.1 0), .int a1] g0 h0 (fun r I1 J1 => r = some (.int 0) ∧ I1 = g0 ∧ J1 = h0) := by
  refine Ct.of "LeapJoin" rfl hE (by decide) (Nat.le_of_ble_eq_true rfl) (fun z F e hl => ?_)
  subst hl
  refine g_iload_n F 1 dX8_isScript_0 rfl rfl ?_
  refine g_if_lt (tgt := 21) F dX8_isScript_1 (by decide) (fun c1 => ?_) (fun c1f => ?_)
  · refine g_iconst (v := 0) F dX8_isScript_21 (by decide) ?_
    exact g_zret F rfl e dX8_isScript_22 ⟨rfl, rfl, rfl⟩
  · refine g_iload_n F 1 dX8_isScript_4 rfl rfl ?_
    refine g_aload_n F 0 dX8_isScript_5 rfl rfl ?_
    refine g_geti (j := 14) (v := 0) F s0 rfl rfl uX8 (by decide) q183 rfl dX8_isScript_6 ?_
    refine g_icmp_ge (tgt := 21) F dX8_isScript_9 (by decide) (fun _ => ?_) (fun c2 => by exfalso; simp only [g_lt, g_le, g_eq, g_l0, g_l1, g_l2, g_l3, g_l4, g_l5, g_lm1, g_l400, g_l40, g_l15] at c2 c1f; omega)
    refine g_iconst (v := 0) F dX8_isScript_21 (by decide) ?_
    exact g_zret F rfl e dX8_isScript_22 ⟨rfl, rfl, rfl⟩
set_option maxRecDepth 100000 in
set_option maxHeartbeats 4000000 in
theorem kX8_step (l : Launch) (E : gE) (hE : gDist sh E) (a1 : Int32) (a2 : Int32) (a3 : Int32) : Ct l sh E yX8_step cX8_step 4 (some .int) (gR 1) [.ref (E.2.1 0), .int a1, .int a2, .int a3] g0 h0 (fun r I1 J1 => r = some (.int (-1000000)) ∧ Z9 I1 J1) := by
  refine Ct.of "LeapJoin" rfl hE (by decide) (Nat.le_of_ble_eq_true rfl) (fun z F e hl => ?_)
  subst hl
  refine g_aload_n F 0 dX8_step_0 rfl rfl ?_
  refine g_iload_n F 1 dX8_step_1 rfl rfl ?_
  refine g_callV (k := 0) (As := [.int a1]) (rest := []) F (kX8_isScript (zl z) E hE a1) mX8_isScript q694 rfl s0 rfl rfl rfl (Nat.le_of_ble_eq_true rfl) dX8_step_2 (fun r I2 J2 h => ?_)
  obtain ⟨rfl, rfl, rfl⟩ := h
  refine g_st (sn := [.int 0]) rfl ?_
  refine g_if_eq (tgt := 34) F dX8_step_5 (by decide) (fun _ => ?_) (fun h => absurd (by decide) h)
  refine g_ldc_w F dX8_step_34 q555 ?_
  exact g_iret F e dX8_step_37 ⟨rfl, Z9_0⟩
set_option maxRecDepth 100000 in
set_option maxHeartbeats 4000000 in
theorem kX8_run (l : Launch) (E : gE) (hE : gDist sh E) (a1 : Int32) (a2 : Int32) : Ct l sh E yX8_run cX8_run 4 (some .int) (gR 1) [.ref (E.2.1 0), .int a1, .int a2] g0 h0 (fun r I1 J1 => r = some (.int (-1000000)) ∧ Z9 I1 J1) := by
  refine Ct.of "LeapJoin" rfl hE (by decide) (Nat.le_of_ble_eq_true rfl) (fun z F e hl => ?_)
  subst hl
  refine g_aload_n F 0 dX8_run_0 rfl rfl ?_
  refine g_iload_n F 1 dX8_run_1 rfl rfl ?_
  refine g_callV (k := 0) (As := [.int a1]) (rest := []) F (kX8_isScript (zl z) E hE a1) mX8_isScript q694 rfl s0 rfl rfl rfl (Nat.le_of_ble_eq_true rfl) dX8_run_2 (fun r I2 J2 h => ?_)
  obtain ⟨rfl, rfl, rfl⟩ := h
  refine g_st (sn := [.int 0]) rfl ?_
  refine g_if_eq (tgt := 27) F dX8_run_5 (by decide) (fun _ => ?_) (fun h => absurd (by decide) h)
  refine g_ldc_w F dX8_run_27 q555 ?_
  exact g_iret F e dX8_run_30 ⟨rfl, Z9_0⟩
set_option maxRecDepth 100000 in
set_option maxHeartbeats 4000000 in
theorem kX8_perform (l : Launch) (E : gE) (hE : gDist sh E) (a1 : Int32) : Ct l sh E yX8_perform cX8_perform 5 (some .int) (gR 1) [.ref (E.2.1 0), .int a1] g0 h0 (fun r I1 J1 => r = some (.int (-1)) ∧ Z9 I1 J1) := by
  refine Ct.of "LeapJoin" rfl hE (by decide) (Nat.le_of_ble_eq_true rfl) (fun z F e hl => ?_)
  subst hl
  refine g_aload_n F 0 dX8_perform_0 rfl rfl ?_
  refine g_iload_n F 1 dX8_perform_1 rfl rfl ?_
  refine g_callV (k := 0) (As := [.int a1]) (rest := []) F (kX8_isScript (zl z) E hE a1) mX8_isScript q694 rfl s0 rfl rfl rfl (Nat.le_of_ble_eq_true rfl) dX8_perform_2 (fun r I2 J2 h => ?_)
  obtain ⟨rfl, rfl, rfl⟩ := h
  refine g_st (sn := [.int 0]) rfl ?_
  refine g_if_eq (tgt := 18) F dX8_perform_5 (by decide) (fun _ => ?_) (fun h => absurd (by decide) h)
  refine g_iconst (v := (-1)) F dX8_perform_18 (by decide) ?_
  exact g_iret F e dX8_perform_19 ⟨rfl, Z9_0⟩
set_option maxRecDepth 100000 in
set_option maxHeartbeats 4000000 in
theorem kX8_most (l : Launch) (E : gE) (hE : gDist sh E) (a1 : Int32) : Ct l sh E yX8_most cX8_most 2 (some .int) (gR 0) [.ref (E.2.1 0), .int a1] g0 h0 (fun r I1 J1 => r = some (.int (-1000000)) ∧ Z9 I1 J1) := by
  refine Ct.of "LeapJoin" rfl hE (by decide) (Nat.le_of_ble_eq_true rfl) (fun z F e hl => ?_)
  subst hl
  refine g_aload_n F 0 dX8_most_0 rfl rfl ?_
  refine g_getr (j := 1) (nn := 3) F s0 rfl rfl uX8 (by decide) q170 dX8_most_1 ?_
  refine g_geti (j := 0) (v := 0) F s3 rfl rfl uX5 (by decide) q49 rfl dX8_most_4 ?_
  refine g_if_ne (tgt := 14) F dX8_most_7 (by decide) (fun h => absurd (by decide) h) (fun _ => ?_)
  refine g_ldc_w F dX8_most_10 q555 ?_
  exact g_iret F e dX8_most_13 ⟨rfl, Z9_0⟩
set_option maxRecDepth 100000 in
set_option maxHeartbeats 4000000 in
theorem kX8_image (l : Launch) (E : gE) (hE : gDist sh E) : Ct l sh E yX8_image cX8_image 1 (some .int) (gR 0) [.ref (E.2.1 0)] g0 h0 (fun r I1 J1 => r = some (.int (-1)) ∧ Z9 I1 J1) := by
  refine Ct.of "LeapJoin" rfl hE (by decide) (Nat.le_of_ble_eq_true rfl) (fun z F e hl => ?_)
  subst hl
  refine g_aload_n F 0 dX8_image_0 rfl rfl ?_
  refine g_getr (j := 1) (nn := 3) F s0 rfl rfl uX8 (by decide) q170 dX8_image_1 ?_
  refine g_geti (j := 0) (v := 0) F s3 rfl rfl uX5 (by decide) q49 rfl dX8_image_4 ?_
  refine g_if_ne (tgt := 12) F dX8_image_7 (by decide) (fun h => absurd (by decide) h) (fun _ => ?_)
  refine g_iconst (v := (-1)) F dX8_image_10 (by decide) ?_
  exact g_iret F e dX8_image_11 ⟨rfl, Z9_0⟩
set_option maxRecDepth 100000 in
set_option maxHeartbeats 4000000 in
theorem kX8_back (l : Launch) (E : gE) (hE : gDist sh E) : Ct l sh E yX8_back cX8_back 1 (some .int) (gR 0) [.ref (E.2.1 0)] g0 h0 (fun r I1 J1 => r = some (.int (-1)) ∧ Z9 I1 J1) := by
  refine Ct.of "LeapJoin" rfl hE (by decide) (Nat.le_of_ble_eq_true rfl) (fun z F e hl => ?_)
  subst hl
  refine g_aload_n F 0 dX8_back_0 rfl rfl ?_
  refine g_geti (j := 15) (v := 0) F s0 rfl rfl uX8 (by decide) q184 rfl dX8_back_1 ?_
  refine g_if_ne (tgt := 9) F dX8_back_4 (by decide) (fun h => absurd (by decide) h) (fun _ => ?_)
  refine g_iconst (v := (-1)) F dX8_back_7 (by decide) ?_
  exact g_iret F e dX8_back_8 ⟨rfl, Z9_0⟩
set_option maxRecDepth 100000 in
set_option maxHeartbeats 4000000 in
theorem kX8_count (l : Launch) (E : gE) (hE : gDist sh E) (a1 : Int32) : Ct l sh E yX8_count cX8_count 2 (some .int) (gR 2) [.ref (E.2.1 0), .int a1] g0 h0 (fun r I1 J1 => r = some (.int (if 0 ≤ a1 ∧ a1 < 5 then 0 else (-1000000))) ∧ Z9 I1 J1) := by
  refine Ct.of "LeapJoin" rfl hE (by decide) (Nat.le_of_ble_eq_true rfl) (fun z F e hl => ?_)
  subst hl
  refine g_iload_n F 1 dX8_count_0 rfl rfl ?_
  by_cases c1 : a1 = 0
  · refine g_tableIn (tgt := 36) F dX8_count_1 (by rw [c1]; decide) (by rw [c1]; decide) (by rw [c1]; rfl) (by decide) ?_
    refine g_aload_n F 0 dX8_count_36 rfl rfl ?_
    refine g_getr (j := 1) (nn := 3) F s0 rfl rfl uX8 (by decide) q170 dX8_count_37 ?_
    refine g_geti (j := 0) (v := 0) F s3 rfl rfl uX5 (by decide) q49 rfl dX8_count_40 ?_
    exact g_iret F e dX8_count_43 ⟨(congrArg (fun x => some (Value.int x)) (if_pos (by simp only [g_lt, g_le, g_eq, g_l0, g_l1, g_l2, g_l3, g_l4, g_l5, g_lm1, g_l400, g_l40, g_l15] at c1 ⊢; omega)).symm), Z9_0⟩
  by_cases c2 : a1 = 1
  · refine g_tableIn (tgt := 44) F dX8_count_1 (by rw [c2]; decide) (by rw [c2]; decide) (by rw [c2]; rfl) (by decide) ?_
    refine g_aload_n F 0 dX8_count_44 rfl rfl ?_
    refine g_geti (j := 14) (v := 0) F s0 rfl rfl uX8 (by decide) q183 rfl dX8_count_45 ?_
    exact g_iret F e dX8_count_48 ⟨(congrArg (fun x => some (Value.int x)) (if_pos (by simp only [g_lt, g_le, g_eq, g_l0, g_l1, g_l2, g_l3, g_l4, g_l5, g_lm1, g_l400, g_l40, g_l15] at c1 c2 ⊢; omega)).symm), Z9_0⟩
  by_cases c3 : a1 = 2
  · refine g_tableIn (tgt := 49) F dX8_count_1 (by rw [c3]; decide) (by rw [c3]; decide) (by rw [c3]; rfl) (by decide) ?_
    refine g_aload_n F 0 dX8_count_49 rfl rfl ?_
    refine g_getr (j := 0) (nn := 1) F s0 rfl rfl uX8 (by decide) q169 dX8_count_50 ?_
    refine g_geti (j := 0) (v := 0) F s1 rfl rfl uX6 (by decide) q36 rfl dX8_count_53 ?_
    exact g_iret F e dX8_count_56 ⟨(congrArg (fun x => some (Value.int x)) (if_pos (by simp only [g_lt, g_le, g_eq, g_l0, g_l1, g_l2, g_l3, g_l4, g_l5, g_lm1, g_l400, g_l40, g_l15] at c1 c2 c3 ⊢; omega)).symm), Z9_0⟩
  by_cases c4 : a1 = 3
  · refine g_tableIn (tgt := 57) F dX8_count_1 (by rw [c4]; decide) (by rw [c4]; decide) (by rw [c4]; rfl) (by decide) ?_
    refine g_aload_n F 0 dX8_count_57 rfl rfl ?_
    refine g_getr (j := 8) (nn := 44) F s0 rfl rfl uX8 (by decide) q177 dX8_count_58 ?_
    refine g_callV (k := 44) (As := []) (rest := []) F (kX2_shown (zl z) E hE) mX2_shown q678 rfl s44 rfl rfl rfl (Nat.le_of_ble_eq_true rfl) dX8_count_61 (fun r I2 J2 h => ?_)
    obtain ⟨rfl, rfl, rfl⟩ := h
    refine g_st (sn := [.int 0]) rfl ?_
    exact g_iret F e dX8_count_64 ⟨(congrArg (fun x => some (Value.int x)) (if_pos (by simp only [g_lt, g_le, g_eq, g_l0, g_l1, g_l2, g_l3, g_l4, g_l5, g_lm1, g_l400, g_l40, g_l15] at c1 c2 c3 c4 ⊢; omega)).symm), Z9_0⟩
  by_cases c5 : a1 = 4
  · refine g_tableIn (tgt := 65) F dX8_count_1 (by rw [c5]; decide) (by rw [c5]; decide) (by rw [c5]; rfl) (by decide) ?_
    refine g_aload_n F 0 dX8_count_65 rfl rfl ?_
    refine g_getr (j := 10) (nn := 48) F s0 rfl rfl uX8 (by decide) q179 dX8_count_66 ?_
    refine g_geti (j := 0) (v := 0) F s48 rfl rfl uX3 (by decide) q153 rfl dX8_count_69 ?_
    exact g_iret F e dX8_count_72 ⟨(congrArg (fun x => some (Value.int x)) (if_pos (by simp only [g_lt, g_le, g_eq, g_l0, g_l1, g_l2, g_l3, g_l4, g_l5, g_lm1, g_l400, g_l40, g_l15] at c1 c2 c3 c4 c5 ⊢; omega)).symm), Z9_0⟩
  refine g_tableOut (tgt := 73) F dX8_count_1 (by simp only [g_lt, g_le, g_eq, g_l0, g_l1, g_l2, g_l3, g_l4, g_l5, g_lm1, g_l400, g_l40, g_l15] at c1 c2 c3 c4 c5 ⊢; omega) (by decide) ?_
  refine g_ldc_w F dX8_count_73 q555 ?_
  exact g_iret F e dX8_count_76 ⟨(congrArg (fun x => some (Value.int x)) (if_neg (by simp only [g_lt, g_le, g_eq, g_l0, g_l1, g_l2, g_l3, g_l4, g_l5, g_lm1, g_l400, g_l40, g_l15] at c1 c2 c3 c4 c5 ⊢; omega)).symm), Z9_0⟩
set_option maxRecDepth 100000 in
set_option maxHeartbeats 4000000 in
theorem kX9_in (l : Launch) (E : gE) (hE : gDist sh E) (I : gM) (J : gN) (a0 : Int32) : Ct l sh E yX9_in cX9_in 3 (some .boolean) (gR 0) [.int a0, .int 0, .int 0] (g9 I) (h9 J) (fun r I1 J1 => (r = some (.int 0) ∧ I1 = (g9 I) ∧ J1 = (h9 J) ∧ a0 < 0) ∨ (r = some (.int 0) ∧ I1 = (g9 I) ∧ J1 = (h9 J) ∧ ¬ a0 < 0 ∧ 0 < a0) ∨ (r = some (.int 1) ∧ I1 = (g9 I) ∧ J1 = (h9 J) ∧ ¬ a0 < 0 ∧ ¬ 0 < a0)) := by
  refine Ct.of "LeapJoinModel" rfl hE (by decide) (Nat.le_of_ble_eq_true rfl) (fun z F e hl => ?_)
  subst hl
  refine g_iload_n F 0 dX9_in_0 rfl rfl ?_
  refine g_iload_n F 1 dX9_in_1 rfl rfl ?_
  refine g_icmp_lt (tgt := 14) F dX9_in_2 (by decide) (fun c1 => ?_) (fun c1f => ?_)
  · refine g_iconst (v := 0) F dX9_in_14 (by decide) ?_
    exact g_zret F rfl e dX9_in_15 (Or.inl ⟨rfl, rfl, rfl, c1⟩)
  · refine g_iload_n F 0 dX9_in_5 rfl rfl ?_
    refine g_iload_n F 2 dX9_in_6 rfl rfl ?_
    refine g_icmp_gt (tgt := 14) F dX9_in_7 (by decide) (fun c2 => ?_) (fun c2f => ?_)
    · refine g_iconst (v := 0) F dX9_in_14 (by decide) ?_
      exact g_zret F rfl e dX9_in_15 (Or.inr (Or.inl ⟨rfl, rfl, rfl, c1f, c2⟩))
    · refine g_iconst (v := 1) F dX9_in_10 (by decide) ?_
      refine g_goto (tgt := 15) F dX9_in_11 (by decide) ?_
      exact g_zret F rfl e dX9_in_15 (Or.inr (Or.inr (⟨rfl, rfl, rfl, c1f, c2f⟩)))
set_option maxRecDepth 100000 in
set_option maxHeartbeats 4000000 in
theorem kX9_end (l : Launch) (E : gE) (hE : gDist sh E) (I : gM) (J : gN) (a1 : Int32) : Ct l sh E yX9_end cX9_end 2 (some .boolean) (gR 1) [.ref (E.2.1 62), .int a1] (g9 I) (h9 J) (fun r _ _ => r = some (.int (if a1 = 0 then 1 else 0))) := by
  refine Ct.of "LeapJoinModel" rfl hE (by decide) (Nat.le_of_ble_eq_true rfl) (fun z F e hl => ?_)
  subst hl
  refine g_iload_n F 1 dX9_end_0 rfl rfl ?_
  refine g_iconst (v := 0) F dX9_end_1 (by decide) ?_
  refine g_aload_n F 0 dX9_end_2 rfl rfl ?_
  refine g_geti (j := 2) (v := 0) F s62 rfl rfl uX9 (by decide) q823 rfl dX9_end_3 ?_
  refine g_callS (As := [.int a1, .int 0, .int 0]) (rest := []) F (kX9_in (zl z) E hE I J a1) mX9_in q923 rfl rfl rfl (Nat.le_of_ble_eq_true rfl) dX9_end_6 (fun r I2 J2 h => ?_)
  rcases h with ⟨rfl, rfl, rfl, c1⟩ | ⟨rfl, rfl, rfl, c2, c3⟩ | ⟨rfl, rfl, rfl, c4, c5⟩
  · refine g_st (sn := [.int 0]) rfl ?_
    refine g_if_ne (tgt := 14) F dX9_end_9 (by decide) (fun h => absurd (by decide) h) (fun _ => ?_)
    refine g_iconst (v := 0) F dX9_end_12 (by decide) ?_
    exact g_zret F rfl e dX9_end_13 (congrArg (fun x => some (Value.int x)) (if_neg (by simp only [g_lt, g_le, g_eq, g_l0, g_l1, g_l2, g_l3, g_l4, g_l5, g_lm1, g_l400, g_l40, g_l15] at c1 ⊢; omega)).symm)
  · refine g_st (sn := [.int 0]) rfl ?_
    refine g_if_ne (tgt := 14) F dX9_end_9 (by decide) (fun h => absurd (by decide) h) (fun _ => ?_)
    refine g_iconst (v := 0) F dX9_end_12 (by decide) ?_
    exact g_zret F rfl e dX9_end_13 (congrArg (fun x => some (Value.int x)) (if_neg (by simp only [g_lt, g_le, g_eq, g_l0, g_l1, g_l2, g_l3, g_l4, g_l5, g_lm1, g_l400, g_l40, g_l15] at c2 c3 ⊢; omega)).symm)
  · refine g_st (sn := [.int 1]) rfl ?_
    refine g_if_ne (tgt := 14) F dX9_end_9 (by decide) (fun _ => ?_) (fun h => absurd h (by decide))
    refine g_aload_n F 0 dX9_end_14 rfl rfl ?_
    refine g_iload_n F 1 dX9_end_15 rfl rfl ?_
    refine g_puti (j := 2) F s62 rfl rfl uX9 (by decide) q823 tyX9_ok nmX9 rfl rfl rfl dX9_end_16 ?_
    refine g_iconst (v := 1) F dX9_end_19 (by decide) ?_
    exact g_zret F rfl e dX9_end_20 (congrArg (fun x => some (Value.int x)) (if_pos (by simp only [g_lt, g_le, g_eq, g_l0, g_l1, g_l2, g_l3, g_l4, g_l5, g_lm1, g_l400, g_l40, g_l15] at c4 c5 ⊢; omega)).symm)
set_option maxRecDepth 100000 in
set_option maxHeartbeats 4000000 in
theorem kX9_begins (l : Launch) (E : gE) (hE : gDist sh E) (I : gM) (J : gN) : Ct l sh E yX9_begins cX9_begins 1 none (gR 0) [.ref (E.2.1 62)] (g9 I) (h9 J) (fun r I1 J1 => r = none ∧ I1 = (g_up (g9 I) 62 4 (-1)) ∧ J1 = (h9 J)) := by
  refine Ct.of "LeapJoinModel" rfl hE (by decide) (Nat.le_of_ble_eq_true rfl) (fun z F e hl => ?_)
  subst hl
  refine g_aload_n F 0 dX9_begins_0 rfl rfl ?_
  refine g_iconst (v := 0) F dX9_begins_1 (by decide) ?_
  refine g_puti (j := 3) F s62 rfl rfl uX9 (by decide) q824 tyX9_ok nmX9 rfl rfl rfl dX9_begins_2 ?_
  refine g_mi (g_up_same rfl) ?_
  refine g_aload_n F 0 dX9_begins_5 rfl rfl ?_
  refine g_iconst (v := (-1)) F dX9_begins_6 (by decide) ?_
  refine g_puti (j := 4) F s62 rfl rfl uX9 (by decide) q825 tyX9_ok nmX9 rfl rfl rfl dX9_begins_7 ?_
  exact g_vret F e dX9_begins_10 ⟨rfl, rfl, rfl⟩
set_option maxRecDepth 100000 in
set_option maxHeartbeats 4000000 in
theorem kX9_here (l : Launch) (E : gE) (hE : gDist sh E) (I : gM) (J : gN) : Ct l sh E yX9_here cX9_here 1 (some .int) (gR 0) [.ref (E.2.1 62)] (g_up (g9 I) 62 4 (-1)) (h9 J) (fun r I1 J1 => r = some (.int (-1)) ∧ I1 = (g_up (g9 I) 62 4 (-1)) ∧ J1 = (h9 J)) := by
  refine Ct.of "LeapJoinModel" rfl hE (by decide) (Nat.le_of_ble_eq_true rfl) (fun z F e hl => ?_)
  subst hl
  refine g_aload_n F 0 dX9_here_0 rfl rfl ?_
  refine g_geti (j := 3) (v := 0) F s62 rfl rfl uX9 (by decide) q824 rfl dX9_here_1 ?_
  refine g_aload_n F 0 dX9_here_4 rfl rfl ?_
  refine g_geti (j := 2) (v := 0) F s62 rfl rfl uX9 (by decide) q823 rfl dX9_here_5 ?_
  refine g_icmp_ge (tgt := 23) F dX9_here_8 (by decide) (fun _ => ?_) (fun h => absurd (by decide) h)
  refine g_iconst (v := (-1)) F dX9_here_23 (by decide) ?_
  exact g_iret F e dX9_here_24 ⟨rfl, rfl, rfl⟩
set_option maxRecDepth 100000 in
set_option maxHeartbeats 4000000 in
theorem kX9_ahead (l : Launch) (E : gE) (hE : gDist sh E) (I : gM) (J : gN) : Ct l sh E yX9_ahead cX9_ahead 1 (some .int) (gR 1) [.ref (E.2.1 62)] (g_up (g9 I) 62 4 (-1)) (h9 J) (fun r I1 J1 => r = some (.int (-1)) ∧ I1 = (g_up (g9 I) 62 4 (-1)) ∧ J1 = (h9 J)) := by
  refine Ct.of "LeapJoinModel" rfl hE (by decide) (Nat.le_of_ble_eq_true rfl) (fun z F e hl => ?_)
  subst hl
  refine g_aload_n F 0 dX9_ahead_0 rfl rfl ?_
  refine g_callV (k := 62) (As := []) (rest := []) F (kX9_here (zl z) E hE I J) mX9_here q945 rfl s62 rfl rfl rfl (Nat.le_of_ble_eq_true rfl) dX9_ahead_1 (fun r I2 J2 h => ?_)
  obtain ⟨rfl, rfl, rfl⟩ := h
  refine g_st (sn := [.int (-1)]) rfl ?_
  refine g_bipush (v := 32) F dX9_ahead_4 (by decide) ?_
  refine g_icmp_ne (tgt := 22) F dX9_ahead_6 (by decide) (fun _ => ?_) (fun h => absurd h (by decide))
  refine g_aload_n F 0 dX9_ahead_22 rfl rfl ?_
  refine g_callV (k := 62) (As := []) (rest := []) F (kX9_here (zl z) E hE I J) mX9_here q945 rfl s62 rfl rfl rfl (Nat.le_of_ble_eq_true rfl) dX9_ahead_23 (fun r I2 J2 h => ?_)
  obtain ⟨rfl, rfl, rfl⟩ := h
  refine g_st (sn := [.int (-1)]) rfl ?_
  exact g_iret F e dX9_ahead_26 ⟨rfl, rfl, rfl⟩
set_option maxRecDepth 100000 in
set_option maxHeartbeats 4000000 in
theorem kX9_bad (l : Launch) (E : gE) (hE : gDist sh E) (I : gM) (J : gN) : Ct l sh E yX9_bad cX9_bad 1 none (gR 0) [.ref (E.2.1 62)] (g_up (g9 I) 62 4 (-1)) (h9 J) (fun r I1 J1 => r = none ∧ I1 = (g_up (g_up (g9 I) 62 4 (-1)) 62 4 0) ∧ J1 = (h9 J)) := by
  refine Ct.of "LeapJoinModel" rfl hE (by decide) (Nat.le_of_ble_eq_true rfl) (fun z F e hl => ?_)
  subst hl
  refine g_aload_n F 0 dX9_bad_0 rfl rfl ?_
  refine g_aload_n F 0 dX9_bad_1 rfl rfl ?_
  refine g_geti (j := 4) (v := (-1)) F s62 rfl rfl uX9 (by decide) q825 rfl dX9_bad_2 ?_
  refine g_iconst (v := (-1)) F dX9_bad_5 (by decide) ?_
  refine g_icmp_ne (tgt := 16) F dX9_bad_6 (by decide) (fun h => absurd (by decide) h) (fun _ => ?_)
  refine g_aload_n F 0 dX9_bad_9 rfl rfl ?_
  refine g_geti (j := 3) (v := 0) F s62 rfl rfl uX9 (by decide) q824 rfl dX9_bad_10 ?_
  refine g_goto (tgt := 20) F dX9_bad_13 (by decide) ?_
  refine g_puti (j := 4) F s62 rfl rfl uX9 (by decide) q825 tyX9_ok nmX9 rfl rfl rfl dX9_bad_20 ?_
  exact g_vret F e dX9_bad_23 ⟨rfl, rfl, rfl⟩
set_option maxRecDepth 100000 in
set_option maxHeartbeats 4000000 in
theorem kX9_readStep (l : Launch) (E : gE) (hE : gDist sh E) (I : gM) (J : gN) : Ct l sh E yX9_readStep cX9_readStep 6 none (gR 2) [.ref (E.2.1 62), .int 240] (g_up (g9 I) 62 4 (-1)) (h9 J) (fun r I1 J1 => r = none ∧ I1 = (g_up (g_up (g9 I) 62 4 (-1)) 62 4 0) ∧ J1 = (h9 J)) := by
  refine Ct.of "LeapJoinModel" rfl hE (by decide) (Nat.le_of_ble_eq_true rfl) (fun z F e hl => ?_)
  subst hl
  refine g_aload_n F 0 dX9_readStep_0 rfl rfl ?_
  refine g_callV (k := 62) (As := []) (rest := []) F (kX9_ahead (zl z) E hE I J) mX9_ahead q942 rfl s62 rfl rfl rfl (Nat.le_of_ble_eq_true rfl) dX9_readStep_1 (fun r I2 J2 h => ?_)
  obtain ⟨rfl, rfl, rfl⟩ := h
  refine g_st (sn := [.int (-1)]) rfl ?_
  refine g_istore_n (Ln := [(2, .int (-1)), (0, .ref (E.2.1 62)), (1, .int 240)]) F dX9_readStep_4 rfl (by decide) rfl ?_
  refine g_iload_n F 0 dX9_readStep_5 rfl rfl ?_
  refine g_bipush (v := 112) F dX9_readStep_6 (by decide) ?_
  refine g_icmp_ne (tgt := 15) F dX9_readStep_8 (by decide) (fun _ => ?_) (fun h => absurd h (by decide))
  refine g_iload_n F 0 dX9_readStep_15 rfl rfl ?_
  refine g_bipush (v := 116) F dX9_readStep_16 (by decide) ?_
  refine g_icmp_ne (tgt := 25) F dX9_readStep_18 (by decide) (fun _ => ?_) (fun h => absurd h (by decide))
  refine g_iload_n F 0 dX9_readStep_25 rfl rfl ?_
  refine g_bipush (v := 117) F dX9_readStep_26 (by decide) ?_
  refine g_icmp_ne (tgt := 35) F dX9_readStep_28 (by decide) (fun _ => ?_) (fun h => absurd h (by decide))
  refine g_iload_n F 0 dX9_readStep_35 rfl rfl ?_
  refine g_bipush (v := 111) F dX9_readStep_36 (by decide) ?_
  refine g_icmp_ne (tgt := 45) F dX9_readStep_38 (by decide) (fun _ => ?_) (fun h => absurd h (by decide))
  refine g_iconst (v := (-1)) F dX9_readStep_45 (by decide) ?_
  refine g_istore_n (Ln := [(3, .int (-1)), (2, .int (-1)), (0, .ref (E.2.1 62)), (1, .int 240)]) F dX9_readStep_46 rfl (by decide) rfl ?_
  refine g_iload_n F 0 dX9_readStep_47 rfl rfl ?_
  refine g_iconst (v := (-1)) F dX9_readStep_48 (by decide) ?_
  refine g_icmp_ne (tgt := 57) F dX9_readStep_49 (by decide) (fun h => absurd (by decide) h) (fun _ => ?_)
  refine g_aload_n F 2 dX9_readStep_52 rfl rfl ?_
  refine g_callV (k := 62) (As := []) (rest := []) F (kX9_bad (zl z) E hE I J) mX9_bad q951 rfl s62 rfl rfl rfl (Nat.le_of_ble_eq_true rfl) dX9_readStep_53 (fun r I2 J2 h => ?_)
  obtain ⟨rfl, rfl, rfl⟩ := h
  refine g_st (sn := []) rfl ?_
  exact g_vret F e dX9_readStep_56 ⟨rfl, rfl, rfl⟩
set_option maxRecDepth 100000 in
set_option maxHeartbeats 4000000 in
theorem kX9_ends (l : Launch) (E : gE) (hE : gDist sh E) (I : gM) (J : gN) : Ct l sh E yX9_ends cX9_ends 1 (some .int) (gR 0) [.ref (E.2.1 62)] (g_up (g_up (g_up (g9 I) 62 4 (-1)) 62 4 0) 69 4 1) (h9 J) (fun r I1 J1 => r = some (.int 0) ∧ I1 = (g_up (g_up (g_up (g9 I) 62 4 (-1)) 62 4 0) 69 4 1) ∧ J1 = (h9 J)) := by
  refine Ct.of "LeapJoinModel" rfl hE (by decide) (Nat.le_of_ble_eq_true rfl) (fun z F e hl => ?_)
  subst hl
  refine g_aload_n F 0 dX9_ends_0 rfl rfl ?_
  refine g_geti (j := 4) (v := 0) F s62 rfl rfl uX9 (by decide) q825 rfl dX9_ends_1 ?_
  refine g_iconst (v := (-1)) F dX9_ends_4 (by decide) ?_
  refine g_icmp_ne (tgt := 20) F dX9_ends_5 (by decide) (fun _ => ?_) (fun h => absurd h (by decide))
  refine g_aload_n F 0 dX9_ends_20 rfl rfl ?_
  refine g_geti (j := 4) (v := 0) F s62 rfl rfl uX9 (by decide) q825 rfl dX9_ends_21 ?_
  exact g_iret F e dX9_ends_24 ⟨rfl, rfl, rfl⟩
set_option maxRecDepth 100000 in
set_option maxHeartbeats 4000000 in
theorem kX9_readScript (l : Launch) (E : gE) (hE : gDist sh E) (I : gM) (J : gN) : Ct l sh E yX9_readScript cX9_readScript 3 (some .int) (gR 3) [.ref (E.2.1 62), .int 4] (g9 I) (h9 J) (fun r I1 J1 => r = some (.int 0) ∧ I1 = (g_up (g_up (g_up (g9 I) 62 4 (-1)) 62 4 0) 69 4 1) ∧ J1 = (h9 J)) := by
  refine Ct.of "LeapJoinModel" rfl hE (by decide) (Nat.le_of_ble_eq_true rfl) (fun z F e hl => ?_)
  subst hl
  refine g_aload_n F 0 dX9_readScript_0 rfl rfl ?_
  refine g_callV (k := 62) (As := []) (rest := []) F (kX9_begins (zl z) E hE I J) mX9_begins q933 rfl s62 rfl rfl rfl (Nat.le_of_ble_eq_true rfl) dX9_readScript_1 (fun r I2 J2 h => ?_)
  obtain ⟨rfl, rfl, rfl⟩ := h
  refine g_st (sn := []) rfl ?_
  refine g_aload_n F 0 dX9_readScript_4 rfl rfl ?_
  refine g_getr (j := 11) (nn := 69) F s62 rfl rfl uX9 (by decide) q832 dX9_readScript_5 ?_
  refine g_iload_n F 1 dX9_readScript_8 rfl rfl ?_
  refine g_iconst (v := 0) F dX9_readScript_9 (by decide) ?_
  refine g_iast (v := 0) F 4 s69 (by decide) (by decide) (by decide) rfl dX9_readScript_10 ?_
  refine g_mi (g_up_same rfl) ?_
  refine g_iconst (v := 1) F dX9_readScript_11 (by decide) ?_
  refine g_istore_n (Ln := [(2, .int 1), (0, .ref (E.2.1 62)), (1, .int 4)]) F dX9_readScript_12 rfl (by decide) rfl ?_
  refine g_iload_n F 0 dX9_readScript_13 rfl rfl ?_
  refine g_if_eq (tgt := 99) F dX9_readScript_14 (by decide) (fun h => absurd h (by decide)) (fun _ => ?_)
  refine g_aload_n F 1 dX9_readScript_17 rfl rfl ?_
  refine g_iconst (v := 5) F dX9_readScript_18 (by decide) ?_
  refine g_bipush (v := 12) F dX9_readScript_19 (by decide) ?_
  refine g_iload_n F 2 dX9_readScript_21 rfl rfl ?_
  refine g_imul (v := 48) F dX9_readScript_22 (by decide) ?_
  refine g_aload_n F 1 dX9_readScript_23 rfl rfl ?_
  refine g_getr (j := 11) (nn := 69) F s62 rfl rfl uX9 (by decide) q832 dX9_readScript_24 ?_
  refine g_iload_n F 2 dX9_readScript_27 rfl rfl ?_
  refine g_iald (v := 0) F 4 s69 (by decide) (by decide) (by decide) rfl dX9_readScript_28 ?_
  refine g_iadd (v := 48) F dX9_readScript_29 (by decide) ?_
  refine g_imul (v := 240) F dX9_readScript_30 (by decide) ?_
  refine g_callV (k := 62) (As := [.int 240]) (rest := []) F (kX9_readStep (zl z) E hE I J) mX9_readStep q975 rfl s62 rfl rfl rfl (Nat.le_of_ble_eq_true rfl) dX9_readScript_31 (fun r I2 J2 h => ?_)
  obtain ⟨rfl, rfl, rfl⟩ := h
  refine g_st (sn := []) rfl ?_
  refine g_aload_n F 1 dX9_readScript_34 rfl rfl ?_
  refine g_getr (j := 11) (nn := 69) F s62 rfl rfl uX9 (by decide) q832 dX9_readScript_35 ?_
  refine g_iload_n F 2 dX9_readScript_38 rfl rfl ?_
  refine g_dup2 F dX9_readScript_39 rfl rfl ?_
  refine g_iald (v := 0) F 4 s69 (by decide) (by decide) (by decide) rfl dX9_readScript_40 ?_
  refine g_iconst (v := 1) F dX9_readScript_41 (by decide) ?_
  refine g_iadd (v := 1) F dX9_readScript_42 (by decide) ?_
  refine g_iast (v := 1) F 4 s69 (by decide) (by decide) (by decide) rfl dX9_readScript_43 ?_
  refine g_aload_n F 1 dX9_readScript_44 rfl rfl ?_
  refine g_geti (j := 4) (v := 0) F s62 rfl rfl uX9 (by decide) q825 rfl dX9_readScript_45 ?_
  refine g_iconst (v := (-1)) F dX9_readScript_48 (by decide) ?_
  refine g_icmp_ne (tgt := 76) F dX9_readScript_49 (by decide) (fun _ => ?_) (fun h => absurd h (by decide))
  refine g_iconst (v := 0) F dX9_readScript_76 (by decide) ?_
  refine g_istore_n (Ln := [(2, .int 0), (0, .ref (E.2.1 62)), (1, .int 4)]) F dX9_readScript_77 rfl (by decide) rfl ?_
  refine g_aload_n F 1 dX9_readScript_78 rfl rfl ?_
  refine g_dup F dX9_readScript_79 rfl ?_
  refine g_geti (j := 3) (v := 0) F s62 rfl rfl uX9 (by decide) q824 rfl dX9_readScript_80 ?_
  refine g_iload_n F 0 dX9_readScript_83 rfl rfl ?_
  refine g_if_eq (tgt := 91) F dX9_readScript_84 (by decide) (fun _ => ?_) (fun h => absurd (by decide) h)
  refine g_iconst (v := 0) F dX9_readScript_91 (by decide) ?_
  refine g_iadd (v := 0) F dX9_readScript_92 (by decide) ?_
  refine g_puti (j := 3) F s62 rfl rfl uX9 (by decide) q824 tyX9_ok nmX9 rfl rfl rfl dX9_readScript_93 ?_
  refine g_mi (g_up_same rfl) ?_
  refine g_goto (tgt := 13) F dX9_readScript_96 (by decide) ?_
  refine g_iload_n F 0 dX9_readScript_13 rfl rfl ?_
  refine g_if_eq (tgt := 99) F dX9_readScript_14 (by decide) (fun _ => ?_) (fun h => absurd (by decide) h)
  refine g_aload_n F 1 dX9_readScript_99 rfl rfl ?_
  refine g_callV (k := 62) (As := []) (rest := []) F (kX9_ends (zl z) E hE I J) mX9_ends q969 rfl s62 rfl rfl rfl (Nat.le_of_ble_eq_true rfl) dX9_readScript_100 (fun r I2 J2 h => ?_)
  obtain ⟨rfl, rfl, rfl⟩ := h
  refine g_st (sn := [.int 0]) rfl ?_
  exact g_iret F e dX9_readScript_103 ⟨rfl, rfl, rfl⟩
set_option maxRecDepth 100000 in
set_option maxHeartbeats 4000000 in
theorem kX9_isLetter (l : Launch) (E : gE) (hE : gDist sh E) (I : gM) (J : gN) : Ct l sh E yX9_isLetter cX9_isLetter 2 (some .boolean) (gR 0) [.ref (E.2.1 62), .int (-1)] (g_up (g9 I) 62 4 (-1)) (h9 J) (fun r I1 J1 => r = some (.int 0) ∧ I1 = (g_up (g9 I) 62 4 (-1)) ∧ J1 = (h9 J)) := by
  refine Ct.of "LeapJoinModel" rfl hE (by decide) (Nat.le_of_ble_eq_true rfl) (fun z F e hl => ?_)
  subst hl
  refine g_iload_n F 1 dX9_isLetter_0 rfl rfl ?_
  refine g_bipush (v := 97) F dX9_isLetter_1 (by decide) ?_
  refine g_icmp_lt (tgt := 16) F dX9_isLetter_3 (by decide) (fun _ => ?_) (fun h => absurd (by decide) h)
  refine g_iconst (v := 0) F dX9_isLetter_16 (by decide) ?_
  exact g_zret F rfl e dX9_isLetter_17 ⟨rfl, rfl, rfl⟩
set_option maxRecDepth 100000 in
set_option maxHeartbeats 4000000 in
theorem kX9_bad_2 (l : Launch) (E : gE) (hE : gDist sh E) (I : gM) (J : gN) : Ct l sh E yX9_bad cX9_bad 1 none (gR 0) [.ref (E.2.1 62)] (g_up (g_up (g9 I) 62 4 (-1)) 62 4 0) (h9 J) (fun r I1 J1 => r = none ∧ I1 = (g_up (g_up (g9 I) 62 4 (-1)) 62 4 0) ∧ J1 = (h9 J)) := by
  refine Ct.of "LeapJoinModel" rfl hE (by decide) (Nat.le_of_ble_eq_true rfl) (fun z F e hl => ?_)
  subst hl
  refine g_aload_n F 0 dX9_bad_0 rfl rfl ?_
  refine g_aload_n F 0 dX9_bad_1 rfl rfl ?_
  refine g_geti (j := 4) (v := 0) F s62 rfl rfl uX9 (by decide) q825 rfl dX9_bad_2 ?_
  refine g_iconst (v := (-1)) F dX9_bad_5 (by decide) ?_
  refine g_icmp_ne (tgt := 16) F dX9_bad_6 (by decide) (fun _ => ?_) (fun h => absurd h (by decide))
  refine g_aload_n F 0 dX9_bad_16 rfl rfl ?_
  refine g_geti (j := 4) (v := 0) F s62 rfl rfl uX9 (by decide) q825 rfl dX9_bad_17 ?_
  refine g_puti (j := 4) F s62 rfl rfl uX9 (by decide) q825 tyX9_ok nmX9 rfl rfl rfl dX9_bad_20 ?_
  refine g_mi (g_up_same rfl) ?_
  exact g_vret F e dX9_bad_23 ⟨rfl, rfl, rfl⟩
set_option maxRecDepth 100000 in
set_option maxHeartbeats 4000000 in
theorem kX9_must (l : Launch) (E : gE) (hE : gDist sh E) (I : gM) (J : gN) : Ct l sh E yX9_must cX9_must 2 none (gR 1) [.ref (E.2.1 62), .int 58] (g_up (g_up (g9 I) 62 4 (-1)) 62 4 0) (h9 J) (fun r I1 J1 => r = none ∧ I1 = (g_up (g_up (g9 I) 62 4 (-1)) 62 4 0) ∧ J1 = (h9 J)) := by
  refine Ct.of "LeapJoinModel" rfl hE (by decide) (Nat.le_of_ble_eq_true rfl) (fun z F e hl => ?_)
  subst hl
  refine g_aload_n F 0 dX9_must_0 rfl rfl ?_
  refine g_geti (j := 4) (v := 0) F s62 rfl rfl uX9 (by decide) q825 rfl dX9_must_1 ?_
  refine g_iconst (v := (-1)) F dX9_must_4 (by decide) ?_
  refine g_icmp_ne (tgt := 29) F dX9_must_5 (by decide) (fun _ => ?_) (fun h => absurd h (by decide))
  refine g_aload_n F 0 dX9_must_29 rfl rfl ?_
  refine g_callV (k := 62) (As := []) (rest := []) F (kX9_bad_2 (zl z) E hE I J) mX9_bad q951 rfl s62 rfl rfl rfl (Nat.le_of_ble_eq_true rfl) dX9_must_30 (fun r I2 J2 h => ?_)
  obtain ⟨rfl, rfl, rfl⟩ := h
  refine g_st (sn := []) rfl ?_
  exact g_vret F e dX9_must_33 ⟨rfl, rfl, rfl⟩
set_option maxRecDepth 100000 in
set_option maxHeartbeats 4000000 in
theorem kX9_readHead (l : Launch) (E : gE) (hE : gDist sh E) (I : gM) (J : gN) : Ct l sh E yX9_readHead cX9_readHead 4 none (gR 2) [.ref (E.2.1 62), .int 0] (g_up (g9 I) 62 4 (-1)) (h9 J) (fun r I1 J1 => r = none ∧ I1 = (g_up (g_up (g9 I) 62 4 (-1)) 62 4 0) ∧ J1 = (h9 J)) := by
  refine Ct.of "LeapJoinModel" rfl hE (by decide) (Nat.le_of_ble_eq_true rfl) (fun z F e hl => ?_)
  subst hl
  refine g_aload_n F 0 dX9_readHead_0 rfl rfl ?_
  refine g_getr (j := 5) (nn := 64) F s62 rfl rfl uX9 (by decide) q826 dX9_readHead_1 ?_
  refine g_iload_n F 1 dX9_readHead_4 rfl rfl ?_
  refine g_iconst (v := 0) F dX9_readHead_5 (by decide) ?_
  refine g_iast (v := 0) F 0 s64 (by decide) (by decide) (by decide) rfl dX9_readHead_6 ?_
  refine g_mi (g_up_same rfl) ?_
  refine g_iconst (v := 0) F dX9_readHead_7 (by decide) ?_
  refine g_istore_n (Ln := [(2, .int 0), (0, .ref (E.2.1 62)), (1, .int 0)]) F dX9_readHead_8 rfl (by decide) rfl ?_
  refine g_aload_n F 1 dX9_readHead_9 rfl rfl ?_
  refine g_aload_n F 1 dX9_readHead_10 rfl rfl ?_
  refine g_callV (k := 62) (As := []) (rest := [.ref (E.2.1 62)]) F (kX9_ahead (zl z) E hE I J) mX9_ahead q942 rfl s62 rfl rfl rfl (Nat.le_of_ble_eq_true rfl) dX9_readHead_11 (fun r I2 J2 h => ?_)
  obtain ⟨rfl, rfl, rfl⟩ := h
  refine g_st (sn := [.int (-1), .ref (E.2.1 62)]) rfl ?_
  refine g_callV (k := 62) (As := [.int (-1)]) (rest := []) F (kX9_isLetter (zl z) E hE I J) mX9_isLetter q948 rfl s62 rfl rfl rfl (Nat.le_of_ble_eq_true rfl) dX9_readHead_14 (fun r I2 J2 h => ?_)
  obtain ⟨rfl, rfl, rfl⟩ := h
  refine g_st (sn := [.int 0]) rfl ?_
  refine g_if_ne (tgt := 24) F dX9_readHead_17 (by decide) (fun h => absurd (by decide) h) (fun _ => ?_)
  refine g_aload_n F 1 dX9_readHead_20 rfl rfl ?_
  refine g_callV (k := 62) (As := []) (rest := []) F (kX9_bad (zl z) E hE I J) mX9_bad q951 rfl s62 rfl rfl rfl (Nat.le_of_ble_eq_true rfl) dX9_readHead_21 (fun r I2 J2 h => ?_)
  obtain ⟨rfl, rfl, rfl⟩ := h
  refine g_st (sn := []) rfl ?_
  refine g_aload_n F 1 dX9_readHead_24 rfl rfl ?_
  refine g_geti (j := 4) (v := 0) F s62 rfl rfl uX9 (by decide) q825 rfl dX9_readHead_25 ?_
  refine g_iconst (v := (-1)) F dX9_readHead_28 (by decide) ?_
  refine g_icmp_ne (tgt := 121) F dX9_readHead_29 (by decide) (fun _ => ?_) (fun h => absurd h (by decide))
  refine g_aload_n F 1 dX9_readHead_121 rfl rfl ?_
  refine g_bipush (v := 58) F dX9_readHead_122 (by decide) ?_
  refine g_callV (k := 62) (As := [.int 58]) (rest := []) F (kX9_must (zl z) E hE I J) mX9_must q957 rfl s62 rfl rfl rfl (Nat.le_of_ble_eq_true rfl) dX9_readHead_124 (fun r I2 J2 h => ?_)
  obtain ⟨rfl, rfl, rfl⟩ := h
  refine g_st (sn := []) rfl ?_
  exact g_vret F e dX9_readHead_127 ⟨rfl, rfl, rfl⟩
set_option maxRecDepth 100000 in
set_option maxHeartbeats 4000000 in
theorem kX9_readTable (l : Launch) (E : gE) (hE : gDist sh E) (I : gM) (J : gN) : Ct l sh E yX9_readTable cX9_readTable 3 none (gR 3) [.ref (E.2.1 62), .int 0] (g_up (g9 I) 62 4 (-1)) (h9 J) (fun r I1 J1 => r = none ∧ I1 = (g_up (g_up (g9 I) 62 4 (-1)) 62 4 0) ∧ J1 = (h9 J)) := by
  refine Ct.of "LeapJoinModel" rfl hE (by decide) (Nat.le_of_ble_eq_true rfl) (fun z F e hl => ?_)
  subst hl
  refine g_aload_n F 0 dX9_readTable_0 rfl rfl ?_
  refine g_iload_n F 1 dX9_readTable_1 rfl rfl ?_
  refine g_callV (k := 62) (As := [.int 0]) (rest := []) F (kX9_readHead (zl z) E hE I J) mX9_readHead q939 rfl s62 rfl rfl rfl (Nat.le_of_ble_eq_true rfl) dX9_readTable_2 (fun r I2 J2 h => ?_)
  obtain ⟨rfl, rfl, rfl⟩ := h
  refine g_st (sn := []) rfl ?_
  refine g_aload_n F 0 dX9_readTable_5 rfl rfl ?_
  refine g_getr (j := 7) (nn := 66) F s62 rfl rfl uX9 (by decide) q828 dX9_readTable_6 ?_
  refine g_iload_n F 1 dX9_readTable_9 rfl rfl ?_
  refine g_iconst (v := 0) F dX9_readTable_10 (by decide) ?_
  refine g_iast (v := 0) F 0 s66 (by decide) (by decide) (by decide) rfl dX9_readTable_11 ?_
  refine g_mi (g_up_same rfl) ?_
  refine g_aload_n F 0 dX9_readTable_12 rfl rfl ?_
  refine g_geti (j := 4) (v := 0) F s62 rfl rfl uX9 (by decide) q825 rfl dX9_readTable_13 ?_
  refine g_iconst (v := (-1)) F dX9_readTable_16 (by decide) ?_
  refine g_icmp_ne (tgt := 34) F dX9_readTable_17 (by decide) (fun _ => ?_) (fun h => absurd h (by decide))
  refine g_iconst (v := 0) F dX9_readTable_34 (by decide) ?_
  refine g_istore_n (Ln := [(2, .int 0), (0, .ref (E.2.1 62)), (1, .int 0)]) F dX9_readTable_35 rfl (by decide) rfl ?_
  refine g_iload_n F 0 dX9_readTable_36 rfl rfl ?_
  refine g_if_eq (tgt := 100) F dX9_readTable_37 (by decide) (fun _ => ?_) (fun h => absurd (by decide) h)
  exact g_vret F e dX9_readTable_100 ⟨rfl, rfl, rfl⟩
set_option maxRecDepth 100000 in
set_option maxHeartbeats 4000000 in
theorem kX9_ends_2 (l : Launch) (E : gE) (hE : gDist sh E) (I : gM) (J : gN) : Ct l sh E yX9_ends cX9_ends 1 (some .int) (gR 0) [.ref (E.2.1 62)] (g_up (g_up (g_up (g9 I) 62 4 (-1)) 62 4 0) 62 9 1) (h9 J) (fun r I1 J1 => r = some (.int 0) ∧ I1 = (g_up (g_up (g_up (g9 I) 62 4 (-1)) 62 4 0) 62 9 1) ∧ J1 = (h9 J)) := by
  refine Ct.of "LeapJoinModel" rfl hE (by decide) (Nat.le_of_ble_eq_true rfl) (fun z F e hl => ?_)
  subst hl
  refine g_aload_n F 0 dX9_ends_0 rfl rfl ?_
  refine g_geti (j := 4) (v := 0) F s62 rfl rfl uX9 (by decide) q825 rfl dX9_ends_1 ?_
  refine g_iconst (v := (-1)) F dX9_ends_4 (by decide) ?_
  refine g_icmp_ne (tgt := 20) F dX9_ends_5 (by decide) (fun _ => ?_) (fun h => absurd h (by decide))
  refine g_aload_n F 0 dX9_ends_20 rfl rfl ?_
  refine g_geti (j := 4) (v := 0) F s62 rfl rfl uX9 (by decide) q825 rfl dX9_ends_21 ?_
  exact g_iret F e dX9_ends_24 ⟨rfl, rfl, rfl⟩
set_option maxRecDepth 100000 in
set_option maxHeartbeats 4000000 in
theorem kX9_readAll (l : Launch) (E : gE) (hE : gDist sh E) (I : gM) (J : gN) : Ct l sh E yX9_readAll cX9_readAll 2 (some .int) (gR 4) [.ref (E.2.1 62)] (g9 I) (h9 J) (fun r I1 J1 => r = some (.int 0) ∧ I1 = (g_up (g_up (g_up (g9 I) 62 4 (-1)) 62 4 0) 62 9 1) ∧ J1 = (h9 J)) := by
  refine Ct.of "LeapJoinModel" rfl hE (by decide) (Nat.le_of_ble_eq_true rfl) (fun z F e hl => ?_)
  subst hl
  refine g_aload_n F 0 dX9_readAll_0 rfl rfl ?_
  refine g_callV (k := 62) (As := []) (rest := []) F (kX9_begins (zl z) E hE I J) mX9_begins q933 rfl s62 rfl rfl rfl (Nat.le_of_ble_eq_true rfl) dX9_readAll_1 (fun r I2 J2 h => ?_)
  obtain ⟨rfl, rfl, rfl⟩ := h
  refine g_st (sn := []) rfl ?_
  refine g_aload_n F 0 dX9_readAll_4 rfl rfl ?_
  refine g_iconst (v := 0) F dX9_readAll_5 (by decide) ?_
  refine g_puti (j := 9) F s62 rfl rfl uX9 (by decide) q830 tyX9_ok nmX9 rfl rfl rfl dX9_readAll_6 ?_
  refine g_mi (g_up_same rfl) ?_
  refine g_iconst (v := 1) F dX9_readAll_9 (by decide) ?_
  refine g_istore_n (Ln := [(1, .int 1), (0, .ref (E.2.1 62))]) F dX9_readAll_10 rfl (by decide) rfl ?_
  refine g_iload_n F 0 dX9_readAll_11 rfl rfl ?_
  refine g_if_eq (tgt := 85) F dX9_readAll_12 (by decide) (fun h => absurd h (by decide)) (fun _ => ?_)
  refine g_aload_n F 1 dX9_readAll_15 rfl rfl ?_
  refine g_aload_n F 1 dX9_readAll_16 rfl rfl ?_
  refine g_geti (j := 9) (v := 0) F s62 rfl rfl uX9 (by decide) q830 rfl dX9_readAll_17 ?_
  refine g_callV (k := 62) (As := [.int 0]) (rest := []) F (kX9_readTable (zl z) E hE I J) mX9_readTable q936 rfl s62 rfl rfl rfl (Nat.le_of_ble_eq_true rfl) dX9_readAll_20 (fun r I2 J2 h => ?_)
  obtain ⟨rfl, rfl, rfl⟩ := h
  refine g_st (sn := []) rfl ?_
  refine g_aload_n F 1 dX9_readAll_23 rfl rfl ?_
  refine g_dup F dX9_readAll_24 rfl ?_
  refine g_geti (j := 9) (v := 0) F s62 rfl rfl uX9 (by decide) q830 rfl dX9_readAll_25 ?_
  refine g_iconst (v := 1) F dX9_readAll_28 (by decide) ?_
  refine g_iadd (v := 1) F dX9_readAll_29 (by decide) ?_
  refine g_puti (j := 9) F s62 rfl rfl uX9 (by decide) q830 tyX9_ok nmX9 rfl rfl rfl dX9_readAll_30 ?_
  refine g_aload_n F 1 dX9_readAll_33 rfl rfl ?_
  refine g_geti (j := 4) (v := 0) F s62 rfl rfl uX9 (by decide) q825 rfl dX9_readAll_34 ?_
  refine g_iconst (v := (-1)) F dX9_readAll_37 (by decide) ?_
  refine g_icmp_ne (tgt := 62) F dX9_readAll_38 (by decide) (fun _ => ?_) (fun h => absurd h (by decide))
  refine g_iconst (v := 0) F dX9_readAll_62 (by decide) ?_
  refine g_istore_n (Ln := [(1, .int 0), (0, .ref (E.2.1 62))]) F dX9_readAll_63 rfl (by decide) rfl ?_
  refine g_aload_n F 1 dX9_readAll_64 rfl rfl ?_
  refine g_dup F dX9_readAll_65 rfl ?_
  refine g_geti (j := 3) (v := 0) F s62 rfl rfl uX9 (by decide) q824 rfl dX9_readAll_66 ?_
  refine g_iload_n F 0 dX9_readAll_69 rfl rfl ?_
  refine g_if_eq (tgt := 77) F dX9_readAll_70 (by decide) (fun _ => ?_) (fun h => absurd (by decide) h)
  refine g_iconst (v := 0) F dX9_readAll_77 (by decide) ?_
  refine g_iadd (v := 0) F dX9_readAll_78 (by decide) ?_
  refine g_puti (j := 3) F s62 rfl rfl uX9 (by decide) q824 tyX9_ok nmX9 rfl rfl rfl dX9_readAll_79 ?_
  refine g_mi (g_up_same rfl) ?_
  refine g_goto (tgt := 11) F dX9_readAll_82 (by decide) ?_
  refine g_iload_n F 0 dX9_readAll_11 rfl rfl ?_
  refine g_if_eq (tgt := 85) F dX9_readAll_12 (by decide) (fun _ => ?_) (fun h => absurd (by decide) h)
  refine g_aload_n F 1 dX9_readAll_85 rfl rfl ?_
  refine g_callV (k := 62) (As := []) (rest := []) F (kX9_ends_2 (zl z) E hE I J) mX9_ends q969 rfl s62 rfl rfl rfl (Nat.le_of_ble_eq_true rfl) dX9_readAll_86 (fun r I2 J2 h => ?_)
  obtain ⟨rfl, rfl, rfl⟩ := h
  refine g_st (sn := [.int 0]) rfl ?_
  exact g_iret F e dX9_readAll_89 ⟨rfl, rfl, rfl⟩
set_option maxRecDepth 100000 in
set_option maxHeartbeats 4000000 in
theorem kX9_fault (l : Launch) (E : gE) (hE : gDist sh E) (I : gM) (J : gN) (a1 : Int32) : Ct l sh E yX9_fault cX9_fault 2 (some .int) (gR 5) [.ref (E.2.1 62), .int a1] (g9 I) (h9 J) (fun r _ _ => r = some (.int (if a1 = 0 ∨ a1 = 1 then 0 else (-2)))) := by
  refine Ct.of "LeapJoinModel" rfl hE (by decide) (Nat.le_of_ble_eq_true rfl) (fun z F e hl => ?_)
  subst hl
  refine g_iload_n F 1 dX9_fault_0 rfl rfl ?_
  refine g_if_ne (tgt := 11) F dX9_fault_1 (by decide) (fun c1 => ?_) (fun c1f => ?_)
  · refine g_iload_n F 1 dX9_fault_11 rfl rfl ?_
    refine g_iconst (v := 1) F dX9_fault_12 (by decide) ?_
    refine g_icmp_ne (tgt := 24) F dX9_fault_13 (by decide) (fun c2 => ?_) (fun c2f => ?_)
    · refine g_bipush (v := (-2)) F dX9_fault_24 (by decide) ?_
      exact g_iret F e dX9_fault_26 (congrArg (fun x => some (Value.int x)) (if_neg (by simp only [g_lt, g_le, g_eq, g_l0, g_l1, g_l2, g_l3, g_l4, g_l5, g_lm1, g_l400, g_l40, g_l15] at c1 c2 ⊢; omega)).symm)
    · refine g_aload_n F 0 dX9_fault_16 rfl rfl ?_
      refine g_iconst (v := 4) F dX9_fault_17 (by decide) ?_
      refine g_callV (k := 62) (As := [.int 4]) (rest := []) F (kX9_readScript (zl z) E hE I J) mX9_readScript q972 rfl s62 rfl rfl rfl (Nat.le_of_ble_eq_true rfl) dX9_fault_18 (fun r I2 J2 h => ?_)
      obtain ⟨rfl, rfl, rfl⟩ := h
      refine g_st (sn := [.int 0]) rfl ?_
      refine g_goto (tgt := 26) F dX9_fault_21 (by decide) ?_
      exact g_iret F e dX9_fault_26 (congrArg (fun x => some (Value.int x)) (if_pos (by simp only [g_lt, g_le, g_eq, g_l0, g_l1, g_l2, g_l3, g_l4, g_l5, g_lm1, g_l400, g_l40, g_l15] at c1 c2f ⊢; omega)).symm)
  · refine g_aload_n F 0 dX9_fault_4 rfl rfl ?_
    refine g_callV (k := 62) (As := []) (rest := []) F (kX9_readAll (zl z) E hE I J) mX9_readAll q930 rfl s62 rfl rfl rfl (Nat.le_of_ble_eq_true rfl) dX9_fault_5 (fun r I2 J2 h => ?_)
    obtain ⟨rfl, rfl, rfl⟩ := h
    refine g_st (sn := [.int 0]) rfl ?_
    refine g_goto (tgt := 26) F dX9_fault_8 (by decide) ?_
    exact g_iret F e dX9_fault_26 (congrArg (fun x => some (Value.int x)) (if_pos (by simp only [g_lt, g_le, g_eq, g_l0, g_l1, g_l2, g_l3, g_l4, g_l5, g_lm1, g_l400, g_l40, g_l15] at c1f ⊢; omega)).symm)
set_option maxRecDepth 100000 in
set_option maxHeartbeats 4000000 in
theorem kX9_readStep_2 (l : Launch) (E : gE) (hE : gDist sh E) (I : gM) (J : gN) : Ct l sh E yX9_readStep cX9_readStep 6 none (gR 2) [.ref (E.2.1 62), .int 0] (g_up (g9 I) 62 4 (-1)) (h9 J) (fun r I1 J1 => r = none ∧ I1 = (g_up (g_up (g9 I) 62 4 (-1)) 62 4 0) ∧ J1 = (h9 J)) := by
  refine Ct.of "LeapJoinModel" rfl hE (by decide) (Nat.le_of_ble_eq_true rfl) (fun z F e hl => ?_)
  subst hl
  refine g_aload_n F 0 dX9_readStep_0 rfl rfl ?_
  refine g_callV (k := 62) (As := []) (rest := []) F (kX9_ahead (zl z) E hE I J) mX9_ahead q942 rfl s62 rfl rfl rfl (Nat.le_of_ble_eq_true rfl) dX9_readStep_1 (fun r I2 J2 h => ?_)
  obtain ⟨rfl, rfl, rfl⟩ := h
  refine g_st (sn := [.int (-1)]) rfl ?_
  refine g_istore_n (Ln := [(2, .int (-1)), (0, .ref (E.2.1 62)), (1, .int 0)]) F dX9_readStep_4 rfl (by decide) rfl ?_
  refine g_iload_n F 0 dX9_readStep_5 rfl rfl ?_
  refine g_bipush (v := 112) F dX9_readStep_6 (by decide) ?_
  refine g_icmp_ne (tgt := 15) F dX9_readStep_8 (by decide) (fun _ => ?_) (fun h => absurd h (by decide))
  refine g_iload_n F 0 dX9_readStep_15 rfl rfl ?_
  refine g_bipush (v := 116) F dX9_readStep_16 (by decide) ?_
  refine g_icmp_ne (tgt := 25) F dX9_readStep_18 (by decide) (fun _ => ?_) (fun h => absurd h (by decide))
  refine g_iload_n F 0 dX9_readStep_25 rfl rfl ?_
  refine g_bipush (v := 117) F dX9_readStep_26 (by decide) ?_
  refine g_icmp_ne (tgt := 35) F dX9_readStep_28 (by decide) (fun _ => ?_) (fun h => absurd h (by decide))
  refine g_iload_n F 0 dX9_readStep_35 rfl rfl ?_
  refine g_bipush (v := 111) F dX9_readStep_36 (by decide) ?_
  refine g_icmp_ne (tgt := 45) F dX9_readStep_38 (by decide) (fun _ => ?_) (fun h => absurd h (by decide))
  refine g_iconst (v := (-1)) F dX9_readStep_45 (by decide) ?_
  refine g_istore_n (Ln := [(3, .int (-1)), (2, .int (-1)), (0, .ref (E.2.1 62)), (1, .int 0)]) F dX9_readStep_46 rfl (by decide) rfl ?_
  refine g_iload_n F 0 dX9_readStep_47 rfl rfl ?_
  refine g_iconst (v := (-1)) F dX9_readStep_48 (by decide) ?_
  refine g_icmp_ne (tgt := 57) F dX9_readStep_49 (by decide) (fun h => absurd (by decide) h) (fun _ => ?_)
  refine g_aload_n F 2 dX9_readStep_52 rfl rfl ?_
  refine g_callV (k := 62) (As := []) (rest := []) F (kX9_bad (zl z) E hE I J) mX9_bad q951 rfl s62 rfl rfl rfl (Nat.le_of_ble_eq_true rfl) dX9_readStep_53 (fun r I2 J2 h => ?_)
  obtain ⟨rfl, rfl, rfl⟩ := h
  refine g_st (sn := []) rfl ?_
  exact g_vret F e dX9_readStep_56 ⟨rfl, rfl, rfl⟩
set_option maxRecDepth 100000 in
set_option maxHeartbeats 4000000 in
theorem kX9_ends_3 (l : Launch) (E : gE) (hE : gDist sh E) (I : gM) (J : gN) : Ct l sh E yX9_ends cX9_ends 1 (some .int) (gR 0) [.ref (E.2.1 62)] (g_up (g_up (g_up (g9 I) 62 4 (-1)) 62 4 0) 69 0 1) (h9 J) (fun r I1 J1 => r = some (.int 0) ∧ I1 = (g_up (g_up (g_up (g9 I) 62 4 (-1)) 62 4 0) 69 0 1) ∧ J1 = (h9 J)) := by
  refine Ct.of "LeapJoinModel" rfl hE (by decide) (Nat.le_of_ble_eq_true rfl) (fun z F e hl => ?_)
  subst hl
  refine g_aload_n F 0 dX9_ends_0 rfl rfl ?_
  refine g_geti (j := 4) (v := 0) F s62 rfl rfl uX9 (by decide) q825 rfl dX9_ends_1 ?_
  refine g_iconst (v := (-1)) F dX9_ends_4 (by decide) ?_
  refine g_icmp_ne (tgt := 20) F dX9_ends_5 (by decide) (fun _ => ?_) (fun h => absurd h (by decide))
  refine g_aload_n F 0 dX9_ends_20 rfl rfl ?_
  refine g_geti (j := 4) (v := 0) F s62 rfl rfl uX9 (by decide) q825 rfl dX9_ends_21 ?_
  exact g_iret F e dX9_ends_24 ⟨rfl, rfl, rfl⟩
set_option maxRecDepth 100000 in
set_option maxHeartbeats 4000000 in
theorem kX9_readScript_2 (l : Launch) (E : gE) (hE : gDist sh E) (I : gM) (J : gN) : Ct l sh E yX9_readScript cX9_readScript 3 (some .int) (gR 3) [.ref (E.2.1 62), .int 0] (g9 I) (h9 J) (fun r I1 J1 => r = some (.int 0) ∧ I1 = (g_up (g_up (g_up (g9 I) 62 4 (-1)) 62 4 0) 69 0 1) ∧ J1 = (h9 J)) := by
  refine Ct.of "LeapJoinModel" rfl hE (by decide) (Nat.le_of_ble_eq_true rfl) (fun z F e hl => ?_)
  subst hl
  refine g_aload_n F 0 dX9_readScript_0 rfl rfl ?_
  refine g_callV (k := 62) (As := []) (rest := []) F (kX9_begins (zl z) E hE I J) mX9_begins q933 rfl s62 rfl rfl rfl (Nat.le_of_ble_eq_true rfl) dX9_readScript_1 (fun r I2 J2 h => ?_)
  obtain ⟨rfl, rfl, rfl⟩ := h
  refine g_st (sn := []) rfl ?_
  refine g_aload_n F 0 dX9_readScript_4 rfl rfl ?_
  refine g_getr (j := 11) (nn := 69) F s62 rfl rfl uX9 (by decide) q832 dX9_readScript_5 ?_
  refine g_iload_n F 1 dX9_readScript_8 rfl rfl ?_
  refine g_iconst (v := 0) F dX9_readScript_9 (by decide) ?_
  refine g_iast (v := 0) F 0 s69 (by decide) (by decide) (by decide) rfl dX9_readScript_10 ?_
  refine g_mi (g_up_same rfl) ?_
  refine g_iconst (v := 1) F dX9_readScript_11 (by decide) ?_
  refine g_istore_n (Ln := [(2, .int 1), (0, .ref (E.2.1 62)), (1, .int 0)]) F dX9_readScript_12 rfl (by decide) rfl ?_
  refine g_iload_n F 0 dX9_readScript_13 rfl rfl ?_
  refine g_if_eq (tgt := 99) F dX9_readScript_14 (by decide) (fun h => absurd h (by decide)) (fun _ => ?_)
  refine g_aload_n F 1 dX9_readScript_17 rfl rfl ?_
  refine g_iconst (v := 5) F dX9_readScript_18 (by decide) ?_
  refine g_bipush (v := 12) F dX9_readScript_19 (by decide) ?_
  refine g_iload_n F 2 dX9_readScript_21 rfl rfl ?_
  refine g_imul (v := 0) F dX9_readScript_22 (by decide) ?_
  refine g_aload_n F 1 dX9_readScript_23 rfl rfl ?_
  refine g_getr (j := 11) (nn := 69) F s62 rfl rfl uX9 (by decide) q832 dX9_readScript_24 ?_
  refine g_iload_n F 2 dX9_readScript_27 rfl rfl ?_
  refine g_iald (v := 0) F 0 s69 (by decide) (by decide) (by decide) rfl dX9_readScript_28 ?_
  refine g_iadd (v := 0) F dX9_readScript_29 (by decide) ?_
  refine g_imul (v := 0) F dX9_readScript_30 (by decide) ?_
  refine g_callV (k := 62) (As := [.int 0]) (rest := []) F (kX9_readStep_2 (zl z) E hE I J) mX9_readStep q975 rfl s62 rfl rfl rfl (Nat.le_of_ble_eq_true rfl) dX9_readScript_31 (fun r I2 J2 h => ?_)
  obtain ⟨rfl, rfl, rfl⟩ := h
  refine g_st (sn := []) rfl ?_
  refine g_aload_n F 1 dX9_readScript_34 rfl rfl ?_
  refine g_getr (j := 11) (nn := 69) F s62 rfl rfl uX9 (by decide) q832 dX9_readScript_35 ?_
  refine g_iload_n F 2 dX9_readScript_38 rfl rfl ?_
  refine g_dup2 F dX9_readScript_39 rfl rfl ?_
  refine g_iald (v := 0) F 0 s69 (by decide) (by decide) (by decide) rfl dX9_readScript_40 ?_
  refine g_iconst (v := 1) F dX9_readScript_41 (by decide) ?_
  refine g_iadd (v := 1) F dX9_readScript_42 (by decide) ?_
  refine g_iast (v := 1) F 0 s69 (by decide) (by decide) (by decide) rfl dX9_readScript_43 ?_
  refine g_aload_n F 1 dX9_readScript_44 rfl rfl ?_
  refine g_geti (j := 4) (v := 0) F s62 rfl rfl uX9 (by decide) q825 rfl dX9_readScript_45 ?_
  refine g_iconst (v := (-1)) F dX9_readScript_48 (by decide) ?_
  refine g_icmp_ne (tgt := 76) F dX9_readScript_49 (by decide) (fun _ => ?_) (fun h => absurd h (by decide))
  refine g_iconst (v := 0) F dX9_readScript_76 (by decide) ?_
  refine g_istore_n (Ln := [(2, .int 0), (0, .ref (E.2.1 62)), (1, .int 0)]) F dX9_readScript_77 rfl (by decide) rfl ?_
  refine g_aload_n F 1 dX9_readScript_78 rfl rfl ?_
  refine g_dup F dX9_readScript_79 rfl ?_
  refine g_geti (j := 3) (v := 0) F s62 rfl rfl uX9 (by decide) q824 rfl dX9_readScript_80 ?_
  refine g_iload_n F 0 dX9_readScript_83 rfl rfl ?_
  refine g_if_eq (tgt := 91) F dX9_readScript_84 (by decide) (fun _ => ?_) (fun h => absurd (by decide) h)
  refine g_iconst (v := 0) F dX9_readScript_91 (by decide) ?_
  refine g_iadd (v := 0) F dX9_readScript_92 (by decide) ?_
  refine g_puti (j := 3) F s62 rfl rfl uX9 (by decide) q824 tyX9_ok nmX9 rfl rfl rfl dX9_readScript_93 ?_
  refine g_mi (g_up_same rfl) ?_
  refine g_goto (tgt := 13) F dX9_readScript_96 (by decide) ?_
  refine g_iload_n F 0 dX9_readScript_13 rfl rfl ?_
  refine g_if_eq (tgt := 99) F dX9_readScript_14 (by decide) (fun _ => ?_) (fun h => absurd (by decide) h)
  refine g_aload_n F 1 dX9_readScript_99 rfl rfl ?_
  refine g_callV (k := 62) (As := []) (rest := []) F (kX9_ends_3 (zl z) E hE I J) mX9_ends q969 rfl s62 rfl rfl rfl (Nat.le_of_ble_eq_true rfl) dX9_readScript_100 (fun r I2 J2 h => ?_)
  obtain ⟨rfl, rfl, rfl⟩ := h
  refine g_st (sn := [.int 0]) rfl ?_
  exact g_iret F e dX9_readScript_103 ⟨rfl, rfl, rfl⟩
set_option maxRecDepth 100000 in
set_option maxHeartbeats 4000000 in
theorem kX9_text (l : Launch) (E : gE) (hE : gDist sh E) (I : gM) (J : gN) (a1 : Int32) : Ct l sh E yX9_text cX9_text 2 (some .int) (gR 5) [.ref (E.2.1 62), .int a1] (g9 I) (h9 J) (fun r _ _ => r = some (.int (-1))) := by
  refine Ct.of "LeapJoinModel" rfl hE (by decide) (Nat.le_of_ble_eq_true rfl) (fun z F e hl => ?_)
  subst hl
  refine g_iload_n F 1 dX9_text_0 rfl rfl ?_
  refine g_if_ne (tgt := 22) F dX9_text_1 (by decide) (fun c1 => ?_) (fun c1f => ?_)
  · refine g_iload_n F 1 dX9_text_22 rfl rfl ?_
    refine g_iconst (v := 1) F dX9_text_23 (by decide) ?_
    refine g_icmp_ne (tgt := 69) F dX9_text_24 (by decide) (fun c2 => ?_) (fun c2f => ?_)
    · refine g_iconst (v := (-1)) F dX9_text_69 (by decide) ?_
      exact g_iret F e dX9_text_70 rfl
    · refine g_aload_n F 0 dX9_text_27 rfl rfl ?_
      refine g_geti (j := 12) (v := 0) F s62 rfl rfl uX9 (by decide) q833 rfl dX9_text_28 ?_
      refine g_iconst (v := 4) F dX9_text_31 (by decide) ?_
      refine g_icmp_ge (tgt := 69) F dX9_text_32 (by decide) (fun h => absurd h (by decide)) (fun _ => ?_)
      refine g_aload_n F 0 dX9_text_35 rfl rfl ?_
      refine g_aload_n F 0 dX9_text_36 rfl rfl ?_
      refine g_geti (j := 12) (v := 0) F s62 rfl rfl uX9 (by decide) q833 rfl dX9_text_37 ?_
      refine g_callV (k := 62) (As := [.int 0]) (rest := []) F (kX9_readScript_2 (zl z) E hE I J) mX9_readScript q972 rfl s62 rfl rfl rfl (Nat.le_of_ble_eq_true rfl) dX9_text_40 (fun r I2 J2 h => ?_)
      obtain ⟨rfl, rfl, rfl⟩ := h
      refine g_st (sn := [.int 0]) rfl ?_
      refine g_iconst (v := (-1)) F dX9_text_43 (by decide) ?_
      refine g_icmp_ne (tgt := 69) F dX9_text_44 (by decide) (fun _ => ?_) (fun h => absurd h (by decide))
      refine g_iconst (v := (-1)) F dX9_text_69 (by decide) ?_
      exact g_iret F e dX9_text_70 rfl
  · refine g_aload_n F 0 dX9_text_4 rfl rfl ?_
    refine g_callV (k := 62) (As := []) (rest := []) F (kX9_readAll (zl z) E hE I J) mX9_readAll q930 rfl s62 rfl rfl rfl (Nat.le_of_ble_eq_true rfl) dX9_text_5 (fun r I2 J2 h => ?_)
    obtain ⟨rfl, rfl, rfl⟩ := h
    refine g_st (sn := [.int 0]) rfl ?_
    refine g_iconst (v := (-1)) F dX9_text_8 (by decide) ?_
    refine g_icmp_ne (tgt := 22) F dX9_text_9 (by decide) (fun _ => ?_) (fun h => absurd h (by decide))
    refine g_iload_n F 1 dX9_text_22 rfl rfl ?_
    refine g_iconst (v := 1) F dX9_text_23 (by decide) ?_
    refine g_icmp_ne (tgt := 69) F dX9_text_24 (by decide) (fun _ => ?_) (fun c6 => by exfalso; simp only [g_lt, g_le, g_eq, g_l0, g_l1, g_l2, g_l3, g_l4, g_l5, g_lm1, g_l400, g_l40, g_l15] at c6 c1f; omega)
    refine g_iconst (v := (-1)) F dX9_text_69 (by decide) ?_
    exact g_iret F e dX9_text_70 rfl
set_option maxRecDepth 100000 in
set_option maxHeartbeats 4000000 in
theorem kX9_areTables (l : Launch) (E : gE) (hE : gDist sh E) (I : gM) (J : gN) : Ct l sh E yX9_areTables cX9_areTables 1 (some .boolean) (gR 0) [.ref (E.2.1 62)] (g9 I) (h9 J) (fun r I1 J1 => r = some (.int 0) ∧ I1 = (g9 I) ∧ J1 = (h9 J)) := by
  refine Ct.of "LeapJoinModel" rfl hE (by decide) (Nat.le_of_ble_eq_true rfl) (fun z F e hl => ?_)
  subst hl
  refine g_aload_n F 0 dX9_areTables_0 rfl rfl ?_
  refine g_geti (j := 17) (v := 0) F s62 rfl rfl uX9 (by decide) q838 rfl dX9_areTables_1 ?_
  refine g_if_le (tgt := 11) F dX9_areTables_4 (by decide) (fun _ => ?_) (fun h => absurd (by decide) h)
  refine g_iconst (v := 0) F dX9_areTables_11 (by decide) ?_
  exact g_zret F rfl e dX9_areTables_12 ⟨rfl, rfl, rfl⟩
set_option maxRecDepth 100000 in
set_option maxHeartbeats 4000000 in
theorem kX9_rule (l : Launch) (E : gE) (hE : gDist sh E) (I : gM) (J : gN) (a1 : Int32) : Ct l sh E yX9_rule cX9_rule 2 (some .int) (gR 1) [.ref (E.2.1 62), .int a1] (g9 I) (h9 J) (fun r _ _ => r = some (.int (-1))) := by
  refine Ct.of "LeapJoinModel" rfl hE (by decide) (Nat.le_of_ble_eq_true rfl) (fun z F e hl => ?_)
  subst hl
  refine g_aload_n F 0 dX9_rule_0 rfl rfl ?_
  refine g_callV (k := 62) (As := []) (rest := []) F (kX9_areTables (zl z) E hE I J) mX9_areTables q1028 rfl s62 rfl rfl rfl (Nat.le_of_ble_eq_true rfl) dX9_rule_1 (fun r I2 J2 h => ?_)
  obtain ⟨rfl, rfl, rfl⟩ := h
  refine g_st (sn := [.int 0]) rfl ?_
  refine g_if_eq (tgt := 16) F dX9_rule_4 (by decide) (fun _ => ?_) (fun h => absurd (by decide) h)
  refine g_iconst (v := (-1)) F dX9_rule_16 (by decide) ?_
  exact g_iret F e dX9_rule_17 rfl
set_option maxRecDepth 100000 in
set_option maxHeartbeats 4000000 in
theorem kX9_in_2 (l : Launch) (E : gE) (hE : gDist sh E) (I : gM) (J : gN) (a0 : Int32) : Ct l sh E yX9_in cX9_in 3 (some .boolean) (gR 0) [.int a0, .int 0, .int (-1)] (g9 I) (h9 J) (fun r I1 J1 => r = some (.int 0) ∧ I1 = (g9 I) ∧ J1 = (h9 J)) := by
  refine Ct.of "LeapJoinModel" rfl hE (by decide) (Nat.le_of_ble_eq_true rfl) (fun z F e hl => ?_)
  subst hl
  refine g_iload_n F 0 dX9_in_0 rfl rfl ?_
  refine g_iload_n F 1 dX9_in_1 rfl rfl ?_
  refine g_icmp_lt (tgt := 14) F dX9_in_2 (by decide) (fun c1 => ?_) (fun c1f => ?_)
  · refine g_iconst (v := 0) F dX9_in_14 (by decide) ?_
    exact g_zret F rfl e dX9_in_15 ⟨rfl, rfl, rfl⟩
  · refine g_iload_n F 0 dX9_in_5 rfl rfl ?_
    refine g_iload_n F 2 dX9_in_6 rfl rfl ?_
    refine g_icmp_gt (tgt := 14) F dX9_in_7 (by decide) (fun _ => ?_) (fun c2 => by exfalso; simp only [g_lt, g_le, g_eq, g_l0, g_l1, g_l2, g_l3, g_l4, g_l5, g_lm1, g_l400, g_l40, g_l15] at c2 c1f; omega)
    refine g_iconst (v := 0) F dX9_in_14 (by decide) ?_
    exact g_zret F rfl e dX9_in_15 ⟨rfl, rfl, rfl⟩
set_option maxRecDepth 100000 in
set_option maxHeartbeats 4000000 in
theorem kX9_isTable (l : Launch) (E : gE) (hE : gDist sh E) (I : gM) (J : gN) (a1 : Int32) : Ct l sh E yX9_isTable cX9_isTable 2 (some .boolean) (gR 1) [.ref (E.2.1 62), .int a1] (g9 I) (h9 J) (fun r I1 J1 => r = some (.int 0) ∧ I1 = (g9 I) ∧ J1 = (h9 J)) := by
  refine Ct.of "LeapJoinModel" rfl hE (by decide) (Nat.le_of_ble_eq_true rfl) (fun z F e hl => ?_)
  subst hl
  refine g_iload_n F 1 dX9_isTable_0 rfl rfl ?_
  refine g_iconst (v := 0) F dX9_isTable_1 (by decide) ?_
  refine g_aload_n F 0 dX9_isTable_2 rfl rfl ?_
  refine g_geti (j := 17) (v := 0) F s62 rfl rfl uX9 (by decide) q838 rfl dX9_isTable_3 ?_
  refine g_iconst (v := 1) F dX9_isTable_6 (by decide) ?_
  refine g_isub (v := (-1)) F dX9_isTable_7 (by decide) ?_
  refine g_callS (As := [.int a1, .int 0, .int (-1)]) (rest := []) F (kX9_in_2 (zl z) E hE I J a1) mX9_in q923 rfl rfl rfl (Nat.le_of_ble_eq_true rfl) dX9_isTable_8 (fun r I2 J2 h => ?_)
  obtain ⟨rfl, rfl, rfl⟩ := h
  refine g_st (sn := [.int 0]) rfl ?_
  exact g_zret F rfl e dX9_isTable_11 ⟨rfl, rfl, rfl⟩
set_option maxRecDepth 100000 in
set_option maxHeartbeats 4000000 in
theorem kX9_cell (l : Launch) (E : gE) (hE : gDist sh E) (I : gM) (J : gN) (a1 : Int32) (a2 : Int32) (a3 : Int32) : Ct l sh E yX9_cell cX9_cell 4 (some .int) (gR 2) [.ref (E.2.1 62), .int a1, .int a2, .int a3] (g9 I) (h9 J) (fun r _ _ => r = some (.int (-1))) := by
  refine Ct.of "LeapJoinModel" rfl hE (by decide) (Nat.le_of_ble_eq_true rfl) (fun z F e hl => ?_)
  subst hl
  refine g_aload_n F 0 dX9_cell_0 rfl rfl ?_
  refine g_iload_n F 1 dX9_cell_1 rfl rfl ?_
  refine g_callV (k := 62) (As := [.int a1]) (rest := []) F (kX9_isTable (zl z) E hE I J a1) mX9_isTable q1019 rfl s62 rfl rfl rfl (Nat.le_of_ble_eq_true rfl) dX9_cell_2 (fun r I2 J2 h => ?_)
  obtain ⟨rfl, rfl, rfl⟩ := h
  refine g_st (sn := [.int 0]) rfl ?_
  refine g_if_eq (tgt := 54) F dX9_cell_5 (by decide) (fun _ => ?_) (fun h => absurd (by decide) h)
  refine g_iconst (v := (-1)) F dX9_cell_54 (by decide) ?_
  exact g_iret F e dX9_cell_55 rfl
set_option maxRecDepth 100000 in
set_option maxHeartbeats 4000000 in
theorem kX9_rows (l : Launch) (E : gE) (hE : gDist sh E) (I : gM) (J : gN) : Ct l sh E yX9_rows cX9_rows 1 (some .int) (gR 1) [.ref (E.2.1 62)] (g9 I) (h9 J) (fun r _ _ => r = some (.int (-1))) := by
  refine Ct.of "LeapJoinModel" rfl hE (by decide) (Nat.le_of_ble_eq_true rfl) (fun z F e hl => ?_)
  subst hl
  refine g_aload_n F 0 dX9_rows_0 rfl rfl ?_
  refine g_callV (k := 62) (As := []) (rest := []) F (kX9_areTables (zl z) E hE I J) mX9_areTables q1028 rfl s62 rfl rfl rfl (Nat.le_of_ble_eq_true rfl) dX9_rows_1 (fun r I2 J2 h => ?_)
  obtain ⟨rfl, rfl, rfl⟩ := h
  refine g_st (sn := [.int 0]) rfl ?_
  refine g_if_eq (tgt := 14) F dX9_rows_4 (by decide) (fun _ => ?_) (fun h => absurd (by decide) h)
  refine g_iconst (v := (-1)) F dX9_rows_14 (by decide) ?_
  exact g_iret F e dX9_rows_15 rfl
set_option maxRecDepth 100000 in
set_option maxHeartbeats 4000000 in
theorem kX9_isAsked (l : Launch) (E : gE) (hE : gDist sh E) (I : gM) (J : gN) (a1 : Int32) : Ct l sh E yX9_isAsked cX9_isAsked 2 (some .boolean) (gR 1) [.ref (E.2.1 62), .int a1] (g9 I) (h9 J) (fun r I1 J1 => r = some (.int 0) ∧ I1 = (g9 I) ∧ J1 = (h9 J)) := by
  refine Ct.of "LeapJoinModel" rfl hE (by decide) (Nat.le_of_ble_eq_true rfl) (fun z F e hl => ?_)
  subst hl
  refine g_aload_n F 0 dX9_isAsked_0 rfl rfl ?_
  refine g_callV (k := 62) (As := []) (rest := []) F (kX9_areTables (zl z) E hE I J) mX9_areTables q1028 rfl s62 rfl rfl rfl (Nat.le_of_ble_eq_true rfl) dX9_isAsked_1 (fun r I2 J2 h => ?_)
  obtain ⟨rfl, rfl, rfl⟩ := h
  refine g_st (sn := [.int 0]) rfl ?_
  refine g_if_eq (tgt := 31) F dX9_isAsked_4 (by decide) (fun _ => ?_) (fun h => absurd (by decide) h)
  refine g_iconst (v := 0) F dX9_isAsked_31 (by decide) ?_
  exact g_zret F rfl e dX9_isAsked_32 ⟨rfl, rfl, rfl⟩
set_option maxRecDepth 100000 in
set_option maxHeartbeats 4000000 in
theorem kX9_row (l : Launch) (E : gE) (hE : gDist sh E) (I : gM) (J : gN) (a1 : Int32) (a2 : Int32) : Ct l sh E yX9_row cX9_row 3 (some .int) (gR 2) [.ref (E.2.1 62), .int a1, .int a2] (g9 I) (h9 J) (fun r _ _ => r = some (.int (-1))) := by
  refine Ct.of "LeapJoinModel" rfl hE (by decide) (Nat.le_of_ble_eq_true rfl) (fun z F e hl => ?_)
  subst hl
  refine g_aload_n F 0 dX9_row_0 rfl rfl ?_
  refine g_iload_n F 2 dX9_row_1 rfl rfl ?_
  refine g_callV (k := 62) (As := [.int a2]) (rest := []) F (kX9_isAsked (zl z) E hE I J a2) mX9_isAsked q1167 rfl s62 rfl rfl rfl (Nat.le_of_ble_eq_true rfl) dX9_row_2 (fun r I2 J2 h => ?_)
  obtain ⟨rfl, rfl, rfl⟩ := h
  refine g_st (sn := [.int 0]) rfl ?_
  refine g_if_eq (tgt := 29) F dX9_row_5 (by decide) (fun _ => ?_) (fun h => absurd (by decide) h)
  refine g_iconst (v := (-1)) F dX9_row_29 (by decide) ?_
  exact g_iret F e dX9_row_30 rfl
set_option maxRecDepth 100000 in
set_option maxHeartbeats 4000000 in
theorem kX9_leaps_ (l : Launch) (E : gE) (hE : gDist sh E) (I : gM) (J : gN) : Ct l sh E yX9_leaps_ cX9_leaps_ 1 (some .int) (gR 1) [.ref (E.2.1 62)] (g9 I) (h9 J) (fun r _ _ => r = some (.int (-1))) := by
  refine Ct.of "LeapJoinModel" rfl hE (by decide) (Nat.le_of_ble_eq_true rfl) (fun z F e hl => ?_)
  subst hl
  refine g_aload_n F 0 dX9_leaps__0 rfl rfl ?_
  refine g_callV (k := 62) (As := []) (rest := []) F (kX9_areTables (zl z) E hE I J) mX9_areTables q1028 rfl s62 rfl rfl rfl (Nat.le_of_ble_eq_true rfl) dX9_leaps__1 (fun r I2 J2 h => ?_)
  obtain ⟨rfl, rfl, rfl⟩ := h
  refine g_st (sn := [.int 0]) rfl ?_
  refine g_if_ne (tgt := 9) F dX9_leaps__4 (by decide) (fun h => absurd (by decide) h) (fun _ => ?_)
  refine g_iconst (v := (-1)) F dX9_leaps__7 (by decide) ?_
  exact g_iret F e dX9_leaps__8 rfl
set_option maxRecDepth 100000 in
set_option maxHeartbeats 4000000 in
theorem kX9_beginnings (l : Launch) (E : gE) (hE : gDist sh E) (I : gM) (J : gN) (a1 : Int32) : Ct l sh E yX9_beginnings cX9_beginnings 2 (some .int) (gR 1) [.ref (E.2.1 62), .int a1] (g9 I) (h9 J) (fun r _ _ => r = some (.int (-1))) := by
  refine Ct.of "LeapJoinModel" rfl hE (by decide) (Nat.le_of_ble_eq_true rfl) (fun z F e hl => ?_)
  subst hl
  refine g_aload_n F 0 dX9_beginnings_0 rfl rfl ?_
  refine g_callV (k := 62) (As := []) (rest := []) F (kX9_areTables (zl z) E hE I J) mX9_areTables q1028 rfl s62 rfl rfl rfl (Nat.le_of_ble_eq_true rfl) dX9_beginnings_1 (fun r I2 J2 h => ?_)
  obtain ⟨rfl, rfl, rfl⟩ := h
  refine g_st (sn := [.int 0]) rfl ?_
  refine g_if_eq (tgt := 12) F dX9_beginnings_4 (by decide) (fun _ => ?_) (fun h => absurd (by decide) h)
  refine g_iconst (v := (-1)) F dX9_beginnings_12 (by decide) ?_
  exact g_iret F e dX9_beginnings_13 rfl
set_option maxRecDepth 100000 in
set_option maxHeartbeats 4000000 in
theorem kX9_best (l : Launch) (E : gE) (hE : gDist sh E) (I : gM) (J : gN) (a1 : Int32) : Ct l sh E yX9_best cX9_best 2 (some .int) (gR 1) [.ref (E.2.1 62), .int a1] (g9 I) (h9 J) (fun r _ _ => r = some (.int (-1))) := by
  refine Ct.of "LeapJoinModel" rfl hE (by decide) (Nat.le_of_ble_eq_true rfl) (fun z F e hl => ?_)
  subst hl
  refine g_aload_n F 0 dX9_best_0 rfl rfl ?_
  refine g_callV (k := 62) (As := []) (rest := []) F (kX9_areTables (zl z) E hE I J) mX9_areTables q1028 rfl s62 rfl rfl rfl (Nat.le_of_ble_eq_true rfl) dX9_best_1 (fun r I2 J2 h => ?_)
  obtain ⟨rfl, rfl, rfl⟩ := h
  refine g_st (sn := [.int 0]) rfl ?_
  refine g_if_eq (tgt := 16) F dX9_best_4 (by decide) (fun _ => ?_) (fun h => absurd (by decide) h)
  refine g_iconst (v := (-1)) F dX9_best_16 (by decide) ?_
  exact g_iret F e dX9_best_17 rfl
set_option maxRecDepth 100000 in
set_option maxHeartbeats 4000000 in
theorem kX9_plain (l : Launch) (E : gE) (hE : gDist sh E) (I : gM) (J : gN) : Ct l sh E yX9_plain cX9_plain 3 (some .int) (gR 1) [.ref (E.2.1 62)] (g9 I) (h9 J) (fun r _ _ => r = some (.int (-1))) := by
  refine Ct.of "LeapJoinModel" rfl hE (by decide) (Nat.le_of_ble_eq_true rfl) (fun z F e hl => ?_)
  subst hl
  refine g_aload_n F 0 dX9_plain_0 rfl rfl ?_
  refine g_callV (k := 62) (As := []) (rest := []) F (kX9_areTables (zl z) E hE I J) mX9_areTables q1028 rfl s62 rfl rfl rfl (Nat.le_of_ble_eq_true rfl) dX9_plain_1 (fun r I2 J2 h => ?_)
  obtain ⟨rfl, rfl, rfl⟩ := h
  refine g_st (sn := [.int 0]) rfl ?_
  refine g_if_ne (tgt := 9) F dX9_plain_4 (by decide) (fun h => absurd (by decide) h) (fun _ => ?_)
  refine g_iconst (v := (-1)) F dX9_plain_7 (by decide) ?_
  exact g_iret F e dX9_plain_8 rfl
set_option maxRecDepth 100000 in
set_option maxHeartbeats 4000000 in
theorem kX9_given (l : Launch) (E : gE) (hE : gDist sh E) (I : gM) (J : gN) (a1 : Int32) : Ct l sh E yX9_given cX9_given 2 (some .int) (gR 2) [.ref (E.2.1 62), .int a1] (g9 I) (h9 J) (fun r _ _ => r = some (.int (-1))) := by
  refine Ct.of "LeapJoinModel" rfl hE (by decide) (Nat.le_of_ble_eq_true rfl) (fun z F e hl => ?_)
  subst hl
  refine g_aload_n F 0 dX9_given_0 rfl rfl ?_
  refine g_iload_n F 1 dX9_given_1 rfl rfl ?_
  refine g_callV (k := 62) (As := [.int a1]) (rest := []) F (kX9_isTable (zl z) E hE I J a1) mX9_isTable q1019 rfl s62 rfl rfl rfl (Nat.le_of_ble_eq_true rfl) dX9_given_2 (fun r I2 J2 h => ?_)
  obtain ⟨rfl, rfl, rfl⟩ := h
  refine g_st (sn := [.int 0]) rfl ?_
  refine g_if_ne (tgt := 10) F dX9_given_5 (by decide) (fun h => absurd (by decide) h) (fun _ => ?_)
  refine g_iconst (v := (-1)) F dX9_given_8 (by decide) ?_
  exact g_iret F e dX9_given_9 rfl
set_option maxRecDepth 100000 in
set_option maxHeartbeats 4000000 in
theorem kX9_without (l : Launch) (E : gE) (hE : gDist sh E) (I : gM) (J : gN) (a1 : Int32) : Ct l sh E yX9_without cX9_without 4 (some .int) (gR 2) [.ref (E.2.1 62), .int a1] (g9 I) (h9 J) (fun r _ _ => r = some (.int (-1))) := by
  refine Ct.of "LeapJoinModel" rfl hE (by decide) (Nat.le_of_ble_eq_true rfl) (fun z F e hl => ?_)
  subst hl
  refine g_aload_n F 0 dX9_without_0 rfl rfl ?_
  refine g_iload_n F 1 dX9_without_1 rfl rfl ?_
  refine g_callV (k := 62) (As := [.int a1]) (rest := []) F (kX9_isTable (zl z) E hE I J a1) mX9_isTable q1019 rfl s62 rfl rfl rfl (Nat.le_of_ble_eq_true rfl) dX9_without_2 (fun r I2 J2 h => ?_)
  obtain ⟨rfl, rfl, rfl⟩ := h
  refine g_st (sn := [.int 0]) rfl ?_
  refine g_if_eq (tgt := 20) F dX9_without_5 (by decide) (fun _ => ?_) (fun h => absurd (by decide) h)
  refine g_iconst (v := (-1)) F dX9_without_20 (by decide) ?_
  exact g_iret F e dX9_without_21 rfl
set_option maxRecDepth 100000 in
set_option maxHeartbeats 4000000 in
theorem kX9_projected (l : Launch) (E : gE) (hE : gDist sh E) (I : gM) (J : gN) (a1 : Int32) : Ct l sh E yX9_projected cX9_projected 6 (some .int) (gR 1) [.ref (E.2.1 62), .int a1] (g9 I) (h9 J) (fun r _ _ => r = some (.int (-1))) := by
  refine Ct.of "LeapJoinModel" rfl hE (by decide) (Nat.le_of_ble_eq_true rfl) (fun z F e hl => ?_)
  subst hl
  refine g_aload_n F 0 dX9_projected_0 rfl rfl ?_
  refine g_callV (k := 62) (As := []) (rest := []) F (kX9_areTables (zl z) E hE I J) mX9_areTables q1028 rfl s62 rfl rfl rfl (Nat.le_of_ble_eq_true rfl) dX9_projected_1 (fun r I2 J2 h => ?_)
  obtain ⟨rfl, rfl, rfl⟩ := h
  refine g_st (sn := [.int 0]) rfl ?_
  refine g_if_eq (tgt := 28) F dX9_projected_4 (by decide) (fun _ => ?_) (fun h => absurd (by decide) h)
  refine g_iconst (v := (-1)) F dX9_projected_28 (by decide) ?_
  exact g_iret F e dX9_projected_29 rfl
set_option maxRecDepth 100000 in
set_option maxHeartbeats 4000000 in
theorem kX9_times (l : Launch) (E : gE) (hE : gDist sh E) (I : gM) (J : gN) (a1 : Int32) (a2 : Int32) : Ct l sh E yX9_times cX9_times 3 (some .int) (gR 2) [.ref (E.2.1 62), .int a1, .int a2] (g9 I) (h9 J) (fun r _ _ => r = some (.int (-1))) := by
  refine Ct.of "LeapJoinModel" rfl hE (by decide) (Nat.le_of_ble_eq_true rfl) (fun z F e hl => ?_)
  subst hl
  refine g_aload_n F 0 dX9_times_0 rfl rfl ?_
  refine g_iload_n F 1 dX9_times_1 rfl rfl ?_
  refine g_callV (k := 62) (As := [.int a1]) (rest := []) F (kX9_isAsked (zl z) E hE I J a1) mX9_isAsked q1167 rfl s62 rfl rfl rfl (Nat.le_of_ble_eq_true rfl) dX9_times_2 (fun r I2 J2 h => ?_)
  obtain ⟨rfl, rfl, rfl⟩ := h
  refine g_st (sn := [.int 0]) rfl ?_
  refine g_if_ne (tgt := 10) F dX9_times_5 (by decide) (fun h => absurd (by decide) h) (fun _ => ?_)
  refine g_iconst (v := (-1)) F dX9_times_8 (by decide) ?_
  exact g_iret F e dX9_times_9 rfl
set_option maxRecDepth 100000 in
set_option maxHeartbeats 4000000 in
theorem kX9_distinct (l : Launch) (E : gE) (hE : gDist sh E) (I : gM) (J : gN) (a1 : Int32) (a2 : Int32) : Ct l sh E yX9_distinct cX9_distinct 3 (some .int) (gR 2) [.ref (E.2.1 62), .int a1, .int a2] (g9 I) (h9 J) (fun r _ _ => r = some (.int (-1))) := by
  refine Ct.of "LeapJoinModel" rfl hE (by decide) (Nat.le_of_ble_eq_true rfl) (fun z F e hl => ?_)
  subst hl
  refine g_aload_n F 0 dX9_distinct_0 rfl rfl ?_
  refine g_iload_n F 1 dX9_distinct_1 rfl rfl ?_
  refine g_callV (k := 62) (As := [.int a1]) (rest := []) F (kX9_isAsked (zl z) E hE I J a1) mX9_isAsked q1167 rfl s62 rfl rfl rfl (Nat.le_of_ble_eq_true rfl) dX9_distinct_2 (fun r I2 J2 h => ?_)
  obtain ⟨rfl, rfl, rfl⟩ := h
  refine g_st (sn := [.int 0]) rfl ?_
  refine g_if_eq (tgt := 17) F dX9_distinct_5 (by decide) (fun _ => ?_) (fun h => absurd (by decide) h)
  refine g_iconst (v := (-1)) F dX9_distinct_17 (by decide) ?_
  exact g_iret F e dX9_distinct_18 rfl
set_option maxRecDepth 100000 in
set_option maxHeartbeats 4000000 in
theorem kX9_tells (l : Launch) (E : gE) (hE : gDist sh E) (I : gM) (J : gN) (a1 : Int32) (a2 : Int32) : Ct l sh E yX9_tells cX9_tells 3 (some .boolean) (gR 2) [.ref (E.2.1 62), .int a1, .int a2] (g9 I) (h9 J) (fun r _ _ => r = some (.int (0))) := by
  refine Ct.of "LeapJoinModel" rfl hE (by decide) (Nat.le_of_ble_eq_true rfl) (fun z F e hl => ?_)
  subst hl
  refine g_aload_n F 0 dX9_tells_0 rfl rfl ?_
  refine g_iload_n F 1 dX9_tells_1 rfl rfl ?_
  refine g_callV (k := 62) (As := [.int a1]) (rest := []) F (kX9_isAsked (zl z) E hE I J a1) mX9_isAsked q1167 rfl s62 rfl rfl rfl (Nat.le_of_ble_eq_true rfl) dX9_tells_2 (fun r I2 J2 h => ?_)
  obtain ⟨rfl, rfl, rfl⟩ := h
  refine g_st (sn := [.int 0]) rfl ?_
  refine g_if_eq (tgt := 16) F dX9_tells_5 (by decide) (fun _ => ?_) (fun h => absurd (by decide) h)
  refine g_iconst (v := 0) F dX9_tells_16 (by decide) ?_
  exact g_zret F rfl e dX9_tells_17 rfl
set_option maxRecDepth 100000 in
set_option maxHeartbeats 4000000 in
theorem kX9_behind (l : Launch) (E : gE) (hE : gDist sh E) (I : gM) (J : gN) (a1 : Int32) (a2 : Int32) (a3 : Int32) (a4 : Int32) : Ct l sh E yX9_behind cX9_behind 6 (some .int) (gR 1) [.ref (E.2.1 62), .int a1, .int a2, .int a3, .int a4] (g9 I) (h9 J) (fun r _ _ => r = some (.int (-1))) := by
  refine Ct.of "LeapJoinModel" rfl hE (by decide) (Nat.le_of_ble_eq_true rfl) (fun z F e hl => ?_)
  subst hl
  refine g_aload_n F 0 dX9_behind_0 rfl rfl ?_
  refine g_callV (k := 62) (As := []) (rest := []) F (kX9_areTables (zl z) E hE I J) mX9_areTables q1028 rfl s62 rfl rfl rfl (Nat.le_of_ble_eq_true rfl) dX9_behind_1 (fun r I2 J2 h => ?_)
  obtain ⟨rfl, rfl, rfl⟩ := h
  refine g_st (sn := [.int 0]) rfl ?_
  refine g_if_ne (tgt := 9) F dX9_behind_4 (by decide) (fun h => absurd (by decide) h) (fun _ => ?_)
  refine g_iconst (v := (-1)) F dX9_behind_7 (by decide) ?_
  exact g_iret F e dX9_behind_8 rfl
set_option maxRecDepth 100000 in
set_option maxHeartbeats 4000000 in
theorem kX9_has_ (l : Launch) (E : gE) (hE : gDist sh E) (I : gM) (J : gN) (a1 : Int32) (a2 : Int32) (a3 : Int32) (a4 : Int32) : Ct l sh E yX9_has_ cX9_has_ 6 (some .boolean) (gR 1) [.ref (E.2.1 62), .int a1, .int a2, .int a3, .int a4] (g9 I) (h9 J) (fun r _ _ => r = some (.int (0))) := by
  refine Ct.of "LeapJoinModel" rfl hE (by decide) (Nat.le_of_ble_eq_true rfl) (fun z F e hl => ?_)
  subst hl
  refine g_aload_n F 0 dX9_has__0 rfl rfl ?_
  refine g_callV (k := 62) (As := []) (rest := []) F (kX9_areTables (zl z) E hE I J) mX9_areTables q1028 rfl s62 rfl rfl rfl (Nat.le_of_ble_eq_true rfl) dX9_has__1 (fun r I2 J2 h => ?_)
  obtain ⟨rfl, rfl, rfl⟩ := h
  refine g_st (sn := [.int 0]) rfl ?_
  refine g_if_ne (tgt := 9) F dX9_has__4 (by decide) (fun h => absurd (by decide) h) (fun _ => ?_)
  refine g_iconst (v := 0) F dX9_has__7 (by decide) ?_
  exact g_zret F rfl e dX9_has__8 rfl
set_option maxRecDepth 100000 in
set_option maxHeartbeats 4000000 in
theorem kX9_hasMean (l : Launch) (E : gE) (hE : gDist sh E) (I : gM) (J : gN) (a1 : Int32) : Ct l sh E yX9_hasMean cX9_hasMean 2 (some .boolean) (gR 2) [.ref (E.2.1 62), .int a1] (g9 I) (h9 J) (fun r I1 J1 => r = some (.int 0) ∧ I1 = (g9 I) ∧ J1 = (h9 J)) := by
  refine Ct.of "LeapJoinModel" rfl hE (by decide) (Nat.le_of_ble_eq_true rfl) (fun z F e hl => ?_)
  subst hl
  refine g_aload_n F 0 dX9_hasMean_0 rfl rfl ?_
  refine g_iload_n F 1 dX9_hasMean_1 rfl rfl ?_
  refine g_callV (k := 62) (As := [.int a1]) (rest := []) F (kX9_isAsked (zl z) E hE I J a1) mX9_isAsked q1167 rfl s62 rfl rfl rfl (Nat.le_of_ble_eq_true rfl) dX9_hasMean_2 (fun r I2 J2 h => ?_)
  obtain ⟨rfl, rfl, rfl⟩ := h
  refine g_st (sn := [.int 0]) rfl ?_
  refine g_if_eq (tgt := 19) F dX9_hasMean_5 (by decide) (fun _ => ?_) (fun h => absurd (by decide) h)
  refine g_iconst (v := 0) F dX9_hasMean_19 (by decide) ?_
  exact g_zret F rfl e dX9_hasMean_20 ⟨rfl, rfl, rfl⟩
set_option maxRecDepth 100000 in
set_option maxHeartbeats 4000000 in
theorem kX9_mean (l : Launch) (E : gE) (hE : gDist sh E) (I : gM) (J : gN) (a1 : Int32) : Ct l sh E yX9_mean cX9_mean 2 (some .long) (gR 3) [.ref (E.2.1 62), .int a1] (g9 I) (h9 J) (fun r _ _ => r = some (.long (-1000000))) := by
  refine Ct.of "LeapJoinModel" rfl hE (by decide) (Nat.le_of_ble_eq_true rfl) (fun z F e hl => ?_)
  subst hl
  refine g_aload_n F 0 dX9_mean_0 rfl rfl ?_
  refine g_iload_n F 1 dX9_mean_1 rfl rfl ?_
  refine g_callV (k := 62) (As := [.int a1]) (rest := []) F (kX9_hasMean (zl z) E hE I J a1) mX9_hasMean q1249 rfl s62 rfl rfl rfl (Nat.le_of_ble_eq_true rfl) dX9_mean_2 (fun r I2 J2 h => ?_)
  obtain ⟨rfl, rfl, rfl⟩ := h
  refine g_st (sn := [.int 0]) rfl ?_
  refine g_if_eq (tgt := 19) F dX9_mean_5 (by decide) (fun _ => ?_) (fun h => absurd (by decide) h)
  refine g_ldc2_w F dX9_mean_19 q1264 ?_
  exact g_lret F e dX9_mean_22 rfl
set_option maxRecDepth 100000 in
set_option maxHeartbeats 4000000 in
theorem kX9_in_3 (l : Launch) (E : gE) (hE : gDist sh E) (I : gM) (J : gN) (a0 : Int32) : Ct l sh E yX9_in cX9_in 3 (some .boolean) (gR 0) [.int a0, .int 0, .int 1] (g9 I) (h9 J) (fun r I1 J1 => (r = some (.int 0) ∧ I1 = (g9 I) ∧ J1 = (h9 J) ∧ a0 < 0) ∨ (r = some (.int 0) ∧ I1 = (g9 I) ∧ J1 = (h9 J) ∧ ¬ a0 < 0 ∧ 1 < a0) ∨ (r = some (.int 1) ∧ I1 = (g9 I) ∧ J1 = (h9 J) ∧ ¬ a0 < 0 ∧ ¬ 1 < a0)) := by
  refine Ct.of "LeapJoinModel" rfl hE (by decide) (Nat.le_of_ble_eq_true rfl) (fun z F e hl => ?_)
  subst hl
  refine g_iload_n F 0 dX9_in_0 rfl rfl ?_
  refine g_iload_n F 1 dX9_in_1 rfl rfl ?_
  refine g_icmp_lt (tgt := 14) F dX9_in_2 (by decide) (fun c1 => ?_) (fun c1f => ?_)
  · refine g_iconst (v := 0) F dX9_in_14 (by decide) ?_
    exact g_zret F rfl e dX9_in_15 (Or.inl ⟨rfl, rfl, rfl, c1⟩)
  · refine g_iload_n F 0 dX9_in_5 rfl rfl ?_
    refine g_iload_n F 2 dX9_in_6 rfl rfl ?_
    refine g_icmp_gt (tgt := 14) F dX9_in_7 (by decide) (fun c2 => ?_) (fun c2f => ?_)
    · refine g_iconst (v := 0) F dX9_in_14 (by decide) ?_
      exact g_zret F rfl e dX9_in_15 (Or.inr (Or.inl ⟨rfl, rfl, rfl, c1f, c2⟩))
    · refine g_iconst (v := 1) F dX9_in_10 (by decide) ?_
      refine g_goto (tgt := 15) F dX9_in_11 (by decide) ?_
      exact g_zret F rfl e dX9_in_15 (Or.inr (Or.inr (⟨rfl, rfl, rfl, c1f, c2f⟩)))
set_option maxRecDepth 100000 in
set_option maxHeartbeats 4000000 in
theorem kX9_meanAs (l : Launch) (E : gE) (hE : gDist sh E) (I : gM) (J : gN) (a1 : Int32) (a2 : Int32) : Ct l sh E yX9_meanAs cX9_meanAs 3 (some .int) (gR 3) [.ref (E.2.1 62), .int a1, .int a2] (g9 I) (h9 J) (fun r _ _ => r = some (.int (-1000000))) := by
  refine Ct.of "LeapJoinModel" rfl hE (by decide) (Nat.le_of_ble_eq_true rfl) (fun z F e hl => ?_)
  subst hl
  refine g_iload_n F 2 dX9_meanAs_0 rfl rfl ?_
  refine g_iconst (v := 0) F dX9_meanAs_1 (by decide) ?_
  refine g_iconst (v := 1) F dX9_meanAs_2 (by decide) ?_
  refine g_callS (As := [.int a2, .int 0, .int 1]) (rest := []) F (kX9_in_3 (zl z) E hE I J a2) mX9_in q923 rfl rfl rfl (Nat.le_of_ble_eq_true rfl) dX9_meanAs_3 (fun r I2 J2 h => ?_)
  rcases h with ⟨rfl, rfl, rfl, c1⟩ | ⟨rfl, rfl, rfl, c2, c3⟩ | ⟨rfl, rfl, rfl, c4, c5⟩
  · refine g_st (sn := [.int 0]) rfl ?_
    refine g_if_eq (tgt := 17) F dX9_meanAs_6 (by decide) (fun _ => ?_) (fun h => absurd (by decide) h)
    refine g_ldc_w F dX9_meanAs_17 q1143 ?_
    exact g_iret F e dX9_meanAs_20 rfl
  · refine g_st (sn := [.int 0]) rfl ?_
    refine g_if_eq (tgt := 17) F dX9_meanAs_6 (by decide) (fun _ => ?_) (fun h => absurd (by decide) h)
    refine g_ldc_w F dX9_meanAs_17 q1143 ?_
    exact g_iret F e dX9_meanAs_20 rfl
  · refine g_st (sn := [.int 1]) rfl ?_
    refine g_if_eq (tgt := 17) F dX9_meanAs_6 (by decide) (fun h => absurd h (by decide)) (fun _ => ?_)
    refine g_aload_n F 0 dX9_meanAs_9 rfl rfl ?_
    refine g_iload_n F 1 dX9_meanAs_10 rfl rfl ?_
    refine g_callV (k := 62) (As := [.int a1]) (rest := []) F (kX9_hasMean (zl z) E hE I J a1) mX9_hasMean q1249 rfl s62 rfl rfl rfl (Nat.le_of_ble_eq_true rfl) dX9_meanAs_11 (fun r I2 J2 h => ?_)
    obtain ⟨rfl, rfl, rfl⟩ := h
    refine g_st (sn := [.int 0]) rfl ?_
    refine g_if_ne (tgt := 21) F dX9_meanAs_14 (by decide) (fun h => absurd (by decide) h) (fun _ => ?_)
    refine g_ldc_w F dX9_meanAs_17 q1143 ?_
    exact g_iret F e dX9_meanAs_20 rfl
set_option maxRecDepth 100000 in
set_option maxHeartbeats 4000000 in
theorem kX9_spread (l : Launch) (E : gE) (hE : gDist sh E) (I : gM) (J : gN) (a1 : Int32) : Ct l sh E yX9_spread cX9_spread 9 (some .long) (gR 3) [.ref (E.2.1 62), .int a1] (g9 I) (h9 J) (fun r _ _ => r = some (.long (-1000000))) := by
  refine Ct.of "LeapJoinModel" rfl hE (by decide) (Nat.le_of_ble_eq_true rfl) (fun z F e hl => ?_)
  subst hl
  refine g_aload_n F 0 dX9_spread_0 rfl rfl ?_
  refine g_iload_n F 1 dX9_spread_1 rfl rfl ?_
  refine g_callV (k := 62) (As := [.int a1]) (rest := []) F (kX9_hasMean (zl z) E hE I J a1) mX9_hasMean q1249 rfl s62 rfl rfl rfl (Nat.le_of_ble_eq_true rfl) dX9_spread_2 (fun r I2 J2 h => ?_)
  obtain ⟨rfl, rfl, rfl⟩ := h
  refine g_st (sn := [.int 0]) rfl ?_
  refine g_if_ne (tgt := 12) F dX9_spread_5 (by decide) (fun h => absurd (by decide) h) (fun _ => ?_)
  refine g_ldc2_w F dX9_spread_8 q1264 ?_
  exact g_lret F e dX9_spread_11 rfl
set_option maxRecDepth 100000 in
set_option maxHeartbeats 4000000 in
theorem kX9_skew (l : Launch) (E : gE) (hE : gDist sh E) (I : gM) (J : gN) (a1 : Int32) : Ct l sh E yX9_skew cX9_skew 3 (some .int) (gR 3) [.ref (E.2.1 62), .int a1] (g9 I) (h9 J) (fun r _ _ => r = some (.int (-1000000))) := by
  refine Ct.of "LeapJoinModel" rfl hE (by decide) (Nat.le_of_ble_eq_true rfl) (fun z F e hl => ?_)
  subst hl
  refine g_aload_n F 0 dX9_skew_0 rfl rfl ?_
  refine g_iload_n F 1 dX9_skew_1 rfl rfl ?_
  refine g_callV (k := 62) (As := [.int a1]) (rest := []) F (kX9_hasMean (zl z) E hE I J a1) mX9_hasMean q1249 rfl s62 rfl rfl rfl (Nat.le_of_ble_eq_true rfl) dX9_skew_2 (fun r I2 J2 h => ?_)
  obtain ⟨rfl, rfl, rfl⟩ := h
  refine g_st (sn := [.int 0]) rfl ?_
  refine g_if_ne (tgt := 12) F dX9_skew_5 (by decide) (fun h => absurd (by decide) h) (fun _ => ?_)
  refine g_ldc_w F dX9_skew_8 q1143 ?_
  exact g_iret F e dX9_skew_11 rfl
set_option maxRecDepth 100000 in
set_option maxHeartbeats 4000000 in
theorem kX9_whyPut (l : Launch) (E : gE) (hE : gDist sh E) (I : gM) (J : gN) (a1 : Int32) (a2 : Int32) (a3 : Int32) (a4 : Int32) : Ct l sh E yX9_whyPut cX9_whyPut 5 (some .int) (gR 2) [.ref (E.2.1 62), .int a1, .int a2, .int a3, .int a4] (g9 I) (h9 J) (fun r I1 J1 => r = some (.int 0) ∧ I1 = (g9 I) ∧ J1 = (h9 J)) := by
  refine Ct.of "LeapJoinModel" rfl hE (by decide) (Nat.le_of_ble_eq_true rfl) (fun z F e hl => ?_)
  subst hl
  refine g_aload_n F 0 dX9_whyPut_0 rfl rfl ?_
  refine g_iload_n F 1 dX9_whyPut_1 rfl rfl ?_
  refine g_callV (k := 62) (As := [.int a1]) (rest := []) F (kX9_isTable (zl z) E hE I J a1) mX9_isTable q1019 rfl s62 rfl rfl rfl (Nat.le_of_ble_eq_true rfl) dX9_whyPut_2 (fun r I2 J2 h => ?_)
  obtain ⟨rfl, rfl, rfl⟩ := h
  refine g_st (sn := [.int 0]) rfl ?_
  refine g_if_ne (tgt := 10) F dX9_whyPut_5 (by decide) (fun h => absurd (by decide) h) (fun _ => ?_)
  refine g_iconst (v := 0) F dX9_whyPut_8 (by decide) ?_
  exact g_iret F e dX9_whyPut_9 ⟨rfl, rfl, rfl⟩
set_option maxRecDepth 100000 in
set_option maxHeartbeats 4000000 in
theorem kX9_whyNot (l : Launch) (E : gE) (hE : gDist sh E) (I : gM) (J : gN) (a2 : Int32) (a3 : Int32) (a4 : Int32) (a5 : Int32) : Ct l sh E yX9_whyNot cX9_whyNot 6 (some .int) (gR 3) [.ref (E.2.1 62), .int 0, .int a2, .int a3, .int a4, .int a5] (g9 I) (h9 J) (fun r I1 J1 => r = some (.int 0) ∧ I1 = (g9 I) ∧ J1 = (h9 J)) := by
  refine Ct.of "LeapJoinModel" rfl hE (by decide) (Nat.le_of_ble_eq_true rfl) (fun z F e hl => ?_)
  subst hl
  refine g_iload_n F 1 dX9_whyNot_0 rfl rfl ?_
  refine g_tableIn (tgt := 28) F dX9_whyNot_1 (by decide) (by decide) rfl (by decide) ?_
  refine g_aload_n F 0 dX9_whyNot_28 rfl rfl ?_
  refine g_iload_n F 2 dX9_whyNot_29 rfl rfl ?_
  refine g_iload_n F 3 dX9_whyNot_30 rfl rfl ?_
  refine g_iload F 4 dX9_whyNot_31 rfl ?_
  refine g_iload F 5 dX9_whyNot_33 rfl ?_
  refine g_callV (k := 62) (As := [.int a2, .int a3, .int a4, .int a5]) (rest := []) F (kX9_whyPut (zl z) E hE I J a2 a3 a4 a5) mX9_whyPut q1016 rfl s62 rfl rfl rfl (Nat.le_of_ble_eq_true rfl) dX9_whyNot_35 (fun r I2 J2 h => ?_)
  obtain ⟨rfl, rfl, rfl⟩ := h
  refine g_st (sn := [.int 0]) rfl ?_
  exact g_iret F e dX9_whyNot_38 ⟨rfl, rfl, rfl⟩
set_option maxRecDepth 100000 in
set_option maxHeartbeats 4000000 in
theorem kX9_hand (l : Launch) (E : gE) (hE : gDist sh E) (I : gM) (J : gN) (a2 : Int32) (a3 : Int32) (a4 : Int32) (a5 : Int32) : Ct l sh E yX9_hand cX9_hand 7 (some .int) (gR 4) [.ref (E.2.1 62), .int 0, .int a2, .int a3, .int a4, .int a5] (g9 I) (h9 J) (fun r I1 J1 => r = some (.int (-1)) ∧ I1 = (g_up (g9 I) 71 0 1) ∧ J1 = (h9 J)) := by
  refine Ct.of "LeapJoinModel" rfl hE (by decide) (Nat.le_of_ble_eq_true rfl) (fun z F e hl => ?_)
  subst hl
  refine g_aload_n F 0 dX9_hand_0 rfl rfl ?_
  refine g_iload_n F 1 dX9_hand_1 rfl rfl ?_
  refine g_iload_n F 2 dX9_hand_2 rfl rfl ?_
  refine g_iload_n F 3 dX9_hand_3 rfl rfl ?_
  refine g_iload F 4 dX9_hand_4 rfl ?_
  refine g_iload F 5 dX9_hand_6 rfl ?_
  refine g_callV (k := 62) (As := [.int 0, .int a2, .int a3, .int a4, .int a5]) (rest := []) F (kX9_whyNot (zl z) E hE I J a2 a3 a4 a5) mX9_whyNot q1013 rfl s62 rfl rfl rfl (Nat.le_of_ble_eq_true rfl) dX9_hand_8 (fun r I2 J2 h => ?_)
  obtain ⟨rfl, rfl, rfl⟩ := h
  refine g_st (sn := [.int 0]) rfl ?_
  refine g_istore (Ln := [(6, .int 0), (0, .ref (E.2.1 62)), (1, .int 0), (2, .int a2), (3, .int a3), (4, .int a4), (5, .int a5)]) F dX9_hand_11 (by decide) rfl ?_
  refine g_iload F 0 dX9_hand_13 rfl ?_
  refine g_iconst (v := (-1)) F dX9_hand_15 (by decide) ?_
  refine g_icmp_eq (tgt := 32) F dX9_hand_16 (by decide) (fun h => absurd h (by decide)) (fun _ => ?_)
  refine g_aload_n F 1 dX9_hand_19 rfl rfl ?_
  refine g_getr (j := 14) (nn := 71) F s62 rfl rfl uX9 (by decide) q835 dX9_hand_20 ?_
  refine g_iload F 0 dX9_hand_23 rfl ?_
  refine g_dup2 F dX9_hand_25 rfl rfl ?_
  refine g_iald (v := 0) F 0 s71 (by decide) (by decide) (by decide) rfl dX9_hand_26 ?_
  refine g_iconst (v := 1) F dX9_hand_27 (by decide) ?_
  refine g_iadd (v := 1) F dX9_hand_28 (by decide) ?_
  refine g_iast (v := 1) F 0 s71 (by decide) (by decide) (by decide) rfl dX9_hand_29 ?_
  refine g_iconst (v := (-1)) F dX9_hand_30 (by decide) ?_
  exact g_iret F e dX9_hand_31 ⟨rfl, rfl, rfl⟩
set_option maxRecDepth 100000 in
set_option maxHeartbeats 4000000 in
theorem kX9_put (l : Launch) (E : gE) (hE : gDist sh E) (I : gM) (J : gN) (a1 : Int32) (a2 : Int32) (a3 : Int32) (a4 : Int32) : Ct l sh E yX9_put cX9_put 5 (some .int) (gR 5) [.ref (E.2.1 62), .int a1, .int a2, .int a3, .int a4] (g9 I) (h9 J) (fun r _ _ => r = some (.int (-1))) := by
  refine Ct.of "LeapJoinModel" rfl hE (by decide) (Nat.le_of_ble_eq_true rfl) (fun z F e hl => ?_)
  subst hl
  refine g_aload_n F 0 dX9_put_0 rfl rfl ?_
  refine g_iconst (v := 0) F dX9_put_1 (by decide) ?_
  refine g_iload_n F 1 dX9_put_2 rfl rfl ?_
  refine g_iload_n F 2 dX9_put_3 rfl rfl ?_
  refine g_iload_n F 3 dX9_put_4 rfl rfl ?_
  refine g_iload F 4 dX9_put_5 rfl ?_
  refine g_callV (k := 62) (As := [.int 0, .int a1, .int a2, .int a3, .int a4]) (rest := []) F (kX9_hand (zl z) E hE I J a1 a2 a3 a4) mX9_hand q1010 rfl s62 rfl rfl rfl (Nat.le_of_ble_eq_true rfl) dX9_put_7 (fun r I2 J2 h => ?_)
  obtain ⟨rfl, rfl, rfl⟩ := h
  refine g_st (sn := [.int (-1)]) rfl ?_
  exact g_iret F e dX9_put_10 rfl
set_option maxRecDepth 100000 in
set_option maxHeartbeats 4000000 in
theorem kX9_whyTake (l : Launch) (E : gE) (hE : gDist sh E) (I : gM) (J : gN) (a1 : Int32) (a2 : Int32) (a3 : Int32) (a4 : Int32) : Ct l sh E yX9_whyTake cX9_whyTake 5 (some .int) (gR 2) [.ref (E.2.1 62), .int a1, .int a2, .int a3, .int a4] (g9 I) (h9 J) (fun r I1 J1 => r = some (.int 0) ∧ I1 = (g9 I) ∧ J1 = (h9 J)) := by
  refine Ct.of "LeapJoinModel" rfl hE (by decide) (Nat.le_of_ble_eq_true rfl) (fun z F e hl => ?_)
  subst hl
  refine g_aload_n F 0 dX9_whyTake_0 rfl rfl ?_
  refine g_iload_n F 1 dX9_whyTake_1 rfl rfl ?_
  refine g_callV (k := 62) (As := [.int a1]) (rest := []) F (kX9_isTable (zl z) E hE I J a1) mX9_isTable q1019 rfl s62 rfl rfl rfl (Nat.le_of_ble_eq_true rfl) dX9_whyTake_2 (fun r I2 J2 h => ?_)
  obtain ⟨rfl, rfl, rfl⟩ := h
  refine g_st (sn := [.int 0]) rfl ?_
  refine g_if_ne (tgt := 10) F dX9_whyTake_5 (by decide) (fun h => absurd (by decide) h) (fun _ => ?_)
  refine g_iconst (v := 0) F dX9_whyTake_8 (by decide) ?_
  exact g_iret F e dX9_whyTake_9 ⟨rfl, rfl, rfl⟩
set_option maxRecDepth 100000 in
set_option maxHeartbeats 4000000 in
theorem kX9_whyNot_2 (l : Launch) (E : gE) (hE : gDist sh E) (I : gM) (J : gN) (a2 : Int32) (a3 : Int32) (a4 : Int32) (a5 : Int32) : Ct l sh E yX9_whyNot cX9_whyNot 6 (some .int) (gR 3) [.ref (E.2.1 62), .int 1, .int a2, .int a3, .int a4, .int a5] (g9 I) (h9 J) (fun r I1 J1 => r = some (.int 0) ∧ I1 = (g9 I) ∧ J1 = (h9 J)) := by
  refine Ct.of "LeapJoinModel" rfl hE (by decide) (Nat.le_of_ble_eq_true rfl) (fun z F e hl => ?_)
  subst hl
  refine g_iload_n F 1 dX9_whyNot_0 rfl rfl ?_
  refine g_tableIn (tgt := 39) F dX9_whyNot_1 (by decide) (by decide) rfl (by decide) ?_
  refine g_aload_n F 0 dX9_whyNot_39 rfl rfl ?_
  refine g_iload_n F 2 dX9_whyNot_40 rfl rfl ?_
  refine g_iload_n F 3 dX9_whyNot_41 rfl rfl ?_
  refine g_iload F 4 dX9_whyNot_42 rfl ?_
  refine g_iload F 5 dX9_whyNot_44 rfl ?_
  refine g_callV (k := 62) (As := [.int a2, .int a3, .int a4, .int a5]) (rest := []) F (kX9_whyTake (zl z) E hE I J a2 a3 a4 a5) mX9_whyTake q1025 rfl s62 rfl rfl rfl (Nat.le_of_ble_eq_true rfl) dX9_whyNot_46 (fun r I2 J2 h => ?_)
  obtain ⟨rfl, rfl, rfl⟩ := h
  refine g_st (sn := [.int 0]) rfl ?_
  exact g_iret F e dX9_whyNot_49 ⟨rfl, rfl, rfl⟩
set_option maxRecDepth 100000 in
set_option maxHeartbeats 4000000 in
theorem kX9_hand_2 (l : Launch) (E : gE) (hE : gDist sh E) (I : gM) (J : gN) (a2 : Int32) (a3 : Int32) (a4 : Int32) (a5 : Int32) : Ct l sh E yX9_hand cX9_hand 7 (some .int) (gR 4) [.ref (E.2.1 62), .int 1, .int a2, .int a3, .int a4, .int a5] (g9 I) (h9 J) (fun r I1 J1 => r = some (.int (-1)) ∧ I1 = (g_up (g9 I) 71 0 1) ∧ J1 = (h9 J)) := by
  refine Ct.of "LeapJoinModel" rfl hE (by decide) (Nat.le_of_ble_eq_true rfl) (fun z F e hl => ?_)
  subst hl
  refine g_aload_n F 0 dX9_hand_0 rfl rfl ?_
  refine g_iload_n F 1 dX9_hand_1 rfl rfl ?_
  refine g_iload_n F 2 dX9_hand_2 rfl rfl ?_
  refine g_iload_n F 3 dX9_hand_3 rfl rfl ?_
  refine g_iload F 4 dX9_hand_4 rfl ?_
  refine g_iload F 5 dX9_hand_6 rfl ?_
  refine g_callV (k := 62) (As := [.int 1, .int a2, .int a3, .int a4, .int a5]) (rest := []) F (kX9_whyNot_2 (zl z) E hE I J a2 a3 a4 a5) mX9_whyNot q1013 rfl s62 rfl rfl rfl (Nat.le_of_ble_eq_true rfl) dX9_hand_8 (fun r I2 J2 h => ?_)
  obtain ⟨rfl, rfl, rfl⟩ := h
  refine g_st (sn := [.int 0]) rfl ?_
  refine g_istore (Ln := [(6, .int 0), (0, .ref (E.2.1 62)), (1, .int 1), (2, .int a2), (3, .int a3), (4, .int a4), (5, .int a5)]) F dX9_hand_11 (by decide) rfl ?_
  refine g_iload F 0 dX9_hand_13 rfl ?_
  refine g_iconst (v := (-1)) F dX9_hand_15 (by decide) ?_
  refine g_icmp_eq (tgt := 32) F dX9_hand_16 (by decide) (fun h => absurd h (by decide)) (fun _ => ?_)
  refine g_aload_n F 1 dX9_hand_19 rfl rfl ?_
  refine g_getr (j := 14) (nn := 71) F s62 rfl rfl uX9 (by decide) q835 dX9_hand_20 ?_
  refine g_iload F 0 dX9_hand_23 rfl ?_
  refine g_dup2 F dX9_hand_25 rfl rfl ?_
  refine g_iald (v := 0) F 0 s71 (by decide) (by decide) (by decide) rfl dX9_hand_26 ?_
  refine g_iconst (v := 1) F dX9_hand_27 (by decide) ?_
  refine g_iadd (v := 1) F dX9_hand_28 (by decide) ?_
  refine g_iast (v := 1) F 0 s71 (by decide) (by decide) (by decide) rfl dX9_hand_29 ?_
  refine g_iconst (v := (-1)) F dX9_hand_30 (by decide) ?_
  exact g_iret F e dX9_hand_31 ⟨rfl, rfl, rfl⟩
set_option maxRecDepth 100000 in
set_option maxHeartbeats 4000000 in
theorem kX9_take (l : Launch) (E : gE) (hE : gDist sh E) (I : gM) (J : gN) (a1 : Int32) (a2 : Int32) (a3 : Int32) (a4 : Int32) : Ct l sh E yX9_take cX9_take 5 (some .int) (gR 5) [.ref (E.2.1 62), .int a1, .int a2, .int a3, .int a4] (g9 I) (h9 J) (fun r _ _ => r = some (.int (-1))) := by
  refine Ct.of "LeapJoinModel" rfl hE (by decide) (Nat.le_of_ble_eq_true rfl) (fun z F e hl => ?_)
  subst hl
  refine g_aload_n F 0 dX9_take_0 rfl rfl ?_
  refine g_iconst (v := 1) F dX9_take_1 (by decide) ?_
  refine g_iload_n F 1 dX9_take_2 rfl rfl ?_
  refine g_iload_n F 2 dX9_take_3 rfl rfl ?_
  refine g_iload_n F 3 dX9_take_4 rfl rfl ?_
  refine g_iload F 4 dX9_take_5 rfl ?_
  refine g_callV (k := 62) (As := [.int 1, .int a1, .int a2, .int a3, .int a4]) (rest := []) F (kX9_hand_2 (zl z) E hE I J a1 a2 a3 a4) mX9_hand q1010 rfl s62 rfl rfl rfl (Nat.le_of_ble_eq_true rfl) dX9_take_7 (fun r I2 J2 h => ?_)
  obtain ⟨rfl, rfl, rfl⟩ := h
  refine g_st (sn := [.int (-1)]) rfl ?_
  exact g_iret F e dX9_take_10 rfl
set_option maxRecDepth 100000 in
set_option maxHeartbeats 4000000 in
theorem kX9_whyNot_3 (l : Launch) (E : gE) (hE : gDist sh E) (I : gM) (J : gN) (a2 : Int32) : Ct l sh E yX9_whyNot cX9_whyNot 6 (some .int) (gR 2) [.ref (E.2.1 62), .int 2, .int a2, .int 0, .int 0, .int 0] (g9 I) (h9 J) (fun r I1 J1 => r = some (.int 0) ∧ I1 = (g9 I) ∧ J1 = (h9 J)) := by
  refine Ct.of "LeapJoinModel" rfl hE (by decide) (Nat.le_of_ble_eq_true rfl) (fun z F e hl => ?_)
  subst hl
  refine g_iload_n F 1 dX9_whyNot_0 rfl rfl ?_
  refine g_tableIn (tgt := 50) F dX9_whyNot_1 (by decide) (by decide) rfl (by decide) ?_
  refine g_aload_n F 0 dX9_whyNot_50 rfl rfl ?_
  refine g_iload_n F 2 dX9_whyNot_51 rfl rfl ?_
  refine g_callV (k := 62) (As := [.int a2]) (rest := []) F (kX9_isTable (zl z) E hE I J a2) mX9_isTable q1019 rfl s62 rfl rfl rfl (Nat.le_of_ble_eq_true rfl) dX9_whyNot_52 (fun r I2 J2 h => ?_)
  obtain ⟨rfl, rfl, rfl⟩ := h
  refine g_st (sn := [.int 0]) rfl ?_
  refine g_if_ne (tgt := 62) F dX9_whyNot_55 (by decide) (fun h => absurd (by decide) h) (fun _ => ?_)
  refine g_iconst (v := 0) F dX9_whyNot_58 (by decide) ?_
  refine g_goto (tgt := 79) F dX9_whyNot_59 (by decide) ?_
  exact g_iret F e dX9_whyNot_79 ⟨rfl, rfl, rfl⟩
set_option maxRecDepth 100000 in
set_option maxHeartbeats 4000000 in
theorem kX9_hand_3 (l : Launch) (E : gE) (hE : gDist sh E) (I : gM) (J : gN) (a2 : Int32) : Ct l sh E yX9_hand cX9_hand 7 (some .int) (gR 3) [.ref (E.2.1 62), .int 2, .int a2, .int 0, .int 0, .int 0] (g9 I) (h9 J) (fun r I1 J1 => r = some (.int (-1)) ∧ I1 = (g_up (g9 I) 71 0 1) ∧ J1 = (h9 J)) := by
  refine Ct.of "LeapJoinModel" rfl hE (by decide) (Nat.le_of_ble_eq_true rfl) (fun z F e hl => ?_)
  subst hl
  refine g_aload_n F 0 dX9_hand_0 rfl rfl ?_
  refine g_iload_n F 1 dX9_hand_1 rfl rfl ?_
  refine g_iload_n F 2 dX9_hand_2 rfl rfl ?_
  refine g_iload_n F 3 dX9_hand_3 rfl rfl ?_
  refine g_iload F 4 dX9_hand_4 rfl ?_
  refine g_iload F 5 dX9_hand_6 rfl ?_
  refine g_callV (k := 62) (As := [.int 2, .int a2, .int 0, .int 0, .int 0]) (rest := []) F (kX9_whyNot_3 (zl z) E hE I J a2) mX9_whyNot q1013 rfl s62 rfl rfl rfl (Nat.le_of_ble_eq_true rfl) dX9_hand_8 (fun r I2 J2 h => ?_)
  obtain ⟨rfl, rfl, rfl⟩ := h
  refine g_st (sn := [.int 0]) rfl ?_
  refine g_istore (Ln := [(6, .int 0), (0, .ref (E.2.1 62)), (1, .int 2), (2, .int a2), (3, .int 0), (4, .int 0), (5, .int 0)]) F dX9_hand_11 (by decide) rfl ?_
  refine g_iload F 0 dX9_hand_13 rfl ?_
  refine g_iconst (v := (-1)) F dX9_hand_15 (by decide) ?_
  refine g_icmp_eq (tgt := 32) F dX9_hand_16 (by decide) (fun h => absurd h (by decide)) (fun _ => ?_)
  refine g_aload_n F 1 dX9_hand_19 rfl rfl ?_
  refine g_getr (j := 14) (nn := 71) F s62 rfl rfl uX9 (by decide) q835 dX9_hand_20 ?_
  refine g_iload F 0 dX9_hand_23 rfl ?_
  refine g_dup2 F dX9_hand_25 rfl rfl ?_
  refine g_iald (v := 0) F 0 s71 (by decide) (by decide) (by decide) rfl dX9_hand_26 ?_
  refine g_iconst (v := 1) F dX9_hand_27 (by decide) ?_
  refine g_iadd (v := 1) F dX9_hand_28 (by decide) ?_
  refine g_iast (v := 1) F 0 s71 (by decide) (by decide) (by decide) rfl dX9_hand_29 ?_
  refine g_iconst (v := (-1)) F dX9_hand_30 (by decide) ?_
  exact g_iret F e dX9_hand_31 ⟨rfl, rfl, rfl⟩
set_option maxRecDepth 100000 in
set_option maxHeartbeats 4000000 in
theorem kX9_use (l : Launch) (E : gE) (hE : gDist sh E) (I : gM) (J : gN) (a1 : Int32) : Ct l sh E yX9_use cX9_use 2 (some .int) (gR 4) [.ref (E.2.1 62), .int a1] (g9 I) (h9 J) (fun r _ _ => r = some (.int (-1))) := by
  refine Ct.of "LeapJoinModel" rfl hE (by decide) (Nat.le_of_ble_eq_true rfl) (fun z F e hl => ?_)
  subst hl
  refine g_aload_n F 0 dX9_use_0 rfl rfl ?_
  refine g_iconst (v := 2) F dX9_use_1 (by decide) ?_
  refine g_iload_n F 1 dX9_use_2 rfl rfl ?_
  refine g_iconst (v := 0) F dX9_use_3 (by decide) ?_
  refine g_iconst (v := 0) F dX9_use_4 (by decide) ?_
  refine g_iconst (v := 0) F dX9_use_5 (by decide) ?_
  refine g_callV (k := 62) (As := [.int 2, .int a1, .int 0, .int 0, .int 0]) (rest := []) F (kX9_hand_3 (zl z) E hE I J a1) mX9_hand q1010 rfl s62 rfl rfl rfl (Nat.le_of_ble_eq_true rfl) dX9_use_6 (fun r I2 J2 h => ?_)
  obtain ⟨rfl, rfl, rfl⟩ := h
  refine g_st (sn := [.int (-1)]) rfl ?_
  exact g_iret F e dX9_use_9 rfl
set_option maxRecDepth 100000 in
set_option maxHeartbeats 4000000 in
theorem kX9_whyNot_4 (l : Launch) (E : gE) (hE : gDist sh E) (I : gM) (J : gN) (a2 : Int32) : Ct l sh E yX9_whyNot cX9_whyNot 6 (some .int) (gR 1) [.ref (E.2.1 62), .int 3, .int a2, .int 0, .int 0, .int 0] (g9 I) (h9 J) (fun r I1 J1 => r = some (.int 0) ∧ I1 = (g9 I) ∧ J1 = (h9 J)) := by
  refine Ct.of "LeapJoinModel" rfl hE (by decide) (Nat.le_of_ble_eq_true rfl) (fun z F e hl => ?_)
  subst hl
  refine g_iload_n F 1 dX9_whyNot_0 rfl rfl ?_
  refine g_tableOut (tgt := 80) F dX9_whyNot_1 (by decide) (by decide) ?_
  refine g_aload_n F 0 dX9_whyNot_80 rfl rfl ?_
  refine g_callV (k := 62) (As := []) (rest := []) F (kX9_areTables (zl z) E hE I J) mX9_areTables q1028 rfl s62 rfl rfl rfl (Nat.le_of_ble_eq_true rfl) dX9_whyNot_81 (fun r I2 J2 h => ?_)
  obtain ⟨rfl, rfl, rfl⟩ := h
  refine g_st (sn := [.int 0]) rfl ?_
  refine g_if_ne (tgt := 91) F dX9_whyNot_84 (by decide) (fun h => absurd (by decide) h) (fun _ => ?_)
  refine g_iconst (v := 0) F dX9_whyNot_87 (by decide) ?_
  refine g_goto (tgt := 120) F dX9_whyNot_88 (by decide) ?_
  exact g_iret F e dX9_whyNot_120 ⟨rfl, rfl, rfl⟩
set_option maxRecDepth 100000 in
set_option maxHeartbeats 4000000 in
theorem kX9_hand_4 (l : Launch) (E : gE) (hE : gDist sh E) (I : gM) (J : gN) (a2 : Int32) : Ct l sh E yX9_hand cX9_hand 7 (some .int) (gR 2) [.ref (E.2.1 62), .int 3, .int a2, .int 0, .int 0, .int 0] (g9 I) (h9 J) (fun r I1 J1 => r = some (.int (-1)) ∧ I1 = (g_up (g9 I) 71 0 1) ∧ J1 = (h9 J)) := by
  refine Ct.of "LeapJoinModel" rfl hE (by decide) (Nat.le_of_ble_eq_true rfl) (fun z F e hl => ?_)
  subst hl
  refine g_aload_n F 0 dX9_hand_0 rfl rfl ?_
  refine g_iload_n F 1 dX9_hand_1 rfl rfl ?_
  refine g_iload_n F 2 dX9_hand_2 rfl rfl ?_
  refine g_iload_n F 3 dX9_hand_3 rfl rfl ?_
  refine g_iload F 4 dX9_hand_4 rfl ?_
  refine g_iload F 5 dX9_hand_6 rfl ?_
  refine g_callV (k := 62) (As := [.int 3, .int a2, .int 0, .int 0, .int 0]) (rest := []) F (kX9_whyNot_4 (zl z) E hE I J a2) mX9_whyNot q1013 rfl s62 rfl rfl rfl (Nat.le_of_ble_eq_true rfl) dX9_hand_8 (fun r I2 J2 h => ?_)
  obtain ⟨rfl, rfl, rfl⟩ := h
  refine g_st (sn := [.int 0]) rfl ?_
  refine g_istore (Ln := [(6, .int 0), (0, .ref (E.2.1 62)), (1, .int 3), (2, .int a2), (3, .int 0), (4, .int 0), (5, .int 0)]) F dX9_hand_11 (by decide) rfl ?_
  refine g_iload F 0 dX9_hand_13 rfl ?_
  refine g_iconst (v := (-1)) F dX9_hand_15 (by decide) ?_
  refine g_icmp_eq (tgt := 32) F dX9_hand_16 (by decide) (fun h => absurd h (by decide)) (fun _ => ?_)
  refine g_aload_n F 1 dX9_hand_19 rfl rfl ?_
  refine g_getr (j := 14) (nn := 71) F s62 rfl rfl uX9 (by decide) q835 dX9_hand_20 ?_
  refine g_iload F 0 dX9_hand_23 rfl ?_
  refine g_dup2 F dX9_hand_25 rfl rfl ?_
  refine g_iald (v := 0) F 0 s71 (by decide) (by decide) (by decide) rfl dX9_hand_26 ?_
  refine g_iconst (v := 1) F dX9_hand_27 (by decide) ?_
  refine g_iadd (v := 1) F dX9_hand_28 (by decide) ?_
  refine g_iast (v := 1) F 0 s71 (by decide) (by decide) (by decide) rfl dX9_hand_29 ?_
  refine g_iconst (v := (-1)) F dX9_hand_30 (by decide) ?_
  exact g_iret F e dX9_hand_31 ⟨rfl, rfl, rfl⟩
set_option maxRecDepth 100000 in
set_option maxHeartbeats 4000000 in
theorem kX9_order (l : Launch) (E : gE) (hE : gDist sh E) (I : gM) (J : gN) (a1 : Int32) : Ct l sh E yX9_order cX9_order 2 (some .int) (gR 3) [.ref (E.2.1 62), .int a1] (g9 I) (h9 J) (fun r _ _ => r = some (.int (-1))) := by
  refine Ct.of "LeapJoinModel" rfl hE (by decide) (Nat.le_of_ble_eq_true rfl) (fun z F e hl => ?_)
  subst hl
  refine g_aload_n F 0 dX9_order_0 rfl rfl ?_
  refine g_iconst (v := 3) F dX9_order_1 (by decide) ?_
  refine g_iload_n F 1 dX9_order_2 rfl rfl ?_
  refine g_iconst (v := 0) F dX9_order_3 (by decide) ?_
  refine g_iconst (v := 0) F dX9_order_4 (by decide) ?_
  refine g_iconst (v := 0) F dX9_order_5 (by decide) ?_
  refine g_callV (k := 62) (As := [.int 3, .int a1, .int 0, .int 0, .int 0]) (rest := []) F (kX9_hand_4 (zl z) E hE I J a1) mX9_hand q1010 rfl s62 rfl rfl rfl (Nat.le_of_ble_eq_true rfl) dX9_order_6 (fun r I2 J2 h => ?_)
  obtain ⟨rfl, rfl, rfl⟩ := h
  refine g_st (sn := [.int (-1)]) rfl ?_
  exact g_iret F e dX9_order_9 rfl
set_option maxRecDepth 100000 in
set_option maxHeartbeats 4000000 in
theorem kX9_ways (l : Launch) (E : gE) (hE : gDist sh E) (I : gM) (J : gN) (a1 : Int32) (a2 : Int64) : Ct l sh E yX9_ways cX9_ways 5 (some .int) (gR 1) [.ref (E.2.1 62), .int a1, .long a2] (g9 I) (h9 J) (fun r _ _ => r = some (.int (-1))) := by
  refine Ct.of "LeapJoinModel" rfl hE (by decide) (Nat.le_of_ble_eq_true rfl) (fun z F e hl => ?_)
  subst hl
  refine g_aload_n F 0 dX9_ways_0 rfl rfl ?_
  refine g_callV (k := 62) (As := []) (rest := []) F (kX9_areTables (zl z) E hE I J) mX9_areTables q1028 rfl s62 rfl rfl rfl (Nat.le_of_ble_eq_true rfl) dX9_ways_1 (fun r I2 J2 h => ?_)
  obtain ⟨rfl, rfl, rfl⟩ := h
  refine g_st (sn := [.int 0]) rfl ?_
  refine g_if_eq (tgt := 17) F dX9_ways_4 (by decide) (fun _ => ?_) (fun h => absurd (by decide) h)
  refine g_iconst (v := (-1)) F dX9_ways_17 (by decide) ?_
  exact g_iret F e dX9_ways_18 rfl
set_option maxRecDepth 100000 in
set_option maxHeartbeats 4000000 in
theorem kX9_in_4 (l : Launch) (E : gE) (hE : gDist sh E) (I : gM) (J : gN) (a0 : Int32) : Ct l sh E yX9_in cX9_in 3 (some .boolean) (gR 0) [.int a0, .int 0, .int 3] (g9 I) (h9 J) (fun r I1 J1 => (r = some (.int 0) ∧ I1 = (g9 I) ∧ J1 = (h9 J) ∧ a0 < 0) ∨ (r = some (.int 0) ∧ I1 = (g9 I) ∧ J1 = (h9 J) ∧ ¬ a0 < 0 ∧ 3 < a0) ∨ (r = some (.int 1) ∧ I1 = (g9 I) ∧ J1 = (h9 J) ∧ ¬ a0 < 0 ∧ ¬ 3 < a0)) := by
  refine Ct.of "LeapJoinModel" rfl hE (by decide) (Nat.le_of_ble_eq_true rfl) (fun z F e hl => ?_)
  subst hl
  refine g_iload_n F 0 dX9_in_0 rfl rfl ?_
  refine g_iload_n F 1 dX9_in_1 rfl rfl ?_
  refine g_icmp_lt (tgt := 14) F dX9_in_2 (by decide) (fun c1 => ?_) (fun c1f => ?_)
  · refine g_iconst (v := 0) F dX9_in_14 (by decide) ?_
    exact g_zret F rfl e dX9_in_15 (Or.inl ⟨rfl, rfl, rfl, c1⟩)
  · refine g_iload_n F 0 dX9_in_5 rfl rfl ?_
    refine g_iload_n F 2 dX9_in_6 rfl rfl ?_
    refine g_icmp_gt (tgt := 14) F dX9_in_7 (by decide) (fun c2 => ?_) (fun c2f => ?_)
    · refine g_iconst (v := 0) F dX9_in_14 (by decide) ?_
      exact g_zret F rfl e dX9_in_15 (Or.inr (Or.inl ⟨rfl, rfl, rfl, c1f, c2⟩))
    · refine g_iconst (v := 1) F dX9_in_10 (by decide) ?_
      refine g_goto (tgt := 15) F dX9_in_11 (by decide) ?_
      exact g_zret F rfl e dX9_in_15 (Or.inr (Or.inr (⟨rfl, rfl, rfl, c1f, c2f⟩)))
set_option maxRecDepth 100000 in
set_option maxHeartbeats 4000000 in
theorem kX9_status (l : Launch) (E : gE) (hE : gDist sh E) (I : gM) (J : gN) (a1 : Int32) : Ct l sh E yX9_status cX9_status 2 (some .int) (gR 1) [.ref (E.2.1 62), .int a1] (g9 I) (h9 J) (fun r _ _ => r = some (.int (if 0 ≤ a1 ∧ a1 < 4 then 0 else (-1)))) := by
  refine Ct.of "LeapJoinModel" rfl hE (by decide) (Nat.le_of_ble_eq_true rfl) (fun z F e hl => ?_)
  subst hl
  refine g_iload_n F 1 dX9_status_0 rfl rfl ?_
  refine g_iconst (v := 0) F dX9_status_1 (by decide) ?_
  refine g_iconst (v := 3) F dX9_status_2 (by decide) ?_
  refine g_callS (As := [.int a1, .int 0, .int 3]) (rest := []) F (kX9_in_4 (zl z) E hE I J a1) mX9_in q923 rfl rfl rfl (Nat.le_of_ble_eq_true rfl) dX9_status_3 (fun r I2 J2 h => ?_)
  rcases h with ⟨rfl, rfl, rfl, c1⟩ | ⟨rfl, rfl, rfl, c2, c3⟩ | ⟨rfl, rfl, rfl, c4, c5⟩
  · refine g_st (sn := [.int 0]) rfl ?_
    refine g_if_eq (tgt := 18) F dX9_status_6 (by decide) (fun _ => ?_) (fun h => absurd (by decide) h)
    refine g_iconst (v := (-1)) F dX9_status_18 (by decide) ?_
    exact g_iret F e dX9_status_19 (congrArg (fun x => some (Value.int x)) (if_neg (by simp only [g_lt, g_le, g_eq, g_l0, g_l1, g_l2, g_l3, g_l4, g_l5, g_lm1, g_l400, g_l40, g_l15] at c1 ⊢; omega)).symm)
  · refine g_st (sn := [.int 0]) rfl ?_
    refine g_if_eq (tgt := 18) F dX9_status_6 (by decide) (fun _ => ?_) (fun h => absurd (by decide) h)
    refine g_iconst (v := (-1)) F dX9_status_18 (by decide) ?_
    exact g_iret F e dX9_status_19 (congrArg (fun x => some (Value.int x)) (if_neg (by simp only [g_lt, g_le, g_eq, g_l0, g_l1, g_l2, g_l3, g_l4, g_l5, g_lm1, g_l400, g_l40, g_l15] at c2 c3 ⊢; omega)).symm)
  · refine g_st (sn := [.int 1]) rfl ?_
    refine g_if_eq (tgt := 18) F dX9_status_6 (by decide) (fun h => absurd h (by decide)) (fun _ => ?_)
    refine g_aload_n F 0 dX9_status_9 rfl rfl ?_
    refine g_getr (j := 14) (nn := 71) F s62 rfl rfl uX9 (by decide) q835 dX9_status_10 ?_
    refine g_iload_n F 1 dX9_status_13 rfl rfl ?_
    refine g_ialdX (v := 0) F s71 (vp_in_iff.mpr (by simp only [g_lt, g_le, g_eq, g_l0, g_l1, g_l2, g_l3, g_l4, g_l5, g_lm1, g_l400, g_l40, g_l15] at c4 c5; omega)) (by decide) rfl dX9_status_14 ?_
    refine g_goto (tgt := 19) F dX9_status_15 (by decide) ?_
    exact g_iret F e dX9_status_19 (congrArg (fun x => some (Value.int x)) (if_pos (by simp only [g_lt, g_le, g_eq, g_l0, g_l1, g_l2, g_l3, g_l4, g_l5, g_lm1, g_l400, g_l40, g_l15] at c4 c5 ⊢; omega)).symm)
set_option maxRecDepth 100000 in
set_option maxHeartbeats 4000000 in
theorem kX9_undo (l : Launch) (E : gE) (hE : gDist sh E) (I : gM) (J : gN) : Ct l sh E yX9_undo cX9_undo 2 (some .int) (gR 0) [.ref (E.2.1 62)] (g9 I) (h9 J) (fun r _ _ => r = some (.int (-1))) := by
  refine Ct.of "LeapJoinModel" rfl hE (by decide) (Nat.le_of_ble_eq_true rfl) (fun z F e hl => ?_)
  subst hl
  refine g_aload_n F 0 dX9_undo_0 rfl rfl ?_
  refine g_geti (j := 29) (v := 0) F s62 rfl rfl uX9 (by decide) q850 rfl dX9_undo_1 ?_
  refine g_if_ne (tgt := 9) F dX9_undo_4 (by decide) (fun h => absurd (by decide) h) (fun _ => ?_)
  refine g_iconst (v := (-1)) F dX9_undo_7 (by decide) ?_
  exact g_iret F e dX9_undo_8 rfl
set_option maxRecDepth 100000 in
set_option maxHeartbeats 4000000 in
theorem kX9_log (l : Launch) (E : gE) (hE : gDist sh E) (I : gM) (J : gN) (a1 : Int32) (a2 : Int32) : Ct l sh E yX9_log cX9_log 3 (some .int) (gR 1) [.ref (E.2.1 62), .int a1, .int a2] (g9 I) (h9 J) (fun r _ _ => r = some (.int (-1000000))) := by
  refine Ct.of "LeapJoinModel" rfl hE (by decide) (Nat.le_of_ble_eq_true rfl) (fun z F e hl => ?_)
  subst hl
  refine g_iload_n F 1 dX9_log_0 rfl rfl ?_
  refine g_iconst (v := 0) F dX9_log_1 (by decide) ?_
  refine g_aload_n F 0 dX9_log_2 rfl rfl ?_
  refine g_getr (j := 13) (nn := 70) F s62 rfl rfl uX9 (by decide) q834 dX9_log_3 ?_
  refine g_sipush (v := 150) F dX9_log_6 (by decide) ?_
  refine g_iald (v := 0) F 150 s70 (by decide) (by decide) (by decide) rfl dX9_log_9 ?_
  refine g_iconst (v := 1) F dX9_log_10 (by decide) ?_
  refine g_isub (v := (-1)) F dX9_log_11 (by decide) ?_
  refine g_callS (As := [.int a1, .int 0, .int (-1)]) (rest := []) F (kX9_in_2 (zl z) E hE I J a1) mX9_in q923 rfl rfl rfl (Nat.le_of_ble_eq_true rfl) dX9_log_12 (fun r I2 J2 h => ?_)
  obtain ⟨rfl, rfl, rfl⟩ := h
  refine g_st (sn := [.int 0]) rfl ?_
  refine g_if_eq (tgt := 55) F dX9_log_15 (by decide) (fun _ => ?_) (fun h => absurd (by decide) h)
  refine g_ldc_w F dX9_log_55 q1143 ?_
  exact g_iret F e dX9_log_58 rfl
set_option maxRecDepth 100000 in
set_option maxHeartbeats 4000000 in
theorem kX9_would (l : Launch) (E : gE) (hE : gDist sh E) (I : gM) (J : gN) (a1 : Int32) (a2 : Int32) (a3 : Int32) (a4 : Int32) (a5 : Int32) : Ct l sh E yX9_would cX9_would 6 (some .int) (gR 3) [.ref (E.2.1 62), .int a1, .int a2, .int a3, .int a4, .int a5] (g9 I) (h9 J) (fun r _ _ => r = some (.int (-1))) := by
  refine Ct.of "LeapJoinModel" rfl hE (by decide) (Nat.le_of_ble_eq_true rfl) (fun z F e hl => ?_)
  subst hl
  refine g_aload_n F 0 dX9_would_0 rfl rfl ?_
  refine g_iload_n F 1 dX9_would_1 rfl rfl ?_
  refine g_iload_n F 2 dX9_would_2 rfl rfl ?_
  refine g_iload_n F 3 dX9_would_3 rfl rfl ?_
  refine g_iload F 4 dX9_would_4 rfl ?_
  refine g_callV (k := 62) (As := [.int a1, .int a2, .int a3, .int a4]) (rest := []) F (kX9_whyPut (zl z) E hE I J a1 a2 a3 a4) mX9_whyPut q1016 rfl s62 rfl rfl rfl (Nat.le_of_ble_eq_true rfl) dX9_would_6 (fun r I2 J2 h => ?_)
  obtain ⟨rfl, rfl, rfl⟩ := h
  refine g_st (sn := [.int 0]) rfl ?_
  refine g_iconst (v := (-1)) F dX9_would_9 (by decide) ?_
  refine g_icmp_ne (tgt := 23) F dX9_would_10 (by decide) (fun _ => ?_) (fun h => absurd h (by decide))
  refine g_iconst (v := (-1)) F dX9_would_23 (by decide) ?_
  exact g_iret F e dX9_would_24 rfl
set_option maxRecDepth 100000 in
set_option maxHeartbeats 4000000 in
theorem kX9_isScript (l : Launch) (E : gE) (hE : gDist sh E) (I : gM) (J : gN) (a1 : Int32) : Ct l sh E yX9_isScript cX9_isScript 2 (some .boolean) (gR 1) [.ref (E.2.1 62), .int a1] (g9 I) (h9 J) (fun r I1 J1 => r = some (.int 0) ∧ I1 = (g9 I) ∧ J1 = (h9 J)) := by
  refine Ct.of "LeapJoinModel" rfl hE (by decide) (Nat.le_of_ble_eq_true rfl) (fun z F e hl => ?_)
  subst hl
  refine g_iload_n F 1 dX9_isScript_0 rfl rfl ?_
  refine g_iconst (v := 0) F dX9_isScript_1 (by decide) ?_
  refine g_aload_n F 0 dX9_isScript_2 rfl rfl ?_
  refine g_geti (j := 12) (v := 0) F s62 rfl rfl uX9 (by decide) q833 rfl dX9_isScript_3 ?_
  refine g_iconst (v := 1) F dX9_isScript_6 (by decide) ?_
  refine g_isub (v := (-1)) F dX9_isScript_7 (by decide) ?_
  refine g_callS (As := [.int a1, .int 0, .int (-1)]) (rest := []) F (kX9_in_2 (zl z) E hE I J a1) mX9_in q923 rfl rfl rfl (Nat.le_of_ble_eq_true rfl) dX9_isScript_8 (fun r I2 J2 h => ?_)
  obtain ⟨rfl, rfl, rfl⟩ := h
  refine g_st (sn := [.int 0]) rfl ?_
  exact g_zret F rfl e dX9_isScript_11 ⟨rfl, rfl, rfl⟩
set_option maxRecDepth 100000 in
set_option maxHeartbeats 4000000 in
theorem kX9_step (l : Launch) (E : gE) (hE : gDist sh E) (I : gM) (J : gN) (a1 : Int32) (a2 : Int32) (a3 : Int32) : Ct l sh E yX9_step cX9_step 4 (some .int) (gR 2) [.ref (E.2.1 62), .int a1, .int a2, .int a3] (g9 I) (h9 J) (fun r _ _ => r = some (.int (-1000000))) := by
  refine Ct.of "LeapJoinModel" rfl hE (by decide) (Nat.le_of_ble_eq_true rfl) (fun z F e hl => ?_)
  subst hl
  refine g_aload_n F 0 dX9_step_0 rfl rfl ?_
  refine g_iload_n F 1 dX9_step_1 rfl rfl ?_
  refine g_callV (k := 62) (As := [.int a1]) (rest := []) F (kX9_isScript (zl z) E hE I J a1) mX9_isScript q1300 rfl s62 rfl rfl rfl (Nat.le_of_ble_eq_true rfl) dX9_step_2 (fun r I2 J2 h => ?_)
  obtain ⟨rfl, rfl, rfl⟩ := h
  refine g_st (sn := [.int 0]) rfl ?_
  refine g_if_eq (tgt := 51) F dX9_step_5 (by decide) (fun _ => ?_) (fun h => absurd (by decide) h)
  refine g_ldc_w F dX9_step_51 q1143 ?_
  exact g_iret F e dX9_step_54 rfl
set_option maxRecDepth 100000 in
set_option maxHeartbeats 4000000 in
theorem kX9_run (l : Launch) (E : gE) (hE : gDist sh E) (I : gM) (J : gN) (a1 : Int32) (a2 : Int32) : Ct l sh E yX9_run cX9_run 5 (some .int) (gR 2) [.ref (E.2.1 62), .int a1, .int a2] (g9 I) (h9 J) (fun r _ _ => r = some (.int (-1000000))) := by
  refine Ct.of "LeapJoinModel" rfl hE (by decide) (Nat.le_of_ble_eq_true rfl) (fun z F e hl => ?_)
  subst hl
  refine g_aload_n F 0 dX9_run_0 rfl rfl ?_
  refine g_iload_n F 1 dX9_run_1 rfl rfl ?_
  refine g_callV (k := 62) (As := [.int a1]) (rest := []) F (kX9_isScript (zl z) E hE I J a1) mX9_isScript q1300 rfl s62 rfl rfl rfl (Nat.le_of_ble_eq_true rfl) dX9_run_2 (fun r I2 J2 h => ?_)
  obtain ⟨rfl, rfl, rfl⟩ := h
  refine g_st (sn := [.int 0]) rfl ?_
  refine g_if_eq (tgt := 24) F dX9_run_5 (by decide) (fun _ => ?_) (fun h => absurd (by decide) h)
  refine g_ldc_w F dX9_run_24 q1143 ?_
  exact g_iret F e dX9_run_27 rfl
set_option maxRecDepth 100000 in
set_option maxHeartbeats 4000000 in
theorem kX9_perform (l : Launch) (E : gE) (hE : gDist sh E) (I : gM) (J : gN) (a1 : Int32) : Ct l sh E yX9_perform cX9_perform 2 (some .int) (gR 2) [.ref (E.2.1 62), .int a1] (g9 I) (h9 J) (fun r _ _ => r = some (.int (-1))) := by
  refine Ct.of "LeapJoinModel" rfl hE (by decide) (Nat.le_of_ble_eq_true rfl) (fun z F e hl => ?_)
  subst hl
  refine g_aload_n F 0 dX9_perform_0 rfl rfl ?_
  refine g_iload_n F 1 dX9_perform_1 rfl rfl ?_
  refine g_callV (k := 62) (As := [.int a1]) (rest := []) F (kX9_isScript (zl z) E hE I J a1) mX9_isScript q1300 rfl s62 rfl rfl rfl (Nat.le_of_ble_eq_true rfl) dX9_perform_2 (fun r I2 J2 h => ?_)
  obtain ⟨rfl, rfl, rfl⟩ := h
  refine g_st (sn := [.int 0]) rfl ?_
  refine g_if_eq (tgt := 24) F dX9_perform_5 (by decide) (fun _ => ?_) (fun h => absurd (by decide) h)
  refine g_iconst (v := (-1)) F dX9_perform_24 (by decide) ?_
  exact g_iret F e dX9_perform_25 rfl
set_option maxRecDepth 100000 in
set_option maxHeartbeats 4000000 in
theorem kX9_most (l : Launch) (E : gE) (hE : gDist sh E) (I : gM) (J : gN) (a1 : Int32) : Ct l sh E yX9_most cX9_most 2 (some .int) (gR 1) [.ref (E.2.1 62), .int a1] (g9 I) (h9 J) (fun r _ _ => r = some (.int (-1000000))) := by
  refine Ct.of "LeapJoinModel" rfl hE (by decide) (Nat.le_of_ble_eq_true rfl) (fun z F e hl => ?_)
  subst hl
  refine g_aload_n F 0 dX9_most_0 rfl rfl ?_
  refine g_callV (k := 62) (As := []) (rest := []) F (kX9_areTables (zl z) E hE I J) mX9_areTables q1028 rfl s62 rfl rfl rfl (Nat.le_of_ble_eq_true rfl) dX9_most_1 (fun r I2 J2 h => ?_)
  obtain ⟨rfl, rfl, rfl⟩ := h
  refine g_st (sn := [.int 0]) rfl ?_
  refine g_if_eq (tgt := 17) F dX9_most_4 (by decide) (fun _ => ?_) (fun h => absurd (by decide) h)
  refine g_ldc_w F dX9_most_17 q1143 ?_
  exact g_iret F e dX9_most_20 rfl
set_option maxRecDepth 100000 in
set_option maxHeartbeats 4000000 in
theorem kX9_image (l : Launch) (E : gE) (hE : gDist sh E) (I : gM) (J : gN) : Ct l sh E yX9_image cX9_image 2 (some .int) (gR 1) [.ref (E.2.1 62)] (g9 I) (h9 J) (fun r _ _ => r = some (.int (-1))) := by
  refine Ct.of "LeapJoinModel" rfl hE (by decide) (Nat.le_of_ble_eq_true rfl) (fun z F e hl => ?_)
  subst hl
  refine g_aload_n F 0 dX9_image_0 rfl rfl ?_
  refine g_callV (k := 62) (As := []) (rest := []) F (kX9_areTables (zl z) E hE I J) mX9_areTables q1028 rfl s62 rfl rfl rfl (Nat.le_of_ble_eq_true rfl) dX9_image_1 (fun r I2 J2 h => ?_)
  obtain ⟨rfl, rfl, rfl⟩ := h
  refine g_st (sn := [.int 0]) rfl ?_
  refine g_if_ne (tgt := 9) F dX9_image_4 (by decide) (fun h => absurd (by decide) h) (fun _ => ?_)
  refine g_iconst (v := (-1)) F dX9_image_7 (by decide) ?_
  exact g_iret F e dX9_image_8 rfl
set_option maxRecDepth 100000 in
set_option maxHeartbeats 4000000 in
theorem kX9_back (l : Launch) (E : gE) (hE : gDist sh E) (I : gM) (J : gN) : Ct l sh E yX9_back cX9_back 2 (some .int) (gR 0) [.ref (E.2.1 62)] (g9 I) (h9 J) (fun r _ _ => r = some (.int (-1))) := by
  refine Ct.of "LeapJoinModel" rfl hE (by decide) (Nat.le_of_ble_eq_true rfl) (fun z F e hl => ?_)
  subst hl
  refine g_aload_n F 0 dX9_back_0 rfl rfl ?_
  refine g_geti (j := 42) (v := 0) F s62 rfl rfl uX9 (by decide) q863 rfl dX9_back_1 ?_
  refine g_if_ne (tgt := 9) F dX9_back_4 (by decide) (fun h => absurd (by decide) h) (fun _ => ?_)
  refine g_iconst (v := (-1)) F dX9_back_7 (by decide) ?_
  exact g_iret F e dX9_back_8 rfl
set_option maxRecDepth 100000 in
set_option maxHeartbeats 4000000 in
theorem kX9_count (l : Launch) (E : gE) (hE : gDist sh E) (I : gM) (J : gN) (a1 : Int32) : Ct l sh E yX9_count cX9_count 2 (some .int) (gR 0) [.ref (E.2.1 62), .int a1] (g9 I) (h9 J) (fun r _ _ => r = some (.int (if 0 ≤ a1 ∧ a1 < 5 then 0 else (-1000000)))) := by
  refine Ct.of "LeapJoinModel" rfl hE (by decide) (Nat.le_of_ble_eq_true rfl) (fun z F e hl => ?_)
  subst hl
  refine g_iload_n F 1 dX9_count_0 rfl rfl ?_
  by_cases c1 : a1 = 0
  · refine g_tableIn (tgt := 36) F dX9_count_1 (by rw [c1]; decide) (by rw [c1]; decide) (by rw [c1]; rfl) (by decide) ?_
    refine g_aload_n F 0 dX9_count_36 rfl rfl ?_
    refine g_geti (j := 17) (v := 0) F s62 rfl rfl uX9 (by decide) q838 rfl dX9_count_37 ?_
    exact g_iret F e dX9_count_40 (congrArg (fun x => some (Value.int x)) (if_pos (by simp only [g_lt, g_le, g_eq, g_l0, g_l1, g_l2, g_l3, g_l4, g_l5, g_lm1, g_l400, g_l40, g_l15] at c1 ⊢; omega)).symm)
  by_cases c2 : a1 = 1
  · refine g_tableIn (tgt := 41) F dX9_count_1 (by rw [c2]; decide) (by rw [c2]; decide) (by rw [c2]; rfl) (by decide) ?_
    refine g_aload_n F 0 dX9_count_41 rfl rfl ?_
    refine g_geti (j := 12) (v := 0) F s62 rfl rfl uX9 (by decide) q833 rfl dX9_count_42 ?_
    exact g_iret F e dX9_count_45 (congrArg (fun x => some (Value.int x)) (if_pos (by simp only [g_lt, g_le, g_eq, g_l0, g_l1, g_l2, g_l3, g_l4, g_l5, g_lm1, g_l400, g_l40, g_l15] at c1 c2 ⊢; omega)).symm)
  by_cases c3 : a1 = 2
  · refine g_tableIn (tgt := 46) F dX9_count_1 (by rw [c3]; decide) (by rw [c3]; decide) (by rw [c3]; rfl) (by decide) ?_
    refine g_aload_n F 0 dX9_count_46 rfl rfl ?_
    refine g_geti (j := 2) (v := 0) F s62 rfl rfl uX9 (by decide) q823 rfl dX9_count_47 ?_
    exact g_iret F e dX9_count_50 (congrArg (fun x => some (Value.int x)) (if_pos (by simp only [g_lt, g_le, g_eq, g_l0, g_l1, g_l2, g_l3, g_l4, g_l5, g_lm1, g_l400, g_l40, g_l15] at c1 c2 c3 ⊢; omega)).symm)
  by_cases c4 : a1 = 3
  · refine g_tableIn (tgt := 51) F dX9_count_1 (by rw [c4]; decide) (by rw [c4]; decide) (by rw [c4]; rfl) (by decide) ?_
    refine g_aload_n F 0 dX9_count_51 rfl rfl ?_
    refine g_getr (j := 13) (nn := 70) F s62 rfl rfl uX9 (by decide) q834 dX9_count_52 ?_
    refine g_sipush (v := 150) F dX9_count_55 (by decide) ?_
    refine g_iald (v := 0) F 150 s70 (by decide) (by decide) (by decide) rfl dX9_count_58 ?_
    exact g_iret F e dX9_count_59 (congrArg (fun x => some (Value.int x)) (if_pos (by simp only [g_lt, g_le, g_eq, g_l0, g_l1, g_l2, g_l3, g_l4, g_l5, g_lm1, g_l400, g_l40, g_l15] at c1 c2 c3 c4 ⊢; omega)).symm)
  by_cases c5 : a1 = 4
  · refine g_tableIn (tgt := 60) F dX9_count_1 (by rw [c5]; decide) (by rw [c5]; decide) (by rw [c5]; rfl) (by decide) ?_
    refine g_aload_n F 0 dX9_count_60 rfl rfl ?_
    refine g_geti (j := 29) (v := 0) F s62 rfl rfl uX9 (by decide) q850 rfl dX9_count_61 ?_
    exact g_iret F e dX9_count_64 (congrArg (fun x => some (Value.int x)) (if_pos (by simp only [g_lt, g_le, g_eq, g_l0, g_l1, g_l2, g_l3, g_l4, g_l5, g_lm1, g_l400, g_l40, g_l15] at c1 c2 c3 c4 c5 ⊢; omega)).symm)
  refine g_tableOut (tgt := 65) F dX9_count_1 (by simp only [g_lt, g_le, g_eq, g_l0, g_l1, g_l2, g_l3, g_l4, g_l5, g_lm1, g_l400, g_l40, g_l15] at c1 c2 c3 c4 c5 ⊢; omega) (by decide) ?_
  refine g_ldc_w F dX9_count_65 q1143 ?_
  exact g_iret F e dX9_count_68 (congrArg (fun x => some (Value.int x)) (if_neg (by simp only [g_lt, g_le, g_eq, g_l0, g_l1, g_l2, g_l3, g_l4, g_l5, g_lm1, g_l400, g_l40, g_l15] at c1 c2 c3 c4 c5 ⊢; omega)).symm)
