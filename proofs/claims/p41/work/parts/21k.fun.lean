theorem DX9_projected_0 : dAre cX9_projected [(0, .aload_n 0, 1), (1, .invokevirtual 277, 3), (4, .ifCond .eq 24, 3), (7, .iload_n 1, 1), (8, .iconst 1, 1), (9, .bipush 15, 2), (11, .invokestatic 104, 3), (14, .ifCond .eq 14, 3), (17, .iload_n 1, 1), (18, .aload_n 0, 1), (19, .invokevirtual 220, 3), (22, .iconst (-1), 1), (23, .ixor, 1), (24, .iand, 1), (25, .ifCond .eq 5, 3), (28, .iconst (-1), 1)] := dAre0 (by decide +kernel)
theorem dX9_projected_0 : decode cX9_projected 0 = .ok (.aload_n 0, 1) := DX9_projected_0.1
theorem dX9_projected_1 : decode cX9_projected 1 = .ok (.invokevirtual 277, 3) := DX9_projected_0.2.1
theorem dX9_projected_4 : decode cX9_projected 4 = .ok (.ifCond .eq 24, 3) := DX9_projected_0.2.2.1
theorem dX9_projected_7 : decode cX9_projected 7 = .ok (.iload_n 1, 1) := DX9_projected_0.2.2.2.1
theorem dX9_projected_8 : decode cX9_projected 8 = .ok (.iconst 1, 1) := DX9_projected_0.2.2.2.2.1
theorem dX9_projected_9 : decode cX9_projected 9 = .ok (.bipush 15, 2) := DX9_projected_0.2.2.2.2.2.1
theorem dX9_projected_11 : decode cX9_projected 11 = .ok (.invokestatic 104, 3) := DX9_projected_0.2.2.2.2.2.2.1
theorem dX9_projected_14 : decode cX9_projected 14 = .ok (.ifCond .eq 14, 3) := DX9_projected_0.2.2.2.2.2.2.2.1
theorem dX9_projected_17 : decode cX9_projected 17 = .ok (.iload_n 1, 1) := DX9_projected_0.2.2.2.2.2.2.2.2.1
theorem dX9_projected_18 : decode cX9_projected 18 = .ok (.aload_n 0, 1) := DX9_projected_0.2.2.2.2.2.2.2.2.2.1
theorem dX9_projected_19 : decode cX9_projected 19 = .ok (.invokevirtual 220, 3) := DX9_projected_0.2.2.2.2.2.2.2.2.2.2.1
theorem dX9_projected_22 : decode cX9_projected 22 = .ok (.iconst (-1), 1) := DX9_projected_0.2.2.2.2.2.2.2.2.2.2.2.1
theorem dX9_projected_23 : decode cX9_projected 23 = .ok (.ixor, 1) := DX9_projected_0.2.2.2.2.2.2.2.2.2.2.2.2.1
theorem dX9_projected_24 : decode cX9_projected 24 = .ok (.iand, 1) := DX9_projected_0.2.2.2.2.2.2.2.2.2.2.2.2.2.1
theorem dX9_projected_25 : decode cX9_projected 25 = .ok (.ifCond .eq 5, 3) := DX9_projected_0.2.2.2.2.2.2.2.2.2.2.2.2.2.2.1
theorem dX9_projected_28 : decode cX9_projected 28 = .ok (.iconst (-1), 1) := DX9_projected_0.2.2.2.2.2.2.2.2.2.2.2.2.2.2.2.1
theorem DX9_projected_29 : dAre cX9_projected [(29, .ireturn, 1), (30, .aload_n 0, 1), (31, .invokevirtual 366, 3), (34, .iconst 0, 1), (35, .istore_n 2, 1), (36, .iload_n 2, 1), (37, .sipush 20736, 3), (40, .if_icmp .ge 16, 3), (43, .aload_n 0, 1), (44, .getfield 77, 3), (47, .iload_n 2, 1), (48, .iconst 0, 1), (49, .bastore, 1), (50, .iinc 2 1, 3), (53, .goto (-17), 3), (56, .iconst 0, 1)] := dAre0 (by decide +kernel)
theorem dX9_projected_29 : decode cX9_projected 29 = .ok (.ireturn, 1) := DX9_projected_29.1
theorem dX9_projected_30 : decode cX9_projected 30 = .ok (.aload_n 0, 1) := DX9_projected_29.2.1
theorem dX9_projected_31 : decode cX9_projected 31 = .ok (.invokevirtual 366, 3) := DX9_projected_29.2.2.1
theorem dX9_projected_34 : decode cX9_projected 34 = .ok (.iconst 0, 1) := DX9_projected_29.2.2.2.1
theorem dX9_projected_35 : decode cX9_projected 35 = .ok (.istore_n 2, 1) := DX9_projected_29.2.2.2.2.1
theorem dX9_projected_36 : decode cX9_projected 36 = .ok (.iload_n 2, 1) := DX9_projected_29.2.2.2.2.2.1
theorem dX9_projected_37 : decode cX9_projected 37 = .ok (.sipush 20736, 3) := DX9_projected_29.2.2.2.2.2.2.1
theorem dX9_projected_40 : decode cX9_projected 40 = .ok (.if_icmp .ge 16, 3) := DX9_projected_29.2.2.2.2.2.2.2.1
theorem dX9_projected_43 : decode cX9_projected 43 = .ok (.aload_n 0, 1) := DX9_projected_29.2.2.2.2.2.2.2.2.1
theorem dX9_projected_44 : decode cX9_projected 44 = .ok (.getfield 77, 3) := DX9_projected_29.2.2.2.2.2.2.2.2.2.1
theorem dX9_projected_47 : decode cX9_projected 47 = .ok (.iload_n 2, 1) := DX9_projected_29.2.2.2.2.2.2.2.2.2.2.1
theorem dX9_projected_48 : decode cX9_projected 48 = .ok (.iconst 0, 1) := DX9_projected_29.2.2.2.2.2.2.2.2.2.2.2.1
theorem dX9_projected_49 : decode cX9_projected 49 = .ok (.bastore, 1) := DX9_projected_29.2.2.2.2.2.2.2.2.2.2.2.2.1
theorem dX9_projected_50 : decode cX9_projected 50 = .ok (.iinc 2 1, 3) := DX9_projected_29.2.2.2.2.2.2.2.2.2.2.2.2.2.1
theorem dX9_projected_53 : decode cX9_projected 53 = .ok (.goto (-17), 3) := DX9_projected_29.2.2.2.2.2.2.2.2.2.2.2.2.2.2.1
theorem dX9_projected_56 : decode cX9_projected 56 = .ok (.iconst 0, 1) := DX9_projected_29.2.2.2.2.2.2.2.2.2.2.2.2.2.2.2.1
theorem DX9_projected_57 : dAre cX9_projected [(57, .istore_n 2, 1), (58, .iconst 0, 1), (59, .istore_n 3, 1), (60, .iload_n 3, 1), (61, .aload_n 0, 1), (62, .getfield 247, 3), (65, .if_icmp .ge 93, 3), (68, .iconst 0, 1), (69, .istore 4, 2), (71, .iconst 0, 1), (72, .istore 5, 2), (74, .iload 5, 2), (76, .iconst 4, 1), (77, .if_icmp .ge 49, 3), (80, .iload_n 1, 1), (81, .iload 5, 2)] := dAre0 (by decide +kernel)
theorem dX9_projected_57 : decode cX9_projected 57 = .ok (.istore_n 2, 1) := DX9_projected_57.1
theorem dX9_projected_58 : decode cX9_projected 58 = .ok (.iconst 0, 1) := DX9_projected_57.2.1
theorem dX9_projected_59 : decode cX9_projected 59 = .ok (.istore_n 3, 1) := DX9_projected_57.2.2.1
theorem dX9_projected_60 : decode cX9_projected 60 = .ok (.iload_n 3, 1) := DX9_projected_57.2.2.2.1
theorem dX9_projected_61 : decode cX9_projected 61 = .ok (.aload_n 0, 1) := DX9_projected_57.2.2.2.2.1
theorem dX9_projected_62 : decode cX9_projected 62 = .ok (.getfield 247, 3) := DX9_projected_57.2.2.2.2.2.1
theorem dX9_projected_65 : decode cX9_projected 65 = .ok (.if_icmp .ge 93, 3) := DX9_projected_57.2.2.2.2.2.2.1
theorem dX9_projected_68 : decode cX9_projected 68 = .ok (.iconst 0, 1) := DX9_projected_57.2.2.2.2.2.2.2.1
theorem dX9_projected_69 : decode cX9_projected 69 = .ok (.istore 4, 2) := DX9_projected_57.2.2.2.2.2.2.2.2.1
theorem dX9_projected_71 : decode cX9_projected 71 = .ok (.iconst 0, 1) := DX9_projected_57.2.2.2.2.2.2.2.2.2.1
theorem dX9_projected_72 : decode cX9_projected 72 = .ok (.istore 5, 2) := DX9_projected_57.2.2.2.2.2.2.2.2.2.2.1
theorem dX9_projected_74 : decode cX9_projected 74 = .ok (.iload 5, 2) := DX9_projected_57.2.2.2.2.2.2.2.2.2.2.2.1
theorem dX9_projected_76 : decode cX9_projected 76 = .ok (.iconst 4, 1) := DX9_projected_57.2.2.2.2.2.2.2.2.2.2.2.2.1
theorem dX9_projected_77 : decode cX9_projected 77 = .ok (.if_icmp .ge 49, 3) := DX9_projected_57.2.2.2.2.2.2.2.2.2.2.2.2.2.1
theorem dX9_projected_80 : decode cX9_projected 80 = .ok (.iload_n 1, 1) := DX9_projected_57.2.2.2.2.2.2.2.2.2.2.2.2.2.2.1
theorem dX9_projected_81 : decode cX9_projected 81 = .ok (.iload 5, 2) := DX9_projected_57.2.2.2.2.2.2.2.2.2.2.2.2.2.2.2.1
theorem DX9_projected_83 : dAre cX9_projected [(83, .invokestatic 131, 3), (86, .ifCond .eq 30, 3), (89, .bipush 12, 2), (91, .iload 4, 2), (93, .imul, 1), (94, .aload_n 0, 1), (95, .getfield 71, 3), (98, .bipush 100, 2), (100, .iload 5, 2), (102, .imul, 1), (103, .aload_n 0, 1), (104, .iload_n 3, 1), (105, .iload 5, 2), (107, .invokevirtual 345, 3), (110, .iadd, 1), (111, .iaload, 1)] := dAre0 (by decide +kernel)
theorem dX9_projected_83 : decode cX9_projected 83 = .ok (.invokestatic 131, 3) := DX9_projected_83.1
theorem dX9_projected_86 : decode cX9_projected 86 = .ok (.ifCond .eq 30, 3) := DX9_projected_83.2.1
theorem dX9_projected_89 : decode cX9_projected 89 = .ok (.bipush 12, 2) := DX9_projected_83.2.2.1
theorem dX9_projected_91 : decode cX9_projected 91 = .ok (.iload 4, 2) := DX9_projected_83.2.2.2.1
theorem dX9_projected_93 : decode cX9_projected 93 = .ok (.imul, 1) := DX9_projected_83.2.2.2.2.1
theorem dX9_projected_94 : decode cX9_projected 94 = .ok (.aload_n 0, 1) := DX9_projected_83.2.2.2.2.2.1
theorem dX9_projected_95 : decode cX9_projected 95 = .ok (.getfield 71, 3) := DX9_projected_83.2.2.2.2.2.2.1
theorem dX9_projected_98 : decode cX9_projected 98 = .ok (.bipush 100, 2) := DX9_projected_83.2.2.2.2.2.2.2.1
theorem dX9_projected_100 : decode cX9_projected 100 = .ok (.iload 5, 2) := DX9_projected_83.2.2.2.2.2.2.2.2.1
theorem dX9_projected_102 : decode cX9_projected 102 = .ok (.imul, 1) := DX9_projected_83.2.2.2.2.2.2.2.2.2.1
theorem dX9_projected_103 : decode cX9_projected 103 = .ok (.aload_n 0, 1) := DX9_projected_83.2.2.2.2.2.2.2.2.2.2.1
theorem dX9_projected_104 : decode cX9_projected 104 = .ok (.iload_n 3, 1) := DX9_projected_83.2.2.2.2.2.2.2.2.2.2.2.1
theorem dX9_projected_105 : decode cX9_projected 105 = .ok (.iload 5, 2) := DX9_projected_83.2.2.2.2.2.2.2.2.2.2.2.2.1
theorem dX9_projected_107 : decode cX9_projected 107 = .ok (.invokevirtual 345, 3) := DX9_projected_83.2.2.2.2.2.2.2.2.2.2.2.2.2.1
theorem dX9_projected_110 : decode cX9_projected 110 = .ok (.iadd, 1) := DX9_projected_83.2.2.2.2.2.2.2.2.2.2.2.2.2.2.1
theorem dX9_projected_111 : decode cX9_projected 111 = .ok (.iaload, 1) := DX9_projected_83.2.2.2.2.2.2.2.2.2.2.2.2.2.2.2.1
theorem DX9_projected_112 : dAre cX9_projected [(112, .iadd, 1), (113, .goto 5, 3), (116, .iload 4, 2), (118, .istore 4, 2), (120, .iinc 5 1, 3), (123, .goto (-49), 3), (126, .iload_n 2, 1), (127, .aload_n 0, 1), (128, .getfield 77, 3), (131, .iload 4, 2), (133, .baload, 1), (134, .ifCond .eq 7, 3), (137, .iconst 0, 1), (138, .goto 4, 3), (141, .iconst 1, 1), (142, .iadd, 1)] := dAre0 (by decide +kernel)
theorem dX9_projected_112 : decode cX9_projected 112 = .ok (.iadd, 1) := DX9_projected_112.1
theorem dX9_projected_113 : decode cX9_projected 113 = .ok (.goto 5, 3) := DX9_projected_112.2.1
theorem dX9_projected_116 : decode cX9_projected 116 = .ok (.iload 4, 2) := DX9_projected_112.2.2.1
theorem dX9_projected_118 : decode cX9_projected 118 = .ok (.istore 4, 2) := DX9_projected_112.2.2.2.1
theorem dX9_projected_120 : decode cX9_projected 120 = .ok (.iinc 5 1, 3) := DX9_projected_112.2.2.2.2.1
theorem dX9_projected_123 : decode cX9_projected 123 = .ok (.goto (-49), 3) := DX9_projected_112.2.2.2.2.2.1
theorem dX9_projected_126 : decode cX9_projected 126 = .ok (.iload_n 2, 1) := DX9_projected_112.2.2.2.2.2.2.1
theorem dX9_projected_127 : decode cX9_projected 127 = .ok (.aload_n 0, 1) := DX9_projected_112.2.2.2.2.2.2.2.1
theorem dX9_projected_128 : decode cX9_projected 128 = .ok (.getfield 77, 3) := DX9_projected_112.2.2.2.2.2.2.2.2.1
theorem dX9_projected_131 : decode cX9_projected 131 = .ok (.iload 4, 2) := DX9_projected_112.2.2.2.2.2.2.2.2.2.1
theorem dX9_projected_133 : decode cX9_projected 133 = .ok (.baload, 1) := DX9_projected_112.2.2.2.2.2.2.2.2.2.2.1
theorem dX9_projected_134 : decode cX9_projected 134 = .ok (.ifCond .eq 7, 3) := DX9_projected_112.2.2.2.2.2.2.2.2.2.2.2.1
theorem dX9_projected_137 : decode cX9_projected 137 = .ok (.iconst 0, 1) := DX9_projected_112.2.2.2.2.2.2.2.2.2.2.2.2.1
theorem dX9_projected_138 : decode cX9_projected 138 = .ok (.goto 4, 3) := DX9_projected_112.2.2.2.2.2.2.2.2.2.2.2.2.2.1
theorem dX9_projected_141 : decode cX9_projected 141 = .ok (.iconst 1, 1) := DX9_projected_112.2.2.2.2.2.2.2.2.2.2.2.2.2.2.1
theorem dX9_projected_142 : decode cX9_projected 142 = .ok (.iadd, 1) := DX9_projected_112.2.2.2.2.2.2.2.2.2.2.2.2.2.2.2.1
theorem DX9_projected_143 : dAre cX9_projected [(143, .istore_n 2, 1), (144, .aload_n 0, 1), (145, .getfield 77, 3), (148, .iload 4, 2), (150, .iconst 1, 1), (151, .bastore, 1), (152, .iinc 3 1, 3), (155, .goto (-95), 3), (158, .iload_n 2, 1), (159, .ireturn, 1)] := dAre0 (by decide +kernel)
theorem dX9_projected_143 : decode cX9_projected 143 = .ok (.istore_n 2, 1) := DX9_projected_143.1
theorem dX9_projected_144 : decode cX9_projected 144 = .ok (.aload_n 0, 1) := DX9_projected_143.2.1
theorem dX9_projected_145 : decode cX9_projected 145 = .ok (.getfield 77, 3) := DX9_projected_143.2.2.1
theorem dX9_projected_148 : decode cX9_projected 148 = .ok (.iload 4, 2) := DX9_projected_143.2.2.2.1
theorem dX9_projected_150 : decode cX9_projected 150 = .ok (.iconst 1, 1) := DX9_projected_143.2.2.2.2.1
theorem dX9_projected_151 : decode cX9_projected 151 = .ok (.bastore, 1) := DX9_projected_143.2.2.2.2.2.1
theorem dX9_projected_152 : decode cX9_projected 152 = .ok (.iinc 3 1, 3) := DX9_projected_143.2.2.2.2.2.2.1
theorem dX9_projected_155 : decode cX9_projected 155 = .ok (.goto (-95), 3) := DX9_projected_143.2.2.2.2.2.2.2.1
theorem dX9_projected_158 : decode cX9_projected 158 = .ok (.iload_n 2, 1) := DX9_projected_143.2.2.2.2.2.2.2.2.1
theorem dX9_projected_159 : decode cX9_projected 159 = .ok (.ireturn, 1) := DX9_projected_143.2.2.2.2.2.2.2.2.2.1
theorem mX9_projected : gMv yX9_projected cX9_projected 6 (some .int) RX9 1 := ⟨q1207, q1208, q10, q1209, rfl, by decide, by decide, by decide +kernel⟩
noncomputable def lX9_projected_36 : (Int32 × gM) → Option (gM) :=
  itO fun s =>
    if (20736 : Int32) ≤ s.1 then
      some (.inr s.2)
    else
      (wI s.2 85 20736 s.1 (vp_nar .boolean 0)).bind fun I5 =>
      some (.inl (s.1 + 1, I5))
set_option maxRecDepth 100000 in
set_option maxHeartbeats 4000000 in
theorem wlX9_projected_36 {z : gZ} {E : gE} {bk : Nat} (F : Fx z sh E "LeapJoinModel" cX9_projected (gR 14) 6) (B : bZ z bk) (hE : gDist sh E) (v1 : Int32) (J : gN) {r : gM} : ∀ s : Int32 × gM, lX9_projected_36 s = some r → (G z 56 [(0, .ref (E.2.1 62)), (1, .int v1)] [] r J) → G z 36 [(0, .ref (E.2.1 62)), (1, .int v1), (2, .int s.1)] [] s.2 J := by
  intro s h X0
  unfold lX9_projected_36 at h
  revert s
  refine itO_ind (P := fun s : Int32 × gM => G z 36 [(0, .ref (E.2.1 62)), (1, .int v1), (2, .int s.1)] [] s.2 J) (fun s y h hl hr => ?_)
  have K36_0 : ∀ x : gM, y = .inr x → (G z 56 [(0, .ref (E.2.1 62)), (1, .int v1)] [] x J) := fun x q => by have q2 := hr _ q; subst q2; exact X0
  refine g_iload_n F 2 dX9_projected_36 rfl rfl ?_
  refine g_sipush (v := 20736) F dX9_projected_37 (by decide) ?_
  refine u_icmp_ge (tgt := 56) F dX9_projected_40 (by decide) h (fun h => ?_) (fun h => ?_)
  · obtain rfl := Option.some.inj h
    refine g_sub (Ln := [(0, .ref (E.2.1 62)), (1, .int v1)]) [0, 1] rfl ?_
    exact K36_0 s.2 rfl
  · refine g_aload_n F 0 dX9_projected_43 rfl rfl ?_
    refine g_getr (j := 37) (nn := 85) F s62 rfl rfl uX9 (by decide) q858 dX9_projected_44 ?_
    refine g_iload_n F 2 dX9_projected_47 rfl rfl ?_
    refine g_iconst (v := 0) F dX9_projected_48 (by decide) ?_
    refine u_wZ F s85 (by decide) dX9_projected_49 h (fun I5 h => ?_)
    refine g_iinc (v := s.1 + 1) (Ln := [(2, .int (s.1 + 1)), (0, .ref (E.2.1 62)), (1, .int v1)]) F 2 dX9_projected_50 rfl (add_c (by decide)) (by decide) rfl ?_
    refine g_goto (tgt := 36) F dX9_projected_53 (by decide) ?_
    obtain rfl := Option.some.inj h
    refine g_sub (Ln := [(0, .ref (E.2.1 62)), (1, .int v1), (2, .int (s.1 + 1))]) [1, 2, 0] rfl ?_
    exact hl (s.1 + 1, I5) rfl
noncomputable def bX9_projected_118 (v5 : Int32) (t0 : Int32) : Option ((Int32 × Int32) ⊕ (Int32)) :=
  some (.inl (t0, v5 + 1))
set_option maxRecDepth 100000 in
set_option maxHeartbeats 4000000 in
theorem wbX9_projected_118 {z : gZ} {E : gE} {bk : Nat} (F : Fx z sh E "LeapJoinModel" cX9_projected (gR 14) 6) (B : bZ z bk) (hE : gDist sh E) (v1 : Int32) (v2 : Int32) (v3 : Int32) (v5 : Int32) (t0 : Int32) (I : gM) (J : gN) {y : (Int32 × Int32) ⊕ (Int32)} (h : bX9_projected_118 v5 t0 = some y) (hl : ∀ s' : Int32 × Int32, y = .inl s' → G z 74 [(0, .ref (E.2.1 62)), (1, .int v1), (2, .int v2), (3, .int v3), (4, .int (s'.1)), (5, .int (s'.2))] [] I J) (K74_0 : ∀ x : Int32, y = .inr x → G z 126 [(0, .ref (E.2.1 62)), (1, .int v1), (2, .int v2), (3, .int v3), (4, .int x)] [] I J) : G z 118 [(0, .ref (E.2.1 62)), (1, .int v1), (2, .int v2), (3, .int v3), (5, .int v5)] [.int t0] I J := by
  unfold bX9_projected_118 at h
  refine g_istore (Ln := [(4, .int t0), (0, .ref (E.2.1 62)), (1, .int v1), (2, .int v2), (3, .int v3), (5, .int v5)]) F dX9_projected_118 (by decide) rfl ?_
  refine g_iinc (v := v5 + 1) (Ln := [(5, .int (v5 + 1)), (4, .int t0), (0, .ref (E.2.1 62)), (1, .int v1), (2, .int v2), (3, .int v3)]) F 5 dX9_projected_120 rfl (add_c (by decide)) (by decide) rfl ?_
  refine g_goto (tgt := 74) F dX9_projected_123 (by decide) ?_
  obtain rfl := Option.some.inj h
  refine g_sub (Ln := [(0, .ref (E.2.1 62)), (1, .int v1), (2, .int v2), (3, .int v3), (4, .int t0), (5, .int (v5 + 1))]) [2, 3, 4, 5, 1, 0] rfl ?_
  exact hl (t0, v5 + 1) rfl
noncomputable def lX9_projected_74 (v1 : Int32) (v3 : Int32) (I : gM) : (Int32 × Int32) → Option (Int32) :=
  itO fun s =>
    if (4 : Int32) ≤ s.2 then
      some (.inr s.1)
    else
      (fX9_has v1 s.2).bind fun r7 =>
      if r7 = 0 then
        bX9_projected_118 s.2 s.1
      else
        (fX9_numberOf v3 s.2 I).bind fun r8 =>
        (rI 400 (I 83) (((100 : Int32) * s.2) + r8)).bind fun u9 =>
        bX9_projected_118 s.2 (((12 : Int32) * s.1) + u9)
set_option maxRecDepth 100000 in
set_option maxHeartbeats 4000000 in
theorem wlX9_projected_74 {z : gZ} {E : gE} {bk : Nat} (F : Fx z sh E "LeapJoinModel" cX9_projected (gR 14) 6) (B : bZ z bk) (hE : gDist sh E) (v1 : Int32) (v2 : Int32) (v3 : Int32) (I : gM) (J : gN) {r : Int32} : ∀ s : Int32 × Int32, lX9_projected_74 v1 v3 I s = some r → (G z 126 [(0, .ref (E.2.1 62)), (1, .int v1), (2, .int v2), (3, .int v3), (4, .int r)] [] I J) → G z 74 [(0, .ref (E.2.1 62)), (1, .int v1), (2, .int v2), (3, .int v3), (4, .int s.1), (5, .int s.2)] [] I J := by
  intro s h X0
  unfold lX9_projected_74 at h
  revert s
  refine itO_ind (P := fun s : Int32 × Int32 => G z 74 [(0, .ref (E.2.1 62)), (1, .int v1), (2, .int v2), (3, .int v3), (4, .int s.1), (5, .int s.2)] [] I J) (fun s y h hl hr => ?_)
  have K74_0 : ∀ x : Int32, y = .inr x → (G z 126 [(0, .ref (E.2.1 62)), (1, .int v1), (2, .int v2), (3, .int v3), (4, .int x)] [] I J) := fun x q => by have q2 := hr _ q; subst q2; exact X0
  refine g_iload F 5 dX9_projected_74 rfl ?_
  refine g_iconst (v := 4) F dX9_projected_76 (by decide) ?_
  refine u_icmp_ge (tgt := 126) F dX9_projected_77 (by decide) h (fun h => ?_) (fun h => ?_)
  · obtain rfl := Option.some.inj h
    refine g_sub (Ln := [(0, .ref (E.2.1 62)), (1, .int v1), (2, .int v2), (3, .int v3), (4, .int s.1)]) [0, 1, 2, 3, 4] rfl ?_
    exact K74_0 s.1 rfl
  · refine g_iload_n F 1 dX9_projected_80 rfl rfl ?_
    refine g_iload F 5 dX9_projected_81 rfl ?_
    refine u_callS (As := [.int v1, .int s.2]) (rest := []) (sn := fun r7 => [.int r7]) F B (fun _ => wX9_has (zl z) E hE bk v1 s.2 I J) mX9_has q954 rfl rfl rfl (Nat.le_of_ble_eq_true rfl) dX9_projected_83 (fun _ => rfl) h (fun r7 h => ?_)
    refine u_if_eq (tgt := 116) F dX9_projected_86 (by decide) h (fun h => ?_) (fun h => ?_)
    · refine g_iload F 4 dX9_projected_116 rfl ?_
      refine g_sub (Ln := [(0, .ref (E.2.1 62)), (1, .int v1), (2, .int v2), (3, .int v3), (5, .int s.2)]) [0, 1, 2, 3, 5] rfl ?_
      exact wbX9_projected_118 F B hE v1 v2 v3 s.2 s.1 I J h hl K74_0
    · refine g_bipush (v := 12) F dX9_projected_89 (by decide) ?_
      refine g_iload F 4 dX9_projected_91 rfl ?_
      refine g_imul (v := (12 : Int32) * s.1) F dX9_projected_93 rfl ?_
      refine g_aload_n F 0 dX9_projected_94 rfl rfl ?_
      refine g_getr (j := 35) (nn := 83) F s62 rfl rfl uX9 (by decide) q856 dX9_projected_95 ?_
      refine g_bipush (v := 100) F dX9_projected_98 (by decide) ?_
      refine g_iload F 5 dX9_projected_100 rfl ?_
      refine g_imul (v := (100 : Int32) * s.2) F dX9_projected_102 rfl ?_
      refine g_aload_n F 0 dX9_projected_103 rfl rfl ?_
      refine g_iload_n F 3 dX9_projected_104 rfl rfl ?_
      refine g_iload F 5 dX9_projected_105 rfl ?_
      refine u_callV (k := 62) (As := [.int v3, .int s.2]) (rest := [.int ((100 : Int32) * s.2), .ref (E.2.1 83), .int ((12 : Int32) * s.1)]) (sn := fun r8 => [.int r8, .int ((100 : Int32) * s.2), .ref (E.2.1 83), .int ((12 : Int32) * s.1)]) F B (fun _ => wX9_numberOf (zl z) E hE bk v3 s.2 I J) mX9_numberOf q1170 rfl s62 rfl rfl rfl (Nat.le_of_ble_eq_true rfl) dX9_projected_107 (fun _ => rfl) h (fun r8 h => ?_)
      refine g_iadd (v := ((100 : Int32) * s.2) + r8) F dX9_projected_110 rfl ?_
      refine u_rI F s83 (by decide) dX9_projected_111 h (fun u9 h => ?_)
      refine g_iadd (v := ((12 : Int32) * s.1) + u9) F dX9_projected_112 rfl ?_
      refine g_goto (tgt := 118) F dX9_projected_113 (by decide) ?_
      refine g_sub (Ln := [(0, .ref (E.2.1 62)), (1, .int v1), (2, .int v2), (3, .int v3), (5, .int s.2)]) [0, 1, 2, 3, 5] rfl ?_
      exact wbX9_projected_118 F B hE v1 v2 v3 s.2 (((12 : Int32) * s.1) + u9) I J h hl K74_0
noncomputable def bX9_projected_142 (v3 : Int32) (v4 : Int32) (t0 : Int32) (t1 : Int32) (I : gM) : Option ((Int32 × Int32 × gM) ⊕ (Int32 × gM)) :=
  (wI I 85 20736 v4 (vp_nar .boolean 1)).bind fun I12 =>
  some (.inl (t1 + t0, v3 + 1, I12))
set_option maxRecDepth 100000 in
set_option maxHeartbeats 4000000 in
theorem wbX9_projected_142 {z : gZ} {E : gE} {bk : Nat} (F : Fx z sh E "LeapJoinModel" cX9_projected (gR 14) 6) (B : bZ z bk) (hE : gDist sh E) (v1 : Int32) (v3 : Int32) (v4 : Int32) (t0 : Int32) (t1 : Int32) (I : gM) (J : gN) {y : (Int32 × Int32 × gM) ⊕ (Int32 × gM)} (h : bX9_projected_142 v3 v4 t0 t1 I = some y) (hl : ∀ s' : Int32 × Int32 × gM, y = .inl s' → G z 60 [(0, .ref (E.2.1 62)), (1, .int v1), (2, .int (s'.1)), (3, .int (s'.2.1))] [] s'.2.2 J) (K60_0 : ∀ x : Int32 × gM, y = .inr x → G z 158 [(2, .int x.1)] [] x.2 J) : G z 142 [(0, .ref (E.2.1 62)), (1, .int v1), (3, .int v3), (4, .int v4)] [.int t0, .int t1] I J := by
  unfold bX9_projected_142 at h
  refine g_iadd (v := t1 + t0) F dX9_projected_142 rfl ?_
  refine g_istore_n (Ln := [(2, .int (t1 + t0)), (0, .ref (E.2.1 62)), (1, .int v1), (3, .int v3), (4, .int v4)]) F dX9_projected_143 rfl (by decide) rfl ?_
  refine g_aload_n F 1 dX9_projected_144 rfl rfl ?_
  refine g_getr (j := 37) (nn := 85) F s62 rfl rfl uX9 (by decide) q858 dX9_projected_145 ?_
  refine g_iload F 4 dX9_projected_148 rfl ?_
  refine g_iconst (v := 1) F dX9_projected_150 (by decide) ?_
  refine u_wZ F s85 (by decide) dX9_projected_151 h (fun I12 h => ?_)
  refine g_iinc (v := v3 + 1) (Ln := [(3, .int (v3 + 1)), (2, .int (t1 + t0)), (0, .ref (E.2.1 62)), (1, .int v1), (4, .int v4)]) F 3 dX9_projected_152 rfl (add_c (by decide)) (by decide) rfl ?_
  refine g_goto (tgt := 60) F dX9_projected_155 (by decide) ?_
  obtain rfl := Option.some.inj h
  refine g_sub (Ln := [(0, .ref (E.2.1 62)), (1, .int v1), (2, .int (t1 + t0)), (3, .int (v3 + 1))]) [2, 3, 1, 0] rfl ?_
  exact hl (t1 + t0, v3 + 1, I12) rfl
noncomputable def lX9_projected_60 (v1 : Int32) : (Int32 × Int32 × gM) → Option (Int32 × gM) :=
  itO fun s =>
    if (s.2.2 62 26) ≤ s.2.1 then
      some (.inr (s.1, s.2.2))
    else
      (lX9_projected_74 v1 s.2.1 s.2.2 ((0 : Int32), (0 : Int32))).bind fun w10 =>
      (rI 20736 (s.2.2 85) w10).bind fun u11 =>
      if u11 = 0 then
        bX9_projected_142 s.2.1 w10 (1 : Int32) s.1 s.2.2
      else
        bX9_projected_142 s.2.1 w10 (0 : Int32) s.1 s.2.2
set_option maxRecDepth 100000 in
set_option maxHeartbeats 4000000 in
theorem wlX9_projected_60 {z : gZ} {E : gE} {bk : Nat} (F : Fx z sh E "LeapJoinModel" cX9_projected (gR 14) 6) (B : bZ z bk) (hE : gDist sh E) (v1 : Int32) (J : gN) {r : Int32 × gM} : ∀ s : Int32 × Int32 × gM, lX9_projected_60 v1 s = some r → (G z 158 [(2, .int r.1)] [] r.2 J) → G z 60 [(0, .ref (E.2.1 62)), (1, .int v1), (2, .int s.1), (3, .int s.2.1)] [] s.2.2 J := by
  intro s h X0
  unfold lX9_projected_60 at h
  revert s
  refine itO_ind (P := fun s : Int32 × Int32 × gM => G z 60 [(0, .ref (E.2.1 62)), (1, .int v1), (2, .int s.1), (3, .int s.2.1)] [] s.2.2 J) (fun s y h hl hr => ?_)
  have K60_0 : ∀ x : Int32 × gM, y = .inr x → (G z 158 [(2, .int x.1)] [] x.2 J) := fun x q => by have q2 := hr _ q; subst q2; exact X0
  refine g_iload_n F 3 dX9_projected_60 rfl rfl ?_
  refine g_aload_n F 0 dX9_projected_61 rfl rfl ?_
  refine g_geti (j := 26) (v := s.2.2 62 26) F s62 rfl rfl uX9 (by decide) q847 rfl dX9_projected_62 ?_
  refine u_icmp_ge (tgt := 158) F dX9_projected_65 (by decide) h (fun h => ?_) (fun h => ?_)
  · obtain rfl := Option.some.inj h
    refine g_sub (Ln := [(2, .int s.1)]) [2] rfl ?_
    exact K60_0 (s.1, s.2.2) rfl
  · refine g_iconst (v := 0) F dX9_projected_68 (by decide) ?_
    refine g_istore (Ln := [(4, .int 0), (0, .ref (E.2.1 62)), (1, .int v1), (2, .int s.1), (3, .int s.2.1)]) F dX9_projected_69 (by decide) rfl ?_
    refine g_iconst (v := 0) F dX9_projected_71 (by decide) ?_
    refine g_istore (Ln := [(5, .int 0), (4, .int 0), (0, .ref (E.2.1 62)), (1, .int v1), (2, .int s.1), (3, .int s.2.1)]) F dX9_projected_72 (by decide) rfl ?_
    obtain ⟨w10, ew10, h⟩ := ob h
    refine g_sub (Ln := [(0, .ref (E.2.1 62)), (1, .int v1), (2, .int s.1), (3, .int s.2.1), (4, .int 0), (5, .int 0)]) [2, 3, 4, 5, 1, 0] rfl ?_
    refine wlX9_projected_74 F B hE v1 s.1 s.2.1 s.2.2 J _ ew10 ?_
    refine g_iload_n F 2 dX9_projected_126 rfl rfl ?_
    refine g_aload_n F 0 dX9_projected_127 rfl rfl ?_
    refine g_getr (j := 37) (nn := 85) F s62 rfl rfl uX9 (by decide) q858 dX9_projected_128 ?_
    refine g_iload F 4 dX9_projected_131 rfl ?_
    refine u_rZ F s85 (by decide) dX9_projected_133 h (fun u11 h => ?_)
    refine u_if_eq (tgt := 141) F dX9_projected_134 (by decide) h (fun h => ?_) (fun h => ?_)
    · refine g_iconst (v := 1) F dX9_projected_141 (by decide) ?_
      refine g_sub (Ln := [(0, .ref (E.2.1 62)), (1, .int v1), (3, .int s.2.1), (4, .int w10)]) [0, 1, 3, 4] rfl ?_
      exact wbX9_projected_142 F B hE v1 s.2.1 w10 (1 : Int32) s.1 s.2.2 J h hl K60_0
    · refine g_iconst (v := 0) F dX9_projected_137 (by decide) ?_
      refine g_goto (tgt := 142) F dX9_projected_138 (by decide) ?_
      refine g_sub (Ln := [(0, .ref (E.2.1 62)), (1, .int v1), (3, .int s.2.1), (4, .int w10)]) [0, 1, 3, 4] rfl ?_
      exact wbX9_projected_142 F B hE v1 s.2.1 w10 (0 : Int32) s.1 s.2.2 J h hl K60_0
noncomputable def fX9_projected (v1 : Int32) (I : gM) : Option (Int32 × gM) :=
  (fX9_areTables I).bind fun r1 =>
  if r1 = 0 then
    some (((-1) : Int32), I)
  else
    (fX9_in v1 (1 : Int32) (15 : Int32)).bind fun r2 =>
    if r2 = 0 then
      some (((-1) : Int32), I)
    else
      (fX9_asked I).bind fun r3 =>
      if (v1 &&& (r3 ^^^ (-1))) = 0 then
        (fX9_counts I).bind fun r4 =>
        (lX9_projected_36 ((0 : Int32), r4)).bind fun w6 =>
        (lX9_projected_60 v1 ((0 : Int32), (0 : Int32), w6)).bind fun w13 =>
        some (w13.1, w13.2)
      else
        some (((-1) : Int32), I)
set_option maxRecDepth 100000 in
set_option maxHeartbeats 4000000 in
theorem wX9_projected (l : Launch) (E : gE) (hE : gDist sh E) (bk : Nat) (v1 : Int32) (I : gM) (J : gN) {r : Int32 × gM} (h : fX9_projected v1 I = some r) : Cu l sh E bk yX9_projected cX9_projected 6 (some .int) (gR 14) [.ref (E.2.1 62), .int v1] I J (fun r1 I1 J1 => r1 = some (.int r.1) ∧ I1 = r.2 ∧ J1 = J) := by
  refine Cu.of "LeapJoinModel" rfl hE (by decide) (Nat.le_of_ble_eq_true rfl) (fun z F B e hl => ?_)
  subst hl
  unfold fX9_projected at h
  refine g_aload_n F 0 dX9_projected_0 rfl rfl ?_
  refine u_callV (k := 62) (As := []) (rest := []) (sn := fun r1 => [.int r1]) F B (fun _ => wX9_areTables (zl z) E hE bk  I J) mX9_areTables q1028 rfl s62 rfl rfl rfl (Nat.le_of_ble_eq_true rfl) dX9_projected_1 (fun _ => rfl) h (fun r1 h => ?_)
  refine u_if_eq (tgt := 28) F dX9_projected_4 (by decide) h (fun h => ?_) (fun h => ?_)
  · refine g_iconst (v := (-1)) F dX9_projected_28 (by decide) ?_
    obtain rfl := Option.some.inj h
    exact g_iret F e dX9_projected_29 ⟨rfl, rfl, rfl⟩
  · refine g_iload_n F 1 dX9_projected_7 rfl rfl ?_
    refine g_iconst (v := 1) F dX9_projected_8 (by decide) ?_
    refine g_bipush (v := 15) F dX9_projected_9 (by decide) ?_
    refine u_callS (As := [.int v1, .int 1, .int 15]) (rest := []) (sn := fun r2 => [.int r2]) F B (fun _ => wX9_in (zl z) E hE bk v1 (1 : Int32) (15 : Int32) I J) mX9_in q923 rfl rfl rfl (Nat.le_of_ble_eq_true rfl) dX9_projected_11 (fun _ => rfl) h (fun r2 h => ?_)
    refine u_if_eq (tgt := 28) F dX9_projected_14 (by decide) h (fun h => ?_) (fun h => ?_)
    · refine g_iconst (v := (-1)) F dX9_projected_28 (by decide) ?_
      obtain rfl := Option.some.inj h
      exact g_iret F e dX9_projected_29 ⟨rfl, rfl, rfl⟩
    · refine g_iload_n F 1 dX9_projected_17 rfl rfl ?_
      refine g_aload_n F 0 dX9_projected_18 rfl rfl ?_
      refine u_callV (k := 62) (As := []) (rest := [.int v1]) (sn := fun r3 => [.int r3, .int v1]) F B (fun _ => wX9_asked (zl z) E hE bk  I J) mX9_asked q1061 rfl s62 rfl rfl rfl (Nat.le_of_ble_eq_true rfl) dX9_projected_19 (fun _ => rfl) h (fun r3 h => ?_)
      refine g_iconst (v := (-1)) F dX9_projected_22 (by decide) ?_
      refine g_ixor (v := r3 ^^^ (-1)) F dX9_projected_23 rfl ?_
      refine g_iand (v := v1 &&& (r3 ^^^ (-1))) F dX9_projected_24 rfl ?_
      refine u_if_eq (tgt := 30) F dX9_projected_25 (by decide) h (fun h => ?_) (fun h => ?_)
      · refine g_aload_n F 0 dX9_projected_30 rfl rfl ?_
        refine u_callV (k := 62) (As := []) (rest := []) (sn := fun _ => []) F B (fun _ => wX9_counts (zl z) E hE bk  I J) mX9_counts q1210 rfl s62 rfl rfl rfl (Nat.le_of_ble_eq_true rfl) dX9_projected_31 (fun _ => rfl) h (fun r4 h => ?_)
        refine g_iconst (v := 0) F dX9_projected_34 (by decide) ?_
        refine g_istore_n (Ln := [(2, .int 0), (0, .ref (E.2.1 62)), (1, .int v1)]) F dX9_projected_35 rfl (by decide) rfl ?_
        obtain ⟨w6, ew6, h⟩ := ob h
        refine g_sub (Ln := [(0, .ref (E.2.1 62)), (1, .int v1), (2, .int 0)]) [1, 2, 0] rfl ?_
        refine wlX9_projected_36 F B hE v1 J _ ew6 ?_
        refine g_iconst (v := 0) F dX9_projected_56 (by decide) ?_
        refine g_istore_n (Ln := [(2, .int 0), (0, .ref (E.2.1 62)), (1, .int v1)]) F dX9_projected_57 rfl (by decide) rfl ?_
        refine g_iconst (v := 0) F dX9_projected_58 (by decide) ?_
        refine g_istore_n (Ln := [(3, .int 0), (2, .int 0), (0, .ref (E.2.1 62)), (1, .int v1)]) F dX9_projected_59 rfl (by decide) rfl ?_
        obtain ⟨w13, ew13, h⟩ := ob h
        refine g_sub (Ln := [(0, .ref (E.2.1 62)), (1, .int v1), (2, .int 0), (3, .int 0)]) [2, 3, 1, 0] rfl ?_
        refine wlX9_projected_60 F B hE v1 J _ ew13 ?_
        refine g_iload_n F 0 dX9_projected_158 rfl rfl ?_
        obtain rfl := Option.some.inj h
        exact g_iret F e dX9_projected_159 ⟨rfl, rfl, rfl⟩
      · refine g_iconst (v := (-1)) F dX9_projected_28 (by decide) ?_
        obtain rfl := Option.some.inj h
        exact g_iret F e dX9_projected_29 ⟨rfl, rfl, rfl⟩
theorem DX9_times_0 : dAre cX9_times [(0, .aload_n 0, 1), (1, .iload_n 1, 1), (2, .invokevirtual 342, 3), (5, .ifCond .ne 5, 3), (8, .iconst (-1), 1), (9, .ireturn, 1), (10, .aload_n 0, 1), (11, .invokevirtual 366, 3), (14, .iload_n 2, 1), (15, .iconst 0, 1), (16, .bipush 99, 2), (18, .invokestatic 104, 3), (21, .ifCond .eq 17, 3), (24, .aload_n 0, 1), (25, .getfield 68, 3), (28, .bipush 100, 2)] := dAre0 (by decide +kernel)
theorem dX9_times_0 : decode cX9_times 0 = .ok (.aload_n 0, 1) := DX9_times_0.1
theorem dX9_times_1 : decode cX9_times 1 = .ok (.iload_n 1, 1) := DX9_times_0.2.1
theorem dX9_times_2 : decode cX9_times 2 = .ok (.invokevirtual 342, 3) := DX9_times_0.2.2.1
theorem dX9_times_5 : decode cX9_times 5 = .ok (.ifCond .ne 5, 3) := DX9_times_0.2.2.2.1
theorem dX9_times_8 : decode cX9_times 8 = .ok (.iconst (-1), 1) := DX9_times_0.2.2.2.2.1
theorem dX9_times_9 : decode cX9_times 9 = .ok (.ireturn, 1) := DX9_times_0.2.2.2.2.2.1
theorem dX9_times_10 : decode cX9_times 10 = .ok (.aload_n 0, 1) := DX9_times_0.2.2.2.2.2.2.1
theorem dX9_times_11 : decode cX9_times 11 = .ok (.invokevirtual 366, 3) := DX9_times_0.2.2.2.2.2.2.2.1
theorem dX9_times_14 : decode cX9_times 14 = .ok (.iload_n 2, 1) := DX9_times_0.2.2.2.2.2.2.2.2.1
theorem dX9_times_15 : decode cX9_times 15 = .ok (.iconst 0, 1) := DX9_times_0.2.2.2.2.2.2.2.2.2.1
theorem dX9_times_16 : decode cX9_times 16 = .ok (.bipush 99, 2) := DX9_times_0.2.2.2.2.2.2.2.2.2.2.1
theorem dX9_times_18 : decode cX9_times 18 = .ok (.invokestatic 104, 3) := DX9_times_0.2.2.2.2.2.2.2.2.2.2.2.1
theorem dX9_times_21 : decode cX9_times 21 = .ok (.ifCond .eq 17, 3) := DX9_times_0.2.2.2.2.2.2.2.2.2.2.2.2.1
theorem dX9_times_24 : decode cX9_times 24 = .ok (.aload_n 0, 1) := DX9_times_0.2.2.2.2.2.2.2.2.2.2.2.2.2.1
theorem dX9_times_25 : decode cX9_times 25 = .ok (.getfield 68, 3) := DX9_times_0.2.2.2.2.2.2.2.2.2.2.2.2.2.2.1
theorem dX9_times_28 : decode cX9_times 28 = .ok (.bipush 100, 2) := DX9_times_0.2.2.2.2.2.2.2.2.2.2.2.2.2.2.2.1
theorem DX9_times_30 : dAre cX9_times [(30, .iload_n 1, 1), (31, .imul, 1), (32, .iload_n 2, 1), (33, .iadd, 1), (34, .iaload, 1), (35, .goto 4, 3), (38, .iconst 0, 1), (39, .ireturn, 1)] := dAre0 (by decide +kernel)
theorem dX9_times_30 : decode cX9_times 30 = .ok (.iload_n 1, 1) := DX9_times_30.1
theorem dX9_times_31 : decode cX9_times 31 = .ok (.imul, 1) := DX9_times_30.2.1
theorem dX9_times_32 : decode cX9_times 32 = .ok (.iload_n 2, 1) := DX9_times_30.2.2.1
theorem dX9_times_33 : decode cX9_times 33 = .ok (.iadd, 1) := DX9_times_30.2.2.2.1
theorem dX9_times_34 : decode cX9_times 34 = .ok (.iaload, 1) := DX9_times_30.2.2.2.2.1
theorem dX9_times_35 : decode cX9_times 35 = .ok (.goto 4, 3) := DX9_times_30.2.2.2.2.2.1
theorem dX9_times_38 : decode cX9_times 38 = .ok (.iconst 0, 1) := DX9_times_30.2.2.2.2.2.2.1
theorem dX9_times_39 : decode cX9_times 39 = .ok (.ireturn, 1) := DX9_times_30.2.2.2.2.2.2.2.1
theorem mX9_times : gMv yX9_times cX9_times 3 (some .int) RX9 2 := ⟨q1214, q1215, q10, q1216, rfl, by decide, by decide, by decide +kernel⟩
noncomputable def fX9_times (v1 : Int32) (v2 : Int32) (I : gM) : Option (Int32 × gM) :=
  (fX9_isAsked v1 I).bind fun r1 =>
  if r1 = 0 then
    some (((-1) : Int32), I)
  else
    (fX9_counts I).bind fun r2 =>
    (fX9_in v2 (0 : Int32) (99 : Int32)).bind fun r3 =>
    if r3 = 0 then
      some ((0 : Int32), r2)
    else
      (rI 400 (r2 82) (((100 : Int32) * v1) + v2)).bind fun u4 =>
      some (u4, r2)
set_option maxRecDepth 100000 in
set_option maxHeartbeats 4000000 in
theorem wX9_times (l : Launch) (E : gE) (hE : gDist sh E) (bk : Nat) (v1 : Int32) (v2 : Int32) (I : gM) (J : gN) {r : Int32 × gM} (h : fX9_times v1 v2 I = some r) : Cu l sh E bk yX9_times cX9_times 3 (some .int) (gR 14) [.ref (E.2.1 62), .int v1, .int v2] I J (fun r1 I1 J1 => r1 = some (.int r.1) ∧ I1 = r.2 ∧ J1 = J) := by
  refine Cu.of "LeapJoinModel" rfl hE (by decide) (Nat.le_of_ble_eq_true rfl) (fun z F B e hl => ?_)
  subst hl
  unfold fX9_times at h
  refine g_aload_n F 0 dX9_times_0 rfl rfl ?_
  refine g_iload_n F 1 dX9_times_1 rfl rfl ?_
  refine u_callV (k := 62) (As := [.int v1]) (rest := []) (sn := fun r1 => [.int r1]) F B (fun _ => wX9_isAsked (zl z) E hE bk v1 I J) mX9_isAsked q1167 rfl s62 rfl rfl rfl (Nat.le_of_ble_eq_true rfl) dX9_times_2 (fun _ => rfl) h (fun r1 h => ?_)
  refine u_if_ne (tgt := 10) F dX9_times_5 (by decide) h (fun h => ?_) (fun h => ?_)
  · refine g_iconst (v := (-1)) F dX9_times_8 (by decide) ?_
    obtain rfl := Option.some.inj h
    exact g_iret F e dX9_times_9 ⟨rfl, rfl, rfl⟩
  · refine g_aload_n F 0 dX9_times_10 rfl rfl ?_
    refine u_callV (k := 62) (As := []) (rest := []) (sn := fun _ => []) F B (fun _ => wX9_counts (zl z) E hE bk  I J) mX9_counts q1210 rfl s62 rfl rfl rfl (Nat.le_of_ble_eq_true rfl) dX9_times_11 (fun _ => rfl) h (fun r2 h => ?_)
    refine g_iload_n F 2 dX9_times_14 rfl rfl ?_
    refine g_iconst (v := 0) F dX9_times_15 (by decide) ?_
    refine g_bipush (v := 99) F dX9_times_16 (by decide) ?_
    refine u_callS (As := [.int v2, .int 0, .int 99]) (rest := []) (sn := fun r3 => [.int r3]) F B (fun _ => wX9_in (zl z) E hE bk v2 (0 : Int32) (99 : Int32) r2 J) mX9_in q923 rfl rfl rfl (Nat.le_of_ble_eq_true rfl) dX9_times_18 (fun _ => rfl) h (fun r3 h => ?_)
    refine u_if_eq (tgt := 38) F dX9_times_21 (by decide) h (fun h => ?_) (fun h => ?_)
    · refine g_iconst (v := 0) F dX9_times_38 (by decide) ?_
      obtain rfl := Option.some.inj h
      exact g_iret F e dX9_times_39 ⟨rfl, rfl, rfl⟩
    · refine g_aload_n F 0 dX9_times_24 rfl rfl ?_
      refine g_getr (j := 34) (nn := 82) F s62 rfl rfl uX9 (by decide) q855 dX9_times_25 ?_
      refine g_bipush (v := 100) F dX9_times_28 (by decide) ?_
      refine g_iload_n F 1 dX9_times_30 rfl rfl ?_
      refine g_imul (v := (100 : Int32) * v1) F dX9_times_31 rfl ?_
      refine g_iload_n F 2 dX9_times_32 rfl rfl ?_
      refine g_iadd (v := ((100 : Int32) * v1) + v2) F dX9_times_33 rfl ?_
      refine u_rI F s82 (by decide) dX9_times_34 h (fun u4 h => ?_)
      refine g_goto (tgt := 39) F dX9_times_35 (by decide) ?_
      obtain rfl := Option.some.inj h
      exact g_iret F e dX9_times_39 ⟨rfl, rfl, rfl⟩
theorem DX9_extremeOf_0 : dAre cX9_extremeOf [(0, .iconst (-1), 1), (1, .istore_n 3, 1), (2, .iconst 0, 1), (3, .istore 4, 2), (5, .iload 4, 2), (7, .bipush 100, 2), (9, .if_icmp .ge 78, 3), (12, .aload_n 0, 1), (13, .getfield 68, 3), (16, .bipush 100, 2), (18, .iload_n 1, 1), (19, .imul, 1), (20, .iload 4, 2), (22, .iadd, 1), (23, .iaload, 1), (24, .istore 5, 2)] := dAre0 (by decide +kernel)
theorem dX9_extremeOf_0 : decode cX9_extremeOf 0 = .ok (.iconst (-1), 1) := DX9_extremeOf_0.1
theorem dX9_extremeOf_1 : decode cX9_extremeOf 1 = .ok (.istore_n 3, 1) := DX9_extremeOf_0.2.1
theorem dX9_extremeOf_2 : decode cX9_extremeOf 2 = .ok (.iconst 0, 1) := DX9_extremeOf_0.2.2.1
theorem dX9_extremeOf_3 : decode cX9_extremeOf 3 = .ok (.istore 4, 2) := DX9_extremeOf_0.2.2.2.1
theorem dX9_extremeOf_5 : decode cX9_extremeOf 5 = .ok (.iload 4, 2) := DX9_extremeOf_0.2.2.2.2.1
theorem dX9_extremeOf_7 : decode cX9_extremeOf 7 = .ok (.bipush 100, 2) := DX9_extremeOf_0.2.2.2.2.2.1
theorem dX9_extremeOf_9 : decode cX9_extremeOf 9 = .ok (.if_icmp .ge 78, 3) := DX9_extremeOf_0.2.2.2.2.2.2.1
theorem dX9_extremeOf_12 : decode cX9_extremeOf 12 = .ok (.aload_n 0, 1) := DX9_extremeOf_0.2.2.2.2.2.2.2.1
theorem dX9_extremeOf_13 : decode cX9_extremeOf 13 = .ok (.getfield 68, 3) := DX9_extremeOf_0.2.2.2.2.2.2.2.2.1
theorem dX9_extremeOf_16 : decode cX9_extremeOf 16 = .ok (.bipush 100, 2) := DX9_extremeOf_0.2.2.2.2.2.2.2.2.2.1
theorem dX9_extremeOf_18 : decode cX9_extremeOf 18 = .ok (.iload_n 1, 1) := DX9_extremeOf_0.2.2.2.2.2.2.2.2.2.2.1
theorem dX9_extremeOf_19 : decode cX9_extremeOf 19 = .ok (.imul, 1) := DX9_extremeOf_0.2.2.2.2.2.2.2.2.2.2.2.1
theorem dX9_extremeOf_20 : decode cX9_extremeOf 20 = .ok (.iload 4, 2) := DX9_extremeOf_0.2.2.2.2.2.2.2.2.2.2.2.2.1
theorem dX9_extremeOf_22 : decode cX9_extremeOf 22 = .ok (.iadd, 1) := DX9_extremeOf_0.2.2.2.2.2.2.2.2.2.2.2.2.2.1
theorem dX9_extremeOf_23 : decode cX9_extremeOf 23 = .ok (.iaload, 1) := DX9_extremeOf_0.2.2.2.2.2.2.2.2.2.2.2.2.2.2.1
theorem dX9_extremeOf_24 : decode cX9_extremeOf 24 = .ok (.istore 5, 2) := DX9_extremeOf_0.2.2.2.2.2.2.2.2.2.2.2.2.2.2.2.1
theorem DX9_extremeOf_26 : dAre cX9_extremeOf [(26, .iload 5, 2), (28, .ifCond .le 38, 3), (31, .iload_n 3, 1), (32, .iconst (-1), 1), (33, .if_icmp .eq 29, 3), (36, .iload_n 2, 1), (37, .iconst 2, 1), (38, .if_icmp .eq 24, 3), (41, .iload_n 2, 1), (42, .iconst 3, 1), (43, .if_icmp .ne 23, 3), (46, .iload 5, 2), (48, .aload_n 0, 1), (49, .getfield 68, 3), (52, .bipush 100, 2), (54, .iload_n 1, 1)] := dAre0 (by decide +kernel)
theorem dX9_extremeOf_26 : decode cX9_extremeOf 26 = .ok (.iload 5, 2) := DX9_extremeOf_26.1
theorem dX9_extremeOf_28 : decode cX9_extremeOf 28 = .ok (.ifCond .le 38, 3) := DX9_extremeOf_26.2.1
theorem dX9_extremeOf_31 : decode cX9_extremeOf 31 = .ok (.iload_n 3, 1) := DX9_extremeOf_26.2.2.1
theorem dX9_extremeOf_32 : decode cX9_extremeOf 32 = .ok (.iconst (-1), 1) := DX9_extremeOf_26.2.2.2.1
theorem dX9_extremeOf_33 : decode cX9_extremeOf 33 = .ok (.if_icmp .eq 29, 3) := DX9_extremeOf_26.2.2.2.2.1
theorem dX9_extremeOf_36 : decode cX9_extremeOf 36 = .ok (.iload_n 2, 1) := DX9_extremeOf_26.2.2.2.2.2.1
theorem dX9_extremeOf_37 : decode cX9_extremeOf 37 = .ok (.iconst 2, 1) := DX9_extremeOf_26.2.2.2.2.2.2.1
theorem dX9_extremeOf_38 : decode cX9_extremeOf 38 = .ok (.if_icmp .eq 24, 3) := DX9_extremeOf_26.2.2.2.2.2.2.2.1
theorem dX9_extremeOf_41 : decode cX9_extremeOf 41 = .ok (.iload_n 2, 1) := DX9_extremeOf_26.2.2.2.2.2.2.2.2.1
theorem dX9_extremeOf_42 : decode cX9_extremeOf 42 = .ok (.iconst 3, 1) := DX9_extremeOf_26.2.2.2.2.2.2.2.2.2.1
theorem dX9_extremeOf_43 : decode cX9_extremeOf 43 = .ok (.if_icmp .ne 23, 3) := DX9_extremeOf_26.2.2.2.2.2.2.2.2.2.2.1
theorem dX9_extremeOf_46 : decode cX9_extremeOf 46 = .ok (.iload 5, 2) := DX9_extremeOf_26.2.2.2.2.2.2.2.2.2.2.2.1
theorem dX9_extremeOf_48 : decode cX9_extremeOf 48 = .ok (.aload_n 0, 1) := DX9_extremeOf_26.2.2.2.2.2.2.2.2.2.2.2.2.1
theorem dX9_extremeOf_49 : decode cX9_extremeOf 49 = .ok (.getfield 68, 3) := DX9_extremeOf_26.2.2.2.2.2.2.2.2.2.2.2.2.2.1
theorem dX9_extremeOf_52 : decode cX9_extremeOf 52 = .ok (.bipush 100, 2) := DX9_extremeOf_26.2.2.2.2.2.2.2.2.2.2.2.2.2.2.1
theorem dX9_extremeOf_54 : decode cX9_extremeOf 54 = .ok (.iload_n 1, 1) := DX9_extremeOf_26.2.2.2.2.2.2.2.2.2.2.2.2.2.2.2.1
theorem DX9_extremeOf_55 : dAre cX9_extremeOf [(55, .imul, 1), (56, .iload_n 3, 1), (57, .iadd, 1), (58, .iaload, 1), (59, .if_icmp .le 7, 3), (62, .iconst 1, 1), (63, .goto 4, 3), (66, .iconst 0, 1), (67, .istore 6, 2), (69, .iload 6, 2), (71, .ifCond .eq 8, 3), (74, .iload 4, 2), (76, .goto 4, 3), (79, .iload_n 3, 1), (80, .istore_n 3, 1), (81, .iinc 4 1, 3)] := dAre0 (by decide +kernel)
theorem dX9_extremeOf_55 : decode cX9_extremeOf 55 = .ok (.imul, 1) := DX9_extremeOf_55.1
theorem dX9_extremeOf_56 : decode cX9_extremeOf 56 = .ok (.iload_n 3, 1) := DX9_extremeOf_55.2.1
theorem dX9_extremeOf_57 : decode cX9_extremeOf 57 = .ok (.iadd, 1) := DX9_extremeOf_55.2.2.1
theorem dX9_extremeOf_58 : decode cX9_extremeOf 58 = .ok (.iaload, 1) := DX9_extremeOf_55.2.2.2.1
theorem dX9_extremeOf_59 : decode cX9_extremeOf 59 = .ok (.if_icmp .le 7, 3) := DX9_extremeOf_55.2.2.2.2.1
theorem dX9_extremeOf_62 : decode cX9_extremeOf 62 = .ok (.iconst 1, 1) := DX9_extremeOf_55.2.2.2.2.2.1
theorem dX9_extremeOf_63 : decode cX9_extremeOf 63 = .ok (.goto 4, 3) := DX9_extremeOf_55.2.2.2.2.2.2.1
theorem dX9_extremeOf_66 : decode cX9_extremeOf 66 = .ok (.iconst 0, 1) := DX9_extremeOf_55.2.2.2.2.2.2.2.1
theorem dX9_extremeOf_67 : decode cX9_extremeOf 67 = .ok (.istore 6, 2) := DX9_extremeOf_55.2.2.2.2.2.2.2.2.1
theorem dX9_extremeOf_69 : decode cX9_extremeOf 69 = .ok (.iload 6, 2) := DX9_extremeOf_55.2.2.2.2.2.2.2.2.2.1
theorem dX9_extremeOf_71 : decode cX9_extremeOf 71 = .ok (.ifCond .eq 8, 3) := DX9_extremeOf_55.2.2.2.2.2.2.2.2.2.2.1
theorem dX9_extremeOf_74 : decode cX9_extremeOf 74 = .ok (.iload 4, 2) := DX9_extremeOf_55.2.2.2.2.2.2.2.2.2.2.2.1
theorem dX9_extremeOf_76 : decode cX9_extremeOf 76 = .ok (.goto 4, 3) := DX9_extremeOf_55.2.2.2.2.2.2.2.2.2.2.2.2.1
theorem dX9_extremeOf_79 : decode cX9_extremeOf 79 = .ok (.iload_n 3, 1) := DX9_extremeOf_55.2.2.2.2.2.2.2.2.2.2.2.2.2.1
theorem dX9_extremeOf_80 : decode cX9_extremeOf 80 = .ok (.istore_n 3, 1) := DX9_extremeOf_55.2.2.2.2.2.2.2.2.2.2.2.2.2.2.1
theorem dX9_extremeOf_81 : decode cX9_extremeOf 81 = .ok (.iinc 4 1, 3) := DX9_extremeOf_55.2.2.2.2.2.2.2.2.2.2.2.2.2.2.2.1
theorem DX9_extremeOf_84 : dAre cX9_extremeOf [(84, .goto (-79), 3), (87, .iload_n 3, 1), (88, .ireturn, 1)] := dAre0 (by decide +kernel)
theorem dX9_extremeOf_84 : decode cX9_extremeOf 84 = .ok (.goto (-79), 3) := DX9_extremeOf_84.1
theorem dX9_extremeOf_87 : decode cX9_extremeOf 87 = .ok (.iload_n 3, 1) := DX9_extremeOf_84.2.1
theorem dX9_extremeOf_88 : decode cX9_extremeOf 88 = .ok (.ireturn, 1) := DX9_extremeOf_84.2.2.1
theorem mX9_extremeOf : gMv yX9_extremeOf cX9_extremeOf 7 (some .int) RX9 2 := ⟨q1222, q1443, q10, q1223, rfl, by decide, by decide, by decide +kernel⟩
noncomputable def bX9_extremeOf_80 (v4 : Int32) (t0 : Int32) : Option ((Int32 × Int32) ⊕ (Int32)) :=
  some (.inl (t0, v4 + 1))
set_option maxRecDepth 100000 in
set_option maxHeartbeats 4000000 in
theorem wbX9_extremeOf_80 {z : gZ} {E : gE} {bk : Nat} (F : Fx z sh E "LeapJoinModel" cX9_extremeOf (gR 0) 7) (B : bZ z bk) (hE : gDist sh E) (v1 : Int32) (v2 : Int32) (v4 : Int32) (t0 : Int32) (I : gM) (J : gN) {y : (Int32 × Int32) ⊕ (Int32)} (h : bX9_extremeOf_80 v4 t0 = some y) (hl : ∀ s' : Int32 × Int32, y = .inl s' → G z 5 [(0, .ref (E.2.1 62)), (1, .int v1), (2, .int v2), (3, .int (s'.1)), (4, .int (s'.2))] [] I J) (K5_0 : ∀ x : Int32, y = .inr x → G z 87 [(3, .int x)] [] I J) : G z 80 [(0, .ref (E.2.1 62)), (1, .int v1), (2, .int v2), (4, .int v4)] [.int t0] I J := by
  unfold bX9_extremeOf_80 at h
  refine g_istore_n (Ln := [(3, .int t0), (0, .ref (E.2.1 62)), (1, .int v1), (2, .int v2), (4, .int v4)]) F dX9_extremeOf_80 rfl (by decide) rfl ?_
  refine g_iinc (v := v4 + 1) (Ln := [(4, .int (v4 + 1)), (3, .int t0), (0, .ref (E.2.1 62)), (1, .int v1), (2, .int v2)]) F 4 dX9_extremeOf_81 rfl (add_c (by decide)) (by decide) rfl ?_
  refine g_goto (tgt := 5) F dX9_extremeOf_84 (by decide) ?_
  obtain rfl := Option.some.inj h
  refine g_sub (Ln := [(0, .ref (E.2.1 62)), (1, .int v1), (2, .int v2), (3, .int t0), (4, .int (v4 + 1))]) [2, 3, 4, 1, 0] rfl ?_
  exact hl (t0, v4 + 1) rfl
noncomputable def bX9_extremeOf_67 (v3 : Int32) (v4 : Int32) (t0 : Int32) : Option ((Int32 × Int32) ⊕ (Int32)) :=
  if t0 = 0 then
    bX9_extremeOf_80 v4 v3
  else
    bX9_extremeOf_80 v4 v4
set_option maxRecDepth 100000 in
set_option maxHeartbeats 4000000 in
theorem wbX9_extremeOf_67 {z : gZ} {E : gE} {bk : Nat} (F : Fx z sh E "LeapJoinModel" cX9_extremeOf (gR 0) 7) (B : bZ z bk) (hE : gDist sh E) (v1 : Int32) (v2 : Int32) (v3 : Int32) (v4 : Int32) (t0 : Int32) (I : gM) (J : gN) {y : (Int32 × Int32) ⊕ (Int32)} (h : bX9_extremeOf_67 v3 v4 t0 = some y) (hl : ∀ s' : Int32 × Int32, y = .inl s' → G z 5 [(0, .ref (E.2.1 62)), (1, .int v1), (2, .int v2), (3, .int (s'.1)), (4, .int (s'.2))] [] I J) (K5_0 : ∀ x : Int32, y = .inr x → G z 87 [(3, .int x)] [] I J) : G z 67 [(0, .ref (E.2.1 62)), (1, .int v1), (2, .int v2), (3, .int v3), (4, .int v4)] [.int t0] I J := by
  unfold bX9_extremeOf_67 at h
  refine g_istore (Ln := [(6, .int t0), (0, .ref (E.2.1 62)), (1, .int v1), (2, .int v2), (3, .int v3), (4, .int v4)]) F dX9_extremeOf_67 (by decide) rfl ?_
  refine g_iload F 0 dX9_extremeOf_69 rfl ?_
  refine u_if_eq (tgt := 79) F dX9_extremeOf_71 (by decide) h (fun h => ?_) (fun h => ?_)
  · refine g_iload_n F 4 dX9_extremeOf_79 rfl rfl ?_
    refine g_sub (Ln := [(0, .ref (E.2.1 62)), (1, .int v1), (2, .int v2), (4, .int v4)]) [1, 2, 3, 5] rfl ?_
    exact wbX9_extremeOf_80 F B hE v1 v2 v4 v3 I J h hl K5_0
  · refine g_iload F 5 dX9_extremeOf_74 rfl ?_
    refine g_goto (tgt := 80) F dX9_extremeOf_76 (by decide) ?_
    refine g_sub (Ln := [(0, .ref (E.2.1 62)), (1, .int v1), (2, .int v2), (4, .int v4)]) [1, 2, 3, 5] rfl ?_
    exact wbX9_extremeOf_80 F B hE v1 v2 v4 v4 I J h hl K5_0
noncomputable def bX9_extremeOf_66 (v3 : Int32) (v4 : Int32) : Option ((Int32 × Int32) ⊕ (Int32)) :=
  bX9_extremeOf_67 v3 v4 (0 : Int32)
set_option maxRecDepth 100000 in
set_option maxHeartbeats 4000000 in
theorem wbX9_extremeOf_66 {z : gZ} {E : gE} {bk : Nat} (F : Fx z sh E "LeapJoinModel" cX9_extremeOf (gR 0) 7) (B : bZ z bk) (hE : gDist sh E) (v1 : Int32) (v2 : Int32) (v3 : Int32) (v4 : Int32) (I : gM) (J : gN) {y : (Int32 × Int32) ⊕ (Int32)} (h : bX9_extremeOf_66 v3 v4 = some y) (hl : ∀ s' : Int32 × Int32, y = .inl s' → G z 5 [(0, .ref (E.2.1 62)), (1, .int v1), (2, .int v2), (3, .int (s'.1)), (4, .int (s'.2))] [] I J) (K5_0 : ∀ x : Int32, y = .inr x → G z 87 [(3, .int x)] [] I J) : G z 66 [(0, .ref (E.2.1 62)), (1, .int v1), (2, .int v2), (3, .int v3), (4, .int v4)] [] I J := by
  unfold bX9_extremeOf_66 at h
  refine g_iconst (v := 0) F dX9_extremeOf_66 (by decide) ?_
  refine g_sub (Ln := [(0, .ref (E.2.1 62)), (1, .int v1), (2, .int v2), (3, .int v3), (4, .int v4)]) [0, 1, 2, 3, 4] rfl ?_
  exact wbX9_extremeOf_67 F B hE v1 v2 v3 v4 (0 : Int32) I J h hl K5_0
noncomputable def bX9_extremeOf_62 (v3 : Int32) (v4 : Int32) : Option ((Int32 × Int32) ⊕ (Int32)) :=
  bX9_extremeOf_67 v3 v4 (1 : Int32)
set_option maxRecDepth 100000 in
set_option maxHeartbeats 4000000 in
theorem wbX9_extremeOf_62 {z : gZ} {E : gE} {bk : Nat} (F : Fx z sh E "LeapJoinModel" cX9_extremeOf (gR 0) 7) (B : bZ z bk) (hE : gDist sh E) (v1 : Int32) (v2 : Int32) (v3 : Int32) (v4 : Int32) (I : gM) (J : gN) {y : (Int32 × Int32) ⊕ (Int32)} (h : bX9_extremeOf_62 v3 v4 = some y) (hl : ∀ s' : Int32 × Int32, y = .inl s' → G z 5 [(0, .ref (E.2.1 62)), (1, .int v1), (2, .int v2), (3, .int (s'.1)), (4, .int (s'.2))] [] I J) (K5_0 : ∀ x : Int32, y = .inr x → G z 87 [(3, .int x)] [] I J) : G z 62 [(0, .ref (E.2.1 62)), (1, .int v1), (2, .int v2), (3, .int v3), (4, .int v4)] [] I J := by
  unfold bX9_extremeOf_62 at h
  refine g_iconst (v := 1) F dX9_extremeOf_62 (by decide) ?_
  refine g_goto (tgt := 67) F dX9_extremeOf_63 (by decide) ?_
  refine g_sub (Ln := [(0, .ref (E.2.1 62)), (1, .int v1), (2, .int v2), (3, .int v3), (4, .int v4)]) [0, 1, 2, 3, 4] rfl ?_
  exact wbX9_extremeOf_67 F B hE v1 v2 v3 v4 (1 : Int32) I J h hl K5_0
noncomputable def lX9_extremeOf_5 (v1 : Int32) (v2 : Int32) (I : gM) : (Int32 × Int32) → Option (Int32) :=
  itO fun s =>
    if (100 : Int32) ≤ s.2 then
      some (.inr s.1)
    else
      (rI 400 (I 82) (((100 : Int32) * v1) + s.2)).bind fun u1 =>
      if u1 ≤ 0 then
        bX9_extremeOf_66 s.1 s.2
      else
        if s.1 = (-1) then
          bX9_extremeOf_62 s.1 s.2
        else
          if v2 = 2 then
            bX9_extremeOf_62 s.1 s.2
          else
            if v2 = 3 then
              (rI 400 (I 82) (((100 : Int32) * v1) + s.1)).bind fun u2 =>
              if u1 ≤ u2 then
                bX9_extremeOf_66 s.1 s.2
              else
                bX9_extremeOf_62 s.1 s.2
            else
              bX9_extremeOf_66 s.1 s.2
set_option maxRecDepth 100000 in
set_option maxHeartbeats 4000000 in
theorem wlX9_extremeOf_5 {z : gZ} {E : gE} {bk : Nat} (F : Fx z sh E "LeapJoinModel" cX9_extremeOf (gR 0) 7) (B : bZ z bk) (hE : gDist sh E) (v1 : Int32) (v2 : Int32) (I : gM) (J : gN) {r : Int32} : ∀ s : Int32 × Int32, lX9_extremeOf_5 v1 v2 I s = some r → (G z 87 [(3, .int r)] [] I J) → G z 5 [(0, .ref (E.2.1 62)), (1, .int v1), (2, .int v2), (3, .int s.1), (4, .int s.2)] [] I J := by
  intro s h X0
  unfold lX9_extremeOf_5 at h
  revert s
  refine itO_ind (P := fun s : Int32 × Int32 => G z 5 [(0, .ref (E.2.1 62)), (1, .int v1), (2, .int v2), (3, .int s.1), (4, .int s.2)] [] I J) (fun s y h hl hr => ?_)
  have K5_0 : ∀ x : Int32, y = .inr x → (G z 87 [(3, .int x)] [] I J) := fun x q => by have q2 := hr _ q; subst q2; exact X0
  refine g_iload F 4 dX9_extremeOf_5 rfl ?_
  refine g_bipush (v := 100) F dX9_extremeOf_7 (by decide) ?_
  refine u_icmp_ge (tgt := 87) F dX9_extremeOf_9 (by decide) h (fun h => ?_) (fun h => ?_)
  · obtain rfl := Option.some.inj h
    refine g_sub (Ln := [(3, .int s.1)]) [3] rfl ?_
    exact K5_0 s.1 rfl
  · refine g_aload_n F 0 dX9_extremeOf_12 rfl rfl ?_
    refine g_getr (j := 34) (nn := 82) F s62 rfl rfl uX9 (by decide) q855 dX9_extremeOf_13 ?_
    refine g_bipush (v := 100) F dX9_extremeOf_16 (by decide) ?_
    refine g_iload_n F 1 dX9_extremeOf_18 rfl rfl ?_
    refine g_imul (v := (100 : Int32) * v1) F dX9_extremeOf_19 rfl ?_
    refine g_iload F 4 dX9_extremeOf_20 rfl ?_
    refine g_iadd (v := ((100 : Int32) * v1) + s.2) F dX9_extremeOf_22 rfl ?_
    refine u_rI F s82 (by decide) dX9_extremeOf_23 h (fun u1 h => ?_)
    refine g_istore (Ln := [(5, .int u1), (0, .ref (E.2.1 62)), (1, .int v1), (2, .int v2), (3, .int s.1), (4, .int s.2)]) F dX9_extremeOf_24 (by decide) rfl ?_
    refine g_iload F 0 dX9_extremeOf_26 rfl ?_
    refine u_if_le (tgt := 66) F dX9_extremeOf_28 (by decide) h (fun h => ?_) (fun h => ?_)
    · refine g_sub (Ln := [(0, .ref (E.2.1 62)), (1, .int v1), (2, .int v2), (3, .int s.1), (4, .int s.2)]) [1, 2, 3, 4, 5] rfl ?_
      exact wbX9_extremeOf_66 F B hE v1 v2 s.1 s.2 I J h hl K5_0
    · refine g_iload_n F 4 dX9_extremeOf_31 rfl rfl ?_
      refine g_iconst (v := (-1)) F dX9_extremeOf_32 (by decide) ?_
      refine u_icmp_eq (tgt := 62) F dX9_extremeOf_33 (by decide) h (fun h => ?_) (fun h => ?_)
      · refine g_sub (Ln := [(0, .ref (E.2.1 62)), (1, .int v1), (2, .int v2), (3, .int s.1), (4, .int s.2)]) [1, 2, 3, 4, 5] rfl ?_
        exact wbX9_extremeOf_62 F B hE v1 v2 s.1 s.2 I J h hl K5_0
      · refine g_iload_n F 3 dX9_extremeOf_36 rfl rfl ?_
        refine g_iconst (v := 2) F dX9_extremeOf_37 (by decide) ?_
        refine u_icmp_eq (tgt := 62) F dX9_extremeOf_38 (by decide) h (fun h => ?_) (fun h => ?_)
        · refine g_sub (Ln := [(0, .ref (E.2.1 62)), (1, .int v1), (2, .int v2), (3, .int s.1), (4, .int s.2)]) [1, 2, 3, 4, 5] rfl ?_
          exact wbX9_extremeOf_62 F B hE v1 v2 s.1 s.2 I J h hl K5_0
        · refine g_iload_n F 3 dX9_extremeOf_41 rfl rfl ?_
          refine g_iconst (v := 3) F dX9_extremeOf_42 (by decide) ?_
          refine u_icmp_ne (tgt := 66) F dX9_extremeOf_43 (by decide) h (fun h => ?_) (fun h => ?_)
          · refine g_iload F 0 dX9_extremeOf_46 rfl ?_
            refine g_aload_n F 1 dX9_extremeOf_48 rfl rfl ?_
            refine g_getr (j := 34) (nn := 82) F s62 rfl rfl uX9 (by decide) q855 dX9_extremeOf_49 ?_
            refine g_bipush (v := 100) F dX9_extremeOf_52 (by decide) ?_
            refine g_iload_n F 2 dX9_extremeOf_54 rfl rfl ?_
            refine g_imul (v := (100 : Int32) * v1) F dX9_extremeOf_55 rfl ?_
            refine g_iload_n F 4 dX9_extremeOf_56 rfl rfl ?_
            refine g_iadd (v := ((100 : Int32) * v1) + s.1) F dX9_extremeOf_57 rfl ?_
            refine u_rI F s82 (by decide) dX9_extremeOf_58 h (fun u2 h => ?_)
            refine u_icmp_le (tgt := 66) F dX9_extremeOf_59 (by decide) h (fun h => ?_) (fun h => ?_)
            · refine g_sub (Ln := [(0, .ref (E.2.1 62)), (1, .int v1), (2, .int v2), (3, .int s.1), (4, .int s.2)]) [1, 2, 3, 4, 5] rfl ?_
              exact wbX9_extremeOf_66 F B hE v1 v2 s.1 s.2 I J h hl K5_0
            · refine g_sub (Ln := [(0, .ref (E.2.1 62)), (1, .int v1), (2, .int v2), (3, .int s.1), (4, .int s.2)]) [1, 2, 3, 4, 5] rfl ?_
              exact wbX9_extremeOf_62 F B hE v1 v2 s.1 s.2 I J h hl K5_0
          · refine g_sub (Ln := [(0, .ref (E.2.1 62)), (1, .int v1), (2, .int v2), (3, .int s.1), (4, .int s.2)]) [1, 2, 3, 4, 5] rfl ?_
            exact wbX9_extremeOf_66 F B hE v1 v2 s.1 s.2 I J h hl K5_0
noncomputable def fX9_extremeOf (v1 : Int32) (v2 : Int32) (I : gM) : Option (Int32) :=
  (lX9_extremeOf_5 v1 v2 I (((-1) : Int32), (0 : Int32))).bind fun w3 =>
  some w3
set_option maxRecDepth 100000 in
set_option maxHeartbeats 4000000 in
theorem wX9_extremeOf (l : Launch) (E : gE) (hE : gDist sh E) (bk : Nat) (v1 : Int32) (v2 : Int32) (I : gM) (J : gN) {r : Int32} (h : fX9_extremeOf v1 v2 I = some r) : Cu l sh E bk yX9_extremeOf cX9_extremeOf 7 (some .int) (gR 0) [.ref (E.2.1 62), .int v1, .int v2] I J (fun r1 I1 J1 => r1 = some (.int r) ∧ I1 = I ∧ J1 = J) := by
  refine Cu.of "LeapJoinModel" rfl hE (by decide) (Nat.le_of_ble_eq_true rfl) (fun z F B e hl => ?_)
  subst hl
  unfold fX9_extremeOf at h
  refine g_iconst (v := (-1)) F dX9_extremeOf_0 (by decide) ?_
  refine g_istore_n (Ln := [(3, .int (-1)), (0, .ref (E.2.1 62)), (1, .int v1), (2, .int v2)]) F dX9_extremeOf_1 rfl (by decide) rfl ?_
  refine g_iconst (v := 0) F dX9_extremeOf_2 (by decide) ?_
  refine g_istore (Ln := [(4, .int 0), (3, .int (-1)), (0, .ref (E.2.1 62)), (1, .int v1), (2, .int v2)]) F dX9_extremeOf_3 (by decide) rfl ?_
  obtain ⟨w3, ew3, h⟩ := ob h
  refine g_sub (Ln := [(0, .ref (E.2.1 62)), (1, .int v1), (2, .int v2), (3, .int (-1)), (4, .int 0)]) [2, 3, 4, 1, 0] rfl ?_
  refine wlX9_extremeOf_5 F B hE v1 v2 I J _ ew3 ?_
  refine g_iload_n F 0 dX9_extremeOf_87 rfl rfl ?_
  obtain rfl := Option.some.inj h
  exact g_iret F e dX9_extremeOf_88 ⟨rfl, rfl, rfl⟩
theorem DX9_distinct_0 : dAre cX9_distinct [(0, .aload_n 0, 1), (1, .iload_n 1, 1), (2, .invokevirtual 342, 3), (5, .ifCond .eq 12, 3), (8, .iload_n 2, 1), (9, .iconst 0, 1), (10, .iconst 3, 1), (11, .invokestatic 104, 3), (14, .ifCond .ne 5, 3), (17, .iconst (-1), 1), (18, .ireturn, 1), (19, .aload_n 0, 1), (20, .invokevirtual 366, 3), (23, .iload_n 2, 1), (24, .ifCond .ne 12, 3), (27, .aload_n 0, 1)] := dAre0 (by decide +kernel)
theorem dX9_distinct_0 : decode cX9_distinct 0 = .ok (.aload_n 0, 1) := DX9_distinct_0.1
theorem dX9_distinct_1 : decode cX9_distinct 1 = .ok (.iload_n 1, 1) := DX9_distinct_0.2.1
theorem dX9_distinct_2 : decode cX9_distinct 2 = .ok (.invokevirtual 342, 3) := DX9_distinct_0.2.2.1
theorem dX9_distinct_5 : decode cX9_distinct 5 = .ok (.ifCond .eq 12, 3) := DX9_distinct_0.2.2.2.1
theorem dX9_distinct_8 : decode cX9_distinct 8 = .ok (.iload_n 2, 1) := DX9_distinct_0.2.2.2.2.1
theorem dX9_distinct_9 : decode cX9_distinct 9 = .ok (.iconst 0, 1) := DX9_distinct_0.2.2.2.2.2.1
theorem dX9_distinct_10 : decode cX9_distinct 10 = .ok (.iconst 3, 1) := DX9_distinct_0.2.2.2.2.2.2.1
theorem dX9_distinct_11 : decode cX9_distinct 11 = .ok (.invokestatic 104, 3) := DX9_distinct_0.2.2.2.2.2.2.2.1
theorem dX9_distinct_14 : decode cX9_distinct 14 = .ok (.ifCond .ne 5, 3) := DX9_distinct_0.2.2.2.2.2.2.2.2.1
theorem dX9_distinct_17 : decode cX9_distinct 17 = .ok (.iconst (-1), 1) := DX9_distinct_0.2.2.2.2.2.2.2.2.2.1
theorem dX9_distinct_18 : decode cX9_distinct 18 = .ok (.ireturn, 1) := DX9_distinct_0.2.2.2.2.2.2.2.2.2.2.1
theorem dX9_distinct_19 : decode cX9_distinct 19 = .ok (.aload_n 0, 1) := DX9_distinct_0.2.2.2.2.2.2.2.2.2.2.2.1
theorem dX9_distinct_20 : decode cX9_distinct 20 = .ok (.invokevirtual 366, 3) := DX9_distinct_0.2.2.2.2.2.2.2.2.2.2.2.2.1
theorem dX9_distinct_23 : decode cX9_distinct 23 = .ok (.iload_n 2, 1) := DX9_distinct_0.2.2.2.2.2.2.2.2.2.2.2.2.2.1
theorem dX9_distinct_24 : decode cX9_distinct 24 = .ok (.ifCond .ne 12, 3) := DX9_distinct_0.2.2.2.2.2.2.2.2.2.2.2.2.2.2.1
theorem dX9_distinct_27 : decode cX9_distinct 27 = .ok (.aload_n 0, 1) := DX9_distinct_0.2.2.2.2.2.2.2.2.2.2.2.2.2.2.2.1
theorem DX9_distinct_28 : dAre cX9_distinct [(28, .getfield 74, 3), (31, .iload_n 1, 1), (32, .iaload, 1), (33, .goto 9, 3), (36, .aload_n 0, 1), (37, .iload_n 1, 1), (38, .iload_n 2, 1), (39, .invokevirtual 369, 3), (42, .ireturn, 1)] := dAre0 (by decide +kernel)
theorem dX9_distinct_28 : decode cX9_distinct 28 = .ok (.getfield 74, 3) := DX9_distinct_28.1
theorem dX9_distinct_31 : decode cX9_distinct 31 = .ok (.iload_n 1, 1) := DX9_distinct_28.2.1
theorem dX9_distinct_32 : decode cX9_distinct 32 = .ok (.iaload, 1) := DX9_distinct_28.2.2.1
theorem dX9_distinct_33 : decode cX9_distinct 33 = .ok (.goto 9, 3) := DX9_distinct_28.2.2.2.1
theorem dX9_distinct_36 : decode cX9_distinct 36 = .ok (.aload_n 0, 1) := DX9_distinct_28.2.2.2.2.1
theorem dX9_distinct_37 : decode cX9_distinct 37 = .ok (.iload_n 1, 1) := DX9_distinct_28.2.2.2.2.2.1
theorem dX9_distinct_38 : decode cX9_distinct 38 = .ok (.iload_n 2, 1) := DX9_distinct_28.2.2.2.2.2.2.1
theorem dX9_distinct_39 : decode cX9_distinct 39 = .ok (.invokevirtual 369, 3) := DX9_distinct_28.2.2.2.2.2.2.2.1
theorem dX9_distinct_42 : decode cX9_distinct 42 = .ok (.ireturn, 1) := DX9_distinct_28.2.2.2.2.2.2.2.2.1
theorem mX9_distinct : gMv yX9_distinct cX9_distinct 3 (some .int) RX9 2 := ⟨q1218, q1219, q10, q1220, rfl, by decide, by decide, by decide +kernel⟩
noncomputable def fX9_distinct (v1 : Int32) (v2 : Int32) (I : gM) : Option (Int32 × gM) :=
  (fX9_isAsked v1 I).bind fun r1 =>
  if r1 = 0 then
    some (((-1) : Int32), I)
  else
    (fX9_in v2 (0 : Int32) (3 : Int32)).bind fun r2 =>
    if r2 = 0 then
      some (((-1) : Int32), I)
    else
      (fX9_counts I).bind fun r3 =>
      if v2 = 0 then
        (rI 4 (r3 84) v1).bind fun u4 =>
        some (u4, r3)
      else
        (fX9_extremeOf v1 v2 r3).bind fun r5 =>
        some (r5, r3)
set_option maxRecDepth 100000 in
set_option maxHeartbeats 4000000 in
theorem wX9_distinct (l : Launch) (E : gE) (hE : gDist sh E) (bk : Nat) (v1 : Int32) (v2 : Int32) (I : gM) (J : gN) {r : Int32 × gM} (h : fX9_distinct v1 v2 I = some r) : Cu l sh E bk yX9_distinct cX9_distinct 3 (some .int) (gR 14) [.ref (E.2.1 62), .int v1, .int v2] I J (fun r1 I1 J1 => r1 = some (.int r.1) ∧ I1 = r.2 ∧ J1 = J) := by
  refine Cu.of "LeapJoinModel" rfl hE (by decide) (Nat.le_of_ble_eq_true rfl) (fun z F B e hl => ?_)
  subst hl
  unfold fX9_distinct at h
  refine g_aload_n F 0 dX9_distinct_0 rfl rfl ?_
  refine g_iload_n F 1 dX9_distinct_1 rfl rfl ?_
  refine u_callV (k := 62) (As := [.int v1]) (rest := []) (sn := fun r1 => [.int r1]) F B (fun _ => wX9_isAsked (zl z) E hE bk v1 I J) mX9_isAsked q1167 rfl s62 rfl rfl rfl (Nat.le_of_ble_eq_true rfl) dX9_distinct_2 (fun _ => rfl) h (fun r1 h => ?_)
  refine u_if_eq (tgt := 17) F dX9_distinct_5 (by decide) h (fun h => ?_) (fun h => ?_)
  · refine g_iconst (v := (-1)) F dX9_distinct_17 (by decide) ?_
    obtain rfl := Option.some.inj h
    exact g_iret F e dX9_distinct_18 ⟨rfl, rfl, rfl⟩
  · refine g_iload_n F 2 dX9_distinct_8 rfl rfl ?_
    refine g_iconst (v := 0) F dX9_distinct_9 (by decide) ?_
    refine g_iconst (v := 3) F dX9_distinct_10 (by decide) ?_
    refine u_callS (As := [.int v2, .int 0, .int 3]) (rest := []) (sn := fun r2 => [.int r2]) F B (fun _ => wX9_in (zl z) E hE bk v2 (0 : Int32) (3 : Int32) I J) mX9_in q923 rfl rfl rfl (Nat.le_of_ble_eq_true rfl) dX9_distinct_11 (fun _ => rfl) h (fun r2 h => ?_)
    refine u_if_ne (tgt := 19) F dX9_distinct_14 (by decide) h (fun h => ?_) (fun h => ?_)
    · refine g_iconst (v := (-1)) F dX9_distinct_17 (by decide) ?_
      obtain rfl := Option.some.inj h
      exact g_iret F e dX9_distinct_18 ⟨rfl, rfl, rfl⟩
    · refine g_aload_n F 0 dX9_distinct_19 rfl rfl ?_
      refine u_callV (k := 62) (As := []) (rest := []) (sn := fun _ => []) F B (fun _ => wX9_counts (zl z) E hE bk  I J) mX9_counts q1210 rfl s62 rfl rfl rfl (Nat.le_of_ble_eq_true rfl) dX9_distinct_20 (fun _ => rfl) h (fun r3 h => ?_)
      refine g_iload_n F 2 dX9_distinct_23 rfl rfl ?_
      refine u_if_ne (tgt := 36) F dX9_distinct_24 (by decide) h (fun h => ?_) (fun h => ?_)
      · refine g_aload_n F 0 dX9_distinct_27 rfl rfl ?_
        refine g_getr (j := 36) (nn := 84) F s62 rfl rfl uX9 (by decide) q857 dX9_distinct_28 ?_
        refine g_iload_n F 1 dX9_distinct_31 rfl rfl ?_
        refine u_rI F s84 (by decide) dX9_distinct_32 h (fun u4 h => ?_)
        refine g_goto (tgt := 42) F dX9_distinct_33 (by decide) ?_
        obtain rfl := Option.some.inj h
        exact g_iret F e dX9_distinct_42 ⟨rfl, rfl, rfl⟩
      · refine g_aload_n F 0 dX9_distinct_36 rfl rfl ?_
        refine g_iload_n F 1 dX9_distinct_37 rfl rfl ?_
        refine g_iload_n F 2 dX9_distinct_38 rfl rfl ?_
        refine u_callV (k := 62) (As := [.int v1, .int v2]) (rest := []) (sn := fun r5 => [.int r5]) F B (fun _ => wX9_extremeOf (zl z) E hE bk v1 v2 r3 J) mX9_extremeOf q1221 rfl s62 rfl rfl rfl (Nat.le_of_ble_eq_true rfl) dX9_distinct_39 (fun _ => rfl) h (fun r5 h => ?_)
        obtain rfl := Option.some.inj h
        exact g_iret F e dX9_distinct_42 ⟨rfl, rfl, rfl⟩
theorem DX9_isTold_0 : dAre cX9_isTold [(0, .iconst 0, 1), (1, .istore_n 3, 1), (2, .iload_n 3, 1), (3, .bipush 100, 2), (5, .if_icmp .ge 16, 3), (8, .aload_n 0, 1), (9, .getfield 81, 3), (12, .iload_n 3, 1), (13, .iconst (-1), 1), (14, .iastore, 1), (15, .iinc 3 1, 3), (18, .goto (-16), 3), (21, .iconst 1, 1), (22, .istore_n 3, 1), (23, .iconst 0, 1), (24, .istore 4, 2)] := dAre0 (by decide +kernel)
theorem dX9_isTold_0 : decode cX9_isTold 0 = .ok (.iconst 0, 1) := DX9_isTold_0.1
theorem dX9_isTold_1 : decode cX9_isTold 1 = .ok (.istore_n 3, 1) := DX9_isTold_0.2.1
theorem dX9_isTold_2 : decode cX9_isTold 2 = .ok (.iload_n 3, 1) := DX9_isTold_0.2.2.1
theorem dX9_isTold_3 : decode cX9_isTold 3 = .ok (.bipush 100, 2) := DX9_isTold_0.2.2.2.1
theorem dX9_isTold_5 : decode cX9_isTold 5 = .ok (.if_icmp .ge 16, 3) := DX9_isTold_0.2.2.2.2.1
theorem dX9_isTold_8 : decode cX9_isTold 8 = .ok (.aload_n 0, 1) := DX9_isTold_0.2.2.2.2.2.1
theorem dX9_isTold_9 : decode cX9_isTold 9 = .ok (.getfield 81, 3) := DX9_isTold_0.2.2.2.2.2.2.1
theorem dX9_isTold_12 : decode cX9_isTold 12 = .ok (.iload_n 3, 1) := DX9_isTold_0.2.2.2.2.2.2.2.1
theorem dX9_isTold_13 : decode cX9_isTold 13 = .ok (.iconst (-1), 1) := DX9_isTold_0.2.2.2.2.2.2.2.2.1
theorem dX9_isTold_14 : decode cX9_isTold 14 = .ok (.iastore, 1) := DX9_isTold_0.2.2.2.2.2.2.2.2.2.1
theorem dX9_isTold_15 : decode cX9_isTold 15 = .ok (.iinc 3 1, 3) := DX9_isTold_0.2.2.2.2.2.2.2.2.2.2.1
theorem dX9_isTold_18 : decode cX9_isTold 18 = .ok (.goto (-16), 3) := DX9_isTold_0.2.2.2.2.2.2.2.2.2.2.2.1
theorem dX9_isTold_21 : decode cX9_isTold 21 = .ok (.iconst 1, 1) := DX9_isTold_0.2.2.2.2.2.2.2.2.2.2.2.2.1
theorem dX9_isTold_22 : decode cX9_isTold 22 = .ok (.istore_n 3, 1) := DX9_isTold_0.2.2.2.2.2.2.2.2.2.2.2.2.2.1
theorem dX9_isTold_23 : decode cX9_isTold 23 = .ok (.iconst 0, 1) := DX9_isTold_0.2.2.2.2.2.2.2.2.2.2.2.2.2.2.1
theorem dX9_isTold_24 : decode cX9_isTold 24 = .ok (.istore 4, 2) := DX9_isTold_0.2.2.2.2.2.2.2.2.2.2.2.2.2.2.2.1
theorem DX9_isTold_26 : dAre cX9_isTold [(26, .iload 4, 2), (28, .aload_n 0, 1), (29, .getfield 247, 3), (32, .if_icmp .ge 70, 3), (35, .aload_n 0, 1), (36, .iload 4, 2), (38, .iload_n 1, 1), (39, .invokevirtual 345, 3), (42, .istore 5, 2), (44, .iload_n 3, 1), (45, .ifCond .eq 35, 3), (48, .aload_n 0, 1), (49, .getfield 81, 3), (52, .iload 5, 2), (54, .iaload, 1), (55, .iconst (-1), 1)] := dAre0 (by decide +kernel)
theorem dX9_isTold_26 : decode cX9_isTold 26 = .ok (.iload 4, 2) := DX9_isTold_26.1
theorem dX9_isTold_28 : decode cX9_isTold 28 = .ok (.aload_n 0, 1) := DX9_isTold_26.2.1
theorem dX9_isTold_29 : decode cX9_isTold 29 = .ok (.getfield 247, 3) := DX9_isTold_26.2.2.1
theorem dX9_isTold_32 : decode cX9_isTold 32 = .ok (.if_icmp .ge 70, 3) := DX9_isTold_26.2.2.2.1
theorem dX9_isTold_35 : decode cX9_isTold 35 = .ok (.aload_n 0, 1) := DX9_isTold_26.2.2.2.2.1
theorem dX9_isTold_36 : decode cX9_isTold 36 = .ok (.iload 4, 2) := DX9_isTold_26.2.2.2.2.2.1
theorem dX9_isTold_38 : decode cX9_isTold 38 = .ok (.iload_n 1, 1) := DX9_isTold_26.2.2.2.2.2.2.1
theorem dX9_isTold_39 : decode cX9_isTold 39 = .ok (.invokevirtual 345, 3) := DX9_isTold_26.2.2.2.2.2.2.2.1
theorem dX9_isTold_42 : decode cX9_isTold 42 = .ok (.istore 5, 2) := DX9_isTold_26.2.2.2.2.2.2.2.2.1
theorem dX9_isTold_44 : decode cX9_isTold 44 = .ok (.iload_n 3, 1) := DX9_isTold_26.2.2.2.2.2.2.2.2.2.1
theorem dX9_isTold_45 : decode cX9_isTold 45 = .ok (.ifCond .eq 35, 3) := DX9_isTold_26.2.2.2.2.2.2.2.2.2.2.1
theorem dX9_isTold_48 : decode cX9_isTold 48 = .ok (.aload_n 0, 1) := DX9_isTold_26.2.2.2.2.2.2.2.2.2.2.2.1
theorem dX9_isTold_49 : decode cX9_isTold 49 = .ok (.getfield 81, 3) := DX9_isTold_26.2.2.2.2.2.2.2.2.2.2.2.2.1
theorem dX9_isTold_52 : decode cX9_isTold 52 = .ok (.iload 5, 2) := DX9_isTold_26.2.2.2.2.2.2.2.2.2.2.2.2.2.1
theorem dX9_isTold_54 : decode cX9_isTold 54 = .ok (.iaload, 1) := DX9_isTold_26.2.2.2.2.2.2.2.2.2.2.2.2.2.2.1
theorem dX9_isTold_55 : decode cX9_isTold 55 = .ok (.iconst (-1), 1) := DX9_isTold_26.2.2.2.2.2.2.2.2.2.2.2.2.2.2.2.1
theorem DX9_isTold_56 : dAre cX9_isTold [(56, .if_icmp .eq 20, 3), (59, .aload_n 0, 1), (60, .getfield 81, 3), (63, .iload 5, 2), (65, .iaload, 1), (66, .aload_n 0, 1), (67, .iload 4, 2), (69, .iload_n 2, 1), (70, .invokevirtual 345, 3), (73, .if_icmp .ne 7, 3), (76, .iconst 1, 1), (77, .goto 4, 3), (80, .iconst 0, 1), (81, .istore_n 3, 1), (82, .aload_n 0, 1), (83, .getfield 81, 3)] := dAre0 (by decide +kernel)
theorem dX9_isTold_56 : decode cX9_isTold 56 = .ok (.if_icmp .eq 20, 3) := DX9_isTold_56.1
theorem dX9_isTold_59 : decode cX9_isTold 59 = .ok (.aload_n 0, 1) := DX9_isTold_56.2.1
theorem dX9_isTold_60 : decode cX9_isTold 60 = .ok (.getfield 81, 3) := DX9_isTold_56.2.2.1
theorem dX9_isTold_63 : decode cX9_isTold 63 = .ok (.iload 5, 2) := DX9_isTold_56.2.2.2.1
theorem dX9_isTold_65 : decode cX9_isTold 65 = .ok (.iaload, 1) := DX9_isTold_56.2.2.2.2.1
theorem dX9_isTold_66 : decode cX9_isTold 66 = .ok (.aload_n 0, 1) := DX9_isTold_56.2.2.2.2.2.1
theorem dX9_isTold_67 : decode cX9_isTold 67 = .ok (.iload 4, 2) := DX9_isTold_56.2.2.2.2.2.2.1
theorem dX9_isTold_69 : decode cX9_isTold 69 = .ok (.iload_n 2, 1) := DX9_isTold_56.2.2.2.2.2.2.2.1
theorem dX9_isTold_70 : decode cX9_isTold 70 = .ok (.invokevirtual 345, 3) := DX9_isTold_56.2.2.2.2.2.2.2.2.1
theorem dX9_isTold_73 : decode cX9_isTold 73 = .ok (.if_icmp .ne 7, 3) := DX9_isTold_56.2.2.2.2.2.2.2.2.2.1
theorem dX9_isTold_76 : decode cX9_isTold 76 = .ok (.iconst 1, 1) := DX9_isTold_56.2.2.2.2.2.2.2.2.2.2.1
theorem dX9_isTold_77 : decode cX9_isTold 77 = .ok (.goto 4, 3) := DX9_isTold_56.2.2.2.2.2.2.2.2.2.2.2.1
theorem dX9_isTold_80 : decode cX9_isTold 80 = .ok (.iconst 0, 1) := DX9_isTold_56.2.2.2.2.2.2.2.2.2.2.2.2.1
theorem dX9_isTold_81 : decode cX9_isTold 81 = .ok (.istore_n 3, 1) := DX9_isTold_56.2.2.2.2.2.2.2.2.2.2.2.2.2.1
theorem dX9_isTold_82 : decode cX9_isTold 82 = .ok (.aload_n 0, 1) := DX9_isTold_56.2.2.2.2.2.2.2.2.2.2.2.2.2.2.1
theorem dX9_isTold_83 : decode cX9_isTold 83 = .ok (.getfield 81, 3) := DX9_isTold_56.2.2.2.2.2.2.2.2.2.2.2.2.2.2.2.1
theorem DX9_isTold_86 : dAre cX9_isTold [(86, .iload 5, 2), (88, .aload_n 0, 1), (89, .iload 4, 2), (91, .iload_n 2, 1), (92, .invokevirtual 345, 3), (95, .iastore, 1), (96, .iinc 4 1, 3), (99, .goto (-73), 3), (102, .iload_n 3, 1), (103, .ireturn, 1)] := dAre0 (by decide +kernel)
theorem dX9_isTold_86 : decode cX9_isTold 86 = .ok (.iload 5, 2) := DX9_isTold_86.1
theorem dX9_isTold_88 : decode cX9_isTold 88 = .ok (.aload_n 0, 1) := DX9_isTold_86.2.1
theorem dX9_isTold_89 : decode cX9_isTold 89 = .ok (.iload 4, 2) := DX9_isTold_86.2.2.1
theorem dX9_isTold_91 : decode cX9_isTold 91 = .ok (.iload_n 2, 1) := DX9_isTold_86.2.2.2.1
theorem dX9_isTold_92 : decode cX9_isTold 92 = .ok (.invokevirtual 345, 3) := DX9_isTold_86.2.2.2.2.1
theorem dX9_isTold_95 : decode cX9_isTold 95 = .ok (.iastore, 1) := DX9_isTold_86.2.2.2.2.2.1
theorem dX9_isTold_96 : decode cX9_isTold 96 = .ok (.iinc 4 1, 3) := DX9_isTold_86.2.2.2.2.2.2.1
theorem dX9_isTold_99 : decode cX9_isTold 99 = .ok (.goto (-73), 3) := DX9_isTold_86.2.2.2.2.2.2.2.1
theorem dX9_isTold_102 : decode cX9_isTold 102 = .ok (.iload_n 3, 1) := DX9_isTold_86.2.2.2.2.2.2.2.2.1
theorem dX9_isTold_103 : decode cX9_isTold 103 = .ok (.ireturn, 1) := DX9_isTold_86.2.2.2.2.2.2.2.2.2.1
theorem mX9_isTold : gMv yX9_isTold cX9_isTold 6 (some .boolean) RX9 2 := ⟨q1229, q1444, q10, q1230, rfl, by decide, by decide, by decide +kernel⟩
noncomputable def lX9_isTold_2 : (Int32 × gM) → Option (gM) :=
  itO fun s =>
    if (100 : Int32) ≤ s.1 then
      some (.inr s.2)
    else
      (wI s.2 86 100 s.1 (-1)).bind fun I1 =>
      some (.inl (s.1 + 1, I1))
set_option maxRecDepth 100000 in
set_option maxHeartbeats 4000000 in
theorem wlX9_isTold_2 {z : gZ} {E : gE} {bk : Nat} (F : Fx z sh E "LeapJoinModel" cX9_isTold (gR 1) 6) (B : bZ z bk) (hE : gDist sh E) (v1 : Int32) (v2 : Int32) (J : gN) {r : gM} : ∀ s : Int32 × gM, lX9_isTold_2 s = some r → (G z 21 [(0, .ref (E.2.1 62)), (1, .int v1), (2, .int v2)] [] r J) → G z 2 [(0, .ref (E.2.1 62)), (1, .int v1), (2, .int v2), (3, .int s.1)] [] s.2 J := by
  intro s h X0
  unfold lX9_isTold_2 at h
  revert s
  refine itO_ind (P := fun s : Int32 × gM => G z 2 [(0, .ref (E.2.1 62)), (1, .int v1), (2, .int v2), (3, .int s.1)] [] s.2 J) (fun s y h hl hr => ?_)
  have K2_0 : ∀ x : gM, y = .inr x → (G z 21 [(0, .ref (E.2.1 62)), (1, .int v1), (2, .int v2)] [] x J) := fun x q => by have q2 := hr _ q; subst q2; exact X0
  refine g_iload_n F 3 dX9_isTold_2 rfl rfl ?_
  refine g_bipush (v := 100) F dX9_isTold_3 (by decide) ?_
  refine u_icmp_ge (tgt := 21) F dX9_isTold_5 (by decide) h (fun h => ?_) (fun h => ?_)
  · obtain rfl := Option.some.inj h
    refine g_sub (Ln := [(0, .ref (E.2.1 62)), (1, .int v1), (2, .int v2)]) [0, 1, 2] rfl ?_
    exact K2_0 s.2 rfl
  · refine g_aload_n F 0 dX9_isTold_8 rfl rfl ?_
    refine g_getr (j := 38) (nn := 86) F s62 rfl rfl uX9 (by decide) q859 dX9_isTold_9 ?_
    refine g_iload_n F 3 dX9_isTold_12 rfl rfl ?_
    refine g_iconst (v := (-1)) F dX9_isTold_13 (by decide) ?_
    refine u_wI F s86 (by decide) dX9_isTold_14 h (fun I1 h => ?_)
    refine g_iinc (v := s.1 + 1) (Ln := [(3, .int (s.1 + 1)), (0, .ref (E.2.1 62)), (1, .int v1), (2, .int v2)]) F 3 dX9_isTold_15 rfl (add_c (by decide)) (by decide) rfl ?_
    refine g_goto (tgt := 2) F dX9_isTold_18 (by decide) ?_
    obtain rfl := Option.some.inj h
    refine g_sub (Ln := [(0, .ref (E.2.1 62)), (1, .int v1), (2, .int v2), (3, .int (s.1 + 1))]) [1, 2, 3, 0] rfl ?_
    exact hl (s.1 + 1, I1) rfl
noncomputable def bX9_isTold_81 (v2 : Int32) (v4 : Int32) (v5 : Int32) (t0 : Int32) (I : gM) : Option ((Int32 × Int32 × gM) ⊕ (Int32 × gM)) :=
  (fX9_numberOf v4 v2 I).bind fun r4 =>
  (wI I 86 100 v5 r4).bind fun I5 =>
  some (.inl (t0, v4 + 1, I5))
set_option maxRecDepth 100000 in
set_option maxHeartbeats 4000000 in
theorem wbX9_isTold_81 {z : gZ} {E : gE} {bk : Nat} (F : Fx z sh E "LeapJoinModel" cX9_isTold (gR 1) 6) (B : bZ z bk) (hE : gDist sh E) (v1 : Int32) (v2 : Int32) (v4 : Int32) (v5 : Int32) (t0 : Int32) (I : gM) (J : gN) {y : (Int32 × Int32 × gM) ⊕ (Int32 × gM)} (h : bX9_isTold_81 v2 v4 v5 t0 I = some y) (hl : ∀ s' : Int32 × Int32 × gM, y = .inl s' → G z 26 [(0, .ref (E.2.1 62)), (1, .int v1), (2, .int v2), (3, .int (s'.1)), (4, .int (s'.2.1))] [] s'.2.2 J) (K26_0 : ∀ x : Int32 × gM, y = .inr x → G z 102 [(3, .int x.1)] [] x.2 J) : G z 81 [(0, .ref (E.2.1 62)), (1, .int v1), (2, .int v2), (4, .int v4), (5, .int v5)] [.int t0] I J := by
  unfold bX9_isTold_81 at h
  refine g_istore_n (Ln := [(3, .int t0), (0, .ref (E.2.1 62)), (1, .int v1), (2, .int v2), (4, .int v4), (5, .int v5)]) F dX9_isTold_81 rfl (by decide) rfl ?_
  refine g_aload_n F 1 dX9_isTold_82 rfl rfl ?_
  refine g_getr (j := 38) (nn := 86) F s62 rfl rfl uX9 (by decide) q859 dX9_isTold_83 ?_
  refine g_iload F 5 dX9_isTold_86 rfl ?_
  refine g_aload_n F 1 dX9_isTold_88 rfl rfl ?_
  refine g_iload F 4 dX9_isTold_89 rfl ?_
  refine g_iload_n F 3 dX9_isTold_91 rfl rfl ?_
  refine u_callV (k := 62) (As := [.int v4, .int v2]) (rest := [.int v5, .ref (E.2.1 86)]) (sn := fun r4 => [.int r4, .int v5, .ref (E.2.1 86)]) F B (fun _ => wX9_numberOf (zl z) E hE bk v4 v2 I J) mX9_numberOf q1170 rfl s62 rfl rfl rfl (Nat.le_of_ble_eq_true rfl) dX9_isTold_92 (fun _ => rfl) h (fun r4 h => ?_)
  refine u_wI F s86 (by decide) dX9_isTold_95 h (fun I5 h => ?_)
  refine g_iinc (v := v4 + 1) (Ln := [(4, .int (v4 + 1)), (3, .int t0), (0, .ref (E.2.1 62)), (1, .int v1), (2, .int v2), (5, .int v5)]) F 4 dX9_isTold_96 rfl (add_c (by decide)) (by decide) rfl ?_
  refine g_goto (tgt := 26) F dX9_isTold_99 (by decide) ?_
  obtain rfl := Option.some.inj h
  refine g_sub (Ln := [(0, .ref (E.2.1 62)), (1, .int v1), (2, .int v2), (3, .int t0), (4, .int (v4 + 1))]) [2, 3, 4, 1, 0] rfl ?_
  exact hl (t0, v4 + 1, I5) rfl
noncomputable def bX9_isTold_80 (v2 : Int32) (v4 : Int32) (v5 : Int32) (I : gM) : Option ((Int32 × Int32 × gM) ⊕ (Int32 × gM)) :=
  bX9_isTold_81 v2 v4 v5 (0 : Int32) I
set_option maxRecDepth 100000 in
set_option maxHeartbeats 4000000 in
theorem wbX9_isTold_80 {z : gZ} {E : gE} {bk : Nat} (F : Fx z sh E "LeapJoinModel" cX9_isTold (gR 1) 6) (B : bZ z bk) (hE : gDist sh E) (v1 : Int32) (v2 : Int32) (v4 : Int32) (v5 : Int32) (I : gM) (J : gN) {y : (Int32 × Int32 × gM) ⊕ (Int32 × gM)} (h : bX9_isTold_80 v2 v4 v5 I = some y) (hl : ∀ s' : Int32 × Int32 × gM, y = .inl s' → G z 26 [(0, .ref (E.2.1 62)), (1, .int v1), (2, .int v2), (3, .int (s'.1)), (4, .int (s'.2.1))] [] s'.2.2 J) (K26_0 : ∀ x : Int32 × gM, y = .inr x → G z 102 [(3, .int x.1)] [] x.2 J) : G z 80 [(0, .ref (E.2.1 62)), (1, .int v1), (2, .int v2), (4, .int v4), (5, .int v5)] [] I J := by
  unfold bX9_isTold_80 at h
  refine g_iconst (v := 0) F dX9_isTold_80 (by decide) ?_
  refine g_sub (Ln := [(0, .ref (E.2.1 62)), (1, .int v1), (2, .int v2), (4, .int v4), (5, .int v5)]) [0, 1, 2, 3, 4] rfl ?_
  exact wbX9_isTold_81 F B hE v1 v2 v4 v5 (0 : Int32) I J h hl K26_0
noncomputable def bX9_isTold_76 (v2 : Int32) (v4 : Int32) (v5 : Int32) (I : gM) : Option ((Int32 × Int32 × gM) ⊕ (Int32 × gM)) :=
  bX9_isTold_81 v2 v4 v5 (1 : Int32) I
set_option maxRecDepth 100000 in
set_option maxHeartbeats 4000000 in
theorem wbX9_isTold_76 {z : gZ} {E : gE} {bk : Nat} (F : Fx z sh E "LeapJoinModel" cX9_isTold (gR 1) 6) (B : bZ z bk) (hE : gDist sh E) (v1 : Int32) (v2 : Int32) (v4 : Int32) (v5 : Int32) (I : gM) (J : gN) {y : (Int32 × Int32 × gM) ⊕ (Int32 × gM)} (h : bX9_isTold_76 v2 v4 v5 I = some y) (hl : ∀ s' : Int32 × Int32 × gM, y = .inl s' → G z 26 [(0, .ref (E.2.1 62)), (1, .int v1), (2, .int v2), (3, .int (s'.1)), (4, .int (s'.2.1))] [] s'.2.2 J) (K26_0 : ∀ x : Int32 × gM, y = .inr x → G z 102 [(3, .int x.1)] [] x.2 J) : G z 76 [(0, .ref (E.2.1 62)), (1, .int v1), (2, .int v2), (4, .int v4), (5, .int v5)] [] I J := by
  unfold bX9_isTold_76 at h
  refine g_iconst (v := 1) F dX9_isTold_76 (by decide) ?_
  refine g_goto (tgt := 81) F dX9_isTold_77 (by decide) ?_
  refine g_sub (Ln := [(0, .ref (E.2.1 62)), (1, .int v1), (2, .int v2), (4, .int v4), (5, .int v5)]) [0, 1, 2, 3, 4] rfl ?_
  exact wbX9_isTold_81 F B hE v1 v2 v4 v5 (1 : Int32) I J h hl K26_0
noncomputable def lX9_isTold_26 (v1 : Int32) (v2 : Int32) : (Int32 × Int32 × gM) → Option (Int32 × gM) :=
  itO fun s =>
    if (s.2.2 62 26) ≤ s.2.1 then
      some (.inr (s.1, s.2.2))
    else
      (fX9_numberOf s.2.1 v1 s.2.2).bind fun r3 =>
      if s.1 = 0 then
        bX9_isTold_80 v2 s.2.1 r3 s.2.2
      else
        (rI 100 (s.2.2 86) r3).bind fun u6 =>
        if u6 = (-1) then
          bX9_isTold_76 v2 s.2.1 r3 s.2.2
        else
          (rI 100 (s.2.2 86) r3).bind fun u7 =>
          (fX9_numberOf s.2.1 v2 s.2.2).bind fun r8 =>
          if u7 = r8 then
            bX9_isTold_76 v2 s.2.1 r3 s.2.2
          else
            bX9_isTold_80 v2 s.2.1 r3 s.2.2
set_option maxRecDepth 100000 in
set_option maxHeartbeats 4000000 in
theorem wlX9_isTold_26 {z : gZ} {E : gE} {bk : Nat} (F : Fx z sh E "LeapJoinModel" cX9_isTold (gR 1) 6) (B : bZ z bk) (hE : gDist sh E) (v1 : Int32) (v2 : Int32) (J : gN) {r : Int32 × gM} : ∀ s : Int32 × Int32 × gM, lX9_isTold_26 v1 v2 s = some r → (G z 102 [(3, .int r.1)] [] r.2 J) → G z 26 [(0, .ref (E.2.1 62)), (1, .int v1), (2, .int v2), (3, .int s.1), (4, .int s.2.1)] [] s.2.2 J := by
  intro s h X0
  unfold lX9_isTold_26 at h
  revert s
  refine itO_ind (P := fun s : Int32 × Int32 × gM => G z 26 [(0, .ref (E.2.1 62)), (1, .int v1), (2, .int v2), (3, .int s.1), (4, .int s.2.1)] [] s.2.2 J) (fun s y h hl hr => ?_)
  have K26_0 : ∀ x : Int32 × gM, y = .inr x → (G z 102 [(3, .int x.1)] [] x.2 J) := fun x q => by have q2 := hr _ q; subst q2; exact X0
  refine g_iload F 4 dX9_isTold_26 rfl ?_
  refine g_aload_n F 0 dX9_isTold_28 rfl rfl ?_
  refine g_geti (j := 26) (v := s.2.2 62 26) F s62 rfl rfl uX9 (by decide) q847 rfl dX9_isTold_29 ?_
  refine u_icmp_ge (tgt := 102) F dX9_isTold_32 (by decide) h (fun h => ?_) (fun h => ?_)
  · obtain rfl := Option.some.inj h
    refine g_sub (Ln := [(3, .int s.1)]) [3] rfl ?_
    exact K26_0 (s.1, s.2.2) rfl
  · refine g_aload_n F 0 dX9_isTold_35 rfl rfl ?_
    refine g_iload F 4 dX9_isTold_36 rfl ?_
    refine g_iload_n F 1 dX9_isTold_38 rfl rfl ?_
    refine u_callV (k := 62) (As := [.int s.2.1, .int v1]) (rest := []) (sn := fun r3 => [.int r3]) F B (fun _ => wX9_numberOf (zl z) E hE bk s.2.1 v1 s.2.2 J) mX9_numberOf q1170 rfl s62 rfl rfl rfl (Nat.le_of_ble_eq_true rfl) dX9_isTold_39 (fun _ => rfl) h (fun r3 h => ?_)
    refine g_istore (Ln := [(5, .int r3), (0, .ref (E.2.1 62)), (1, .int v1), (2, .int v2), (3, .int s.1), (4, .int s.2.1)]) F dX9_isTold_42 (by decide) rfl ?_
    refine g_iload_n F 4 dX9_isTold_44 rfl rfl ?_
    refine u_if_eq (tgt := 80) F dX9_isTold_45 (by decide) h (fun h => ?_) (fun h => ?_)
    · refine g_sub (Ln := [(0, .ref (E.2.1 62)), (1, .int v1), (2, .int v2), (4, .int s.2.1), (5, .int r3)]) [1, 2, 3, 5, 0] rfl ?_
      exact wbX9_isTold_80 F B hE v1 v2 s.2.1 r3 s.2.2 J h hl K26_0
    · refine g_aload_n F 1 dX9_isTold_48 rfl rfl ?_
      refine g_getr (j := 38) (nn := 86) F s62 rfl rfl uX9 (by decide) q859 dX9_isTold_49 ?_
      refine g_iload F 0 dX9_isTold_52 rfl ?_
      refine u_rI F s86 (by decide) dX9_isTold_54 h (fun u6 h => ?_)
      refine g_iconst (v := (-1)) F dX9_isTold_55 (by decide) ?_
      refine u_icmp_eq (tgt := 76) F dX9_isTold_56 (by decide) h (fun h => ?_) (fun h => ?_)
      · refine g_sub (Ln := [(0, .ref (E.2.1 62)), (1, .int v1), (2, .int v2), (4, .int s.2.1), (5, .int r3)]) [1, 2, 3, 5, 0] rfl ?_
        exact wbX9_isTold_76 F B hE v1 v2 s.2.1 r3 s.2.2 J h hl K26_0
      · refine g_aload_n F 1 dX9_isTold_59 rfl rfl ?_
        refine g_getr (j := 38) (nn := 86) F s62 rfl rfl uX9 (by decide) q859 dX9_isTold_60 ?_
        refine g_iload F 0 dX9_isTold_63 rfl ?_
        refine u_rI F s86 (by decide) dX9_isTold_65 h (fun u7 h => ?_)
        refine g_aload_n F 1 dX9_isTold_66 rfl rfl ?_
        refine g_iload F 5 dX9_isTold_67 rfl ?_
        refine g_iload_n F 3 dX9_isTold_69 rfl rfl ?_
        refine u_callV (k := 62) (As := [.int s.2.1, .int v2]) (rest := [.int u7]) (sn := fun r8 => [.int r8, .int u7]) F B (fun _ => wX9_numberOf (zl z) E hE bk s.2.1 v2 s.2.2 J) mX9_numberOf q1170 rfl s62 rfl rfl rfl (Nat.le_of_ble_eq_true rfl) dX9_isTold_70 (fun _ => rfl) h (fun r8 h => ?_)
        refine u_icmp_ne (tgt := 80) F dX9_isTold_73 (by decide) h (fun h => ?_) (fun h => ?_)
        · refine g_sub (Ln := [(0, .ref (E.2.1 62)), (1, .int v1), (2, .int v2), (4, .int s.2.1), (5, .int r3)]) [1, 2, 3, 5, 0] rfl ?_
          exact wbX9_isTold_76 F B hE v1 v2 s.2.1 r3 s.2.2 J h hl K26_0
        · refine g_sub (Ln := [(0, .ref (E.2.1 62)), (1, .int v1), (2, .int v2), (4, .int s.2.1), (5, .int r3)]) [1, 2, 3, 5, 0] rfl ?_
          exact wbX9_isTold_80 F B hE v1 v2 s.2.1 r3 s.2.2 J h hl K26_0
noncomputable def fX9_isTold (v1 : Int32) (v2 : Int32) (I : gM) : Option (Int32 × gM) :=
  (lX9_isTold_2 ((0 : Int32), I)).bind fun w2 =>
  (lX9_isTold_26 v1 v2 ((1 : Int32), (0 : Int32), w2)).bind fun w9 =>
  (bO w9.1).bind fun u10 =>
  some (u10, w9.2)
set_option maxRecDepth 100000 in
set_option maxHeartbeats 4000000 in
theorem wX9_isTold (l : Launch) (E : gE) (hE : gDist sh E) (bk : Nat) (v1 : Int32) (v2 : Int32) (I : gM) (J : gN) {r : Int32 × gM} (h : fX9_isTold v1 v2 I = some r) : Cu l sh E bk yX9_isTold cX9_isTold 6 (some .boolean) (gR 1) [.ref (E.2.1 62), .int v1, .int v2] I J (fun r1 I1 J1 => r1 = some (.int r.1) ∧ I1 = r.2 ∧ J1 = J) := by
  refine Cu.of "LeapJoinModel" rfl hE (by decide) (Nat.le_of_ble_eq_true rfl) (fun z F B e hl => ?_)
  subst hl
  unfold fX9_isTold at h
  refine g_iconst (v := 0) F dX9_isTold_0 (by decide) ?_
  refine g_istore_n (Ln := [(3, .int 0), (0, .ref (E.2.1 62)), (1, .int v1), (2, .int v2)]) F dX9_isTold_1 rfl (by decide) rfl ?_
  obtain ⟨w2, ew2, h⟩ := ob h
  refine g_sub (Ln := [(0, .ref (E.2.1 62)), (1, .int v1), (2, .int v2), (3, .int 0)]) [1, 2, 3, 0] rfl ?_
  refine wlX9_isTold_2 F B hE v1 v2 J _ ew2 ?_
  refine g_iconst (v := 1) F dX9_isTold_21 (by decide) ?_
  refine g_istore_n (Ln := [(3, .int 1), (0, .ref (E.2.1 62)), (1, .int v1), (2, .int v2)]) F dX9_isTold_22 rfl (by decide) rfl ?_
  refine g_iconst (v := 0) F dX9_isTold_23 (by decide) ?_
  refine g_istore (Ln := [(4, .int 0), (3, .int 1), (0, .ref (E.2.1 62)), (1, .int v1), (2, .int v2)]) F dX9_isTold_24 (by decide) rfl ?_
  obtain ⟨w9, ew9, h⟩ := ob h
  refine g_sub (Ln := [(0, .ref (E.2.1 62)), (1, .int v1), (2, .int v2), (3, .int 1), (4, .int 0)]) [2, 3, 4, 1, 0] rfl ?_
  refine wlX9_isTold_26 F B hE v1 v2 J _ ew9 ?_
  refine g_iload_n F 0 dX9_isTold_102 rfl rfl ?_
  obtain ⟨u10, eu10, h⟩ := ob h
  obtain ⟨nu10, rfl⟩ := bO_some eu10
  obtain rfl := Option.some.inj h
  exact g_zret F nu10 e dX9_isTold_103 ⟨rfl, rfl, rfl⟩
theorem DX9_tells_0 : dAre cX9_tells [(0, .aload_n 0, 1), (1, .iload_n 1, 1), (2, .invokevirtual 342, 3), (5, .ifCond .eq 11, 3), (8, .aload_n 0, 1), (9, .iload_n 2, 1), (10, .invokevirtual 342, 3), (13, .ifCond .ne 5, 3), (16, .iconst 0, 1), (17, .ireturn, 1), (18, .aload_n 0, 1), (19, .invokevirtual 296, 3), (22, .aload_n 0, 1), (23, .iload_n 1, 1), (24, .iload_n 2, 1), (25, .invokevirtual 372, 3)] := dAre0 (by decide +kernel)
theorem dX9_tells_0 : decode cX9_tells 0 = .ok (.aload_n 0, 1) := DX9_tells_0.1
theorem dX9_tells_1 : decode cX9_tells 1 = .ok (.iload_n 1, 1) := DX9_tells_0.2.1
theorem dX9_tells_2 : decode cX9_tells 2 = .ok (.invokevirtual 342, 3) := DX9_tells_0.2.2.1
theorem dX9_tells_5 : decode cX9_tells 5 = .ok (.ifCond .eq 11, 3) := DX9_tells_0.2.2.2.1
theorem dX9_tells_8 : decode cX9_tells 8 = .ok (.aload_n 0, 1) := DX9_tells_0.2.2.2.2.1
theorem dX9_tells_9 : decode cX9_tells 9 = .ok (.iload_n 2, 1) := DX9_tells_0.2.2.2.2.2.1
theorem dX9_tells_10 : decode cX9_tells 10 = .ok (.invokevirtual 342, 3) := DX9_tells_0.2.2.2.2.2.2.1
theorem dX9_tells_13 : decode cX9_tells 13 = .ok (.ifCond .ne 5, 3) := DX9_tells_0.2.2.2.2.2.2.2.1
theorem dX9_tells_16 : decode cX9_tells 16 = .ok (.iconst 0, 1) := DX9_tells_0.2.2.2.2.2.2.2.2.1
theorem dX9_tells_17 : decode cX9_tells 17 = .ok (.ireturn, 1) := DX9_tells_0.2.2.2.2.2.2.2.2.2.1
theorem dX9_tells_18 : decode cX9_tells 18 = .ok (.aload_n 0, 1) := DX9_tells_0.2.2.2.2.2.2.2.2.2.2.1
theorem dX9_tells_19 : decode cX9_tells 19 = .ok (.invokevirtual 296, 3) := DX9_tells_0.2.2.2.2.2.2.2.2.2.2.2.1
theorem dX9_tells_22 : decode cX9_tells 22 = .ok (.aload_n 0, 1) := DX9_tells_0.2.2.2.2.2.2.2.2.2.2.2.2.1
theorem dX9_tells_23 : decode cX9_tells 23 = .ok (.iload_n 1, 1) := DX9_tells_0.2.2.2.2.2.2.2.2.2.2.2.2.2.1
theorem dX9_tells_24 : decode cX9_tells 24 = .ok (.iload_n 2, 1) := DX9_tells_0.2.2.2.2.2.2.2.2.2.2.2.2.2.2.1
theorem dX9_tells_25 : decode cX9_tells 25 = .ok (.invokevirtual 372, 3) := DX9_tells_0.2.2.2.2.2.2.2.2.2.2.2.2.2.2.2.1
theorem dX9_tells_28 : decode cX9_tells 28 = .ok (.ireturn, 1) := by decide +kernel
theorem mX9_tells : gMv yX9_tells cX9_tells 3 (some .boolean) RX9 2 := ⟨q1225, q1226, q10, q1227, rfl, by decide, by decide, by decide +kernel⟩
noncomputable def fX9_tells (v1 : Int32) (v2 : Int32) (I : gM) : Option (Int32 × gM) :=
  (fX9_isAsked v1 I).bind fun r1 =>
  if r1 = 0 then
    some ((0 : Int32), I)
  else
    (fX9_isAsked v2 I).bind fun r2 =>
    if r2 = 0 then
      some ((0 : Int32), I)
    else
      (fX9_joinsNow I).bind fun r3 =>
      (fX9_isTold v1 v2 r3).bind fun r4 =>
      (bO r4.1).bind fun u5 =>
      some (u5, r4.2)
set_option maxRecDepth 100000 in
set_option maxHeartbeats 4000000 in
theorem wX9_tells (l : Launch) (E : gE) (hE : gDist sh E) (bk : Nat) (v1 : Int32) (v2 : Int32) (I : gM) (J : gN) {r : Int32 × gM} (h : fX9_tells v1 v2 I = some r) : Cu l sh E bk yX9_tells cX9_tells 3 (some .boolean) (gR 13) [.ref (E.2.1 62), .int v1, .int v2] I J (fun r1 I1 J1 => r1 = some (.int r.1) ∧ I1 = r.2 ∧ J1 = J) := by
  refine Cu.of "LeapJoinModel" rfl hE (by decide) (Nat.le_of_ble_eq_true rfl) (fun z F B e hl => ?_)
  subst hl
  unfold fX9_tells at h
  refine g_aload_n F 0 dX9_tells_0 rfl rfl ?_
  refine g_iload_n F 1 dX9_tells_1 rfl rfl ?_
  refine u_callV (k := 62) (As := [.int v1]) (rest := []) (sn := fun r1 => [.int r1]) F B (fun _ => wX9_isAsked (zl z) E hE bk v1 I J) mX9_isAsked q1167 rfl s62 rfl rfl rfl (Nat.le_of_ble_eq_true rfl) dX9_tells_2 (fun _ => rfl) h (fun r1 h => ?_)
  refine u_if_eq (tgt := 16) F dX9_tells_5 (by decide) h (fun h => ?_) (fun h => ?_)
  · refine g_iconst (v := 0) F dX9_tells_16 (by decide) ?_
    obtain rfl := Option.some.inj h
    exact g_zret F rfl e dX9_tells_17 ⟨rfl, rfl, rfl⟩
  · refine g_aload_n F 0 dX9_tells_8 rfl rfl ?_
    refine g_iload_n F 2 dX9_tells_9 rfl rfl ?_
    refine u_callV (k := 62) (As := [.int v2]) (rest := []) (sn := fun r2 => [.int r2]) F B (fun _ => wX9_isAsked (zl z) E hE bk v2 I J) mX9_isAsked q1167 rfl s62 rfl rfl rfl (Nat.le_of_ble_eq_true rfl) dX9_tells_10 (fun _ => rfl) h (fun r2 h => ?_)
    refine u_if_ne (tgt := 18) F dX9_tells_13 (by decide) h (fun h => ?_) (fun h => ?_)
    · refine g_iconst (v := 0) F dX9_tells_16 (by decide) ?_
      obtain rfl := Option.some.inj h
      exact g_zret F rfl e dX9_tells_17 ⟨rfl, rfl, rfl⟩
    · refine g_aload_n F 0 dX9_tells_18 rfl rfl ?_
      refine u_callV (k := 62) (As := []) (rest := []) (sn := fun _ => []) F B (fun _ => wX9_joinsNow (zl z) E hE bk  I J) mX9_joinsNow q1052 rfl s62 rfl rfl rfl (Nat.le_of_ble_eq_true rfl) dX9_tells_19 (fun _ => rfl) h (fun r3 h => ?_)
      refine g_aload_n F 0 dX9_tells_22 rfl rfl ?_
      refine g_iload_n F 1 dX9_tells_23 rfl rfl ?_
      refine g_iload_n F 2 dX9_tells_24 rfl rfl ?_
      refine u_callV (k := 62) (As := [.int v1, .int v2]) (rest := []) (sn := fun r4 => [.int r4.1]) F B (fun _ => wX9_isTold (zl z) E hE bk v1 v2 r3 J) mX9_isTold q1228 rfl s62 rfl rfl rfl (Nat.le_of_ble_eq_true rfl) dX9_tells_25 (fun _ => rfl) h (fun r4 h => ?_)
      obtain ⟨u5, eu5, h⟩ := ob h
      obtain ⟨nu5, rfl⟩ := bO_some eu5
      obtain rfl := Option.some.inj h
      exact g_zret F nu5 e dX9_tells_28 ⟨rfl, rfl, rfl⟩
theorem DX9_takesFour_0 : dAre cX9_takesFour [(0, .aload_n 0, 1), (1, .getfield 84, 3), (4, .iconst 0, 1), (5, .iload_n 1, 1), (6, .iastore, 1), (7, .aload_n 0, 1), (8, .getfield 84, 3), (11, .iconst 1, 1), (12, .iload_n 2, 1), (13, .iastore, 1), (14, .aload_n 0, 1), (15, .getfield 84, 3), (18, .iconst 2, 1), (19, .iload_n 3, 1), (20, .iastore, 1), (21, .aload_n 0, 1)] := dAre0 (by decide +kernel)
theorem dX9_takesFour_0 : decode cX9_takesFour 0 = .ok (.aload_n 0, 1) := DX9_takesFour_0.1
theorem dX9_takesFour_1 : decode cX9_takesFour 1 = .ok (.getfield 84, 3) := DX9_takesFour_0.2.1
theorem dX9_takesFour_4 : decode cX9_takesFour 4 = .ok (.iconst 0, 1) := DX9_takesFour_0.2.2.1
theorem dX9_takesFour_5 : decode cX9_takesFour 5 = .ok (.iload_n 1, 1) := DX9_takesFour_0.2.2.2.1
theorem dX9_takesFour_6 : decode cX9_takesFour 6 = .ok (.iastore, 1) := DX9_takesFour_0.2.2.2.2.1
theorem dX9_takesFour_7 : decode cX9_takesFour 7 = .ok (.aload_n 0, 1) := DX9_takesFour_0.2.2.2.2.2.1
theorem dX9_takesFour_8 : decode cX9_takesFour 8 = .ok (.getfield 84, 3) := DX9_takesFour_0.2.2.2.2.2.2.1
theorem dX9_takesFour_11 : decode cX9_takesFour 11 = .ok (.iconst 1, 1) := DX9_takesFour_0.2.2.2.2.2.2.2.1
theorem dX9_takesFour_12 : decode cX9_takesFour 12 = .ok (.iload_n 2, 1) := DX9_takesFour_0.2.2.2.2.2.2.2.2.1
theorem dX9_takesFour_13 : decode cX9_takesFour 13 = .ok (.iastore, 1) := DX9_takesFour_0.2.2.2.2.2.2.2.2.2.1
theorem dX9_takesFour_14 : decode cX9_takesFour 14 = .ok (.aload_n 0, 1) := DX9_takesFour_0.2.2.2.2.2.2.2.2.2.2.1
theorem dX9_takesFour_15 : decode cX9_takesFour 15 = .ok (.getfield 84, 3) := DX9_takesFour_0.2.2.2.2.2.2.2.2.2.2.2.1
theorem dX9_takesFour_18 : decode cX9_takesFour 18 = .ok (.iconst 2, 1) := DX9_takesFour_0.2.2.2.2.2.2.2.2.2.2.2.2.1
theorem dX9_takesFour_19 : decode cX9_takesFour 19 = .ok (.iload_n 3, 1) := DX9_takesFour_0.2.2.2.2.2.2.2.2.2.2.2.2.2.1
theorem dX9_takesFour_20 : decode cX9_takesFour 20 = .ok (.iastore, 1) := DX9_takesFour_0.2.2.2.2.2.2.2.2.2.2.2.2.2.2.1
theorem dX9_takesFour_21 : decode cX9_takesFour 21 = .ok (.aload_n 0, 1) := DX9_takesFour_0.2.2.2.2.2.2.2.2.2.2.2.2.2.2.2.1
theorem DX9_takesFour_22 : dAre cX9_takesFour [(22, .getfield 84, 3), (25, .iconst 3, 1), (26, .iload 4, 2), (28, .iastore, 1), (29, .return_, 1)] := dAre0 (by decide +kernel)
theorem dX9_takesFour_22 : decode cX9_takesFour 22 = .ok (.getfield 84, 3) := DX9_takesFour_22.1
theorem dX9_takesFour_25 : decode cX9_takesFour 25 = .ok (.iconst 3, 1) := DX9_takesFour_22.2.1
theorem dX9_takesFour_26 : decode cX9_takesFour 26 = .ok (.iload 4, 2) := DX9_takesFour_22.2.2.1
theorem dX9_takesFour_28 : decode cX9_takesFour 28 = .ok (.iastore, 1) := DX9_takesFour_22.2.2.2.1
theorem dX9_takesFour_29 : decode cX9_takesFour 29 = .ok (.return_, 1) := DX9_takesFour_22.2.2.2.2.1
theorem mX9_takesFour : gMv yX9_takesFour cX9_takesFour 5 none RX9 4 := ⟨q1236, q1445, q10, q1237, rfl, by decide, by decide, by decide +kernel⟩
noncomputable def fX9_takesFour (v1 : Int32) (v2 : Int32) (v3 : Int32) (v4 : Int32) (I : gM) : Option (gM) :=
  (wI I 87 4 0 v1).bind fun I1 =>
  (wI I1 87 4 1 v2).bind fun I2 =>
  (wI I2 87 4 2 v3).bind fun I3 =>
  (wI I3 87 4 3 v4).bind fun I4 =>
  some I4
set_option maxRecDepth 100000 in
set_option maxHeartbeats 4000000 in
theorem wX9_takesFour (l : Launch) (E : gE) (hE : gDist sh E) (bk : Nat) (v1 : Int32) (v2 : Int32) (v3 : Int32) (v4 : Int32) (I : gM) (J : gN) {r : gM} (h : fX9_takesFour v1 v2 v3 v4 I = some r) : Cu l sh E bk yX9_takesFour cX9_takesFour 5 none (gR 0) [.ref (E.2.1 62), .int v1, .int v2, .int v3, .int v4] I J (fun r1 I1 J1 => r1 = none ∧ I1 = r ∧ J1 = J) := by
  refine Cu.of "LeapJoinModel" rfl hE (by decide) (Nat.le_of_ble_eq_true rfl) (fun z F B e hl => ?_)
  subst hl
  unfold fX9_takesFour at h
  refine g_aload_n F 0 dX9_takesFour_0 rfl rfl ?_
  refine g_getr (j := 39) (nn := 87) F s62 rfl rfl uX9 (by decide) q860 dX9_takesFour_1 ?_
  refine g_iconst (v := 0) F dX9_takesFour_4 (by decide) ?_
  refine g_iload_n F 1 dX9_takesFour_5 rfl rfl ?_
  refine u_wI F s87 (by decide) dX9_takesFour_6 h (fun I1 h => ?_)
  refine g_aload_n F 0 dX9_takesFour_7 rfl rfl ?_
  refine g_getr (j := 39) (nn := 87) F s62 rfl rfl uX9 (by decide) q860 dX9_takesFour_8 ?_
  refine g_iconst (v := 1) F dX9_takesFour_11 (by decide) ?_
  refine g_iload_n F 2 dX9_takesFour_12 rfl rfl ?_
  refine u_wI F s87 (by decide) dX9_takesFour_13 h (fun I2 h => ?_)
  refine g_aload_n F 0 dX9_takesFour_14 rfl rfl ?_
  refine g_getr (j := 39) (nn := 87) F s62 rfl rfl uX9 (by decide) q860 dX9_takesFour_15 ?_
  refine g_iconst (v := 2) F dX9_takesFour_18 (by decide) ?_
  refine g_iload_n F 3 dX9_takesFour_19 rfl rfl ?_
  refine u_wI F s87 (by decide) dX9_takesFour_20 h (fun I3 h => ?_)
  refine g_aload_n F 0 dX9_takesFour_21 rfl rfl ?_
  refine g_getr (j := 39) (nn := 87) F s62 rfl rfl uX9 (by decide) q860 dX9_takesFour_22 ?_
  refine g_iconst (v := 3) F dX9_takesFour_25 (by decide) ?_
  refine g_iload F 4 dX9_takesFour_26 rfl ?_
  refine u_wI F s87 (by decide) dX9_takesFour_28 h (fun I4 h => ?_)
  obtain rfl := Option.some.inj h
  exact g_vret F e dX9_takesFour_29 ⟨rfl, rfl, rfl⟩
theorem DX9_comparesFour_0 : dAre cX9_comparesFour [(0, .iconst 0, 1), (1, .istore_n 2, 1), (2, .iload_n 2, 1), (3, .aload_n 0, 1), (4, .getfield 217, 3), (7, .if_icmp .ge 52, 3), (10, .aload_n 0, 1), (11, .getfield 43, 3), (14, .iload_n 2, 1), (15, .iaload, 1), (16, .istore_n 3, 1), (17, .aload_n 0, 1), (18, .iload_n 1, 1), (19, .iload_n 3, 1), (20, .invokevirtual 345, 3), (23, .aload_n 0, 1)] := dAre0 (by decide +kernel)
theorem dX9_comparesFour_0 : decode cX9_comparesFour 0 = .ok (.iconst 0, 1) := DX9_comparesFour_0.1
theorem dX9_comparesFour_1 : decode cX9_comparesFour 1 = .ok (.istore_n 2, 1) := DX9_comparesFour_0.2.1
theorem dX9_comparesFour_2 : decode cX9_comparesFour 2 = .ok (.iload_n 2, 1) := DX9_comparesFour_0.2.2.1
theorem dX9_comparesFour_3 : decode cX9_comparesFour 3 = .ok (.aload_n 0, 1) := DX9_comparesFour_0.2.2.2.1
theorem dX9_comparesFour_4 : decode cX9_comparesFour 4 = .ok (.getfield 217, 3) := DX9_comparesFour_0.2.2.2.2.1
theorem dX9_comparesFour_7 : decode cX9_comparesFour 7 = .ok (.if_icmp .ge 52, 3) := DX9_comparesFour_0.2.2.2.2.2.1
theorem dX9_comparesFour_10 : decode cX9_comparesFour 10 = .ok (.aload_n 0, 1) := DX9_comparesFour_0.2.2.2.2.2.2.1
theorem dX9_comparesFour_11 : decode cX9_comparesFour 11 = .ok (.getfield 43, 3) := DX9_comparesFour_0.2.2.2.2.2.2.2.1
theorem dX9_comparesFour_14 : decode cX9_comparesFour 14 = .ok (.iload_n 2, 1) := DX9_comparesFour_0.2.2.2.2.2.2.2.2.1
theorem dX9_comparesFour_15 : decode cX9_comparesFour 15 = .ok (.iaload, 1) := DX9_comparesFour_0.2.2.2.2.2.2.2.2.2.1
theorem dX9_comparesFour_16 : decode cX9_comparesFour 16 = .ok (.istore_n 3, 1) := DX9_comparesFour_0.2.2.2.2.2.2.2.2.2.2.1
theorem dX9_comparesFour_17 : decode cX9_comparesFour 17 = .ok (.aload_n 0, 1) := DX9_comparesFour_0.2.2.2.2.2.2.2.2.2.2.2.1
theorem dX9_comparesFour_18 : decode cX9_comparesFour 18 = .ok (.iload_n 1, 1) := DX9_comparesFour_0.2.2.2.2.2.2.2.2.2.2.2.2.1
theorem dX9_comparesFour_19 : decode cX9_comparesFour 19 = .ok (.iload_n 3, 1) := DX9_comparesFour_0.2.2.2.2.2.2.2.2.2.2.2.2.2.1
theorem dX9_comparesFour_20 : decode cX9_comparesFour 20 = .ok (.invokevirtual 345, 3) := DX9_comparesFour_0.2.2.2.2.2.2.2.2.2.2.2.2.2.2.1
theorem dX9_comparesFour_23 : decode cX9_comparesFour 23 = .ok (.aload_n 0, 1) := DX9_comparesFour_0.2.2.2.2.2.2.2.2.2.2.2.2.2.2.2.1
theorem DX9_comparesFour_24 : dAre cX9_comparesFour [(24, .getfield 84, 3), (27, .iload_n 3, 1), (28, .iaload, 1), (29, .if_icmp .eq 24, 3), (32, .aload_n 0, 1), (33, .iload_n 1, 1), (34, .iload_n 3, 1), (35, .invokevirtual 345, 3), (38, .aload_n 0, 1), (39, .getfield 84, 3), (42, .iload_n 3, 1), (43, .iaload, 1), (44, .if_icmp .ge 7, 3), (47, .iconst (-1), 1), (48, .goto 4, 3), (51, .iconst 1, 1)] := dAre0 (by decide +kernel)
theorem dX9_comparesFour_24 : decode cX9_comparesFour 24 = .ok (.getfield 84, 3) := DX9_comparesFour_24.1
theorem dX9_comparesFour_27 : decode cX9_comparesFour 27 = .ok (.iload_n 3, 1) := DX9_comparesFour_24.2.1
theorem dX9_comparesFour_28 : decode cX9_comparesFour 28 = .ok (.iaload, 1) := DX9_comparesFour_24.2.2.1
theorem dX9_comparesFour_29 : decode cX9_comparesFour 29 = .ok (.if_icmp .eq 24, 3) := DX9_comparesFour_24.2.2.2.1
theorem dX9_comparesFour_32 : decode cX9_comparesFour 32 = .ok (.aload_n 0, 1) := DX9_comparesFour_24.2.2.2.2.1
theorem dX9_comparesFour_33 : decode cX9_comparesFour 33 = .ok (.iload_n 1, 1) := DX9_comparesFour_24.2.2.2.2.2.1
theorem dX9_comparesFour_34 : decode cX9_comparesFour 34 = .ok (.iload_n 3, 1) := DX9_comparesFour_24.2.2.2.2.2.2.1
theorem dX9_comparesFour_35 : decode cX9_comparesFour 35 = .ok (.invokevirtual 345, 3) := DX9_comparesFour_24.2.2.2.2.2.2.2.1
theorem dX9_comparesFour_38 : decode cX9_comparesFour 38 = .ok (.aload_n 0, 1) := DX9_comparesFour_24.2.2.2.2.2.2.2.2.1
theorem dX9_comparesFour_39 : decode cX9_comparesFour 39 = .ok (.getfield 84, 3) := DX9_comparesFour_24.2.2.2.2.2.2.2.2.2.1
theorem dX9_comparesFour_42 : decode cX9_comparesFour 42 = .ok (.iload_n 3, 1) := DX9_comparesFour_24.2.2.2.2.2.2.2.2.2.2.1
theorem dX9_comparesFour_43 : decode cX9_comparesFour 43 = .ok (.iaload, 1) := DX9_comparesFour_24.2.2.2.2.2.2.2.2.2.2.2.1
theorem dX9_comparesFour_44 : decode cX9_comparesFour 44 = .ok (.if_icmp .ge 7, 3) := DX9_comparesFour_24.2.2.2.2.2.2.2.2.2.2.2.2.1
theorem dX9_comparesFour_47 : decode cX9_comparesFour 47 = .ok (.iconst (-1), 1) := DX9_comparesFour_24.2.2.2.2.2.2.2.2.2.2.2.2.2.1
theorem dX9_comparesFour_48 : decode cX9_comparesFour 48 = .ok (.goto 4, 3) := DX9_comparesFour_24.2.2.2.2.2.2.2.2.2.2.2.2.2.2.1
theorem dX9_comparesFour_51 : decode cX9_comparesFour 51 = .ok (.iconst 1, 1) := DX9_comparesFour_24.2.2.2.2.2.2.2.2.2.2.2.2.2.2.2.1
theorem DX9_comparesFour_52 : dAre cX9_comparesFour [(52, .ireturn, 1), (53, .iinc 2 1, 3), (56, .goto (-54), 3), (59, .iconst 0, 1), (60, .ireturn, 1)] := dAre0 (by decide +kernel)
theorem dX9_comparesFour_52 : decode cX9_comparesFour 52 = .ok (.ireturn, 1) := DX9_comparesFour_52.1
theorem dX9_comparesFour_53 : decode cX9_comparesFour 53 = .ok (.iinc 2 1, 3) := DX9_comparesFour_52.2.1
theorem dX9_comparesFour_56 : decode cX9_comparesFour 56 = .ok (.goto (-54), 3) := DX9_comparesFour_52.2.2.1
theorem dX9_comparesFour_59 : decode cX9_comparesFour 59 = .ok (.iconst 0, 1) := DX9_comparesFour_52.2.2.2.1
theorem dX9_comparesFour_60 : decode cX9_comparesFour 60 = .ok (.ireturn, 1) := DX9_comparesFour_52.2.2.2.2.1
theorem mX9_comparesFour : gMv yX9_comparesFour cX9_comparesFour 4 (some .int) RX9 1 := ⟨q1239, q1446, q10, q1240, rfl, by decide, by decide, by decide +kernel⟩
noncomputable def lX9_comparesFour_2 (v1 : Int32) (I : gM) : Int32 → Option ((Int32) ⊕ (Unit)) :=
  itO fun s =>
    if (I 62 19) ≤ s then
      some (.inr (.inr ()))
    else
      (rI 4 (I 74) s).bind fun u1 =>
      (fX9_numberOf v1 u1 I).bind fun r2 =>
      (rI 4 (I 87) u1).bind fun u3 =>
      if r2 = u3 then
        some (.inl (s + 1))
      else
        some (.inr (.inl u1))
set_option maxRecDepth 100000 in
set_option maxHeartbeats 4000000 in
theorem wlX9_comparesFour_2 {z : gZ} {E : gE} {bk : Nat} (F : Fx z sh E "LeapJoinModel" cX9_comparesFour (gR 1) 4) (B : bZ z bk) (hE : gDist sh E) (v1 : Int32) (I : gM) (J : gN) {r : (Int32) ⊕ (Unit)} : ∀ s : Int32, lX9_comparesFour_2 v1 I s = some r → (∀ x : Int32, r = .inl x → G z 32 [(0, .ref (E.2.1 62)), (1, .int v1), (3, .int x)] [] I J) → (∀ x : Unit, r = .inr x → G z 59 [] [] I J) → G z 2 [(0, .ref (E.2.1 62)), (1, .int v1), (2, .int s)] [] I J := by
  intro s h X0 X1
  unfold lX9_comparesFour_2 at h
  revert s
  refine itO_ind (P := fun s : Int32 => G z 2 [(0, .ref (E.2.1 62)), (1, .int v1), (2, .int s)] [] I J) (fun s y h hl hr => ?_)
  have K2_0 := fun (x : Int32) (q : y = .inr (.inl x)) => X0 x (hr _ q).symm
  have K2_1 := fun (x : Unit) (q : y = .inr (.inr x)) => X1 x (hr _ q).symm
  refine g_iload_n F 2 dX9_comparesFour_2 rfl rfl ?_
  refine g_aload_n F 0 dX9_comparesFour_3 rfl rfl ?_
  refine g_geti (j := 19) (v := I 62 19) F s62 rfl rfl uX9 (by decide) q840 rfl dX9_comparesFour_4 ?_
  refine u_icmp_ge (tgt := 59) F dX9_comparesFour_7 (by decide) h (fun h => ?_) (fun h => ?_)
  · obtain rfl := Option.some.inj h
    refine g_sub (Ln := []) [] rfl ?_
    exact K2_1 () rfl
  · refine g_aload_n F 0 dX9_comparesFour_10 rfl rfl ?_
    refine g_getr (j := 18) (nn := 74) F s62 rfl rfl uX9 (by decide) q839 dX9_comparesFour_11 ?_
    refine g_iload_n F 2 dX9_comparesFour_14 rfl rfl ?_
    refine u_rI F s74 (by decide) dX9_comparesFour_15 h (fun u1 h => ?_)
    refine g_istore_n (Ln := [(3, .int u1), (0, .ref (E.2.1 62)), (1, .int v1), (2, .int s)]) F dX9_comparesFour_16 rfl (by decide) rfl ?_
    refine g_aload_n F 1 dX9_comparesFour_17 rfl rfl ?_
    refine g_iload_n F 2 dX9_comparesFour_18 rfl rfl ?_
    refine g_iload_n F 0 dX9_comparesFour_19 rfl rfl ?_
    refine u_callV (k := 62) (As := [.int v1, .int u1]) (rest := []) (sn := fun r2 => [.int r2]) F B (fun _ => wX9_numberOf (zl z) E hE bk v1 u1 I J) mX9_numberOf q1170 rfl s62 rfl rfl rfl (Nat.le_of_ble_eq_true rfl) dX9_comparesFour_20 (fun _ => rfl) h (fun r2 h => ?_)
    refine g_aload_n F 1 dX9_comparesFour_23 rfl rfl ?_
    refine g_getr (j := 39) (nn := 87) F s62 rfl rfl uX9 (by decide) q860 dX9_comparesFour_24 ?_
    refine g_iload_n F 0 dX9_comparesFour_27 rfl rfl ?_
    refine u_rI F s87 (by decide) dX9_comparesFour_28 h (fun u3 h => ?_)
    refine u_icmp_eq (tgt := 53) F dX9_comparesFour_29 (by decide) h (fun h => ?_) (fun h => ?_)
    · refine g_iinc (v := s + 1) (Ln := [(2, .int (s + 1)), (3, .int u1), (0, .ref (E.2.1 62)), (1, .int v1)]) F 3 dX9_comparesFour_53 rfl (add_c (by decide)) (by decide) rfl ?_
      refine g_goto (tgt := 2) F dX9_comparesFour_56 (by decide) ?_
      obtain rfl := Option.some.inj h
      refine g_sub (Ln := [(0, .ref (E.2.1 62)), (1, .int v1), (2, .int (s + 1))]) [2, 3, 0] rfl ?_
      exact hl (s + 1) rfl
    · obtain rfl := Option.some.inj h
      refine g_sub (Ln := [(0, .ref (E.2.1 62)), (1, .int v1), (3, .int u1)]) [1, 2, 0] rfl ?_
      exact K2_0 u1 rfl
noncomputable def fX9_comparesFour (v1 : Int32) (I : gM) : Option (Int32) :=
  (lX9_comparesFour_2 v1 I (0 : Int32)).bind fun w4 =>
  Sum.elim (fun w4_0 =>
    (fX9_numberOf v1 w4_0 I).bind fun r5 =>
    (rI 4 (I 87) w4_0).bind fun u6 =>
    if u6 ≤ r5 then
      some (1 : Int32)
    else
      some ((-1) : Int32))
  (fun w4_1 =>
    some (0 : Int32)) w4
set_option maxRecDepth 100000 in
set_option maxHeartbeats 4000000 in
theorem wX9_comparesFour (l : Launch) (E : gE) (hE : gDist sh E) (bk : Nat) (v1 : Int32) (I : gM) (J : gN) {r : Int32} (h : fX9_comparesFour v1 I = some r) : Cu l sh E bk yX9_comparesFour cX9_comparesFour 4 (some .int) (gR 1) [.ref (E.2.1 62), .int v1] I J (fun r1 I1 J1 => r1 = some (.int r) ∧ I1 = I ∧ J1 = J) := by
  refine Cu.of "LeapJoinModel" rfl hE (by decide) (Nat.le_of_ble_eq_true rfl) (fun z F B e hl => ?_)
  subst hl
  unfold fX9_comparesFour at h
  refine g_iconst (v := 0) F dX9_comparesFour_0 (by decide) ?_
  refine g_istore_n (Ln := [(2, .int 0), (0, .ref (E.2.1 62)), (1, .int v1)]) F dX9_comparesFour_1 rfl (by decide) rfl ?_
  obtain ⟨w4, ew4, h⟩ := ob h
  refine g_sub (Ln := [(0, .ref (E.2.1 62)), (1, .int v1), (2, .int 0)]) [1, 2, 0] rfl ?_
  refine wlX9_comparesFour_2 F B hE v1 I J _ ew4 (fun w4_0 q => ?_) (fun w4_1 q => ?_)
  · subst q
    replace h := oE1 h
    refine g_aload_n F 0 dX9_comparesFour_32 rfl rfl ?_
    refine g_iload_n F 1 dX9_comparesFour_33 rfl rfl ?_
    refine g_iload_n F 2 dX9_comparesFour_34 rfl rfl ?_
    refine u_callV (k := 62) (As := [.int v1, .int w4_0]) (rest := []) (sn := fun r5 => [.int r5]) F B (fun _ => wX9_numberOf (zl z) E hE bk v1 w4_0 I J) mX9_numberOf q1170 rfl s62 rfl rfl rfl (Nat.le_of_ble_eq_true rfl) dX9_comparesFour_35 (fun _ => rfl) h (fun r5 h => ?_)
    refine g_aload_n F 0 dX9_comparesFour_38 rfl rfl ?_
    refine g_getr (j := 39) (nn := 87) F s62 rfl rfl uX9 (by decide) q860 dX9_comparesFour_39 ?_
    refine g_iload_n F 2 dX9_comparesFour_42 rfl rfl ?_
    refine u_rI F s87 (by decide) dX9_comparesFour_43 h (fun u6 h => ?_)
    refine u_icmp_ge (tgt := 51) F dX9_comparesFour_44 (by decide) h (fun h => ?_) (fun h => ?_)
    · refine g_iconst (v := 1) F dX9_comparesFour_51 (by decide) ?_
      obtain rfl := Option.some.inj h
      exact g_iret F e dX9_comparesFour_52 ⟨rfl, rfl, rfl⟩
    · refine g_iconst (v := (-1)) F dX9_comparesFour_47 (by decide) ?_
      refine g_goto (tgt := 52) F dX9_comparesFour_48 (by decide) ?_
      obtain rfl := Option.some.inj h
      exact g_iret F e dX9_comparesFour_52 ⟨rfl, rfl, rfl⟩
  · subst q
    replace h := oE2 h
    refine g_iconst (v := 0) F dX9_comparesFour_59 (by decide) ?_
    obtain rfl := Option.some.inj h
    exact g_iret F e dX9_comparesFour_60 ⟨rfl, rfl, rfl⟩
theorem DX9_behind_0 : dAre cX9_behind [(0, .aload_n 0, 1), (1, .invokevirtual 277, 3), (4, .ifCond .ne 5, 3), (7, .iconst (-1), 1), (8, .ireturn, 1), (9, .aload_n 0, 1), (10, .iload_n 1, 1), (11, .iload_n 2, 1), (12, .iload_n 3, 1), (13, .iload 4, 2), (15, .invokevirtual 375, 3), (18, .aload_n 0, 1), (19, .invokevirtual 296, 3), (22, .iconst 0, 1), (23, .istore 5, 2), (25, .iload 5, 2)] := dAre0 (by decide +kernel)
theorem dX9_behind_0 : decode cX9_behind 0 = .ok (.aload_n 0, 1) := DX9_behind_0.1
theorem dX9_behind_1 : decode cX9_behind 1 = .ok (.invokevirtual 277, 3) := DX9_behind_0.2.1
theorem dX9_behind_4 : decode cX9_behind 4 = .ok (.ifCond .ne 5, 3) := DX9_behind_0.2.2.1
theorem dX9_behind_7 : decode cX9_behind 7 = .ok (.iconst (-1), 1) := DX9_behind_0.2.2.2.1
theorem dX9_behind_8 : decode cX9_behind 8 = .ok (.ireturn, 1) := DX9_behind_0.2.2.2.2.1
theorem dX9_behind_9 : decode cX9_behind 9 = .ok (.aload_n 0, 1) := DX9_behind_0.2.2.2.2.2.1
theorem dX9_behind_10 : decode cX9_behind 10 = .ok (.iload_n 1, 1) := DX9_behind_0.2.2.2.2.2.2.1
theorem dX9_behind_11 : decode cX9_behind 11 = .ok (.iload_n 2, 1) := DX9_behind_0.2.2.2.2.2.2.2.1
theorem dX9_behind_12 : decode cX9_behind 12 = .ok (.iload_n 3, 1) := DX9_behind_0.2.2.2.2.2.2.2.2.1
theorem dX9_behind_13 : decode cX9_behind 13 = .ok (.iload 4, 2) := DX9_behind_0.2.2.2.2.2.2.2.2.2.1
theorem dX9_behind_15 : decode cX9_behind 15 = .ok (.invokevirtual 375, 3) := DX9_behind_0.2.2.2.2.2.2.2.2.2.2.1
theorem dX9_behind_18 : decode cX9_behind 18 = .ok (.aload_n 0, 1) := DX9_behind_0.2.2.2.2.2.2.2.2.2.2.2.1
theorem dX9_behind_19 : decode cX9_behind 19 = .ok (.invokevirtual 296, 3) := DX9_behind_0.2.2.2.2.2.2.2.2.2.2.2.2.1
theorem dX9_behind_22 : decode cX9_behind 22 = .ok (.iconst 0, 1) := DX9_behind_0.2.2.2.2.2.2.2.2.2.2.2.2.2.1
theorem dX9_behind_23 : decode cX9_behind 23 = .ok (.istore 5, 2) := DX9_behind_0.2.2.2.2.2.2.2.2.2.2.2.2.2.2.1
theorem dX9_behind_25 : decode cX9_behind 25 = .ok (.iload 5, 2) := DX9_behind_0.2.2.2.2.2.2.2.2.2.2.2.2.2.2.2.1
theorem DX9_behind_27 : dAre cX9_behind [(27, .aload_n 0, 1), (28, .getfield 247, 3), (31, .if_icmp .ge 21, 3), (34, .aload_n 0, 1), (35, .iload 5, 2), (37, .invokevirtual 379, 3), (40, .ifCond .le 6, 3), (43, .iload 5, 2), (45, .ireturn, 1), (46, .iinc 5 1, 3), (49, .goto (-24), 3), (52, .iconst (-1), 1), (53, .ireturn, 1)] := dAre0 (by decide +kernel)
theorem dX9_behind_27 : decode cX9_behind 27 = .ok (.aload_n 0, 1) := DX9_behind_27.1
theorem dX9_behind_28 : decode cX9_behind 28 = .ok (.getfield 247, 3) := DX9_behind_27.2.1
theorem dX9_behind_31 : decode cX9_behind 31 = .ok (.if_icmp .ge 21, 3) := DX9_behind_27.2.2.1
theorem dX9_behind_34 : decode cX9_behind 34 = .ok (.aload_n 0, 1) := DX9_behind_27.2.2.2.1
theorem dX9_behind_35 : decode cX9_behind 35 = .ok (.iload 5, 2) := DX9_behind_27.2.2.2.2.1
theorem dX9_behind_37 : decode cX9_behind 37 = .ok (.invokevirtual 379, 3) := DX9_behind_27.2.2.2.2.2.1
theorem dX9_behind_40 : decode cX9_behind 40 = .ok (.ifCond .le 6, 3) := DX9_behind_27.2.2.2.2.2.2.1
theorem dX9_behind_43 : decode cX9_behind 43 = .ok (.iload 5, 2) := DX9_behind_27.2.2.2.2.2.2.2.1
theorem dX9_behind_45 : decode cX9_behind 45 = .ok (.ireturn, 1) := DX9_behind_27.2.2.2.2.2.2.2.2.1
theorem dX9_behind_46 : decode cX9_behind 46 = .ok (.iinc 5 1, 3) := DX9_behind_27.2.2.2.2.2.2.2.2.2.1
theorem dX9_behind_49 : decode cX9_behind 49 = .ok (.goto (-24), 3) := DX9_behind_27.2.2.2.2.2.2.2.2.2.2.1
theorem dX9_behind_52 : decode cX9_behind 52 = .ok (.iconst (-1), 1) := DX9_behind_27.2.2.2.2.2.2.2.2.2.2.2.1
theorem dX9_behind_53 : decode cX9_behind 53 = .ok (.ireturn, 1) := DX9_behind_27.2.2.2.2.2.2.2.2.2.2.2.2.1
theorem mX9_behind : gMv yX9_behind cX9_behind 6 (some .int) RX9 4 := ⟨q1232, q1233, q10, q1234, rfl, by decide, by decide, by decide +kernel⟩
noncomputable def lX9_behind_25 (I : gM) : Int32 → Option ((Int32) ⊕ (Unit)) :=
  itO fun s =>
    if (I 62 26) ≤ s then
      some (.inr (.inr ()))
    else
      (fX9_comparesFour s I).bind fun r4 =>
      if r4 ≤ 0 then
        some (.inl (s + 1))
      else
        some (.inr (.inl s))
set_option maxRecDepth 100000 in
set_option maxHeartbeats 4000000 in
theorem wlX9_behind_25 {z : gZ} {E : gE} {bk : Nat} (F : Fx z sh E "LeapJoinModel" cX9_behind (gR 13) 6) (B : bZ z bk) (hE : gDist sh E) (I : gM) (J : gN) {r : (Int32) ⊕ (Unit)} : ∀ s : Int32, lX9_behind_25 I s = some r → (∀ x : Int32, r = .inl x → G z 43 [(5, .int x)] [] I J) → (∀ x : Unit, r = .inr x → G z 52 [] [] I J) → G z 25 [(0, .ref (E.2.1 62)), (5, .int s)] [] I J := by
  intro s h X0 X1
  unfold lX9_behind_25 at h
  revert s
  refine itO_ind (P := fun s : Int32 => G z 25 [(0, .ref (E.2.1 62)), (5, .int s)] [] I J) (fun s y h hl hr => ?_)
  have K25_0 := fun (x : Int32) (q : y = .inr (.inl x)) => X0 x (hr _ q).symm
  have K25_1 := fun (x : Unit) (q : y = .inr (.inr x)) => X1 x (hr _ q).symm
  refine g_iload F 1 dX9_behind_25 rfl ?_
  refine g_aload_n F 0 dX9_behind_27 rfl rfl ?_
  refine g_geti (j := 26) (v := I 62 26) F s62 rfl rfl uX9 (by decide) q847 rfl dX9_behind_28 ?_
  refine u_icmp_ge (tgt := 52) F dX9_behind_31 (by decide) h (fun h => ?_) (fun h => ?_)
  · obtain rfl := Option.some.inj h
    refine g_sub (Ln := []) [] rfl ?_
    exact K25_1 () rfl
  · refine g_aload_n F 0 dX9_behind_34 rfl rfl ?_
    refine g_iload F 1 dX9_behind_35 rfl ?_
    refine u_callV (k := 62) (As := [.int s]) (rest := []) (sn := fun r4 => [.int r4]) F B (fun _ => wX9_comparesFour (zl z) E hE bk s I J) mX9_comparesFour q1238 rfl s62 rfl rfl rfl (Nat.le_of_ble_eq_true rfl) dX9_behind_37 (fun _ => rfl) h (fun r4 h => ?_)
    refine u_if_le (tgt := 46) F dX9_behind_40 (by decide) h (fun h => ?_) (fun h => ?_)
    · refine g_iinc (v := s + 1) (Ln := [(5, .int (s + 1)), (0, .ref (E.2.1 62))]) F 1 dX9_behind_46 rfl (add_c (by decide)) (by decide) rfl ?_
      refine g_goto (tgt := 25) F dX9_behind_49 (by decide) ?_
      obtain rfl := Option.some.inj h
      refine g_sub (Ln := [(0, .ref (E.2.1 62)), (5, .int (s + 1))]) [1, 0] rfl ?_
      exact hl (s + 1) rfl
    · obtain rfl := Option.some.inj h
      refine g_sub (Ln := [(5, .int s)]) [1] rfl ?_
      exact K25_0 s rfl
noncomputable def fX9_behind (v1 : Int32) (v2 : Int32) (v3 : Int32) (v4 : Int32) (I : gM) : Option (Int32 × gM) :=
  (fX9_areTables I).bind fun r1 =>
  if r1 = 0 then
    some (((-1) : Int32), I)
  else
    (fX9_takesFour v1 v2 v3 v4 I).bind fun r2 =>
    (fX9_joinsNow r2).bind fun r3 =>
    (lX9_behind_25 r3 (0 : Int32)).bind fun w5 =>
    Sum.elim (fun w5_0 =>
      some (w5_0, r3))
    (fun w5_1 =>
      some (((-1) : Int32), r3)) w5
set_option maxRecDepth 100000 in
set_option maxHeartbeats 4000000 in
theorem wX9_behind (l : Launch) (E : gE) (hE : gDist sh E) (bk : Nat) (v1 : Int32) (v2 : Int32) (v3 : Int32) (v4 : Int32) (I : gM) (J : gN) {r : Int32 × gM} (h : fX9_behind v1 v2 v3 v4 I = some r) : Cu l sh E bk yX9_behind cX9_behind 6 (some .int) (gR 13) [.ref (E.2.1 62), .int v1, .int v2, .int v3, .int v4] I J (fun r1 I1 J1 => r1 = some (.int r.1) ∧ I1 = r.2 ∧ J1 = J) := by
  refine Cu.of "LeapJoinModel" rfl hE (by decide) (Nat.le_of_ble_eq_true rfl) (fun z F B e hl => ?_)
  subst hl
  unfold fX9_behind at h
  refine g_aload_n F 0 dX9_behind_0 rfl rfl ?_
  refine u_callV (k := 62) (As := []) (rest := []) (sn := fun r1 => [.int r1]) F B (fun _ => wX9_areTables (zl z) E hE bk  I J) mX9_areTables q1028 rfl s62 rfl rfl rfl (Nat.le_of_ble_eq_true rfl) dX9_behind_1 (fun _ => rfl) h (fun r1 h => ?_)
  refine u_if_ne (tgt := 9) F dX9_behind_4 (by decide) h (fun h => ?_) (fun h => ?_)
  · refine g_iconst (v := (-1)) F dX9_behind_7 (by decide) ?_
    obtain rfl := Option.some.inj h
    exact g_iret F e dX9_behind_8 ⟨rfl, rfl, rfl⟩
  · refine g_aload_n F 0 dX9_behind_9 rfl rfl ?_
    refine g_iload_n F 1 dX9_behind_10 rfl rfl ?_
    refine g_iload_n F 2 dX9_behind_11 rfl rfl ?_
    refine g_iload_n F 3 dX9_behind_12 rfl rfl ?_
    refine g_iload F 4 dX9_behind_13 rfl ?_
    refine u_callV (k := 62) (As := [.int v1, .int v2, .int v3, .int v4]) (rest := []) (sn := fun _ => []) F B (fun _ => wX9_takesFour (zl z) E hE bk v1 v2 v3 v4 I J) mX9_takesFour q1235 rfl s62 rfl rfl rfl (Nat.le_of_ble_eq_true rfl) dX9_behind_15 (fun _ => rfl) h (fun r2 h => ?_)
    refine g_aload_n F 0 dX9_behind_18 rfl rfl ?_
    refine u_callV (k := 62) (As := []) (rest := []) (sn := fun _ => []) F B (fun _ => wX9_joinsNow (zl z) E hE bk  r2 J) mX9_joinsNow q1052 rfl s62 rfl rfl rfl (Nat.le_of_ble_eq_true rfl) dX9_behind_19 (fun _ => rfl) h (fun r3 h => ?_)
    refine g_iconst (v := 0) F dX9_behind_22 (by decide) ?_
    refine g_istore (Ln := [(5, .int 0), (0, .ref (E.2.1 62)), (1, .int v1), (2, .int v2), (3, .int v3), (4, .int v4)]) F dX9_behind_23 (by decide) rfl ?_
    obtain ⟨w5, ew5, h⟩ := ob h
    refine g_sub (Ln := [(0, .ref (E.2.1 62)), (5, .int 0)]) [1, 0] rfl ?_
    refine wlX9_behind_25 F B hE r3 J _ ew5 (fun w5_0 q => ?_) (fun w5_1 q => ?_)
    · subst q
      replace h := oE1 h
      refine g_iload F 0 dX9_behind_43 rfl ?_
      obtain rfl := Option.some.inj h
      exact g_iret F e dX9_behind_45 ⟨rfl, rfl, rfl⟩
    · subst q
      replace h := oE2 h
      refine g_iconst (v := (-1)) F dX9_behind_52 (by decide) ?_
      obtain rfl := Option.some.inj h
      exact g_iret F e dX9_behind_53 ⟨rfl, rfl, rfl⟩
theorem DX9_has__0 : dAre cX9_has_ [(0, .aload_n 0, 1), (1, .invokevirtual 277, 3), (4, .ifCond .ne 5, 3), (7, .iconst 0, 1), (8, .ireturn, 1), (9, .aload_n 0, 1), (10, .iload_n 1, 1), (11, .iload_n 2, 1), (12, .iload_n 3, 1), (13, .iload 4, 2), (15, .invokevirtual 375, 3), (18, .aload_n 0, 1), (19, .invokevirtual 296, 3), (22, .iconst 0, 1), (23, .istore 5, 2), (25, .iload 5, 2)] := dAre0 (by decide +kernel)
theorem dX9_has__0 : decode cX9_has_ 0 = .ok (.aload_n 0, 1) := DX9_has__0.1
theorem dX9_has__1 : decode cX9_has_ 1 = .ok (.invokevirtual 277, 3) := DX9_has__0.2.1
theorem dX9_has__4 : decode cX9_has_ 4 = .ok (.ifCond .ne 5, 3) := DX9_has__0.2.2.1
theorem dX9_has__7 : decode cX9_has_ 7 = .ok (.iconst 0, 1) := DX9_has__0.2.2.2.1
theorem dX9_has__8 : decode cX9_has_ 8 = .ok (.ireturn, 1) := DX9_has__0.2.2.2.2.1
theorem dX9_has__9 : decode cX9_has_ 9 = .ok (.aload_n 0, 1) := DX9_has__0.2.2.2.2.2.1
theorem dX9_has__10 : decode cX9_has_ 10 = .ok (.iload_n 1, 1) := DX9_has__0.2.2.2.2.2.2.1
theorem dX9_has__11 : decode cX9_has_ 11 = .ok (.iload_n 2, 1) := DX9_has__0.2.2.2.2.2.2.2.1
theorem dX9_has__12 : decode cX9_has_ 12 = .ok (.iload_n 3, 1) := DX9_has__0.2.2.2.2.2.2.2.2.1
theorem dX9_has__13 : decode cX9_has_ 13 = .ok (.iload 4, 2) := DX9_has__0.2.2.2.2.2.2.2.2.2.1
theorem dX9_has__15 : decode cX9_has_ 15 = .ok (.invokevirtual 375, 3) := DX9_has__0.2.2.2.2.2.2.2.2.2.2.1
theorem dX9_has__18 : decode cX9_has_ 18 = .ok (.aload_n 0, 1) := DX9_has__0.2.2.2.2.2.2.2.2.2.2.2.1
theorem dX9_has__19 : decode cX9_has_ 19 = .ok (.invokevirtual 296, 3) := DX9_has__0.2.2.2.2.2.2.2.2.2.2.2.2.1
theorem dX9_has__22 : decode cX9_has_ 22 = .ok (.iconst 0, 1) := DX9_has__0.2.2.2.2.2.2.2.2.2.2.2.2.2.1
theorem dX9_has__23 : decode cX9_has_ 23 = .ok (.istore 5, 2) := DX9_has__0.2.2.2.2.2.2.2.2.2.2.2.2.2.2.1
theorem dX9_has__25 : decode cX9_has_ 25 = .ok (.iload 5, 2) := DX9_has__0.2.2.2.2.2.2.2.2.2.2.2.2.2.2.2.1
theorem DX9_has__27 : dAre cX9_has_ [(27, .aload_n 0, 1), (28, .getfield 247, 3), (31, .if_icmp .ge 20, 3), (34, .aload_n 0, 1), (35, .iload 5, 2), (37, .invokevirtual 379, 3), (40, .ifCond .ne 5, 3), (43, .iconst 1, 1), (44, .ireturn, 1), (45, .iinc 5 1, 3), (48, .goto (-23), 3), (51, .iconst 0, 1), (52, .ireturn, 1)] := dAre0 (by decide +kernel)
theorem dX9_has__27 : decode cX9_has_ 27 = .ok (.aload_n 0, 1) := DX9_has__27.1
theorem dX9_has__28 : decode cX9_has_ 28 = .ok (.getfield 247, 3) := DX9_has__27.2.1
theorem dX9_has__31 : decode cX9_has_ 31 = .ok (.if_icmp .ge 20, 3) := DX9_has__27.2.2.1
theorem dX9_has__34 : decode cX9_has_ 34 = .ok (.aload_n 0, 1) := DX9_has__27.2.2.2.1
theorem dX9_has__35 : decode cX9_has_ 35 = .ok (.iload 5, 2) := DX9_has__27.2.2.2.2.1
theorem dX9_has__37 : decode cX9_has_ 37 = .ok (.invokevirtual 379, 3) := DX9_has__27.2.2.2.2.2.1
theorem dX9_has__40 : decode cX9_has_ 40 = .ok (.ifCond .ne 5, 3) := DX9_has__27.2.2.2.2.2.2.1
theorem dX9_has__43 : decode cX9_has_ 43 = .ok (.iconst 1, 1) := DX9_has__27.2.2.2.2.2.2.2.1
theorem dX9_has__44 : decode cX9_has_ 44 = .ok (.ireturn, 1) := DX9_has__27.2.2.2.2.2.2.2.2.1
theorem dX9_has__45 : decode cX9_has_ 45 = .ok (.iinc 5 1, 3) := DX9_has__27.2.2.2.2.2.2.2.2.2.1
theorem dX9_has__48 : decode cX9_has_ 48 = .ok (.goto (-23), 3) := DX9_has__27.2.2.2.2.2.2.2.2.2.2.1
theorem dX9_has__51 : decode cX9_has_ 51 = .ok (.iconst 0, 1) := DX9_has__27.2.2.2.2.2.2.2.2.2.2.2.1
theorem dX9_has__52 : decode cX9_has_ 52 = .ok (.ireturn, 1) := DX9_has__27.2.2.2.2.2.2.2.2.2.2.2.2.1
theorem mX9_has_ : gMv yX9_has_ cX9_has_ 6 (some .boolean) RX9 4 := ⟨q1242, q1243, q10, q1244, rfl, by decide, by decide, by decide +kernel⟩
noncomputable def lX9_has__25 (I : gM) : Int32 → Option ((Unit) ⊕ (Unit)) :=
  itO fun s =>
    if (I 62 26) ≤ s then
      some (.inr (.inr ()))
    else
      (fX9_comparesFour s I).bind fun r4 =>
      if r4 = 0 then
        some (.inr (.inl ()))
      else
        some (.inl (s + 1))
set_option maxRecDepth 100000 in
set_option maxHeartbeats 4000000 in
theorem wlX9_has__25 {z : gZ} {E : gE} {bk : Nat} (F : Fx z sh E "LeapJoinModel" cX9_has_ (gR 13) 6) (B : bZ z bk) (hE : gDist sh E) (I : gM) (J : gN) {r : (Unit) ⊕ (Unit)} : ∀ s : Int32, lX9_has__25 I s = some r → (∀ x : Unit, r = .inl x → G z 43 [] [] I J) → (∀ x : Unit, r = .inr x → G z 51 [] [] I J) → G z 25 [(0, .ref (E.2.1 62)), (5, .int s)] [] I J := by
  intro s h X0 X1
  unfold lX9_has__25 at h
  revert s
  refine itO_ind (P := fun s : Int32 => G z 25 [(0, .ref (E.2.1 62)), (5, .int s)] [] I J) (fun s y h hl hr => ?_)
  have K25_0 := fun (x : Unit) (q : y = .inr (.inl x)) => X0 x (hr _ q).symm
  have K25_1 := fun (x : Unit) (q : y = .inr (.inr x)) => X1 x (hr _ q).symm
  refine g_iload F 1 dX9_has__25 rfl ?_
  refine g_aload_n F 0 dX9_has__27 rfl rfl ?_
  refine g_geti (j := 26) (v := I 62 26) F s62 rfl rfl uX9 (by decide) q847 rfl dX9_has__28 ?_
  refine u_icmp_ge (tgt := 51) F dX9_has__31 (by decide) h (fun h => ?_) (fun h => ?_)
  · obtain rfl := Option.some.inj h
    refine g_sub (Ln := []) [] rfl ?_
    exact K25_1 () rfl
  · refine g_aload_n F 0 dX9_has__34 rfl rfl ?_
    refine g_iload F 1 dX9_has__35 rfl ?_
    refine u_callV (k := 62) (As := [.int s]) (rest := []) (sn := fun r4 => [.int r4]) F B (fun _ => wX9_comparesFour (zl z) E hE bk s I J) mX9_comparesFour q1238 rfl s62 rfl rfl rfl (Nat.le_of_ble_eq_true rfl) dX9_has__37 (fun _ => rfl) h (fun r4 h => ?_)
    refine u_if_ne (tgt := 45) F dX9_has__40 (by decide) h (fun h => ?_) (fun h => ?_)
    · obtain rfl := Option.some.inj h
      refine g_sub (Ln := []) [] rfl ?_
      exact K25_0 () rfl
    · refine g_iinc (v := s + 1) (Ln := [(5, .int (s + 1)), (0, .ref (E.2.1 62))]) F 1 dX9_has__45 rfl (add_c (by decide)) (by decide) rfl ?_
      refine g_goto (tgt := 25) F dX9_has__48 (by decide) ?_
      obtain rfl := Option.some.inj h
      refine g_sub (Ln := [(0, .ref (E.2.1 62)), (5, .int (s + 1))]) [1, 0] rfl ?_
      exact hl (s + 1) rfl
noncomputable def fX9_has_ (v1 : Int32) (v2 : Int32) (v3 : Int32) (v4 : Int32) (I : gM) : Option (Int32 × gM) :=
  (fX9_areTables I).bind fun r1 =>
  if r1 = 0 then
    some ((0 : Int32), I)
  else
    (fX9_takesFour v1 v2 v3 v4 I).bind fun r2 =>
    (fX9_joinsNow r2).bind fun r3 =>
    (lX9_has__25 r3 (0 : Int32)).bind fun w5 =>
    Sum.elim (fun w5_0 =>
      some ((1 : Int32), r3))
    (fun w5_1 =>
      some ((0 : Int32), r3)) w5
set_option maxRecDepth 100000 in
set_option maxHeartbeats 4000000 in
theorem wX9_has_ (l : Launch) (E : gE) (hE : gDist sh E) (bk : Nat) (v1 : Int32) (v2 : Int32) (v3 : Int32) (v4 : Int32) (I : gM) (J : gN) {r : Int32 × gM} (h : fX9_has_ v1 v2 v3 v4 I = some r) : Cu l sh E bk yX9_has_ cX9_has_ 6 (some .boolean) (gR 13) [.ref (E.2.1 62), .int v1, .int v2, .int v3, .int v4] I J (fun r1 I1 J1 => r1 = some (.int r.1) ∧ I1 = r.2 ∧ J1 = J) := by
  refine Cu.of "LeapJoinModel" rfl hE (by decide) (Nat.le_of_ble_eq_true rfl) (fun z F B e hl => ?_)
  subst hl
  unfold fX9_has_ at h
  refine g_aload_n F 0 dX9_has__0 rfl rfl ?_
  refine u_callV (k := 62) (As := []) (rest := []) (sn := fun r1 => [.int r1]) F B (fun _ => wX9_areTables (zl z) E hE bk  I J) mX9_areTables q1028 rfl s62 rfl rfl rfl (Nat.le_of_ble_eq_true rfl) dX9_has__1 (fun _ => rfl) h (fun r1 h => ?_)
  refine u_if_ne (tgt := 9) F dX9_has__4 (by decide) h (fun h => ?_) (fun h => ?_)
  · refine g_iconst (v := 0) F dX9_has__7 (by decide) ?_
    obtain rfl := Option.some.inj h
    exact g_zret F rfl e dX9_has__8 ⟨rfl, rfl, rfl⟩
  · refine g_aload_n F 0 dX9_has__9 rfl rfl ?_
    refine g_iload_n F 1 dX9_has__10 rfl rfl ?_
    refine g_iload_n F 2 dX9_has__11 rfl rfl ?_
    refine g_iload_n F 3 dX9_has__12 rfl rfl ?_
    refine g_iload F 4 dX9_has__13 rfl ?_
    refine u_callV (k := 62) (As := [.int v1, .int v2, .int v3, .int v4]) (rest := []) (sn := fun _ => []) F B (fun _ => wX9_takesFour (zl z) E hE bk v1 v2 v3 v4 I J) mX9_takesFour q1235 rfl s62 rfl rfl rfl (Nat.le_of_ble_eq_true rfl) dX9_has__15 (fun _ => rfl) h (fun r2 h => ?_)
    refine g_aload_n F 0 dX9_has__18 rfl rfl ?_
    refine u_callV (k := 62) (As := []) (rest := []) (sn := fun _ => []) F B (fun _ => wX9_joinsNow (zl z) E hE bk  r2 J) mX9_joinsNow q1052 rfl s62 rfl rfl rfl (Nat.le_of_ble_eq_true rfl) dX9_has__19 (fun _ => rfl) h (fun r3 h => ?_)
    refine g_iconst (v := 0) F dX9_has__22 (by decide) ?_
    refine g_istore (Ln := [(5, .int 0), (0, .ref (E.2.1 62)), (1, .int v1), (2, .int v2), (3, .int v3), (4, .int v4)]) F dX9_has__23 (by decide) rfl ?_
    obtain ⟨w5, ew5, h⟩ := ob h
    refine g_sub (Ln := [(0, .ref (E.2.1 62)), (5, .int 0)]) [1, 0] rfl ?_
    refine wlX9_has__25 F B hE r3 J _ ew5 (fun w5_0 q => ?_) (fun w5_1 q => ?_)
    · subst q
      replace h := oE1 h
      refine g_iconst (v := 1) F dX9_has__43 (by decide) ?_
      obtain rfl := Option.some.inj h
      exact g_zret F rfl e dX9_has__44 ⟨rfl, rfl, rfl⟩
    · subst q
      replace h := oE2 h
      refine g_iconst (v := 0) F dX9_has__51 (by decide) ?_
      obtain rfl := Option.some.inj h
      exact g_zret F rfl e dX9_has__52 ⟨rfl, rfl, rfl⟩
theorem DX9_hasMean_0 : dAre cX9_hasMean [(0, .aload_n 0, 1), (1, .iload_n 1, 1), (2, .invokevirtual 342, 3), (5, .ifCond .eq 14, 3), (8, .aload_n 0, 1), (9, .invokevirtual 299, 3), (12, .ifCond .le 7, 3), (15, .iconst 1, 1), (16, .goto 4, 3), (19, .iconst 0, 1), (20, .ireturn, 1)] := dAre0 (by decide +kernel)
theorem dX9_hasMean_0 : decode cX9_hasMean 0 = .ok (.aload_n 0, 1) := DX9_hasMean_0.1
theorem dX9_hasMean_1 : decode cX9_hasMean 1 = .ok (.iload_n 1, 1) := DX9_hasMean_0.2.1
theorem dX9_hasMean_2 : decode cX9_hasMean 2 = .ok (.invokevirtual 342, 3) := DX9_hasMean_0.2.2.1
theorem dX9_hasMean_5 : decode cX9_hasMean 5 = .ok (.ifCond .eq 14, 3) := DX9_hasMean_0.2.2.2.1
theorem dX9_hasMean_8 : decode cX9_hasMean 8 = .ok (.aload_n 0, 1) := DX9_hasMean_0.2.2.2.2.1
theorem dX9_hasMean_9 : decode cX9_hasMean 9 = .ok (.invokevirtual 299, 3) := DX9_hasMean_0.2.2.2.2.2.1
theorem dX9_hasMean_12 : decode cX9_hasMean 12 = .ok (.ifCond .le 7, 3) := DX9_hasMean_0.2.2.2.2.2.2.1
theorem dX9_hasMean_15 : decode cX9_hasMean 15 = .ok (.iconst 1, 1) := DX9_hasMean_0.2.2.2.2.2.2.2.1
theorem dX9_hasMean_16 : decode cX9_hasMean 16 = .ok (.goto 4, 3) := DX9_hasMean_0.2.2.2.2.2.2.2.2.1
theorem dX9_hasMean_19 : decode cX9_hasMean 19 = .ok (.iconst 0, 1) := DX9_hasMean_0.2.2.2.2.2.2.2.2.2.1
theorem dX9_hasMean_20 : decode cX9_hasMean 20 = .ok (.ireturn, 1) := DX9_hasMean_0.2.2.2.2.2.2.2.2.2.2.1
theorem mX9_hasMean : gMv yX9_hasMean cX9_hasMean 2 (some .boolean) RX9 1 := ⟨q1250, q1447, q10, q1251, rfl, by decide, by decide, by decide +kernel⟩
noncomputable def fX9_hasMean (v1 : Int32) (I : gM) : Option (Int32 × gM) :=
  (fX9_isAsked v1 I).bind fun r1 =>
  if r1 = 0 then
    some ((0 : Int32), I)
  else
    (fX9_rowsNow I).bind fun r2 =>
    if r2.1 ≤ 0 then
      some ((0 : Int32), r2.2)
    else
      some ((1 : Int32), r2.2)
set_option maxRecDepth 100000 in
set_option maxHeartbeats 4000000 in
theorem wX9_hasMean (l : Launch) (E : gE) (hE : gDist sh E) (bk : Nat) (v1 : Int32) (I : gM) (J : gN) {r : Int32 × gM} (h : fX9_hasMean v1 I = some r) : Cu l sh E bk yX9_hasMean cX9_hasMean 2 (some .boolean) (gR 14) [.ref (E.2.1 62), .int v1] I J (fun r1 I1 J1 => r1 = some (.int r.1) ∧ I1 = r.2 ∧ J1 = J) := by
  refine Cu.of "LeapJoinModel" rfl hE (by decide) (Nat.le_of_ble_eq_true rfl) (fun z F B e hl => ?_)
  subst hl
  unfold fX9_hasMean at h
  refine g_aload_n F 0 dX9_hasMean_0 rfl rfl ?_
  refine g_iload_n F 1 dX9_hasMean_1 rfl rfl ?_
  refine u_callV (k := 62) (As := [.int v1]) (rest := []) (sn := fun r1 => [.int r1]) F B (fun _ => wX9_isAsked (zl z) E hE bk v1 I J) mX9_isAsked q1167 rfl s62 rfl rfl rfl (Nat.le_of_ble_eq_true rfl) dX9_hasMean_2 (fun _ => rfl) h (fun r1 h => ?_)
  refine u_if_eq (tgt := 19) F dX9_hasMean_5 (by decide) h (fun h => ?_) (fun h => ?_)
  · refine g_iconst (v := 0) F dX9_hasMean_19 (by decide) ?_
    obtain rfl := Option.some.inj h
    exact g_zret F rfl e dX9_hasMean_20 ⟨rfl, rfl, rfl⟩
  · refine g_aload_n F 0 dX9_hasMean_8 rfl rfl ?_
    refine u_callV (k := 62) (As := []) (rest := []) (sn := fun r2 => [.int r2.1]) F B (fun _ => wX9_rowsNow (zl z) E hE bk  I J) mX9_rowsNow q1049 rfl s62 rfl rfl rfl (Nat.le_of_ble_eq_true rfl) dX9_hasMean_9 (fun _ => rfl) h (fun r2 h => ?_)
    refine u_if_le (tgt := 19) F dX9_hasMean_12 (by decide) h (fun h => ?_) (fun h => ?_)
    · refine g_iconst (v := 0) F dX9_hasMean_19 (by decide) ?_
      obtain rfl := Option.some.inj h
      exact g_zret F rfl e dX9_hasMean_20 ⟨rfl, rfl, rfl⟩
    · refine g_iconst (v := 1) F dX9_hasMean_15 (by decide) ?_
      refine g_goto (tgt := 20) F dX9_hasMean_16 (by decide) ?_
      obtain rfl := Option.some.inj h
      exact g_zret F rfl e dX9_hasMean_20 ⟨rfl, rfl, rfl⟩
theorem DX9_putAside_0 : dAre cX9_putAside [(0, .iconst 0, 1), (1, .istore_n 1, 1), (2, .iload_n 1, 1), (3, .sipush 150, 3), (6, .if_icmp .ge 21, 3), (9, .aload_n 0, 1), (10, .getfield 87, 3), (13, .iload_n 1, 1), (14, .aload_n 0, 1), (15, .getfield 31, 3), (18, .iload_n 1, 1), (19, .iaload, 1), (20, .iastore, 1), (21, .iinc 1 1, 3), (24, .goto (-22), 3), (27, .return_, 1)] := dAre0 (by decide +kernel)
theorem dX9_putAside_0 : decode cX9_putAside 0 = .ok (.iconst 0, 1) := DX9_putAside_0.1
theorem dX9_putAside_1 : decode cX9_putAside 1 = .ok (.istore_n 1, 1) := DX9_putAside_0.2.1
theorem dX9_putAside_2 : decode cX9_putAside 2 = .ok (.iload_n 1, 1) := DX9_putAside_0.2.2.1
theorem dX9_putAside_3 : decode cX9_putAside 3 = .ok (.sipush 150, 3) := DX9_putAside_0.2.2.2.1
theorem dX9_putAside_6 : decode cX9_putAside 6 = .ok (.if_icmp .ge 21, 3) := DX9_putAside_0.2.2.2.2.1
theorem dX9_putAside_9 : decode cX9_putAside 9 = .ok (.aload_n 0, 1) := DX9_putAside_0.2.2.2.2.2.1
theorem dX9_putAside_10 : decode cX9_putAside 10 = .ok (.getfield 87, 3) := DX9_putAside_0.2.2.2.2.2.2.1
theorem dX9_putAside_13 : decode cX9_putAside 13 = .ok (.iload_n 1, 1) := DX9_putAside_0.2.2.2.2.2.2.2.1
theorem dX9_putAside_14 : decode cX9_putAside 14 = .ok (.aload_n 0, 1) := DX9_putAside_0.2.2.2.2.2.2.2.2.1
theorem dX9_putAside_15 : decode cX9_putAside 15 = .ok (.getfield 31, 3) := DX9_putAside_0.2.2.2.2.2.2.2.2.2.1
theorem dX9_putAside_18 : decode cX9_putAside 18 = .ok (.iload_n 1, 1) := DX9_putAside_0.2.2.2.2.2.2.2.2.2.2.1
theorem dX9_putAside_19 : decode cX9_putAside 19 = .ok (.iaload, 1) := DX9_putAside_0.2.2.2.2.2.2.2.2.2.2.2.1
theorem dX9_putAside_20 : decode cX9_putAside 20 = .ok (.iastore, 1) := DX9_putAside_0.2.2.2.2.2.2.2.2.2.2.2.2.1
theorem dX9_putAside_21 : decode cX9_putAside 21 = .ok (.iinc 1 1, 3) := DX9_putAside_0.2.2.2.2.2.2.2.2.2.2.2.2.2.1
theorem dX9_putAside_24 : decode cX9_putAside 24 = .ok (.goto (-22), 3) := DX9_putAside_0.2.2.2.2.2.2.2.2.2.2.2.2.2.2.1
theorem dX9_putAside_27 : decode cX9_putAside 27 = .ok (.return_, 1) := DX9_putAside_0.2.2.2.2.2.2.2.2.2.2.2.2.2.2.2.1
theorem mX9_putAside : gMv yX9_putAside cX9_putAside 2 none RX9 0 := ⟨q1291, q1449, q10, q1292, rfl, by decide, by decide, by decide +kernel⟩
noncomputable def lX9_putAside_2 : (Int32 × gM) → Option (gM) :=
  itO fun s =>
    if (150 : Int32) ≤ s.1 then
      some (.inr s.2)
    else
      (rI 331 (s.2 70) s.1).bind fun u1 =>
      (wI s.2 88 150 s.1 u1).bind fun I2 =>
      some (.inl (s.1 + 1, I2))
set_option maxRecDepth 100000 in
set_option maxHeartbeats 4000000 in
theorem wlX9_putAside_2 {z : gZ} {E : gE} {bk : Nat} (F : Fx z sh E "LeapJoinModel" cX9_putAside (gR 0) 2) (B : bZ z bk) (hE : gDist sh E) (J : gN) {r : gM} : ∀ s : Int32 × gM, lX9_putAside_2 s = some r → (G z 27 [] [] r J) → G z 2 [(0, .ref (E.2.1 62)), (1, .int s.1)] [] s.2 J := by
  intro s h X0
  unfold lX9_putAside_2 at h
  revert s
  refine itO_ind (P := fun s : Int32 × gM => G z 2 [(0, .ref (E.2.1 62)), (1, .int s.1)] [] s.2 J) (fun s y h hl hr => ?_)
  have K2_0 : ∀ x : gM, y = .inr x → (G z 27 [] [] x J) := fun x q => by have q2 := hr _ q; subst q2; exact X0
  refine g_iload_n F 1 dX9_putAside_2 rfl rfl ?_
  refine g_sipush (v := 150) F dX9_putAside_3 (by decide) ?_
  refine u_icmp_ge (tgt := 27) F dX9_putAside_6 (by decide) h (fun h => ?_) (fun h => ?_)
  · obtain rfl := Option.some.inj h
    refine g_sub (Ln := []) [] rfl ?_
    exact K2_0 s.2 rfl
  · refine g_aload_n F 0 dX9_putAside_9 rfl rfl ?_
    refine g_getr (j := 40) (nn := 88) F s62 rfl rfl uX9 (by decide) q861 dX9_putAside_10 ?_
    refine g_iload_n F 1 dX9_putAside_13 rfl rfl ?_
    refine g_aload_n F 0 dX9_putAside_14 rfl rfl ?_
    refine g_getr (j := 13) (nn := 70) F s62 rfl rfl uX9 (by decide) q834 dX9_putAside_15 ?_
    refine g_iload_n F 1 dX9_putAside_18 rfl rfl ?_
    refine u_rI F s70 (by decide) dX9_putAside_19 h (fun u1 h => ?_)
    refine u_wI F s88 (by decide) dX9_putAside_20 h (fun I2 h => ?_)
    refine g_iinc (v := s.1 + 1) (Ln := [(1, .int (s.1 + 1)), (0, .ref (E.2.1 62))]) F 1 dX9_putAside_21 rfl (add_c (by decide)) (by decide) rfl ?_
    refine g_goto (tgt := 2) F dX9_putAside_24 (by decide) ?_
    obtain rfl := Option.some.inj h
    refine g_sub (Ln := [(0, .ref (E.2.1 62)), (1, .int (s.1 + 1))]) [1, 0] rfl ?_
    exact hl (s.1 + 1, I2) rfl
noncomputable def fX9_putAside (I : gM) : Option (gM) :=
  (lX9_putAside_2 ((0 : Int32), I)).bind fun w3 =>
  some w3
set_option maxRecDepth 100000 in
set_option maxHeartbeats 4000000 in
theorem wX9_putAside (l : Launch) (E : gE) (hE : gDist sh E) (bk : Nat) (I : gM) (J : gN) {r : gM} (h : fX9_putAside I = some r) : Cu l sh E bk yX9_putAside cX9_putAside 2 none (gR 0) [.ref (E.2.1 62)] I J (fun r1 I1 J1 => r1 = none ∧ I1 = r ∧ J1 = J) := by
  refine Cu.of "LeapJoinModel" rfl hE (by decide) (Nat.le_of_ble_eq_true rfl) (fun z F B e hl => ?_)
  subst hl
  unfold fX9_putAside at h
  refine g_iconst (v := 0) F dX9_putAside_0 (by decide) ?_
  refine g_istore_n (Ln := [(1, .int 0), (0, .ref (E.2.1 62))]) F dX9_putAside_1 rfl (by decide) rfl ?_
  obtain ⟨w3, ew3, h⟩ := ob h
  refine g_sub (Ln := [(0, .ref (E.2.1 62)), (1, .int 0)]) [1, 0] rfl ?_
  refine wlX9_putAside_2 F B hE J _ ew3 ?_
  obtain rfl := Option.some.inj h
  exact g_vret F e dX9_putAside_27 ⟨rfl, rfl, rfl⟩
theorem DX9_bringBack_0 : dAre cX9_bringBack [(0, .iconst 0, 1), (1, .istore_n 1, 1), (2, .iload_n 1, 1), (3, .sipush 150, 3), (6, .if_icmp .ge 21, 3), (9, .aload_n 0, 1), (10, .getfield 31, 3), (13, .iload_n 1, 1), (14, .aload_n 0, 1), (15, .getfield 87, 3), (18, .iload_n 1, 1), (19, .iaload, 1), (20, .iastore, 1), (21, .iinc 1 1, 3), (24, .goto (-22), 3), (27, .return_, 1)] := dAre0 (by decide +kernel)
theorem dX9_bringBack_0 : decode cX9_bringBack 0 = .ok (.iconst 0, 1) := DX9_bringBack_0.1
theorem dX9_bringBack_1 : decode cX9_bringBack 1 = .ok (.istore_n 1, 1) := DX9_bringBack_0.2.1
theorem dX9_bringBack_2 : decode cX9_bringBack 2 = .ok (.iload_n 1, 1) := DX9_bringBack_0.2.2.1
theorem dX9_bringBack_3 : decode cX9_bringBack 3 = .ok (.sipush 150, 3) := DX9_bringBack_0.2.2.2.1
theorem dX9_bringBack_6 : decode cX9_bringBack 6 = .ok (.if_icmp .ge 21, 3) := DX9_bringBack_0.2.2.2.2.1
theorem dX9_bringBack_9 : decode cX9_bringBack 9 = .ok (.aload_n 0, 1) := DX9_bringBack_0.2.2.2.2.2.1
theorem dX9_bringBack_10 : decode cX9_bringBack 10 = .ok (.getfield 31, 3) := DX9_bringBack_0.2.2.2.2.2.2.1
theorem dX9_bringBack_13 : decode cX9_bringBack 13 = .ok (.iload_n 1, 1) := DX9_bringBack_0.2.2.2.2.2.2.2.1
theorem dX9_bringBack_14 : decode cX9_bringBack 14 = .ok (.aload_n 0, 1) := DX9_bringBack_0.2.2.2.2.2.2.2.2.1
theorem dX9_bringBack_15 : decode cX9_bringBack 15 = .ok (.getfield 87, 3) := DX9_bringBack_0.2.2.2.2.2.2.2.2.2.1
theorem dX9_bringBack_18 : decode cX9_bringBack 18 = .ok (.iload_n 1, 1) := DX9_bringBack_0.2.2.2.2.2.2.2.2.2.2.1
theorem dX9_bringBack_19 : decode cX9_bringBack 19 = .ok (.iaload, 1) := DX9_bringBack_0.2.2.2.2.2.2.2.2.2.2.2.1
theorem dX9_bringBack_20 : decode cX9_bringBack 20 = .ok (.iastore, 1) := DX9_bringBack_0.2.2.2.2.2.2.2.2.2.2.2.2.1
theorem dX9_bringBack_21 : decode cX9_bringBack 21 = .ok (.iinc 1 1, 3) := DX9_bringBack_0.2.2.2.2.2.2.2.2.2.2.2.2.2.1
theorem dX9_bringBack_24 : decode cX9_bringBack 24 = .ok (.goto (-22), 3) := DX9_bringBack_0.2.2.2.2.2.2.2.2.2.2.2.2.2.2.1
theorem dX9_bringBack_27 : decode cX9_bringBack 27 = .ok (.return_, 1) := DX9_bringBack_0.2.2.2.2.2.2.2.2.2.2.2.2.2.2.2.1
theorem mX9_bringBack : gMv yX9_bringBack cX9_bringBack 2 none RX9 0 := ⟨q1294, q1450, q10, q1295, rfl, by decide, by decide, by decide +kernel⟩
noncomputable def lX9_bringBack_2 : (Int32 × gM) → Option (gM) :=
  itO fun s =>
    if (150 : Int32) ≤ s.1 then
      some (.inr s.2)
    else
      (rI 150 (s.2 88) s.1).bind fun u1 =>
      (wI s.2 70 331 s.1 u1).bind fun I2 =>
      some (.inl (s.1 + 1, I2))
set_option maxRecDepth 100000 in
set_option maxHeartbeats 4000000 in
theorem wlX9_bringBack_2 {z : gZ} {E : gE} {bk : Nat} (F : Fx z sh E "LeapJoinModel" cX9_bringBack (gR 0) 2) (B : bZ z bk) (hE : gDist sh E) (J : gN) {r : gM} : ∀ s : Int32 × gM, lX9_bringBack_2 s = some r → (G z 27 [] [] r J) → G z 2 [(0, .ref (E.2.1 62)), (1, .int s.1)] [] s.2 J := by
  intro s h X0
  unfold lX9_bringBack_2 at h
  revert s
  refine itO_ind (P := fun s : Int32 × gM => G z 2 [(0, .ref (E.2.1 62)), (1, .int s.1)] [] s.2 J) (fun s y h hl hr => ?_)
  have K2_0 : ∀ x : gM, y = .inr x → (G z 27 [] [] x J) := fun x q => by have q2 := hr _ q; subst q2; exact X0
  refine g_iload_n F 1 dX9_bringBack_2 rfl rfl ?_
  refine g_sipush (v := 150) F dX9_bringBack_3 (by decide) ?_
  refine u_icmp_ge (tgt := 27) F dX9_bringBack_6 (by decide) h (fun h => ?_) (fun h => ?_)
  · obtain rfl := Option.some.inj h
    refine g_sub (Ln := []) [] rfl ?_
    exact K2_0 s.2 rfl
  · refine g_aload_n F 0 dX9_bringBack_9 rfl rfl ?_
    refine g_getr (j := 13) (nn := 70) F s62 rfl rfl uX9 (by decide) q834 dX9_bringBack_10 ?_
    refine g_iload_n F 1 dX9_bringBack_13 rfl rfl ?_
    refine g_aload_n F 0 dX9_bringBack_14 rfl rfl ?_
    refine g_getr (j := 40) (nn := 88) F s62 rfl rfl uX9 (by decide) q861 dX9_bringBack_15 ?_
    refine g_iload_n F 1 dX9_bringBack_18 rfl rfl ?_
    refine u_rI F s88 (by decide) dX9_bringBack_19 h (fun u1 h => ?_)
    refine u_wI F s70 (by decide) dX9_bringBack_20 h (fun I2 h => ?_)
    refine g_iinc (v := s.1 + 1) (Ln := [(1, .int (s.1 + 1)), (0, .ref (E.2.1 62))]) F 1 dX9_bringBack_21 rfl (add_c (by decide)) (by decide) rfl ?_
    refine g_goto (tgt := 2) F dX9_bringBack_24 (by decide) ?_
    obtain rfl := Option.some.inj h
    refine g_sub (Ln := [(0, .ref (E.2.1 62)), (1, .int (s.1 + 1))]) [1, 0] rfl ?_
    exact hl (s.1 + 1, I2) rfl
noncomputable def fX9_bringBack (I : gM) : Option (gM) :=
  (lX9_bringBack_2 ((0 : Int32), I)).bind fun w3 =>
  some w3
set_option maxRecDepth 100000 in
set_option maxHeartbeats 4000000 in
theorem wX9_bringBack (l : Launch) (E : gE) (hE : gDist sh E) (bk : Nat) (I : gM) (J : gN) {r : gM} (h : fX9_bringBack I = some r) : Cu l sh E bk yX9_bringBack cX9_bringBack 2 none (gR 0) [.ref (E.2.1 62)] I J (fun r1 I1 J1 => r1 = none ∧ I1 = r ∧ J1 = J) := by
  refine Cu.of "LeapJoinModel" rfl hE (by decide) (Nat.le_of_ble_eq_true rfl) (fun z F B e hl => ?_)
  subst hl
  unfold fX9_bringBack at h
  refine g_iconst (v := 0) F dX9_bringBack_0 (by decide) ?_
  refine g_istore_n (Ln := [(1, .int 0), (0, .ref (E.2.1 62))]) F dX9_bringBack_1 rfl (by decide) rfl ?_
  obtain ⟨w3, ew3, h⟩ := ob h
  refine g_sub (Ln := [(0, .ref (E.2.1 62)), (1, .int 0)]) [1, 0] rfl ?_
  refine wlX9_bringBack_2 F B hE J _ ew3 ?_
  obtain rfl := Option.some.inj h
  exact g_vret F e dX9_bringBack_27 ⟨rfl, rfl, rfl⟩
theorem DX9_would_0 : dAre cX9_would [(0, .aload_n 0, 1), (1, .iload_n 1, 1), (2, .iload_n 2, 1), (3, .iload_n 3, 1), (4, .iload 4, 2), (6, .invokevirtual 287, 3), (9, .iconst (-1), 1), (10, .if_icmp .ne 13, 3), (13, .iload 5, 2), (15, .iconst 0, 1), (16, .iconst 1, 1), (17, .invokestatic 104, 3), (20, .ifCond .ne 5, 3), (23, .iconst (-1), 1), (24, .ireturn, 1), (25, .aload_n 0, 1)] := dAre0 (by decide +kernel)
theorem dX9_would_0 : decode cX9_would 0 = .ok (.aload_n 0, 1) := DX9_would_0.1
theorem dX9_would_1 : decode cX9_would 1 = .ok (.iload_n 1, 1) := DX9_would_0.2.1
theorem dX9_would_2 : decode cX9_would 2 = .ok (.iload_n 2, 1) := DX9_would_0.2.2.1
theorem dX9_would_3 : decode cX9_would 3 = .ok (.iload_n 3, 1) := DX9_would_0.2.2.2.1
theorem dX9_would_4 : decode cX9_would 4 = .ok (.iload 4, 2) := DX9_would_0.2.2.2.2.1
theorem dX9_would_6 : decode cX9_would 6 = .ok (.invokevirtual 287, 3) := DX9_would_0.2.2.2.2.2.1
theorem dX9_would_9 : decode cX9_would 9 = .ok (.iconst (-1), 1) := DX9_would_0.2.2.2.2.2.2.1
theorem dX9_would_10 : decode cX9_would 10 = .ok (.if_icmp .ne 13, 3) := DX9_would_0.2.2.2.2.2.2.2.1
theorem dX9_would_13 : decode cX9_would 13 = .ok (.iload 5, 2) := DX9_would_0.2.2.2.2.2.2.2.2.1
theorem dX9_would_15 : decode cX9_would 15 = .ok (.iconst 0, 1) := DX9_would_0.2.2.2.2.2.2.2.2.2.1
theorem dX9_would_16 : decode cX9_would 16 = .ok (.iconst 1, 1) := DX9_would_0.2.2.2.2.2.2.2.2.2.2.1
theorem dX9_would_17 : decode cX9_would 17 = .ok (.invokestatic 104, 3) := DX9_would_0.2.2.2.2.2.2.2.2.2.2.2.1
theorem dX9_would_20 : decode cX9_would 20 = .ok (.ifCond .ne 5, 3) := DX9_would_0.2.2.2.2.2.2.2.2.2.2.2.2.1
theorem dX9_would_23 : decode cX9_would 23 = .ok (.iconst (-1), 1) := DX9_would_0.2.2.2.2.2.2.2.2.2.2.2.2.2.1
theorem dX9_would_24 : decode cX9_would 24 = .ok (.ireturn, 1) := DX9_would_0.2.2.2.2.2.2.2.2.2.2.2.2.2.2.1
theorem dX9_would_25 : decode cX9_would 25 = .ok (.aload_n 0, 1) := DX9_would_0.2.2.2.2.2.2.2.2.2.2.2.2.2.2.2.1
theorem DX9_would_26 : dAre cX9_would [(26, .invokevirtual 403, 3), (29, .aload_n 0, 1), (30, .iload_n 1, 1), (31, .iload_n 2, 1), (32, .iload_n 3, 1), (33, .iload 4, 2), (35, .invokevirtual 201, 3), (38, .pop, 1), (39, .aload_n 0, 1), (40, .invokevirtual 296, 3), (43, .aload_n 0, 1), (44, .invokevirtual 406, 3), (47, .iload 5, 2), (49, .ifCond .ne 10, 3), (52, .aload_n 0, 1), (53, .getfield 247, 3)] := dAre0 (by decide +kernel)
theorem dX9_would_26 : decode cX9_would 26 = .ok (.invokevirtual 403, 3) := DX9_would_26.1
theorem dX9_would_29 : decode cX9_would 29 = .ok (.aload_n 0, 1) := DX9_would_26.2.1
theorem dX9_would_30 : decode cX9_would 30 = .ok (.iload_n 1, 1) := DX9_would_26.2.2.1
theorem dX9_would_31 : decode cX9_would 31 = .ok (.iload_n 2, 1) := DX9_would_26.2.2.2.1
theorem dX9_would_32 : decode cX9_would 32 = .ok (.iload_n 3, 1) := DX9_would_26.2.2.2.2.1
theorem dX9_would_33 : decode cX9_would 33 = .ok (.iload 4, 2) := DX9_would_26.2.2.2.2.2.1
theorem dX9_would_35 : decode cX9_would 35 = .ok (.invokevirtual 201, 3) := DX9_would_26.2.2.2.2.2.2.1
theorem dX9_would_38 : decode cX9_would 38 = .ok (.pop, 1) := DX9_would_26.2.2.2.2.2.2.2.1
theorem dX9_would_39 : decode cX9_would 39 = .ok (.aload_n 0, 1) := DX9_would_26.2.2.2.2.2.2.2.2.1
theorem dX9_would_40 : decode cX9_would 40 = .ok (.invokevirtual 296, 3) := DX9_would_26.2.2.2.2.2.2.2.2.2.1
theorem dX9_would_43 : decode cX9_would 43 = .ok (.aload_n 0, 1) := DX9_would_26.2.2.2.2.2.2.2.2.2.2.1
theorem dX9_would_44 : decode cX9_would 44 = .ok (.invokevirtual 406, 3) := DX9_would_26.2.2.2.2.2.2.2.2.2.2.2.1
theorem dX9_would_47 : decode cX9_would 47 = .ok (.iload 5, 2) := DX9_would_26.2.2.2.2.2.2.2.2.2.2.2.2.1
theorem dX9_would_49 : decode cX9_would 49 = .ok (.ifCond .ne 10, 3) := DX9_would_26.2.2.2.2.2.2.2.2.2.2.2.2.2.1
theorem dX9_would_52 : decode cX9_would 52 = .ok (.aload_n 0, 1) := DX9_would_26.2.2.2.2.2.2.2.2.2.2.2.2.2.2.1
theorem dX9_would_53 : decode cX9_would 53 = .ok (.getfield 247, 3) := DX9_would_26.2.2.2.2.2.2.2.2.2.2.2.2.2.2.2.1
theorem DX9_would_56 : dAre cX9_would [(56, .goto 7, 3), (59, .aload_n 0, 1), (60, .getfield 244, 3), (63, .ireturn, 1)] := dAre0 (by decide +kernel)
theorem dX9_would_56 : decode cX9_would 56 = .ok (.goto 7, 3) := DX9_would_56.1
theorem dX9_would_59 : decode cX9_would 59 = .ok (.aload_n 0, 1) := DX9_would_56.2.1
theorem dX9_would_60 : decode cX9_would 60 = .ok (.getfield 244, 3) := DX9_would_56.2.2.1
theorem dX9_would_63 : decode cX9_would 63 = .ok (.ireturn, 1) := DX9_would_56.2.2.2.1
theorem mX9_would : gMv yX9_would cX9_would 6 (some .int) RX9 5 := ⟨q1287, q1288, q10, q1289, rfl, by decide, by decide, by decide +kernel⟩
noncomputable def fX9_would (v1 : Int32) (v2 : Int32) (v3 : Int32) (v4 : Int32) (v5 : Int32) (I : gM) : Option (Int32 × gM) :=
  (fX9_whyPut v1 v2 v3 v4 I).bind fun r1 =>
  if r1 = (-1) then
    (fX9_in v5 (0 : Int32) (1 : Int32)).bind fun r2 =>
    if r2 = 0 then
      some (((-1) : Int32), I)
    else
      (fX9_putAside I).bind fun r3 =>
      (fX9_putsNow v1 v2 v3 v4 r3).bind fun r4 =>
      (fX9_joinsNow r4.2).bind fun r5 =>
      (fX9_bringBack r5).bind fun r6 =>
      if v5 = 0 then
        some (r6 62 26, r6)
      else
        some (r6 62 27, r6)
  else
    some (((-1) : Int32), I)
set_option maxRecDepth 100000 in
set_option maxHeartbeats 4000000 in
theorem wX9_would (l : Launch) (E : gE) (hE : gDist sh E) (bk : Nat) (v1 : Int32) (v2 : Int32) (v3 : Int32) (v4 : Int32) (v5 : Int32) (I : gM) (J : gN) {r : Int32 × gM} (h : fX9_would v1 v2 v3 v4 v5 I = some r) : Cu l sh E bk yX9_would cX9_would 6 (some .int) (gR 13) [.ref (E.2.1 62), .int v1, .int v2, .int v3, .int v4, .int v5] I J (fun r1 I1 J1 => r1 = some (.int r.1) ∧ I1 = r.2 ∧ J1 = J) := by
  refine Cu.of "LeapJoinModel" rfl hE (by decide) (Nat.le_of_ble_eq_true rfl) (fun z F B e hl => ?_)
  subst hl
  unfold fX9_would at h
  refine g_aload_n F 0 dX9_would_0 rfl rfl ?_
  refine g_iload_n F 1 dX9_would_1 rfl rfl ?_
  refine g_iload_n F 2 dX9_would_2 rfl rfl ?_
  refine g_iload_n F 3 dX9_would_3 rfl rfl ?_
  refine g_iload F 4 dX9_would_4 rfl ?_
  refine u_callV (k := 62) (As := [.int v1, .int v2, .int v3, .int v4]) (rest := []) (sn := fun r1 => [.int r1]) F B (fun _ => wX9_whyPut (zl z) E hE bk v1 v2 v3 v4 I J) mX9_whyPut q1016 rfl s62 rfl rfl rfl (Nat.le_of_ble_eq_true rfl) dX9_would_6 (fun _ => rfl) h (fun r1 h => ?_)
  refine g_iconst (v := (-1)) F dX9_would_9 (by decide) ?_
  refine u_icmp_ne (tgt := 23) F dX9_would_10 (by decide) h (fun h => ?_) (fun h => ?_)
  · refine g_iload F 5 dX9_would_13 rfl ?_
    refine g_iconst (v := 0) F dX9_would_15 (by decide) ?_
    refine g_iconst (v := 1) F dX9_would_16 (by decide) ?_
    refine u_callS (As := [.int v5, .int 0, .int 1]) (rest := []) (sn := fun r2 => [.int r2]) F B (fun _ => wX9_in (zl z) E hE bk v5 (0 : Int32) (1 : Int32) I J) mX9_in q923 rfl rfl rfl (Nat.le_of_ble_eq_true rfl) dX9_would_17 (fun _ => rfl) h (fun r2 h => ?_)
    refine u_if_ne (tgt := 25) F dX9_would_20 (by decide) h (fun h => ?_) (fun h => ?_)
    · refine g_iconst (v := (-1)) F dX9_would_23 (by decide) ?_
      obtain rfl := Option.some.inj h
      exact g_iret F e dX9_would_24 ⟨rfl, rfl, rfl⟩
    · refine g_aload_n F 0 dX9_would_25 rfl rfl ?_
      refine u_callV (k := 62) (As := []) (rest := []) (sn := fun _ => []) F B (fun _ => wX9_putAside (zl z) E hE bk  I J) mX9_putAside q1290 rfl s62 rfl rfl rfl (Nat.le_of_ble_eq_true rfl) dX9_would_26 (fun _ => rfl) h (fun r3 h => ?_)
      refine g_aload_n F 0 dX9_would_29 rfl rfl ?_
      refine g_iload_n F 1 dX9_would_30 rfl rfl ?_
      refine g_iload_n F 2 dX9_would_31 rfl rfl ?_
      refine g_iload_n F 3 dX9_would_32 rfl rfl ?_
      refine g_iload F 4 dX9_would_33 rfl ?_
      refine u_callV (k := 62) (As := [.int v1, .int v2, .int v3, .int v4]) (rest := []) (sn := fun r4 => [.int r4.1]) F B (fun _ => wX9_putsNow (zl z) E hE bk v1 v2 v3 v4 r3 J) mX9_putsNow q1003 rfl s62 rfl rfl rfl (Nat.le_of_ble_eq_true rfl) dX9_would_35 (fun _ => rfl) h (fun r4 h => ?_)
      refine g_pop F dX9_would_38 rfl ?_
      refine g_aload_n F 0 dX9_would_39 rfl rfl ?_
      refine u_callV (k := 62) (As := []) (rest := []) (sn := fun _ => []) F B (fun _ => wX9_joinsNow (zl z) E hE bk  r4.2 J) mX9_joinsNow q1052 rfl s62 rfl rfl rfl (Nat.le_of_ble_eq_true rfl) dX9_would_40 (fun _ => rfl) h (fun r5 h => ?_)
      refine g_aload_n F 0 dX9_would_43 rfl rfl ?_
      refine u_callV (k := 62) (As := []) (rest := []) (sn := fun _ => []) F B (fun _ => wX9_bringBack (zl z) E hE bk  r5 J) mX9_bringBack q1293 rfl s62 rfl rfl rfl (Nat.le_of_ble_eq_true rfl) dX9_would_44 (fun _ => rfl) h (fun r6 h => ?_)
      refine g_iload F 5 dX9_would_47 rfl ?_
      refine u_if_ne (tgt := 59) F dX9_would_49 (by decide) h (fun h => ?_) (fun h => ?_)
      · refine g_aload_n F 0 dX9_would_52 rfl rfl ?_
        refine g_geti (j := 26) (v := r6 62 26) F s62 rfl rfl uX9 (by decide) q847 rfl dX9_would_53 ?_
        refine g_goto (tgt := 63) F dX9_would_56 (by decide) ?_
        obtain rfl := Option.some.inj h
        exact g_iret F e dX9_would_63 ⟨rfl, rfl, rfl⟩
      · refine g_aload_n F 0 dX9_would_59 rfl rfl ?_
        refine g_geti (j := 27) (v := r6 62 27) F s62 rfl rfl uX9 (by decide) q848 rfl dX9_would_60 ?_
        obtain rfl := Option.some.inj h
        exact g_iret F e dX9_would_63 ⟨rfl, rfl, rfl⟩
  · refine g_iconst (v := (-1)) F dX9_would_23 (by decide) ?_
    obtain rfl := Option.some.inj h
    exact g_iret F e dX9_would_24 ⟨rfl, rfl, rfl⟩
theorem DX9_isScript_0 : dAre cX9_isScript [(0, .iload_n 1, 1), (1, .iconst 0, 1), (2, .aload_n 0, 1), (3, .getfield 214, 3), (6, .iconst 1, 1), (7, .isub, 1), (8, .invokestatic 104, 3), (11, .ireturn, 1)] := dAre0 (by decide +kernel)
theorem dX9_isScript_0 : decode cX9_isScript 0 = .ok (.iload_n 1, 1) := DX9_isScript_0.1
theorem dX9_isScript_1 : decode cX9_isScript 1 = .ok (.iconst 0, 1) := DX9_isScript_0.2.1
theorem dX9_isScript_2 : decode cX9_isScript 2 = .ok (.aload_n 0, 1) := DX9_isScript_0.2.2.1
theorem dX9_isScript_3 : decode cX9_isScript 3 = .ok (.getfield 214, 3) := DX9_isScript_0.2.2.2.1
theorem dX9_isScript_6 : decode cX9_isScript 6 = .ok (.iconst 1, 1) := DX9_isScript_0.2.2.2.2.1
theorem dX9_isScript_7 : decode cX9_isScript 7 = .ok (.isub, 1) := DX9_isScript_0.2.2.2.2.2.1
theorem dX9_isScript_8 : decode cX9_isScript 8 = .ok (.invokestatic 104, 3) := DX9_isScript_0.2.2.2.2.2.2.1
theorem dX9_isScript_11 : decode cX9_isScript 11 = .ok (.ireturn, 1) := DX9_isScript_0.2.2.2.2.2.2.2.1
theorem mX9_isScript : gMv yX9_isScript cX9_isScript 2 (some .boolean) RX9 1 := ⟨q1301, q1451, q10, q1302, rfl, by decide, by decide, by decide +kernel⟩
noncomputable def fX9_isScript (v1 : Int32) (I : gM) : Option (Int32) :=
  (fX9_in v1 (0 : Int32) ((I 62 12) - 1)).bind fun r1 =>
  (bO r1).bind fun u2 =>
  some u2
set_option maxRecDepth 100000 in
set_option maxHeartbeats 4000000 in
theorem wX9_isScript (l : Launch) (E : gE) (hE : gDist sh E) (bk : Nat) (v1 : Int32) (I : gM) (J : gN) {r : Int32} (h : fX9_isScript v1 I = some r) : Cu l sh E bk yX9_isScript cX9_isScript 2 (some .boolean) (gR 1) [.ref (E.2.1 62), .int v1] I J (fun r1 I1 J1 => r1 = some (.int r) ∧ I1 = I ∧ J1 = J) := by
  refine Cu.of "LeapJoinModel" rfl hE (by decide) (Nat.le_of_ble_eq_true rfl) (fun z F B e hl => ?_)
  subst hl
  unfold fX9_isScript at h
  refine g_iload_n F 1 dX9_isScript_0 rfl rfl ?_
  refine g_iconst (v := 0) F dX9_isScript_1 (by decide) ?_
  refine g_aload_n F 0 dX9_isScript_2 rfl rfl ?_
  refine g_geti (j := 12) (v := I 62 12) F s62 rfl rfl uX9 (by decide) q833 rfl dX9_isScript_3 ?_
  refine g_iconst (v := 1) F dX9_isScript_6 (by decide) ?_
  refine g_isub (v := (I 62 12) - 1) F dX9_isScript_7 rfl ?_
  refine u_callS (As := [.int v1, .int 0, .int ((I 62 12) - 1)]) (rest := []) (sn := fun r1 => [.int r1]) F B (fun _ => wX9_in (zl z) E hE bk v1 (0 : Int32) ((I 62 12) - 1) I J) mX9_in q923 rfl rfl rfl (Nat.le_of_ble_eq_true rfl) dX9_isScript_8 (fun _ => rfl) h (fun r1 h => ?_)
  obtain ⟨u2, eu2, h⟩ := ob h
  obtain ⟨nu2, rfl⟩ := bO_some eu2
  obtain rfl := Option.some.inj h
  exact g_zret F nu2 e dX9_isScript_11 ⟨rfl, rfl, rfl⟩
theorem DX9_step_0 : dAre cX9_step [(0, .aload_n 0, 1), (1, .iload_n 1, 1), (2, .invokevirtual 409, 3), (5, .ifCond .eq 46, 3), (8, .iload_n 2, 1), (9, .iconst 0, 1), (10, .aload_n 0, 1), (11, .getfield 28, 3), (14, .iload_n 1, 1), (15, .iaload, 1), (16, .iconst 1, 1), (17, .isub, 1), (18, .invokestatic 104, 3), (21, .ifCond .eq 30, 3), (24, .iload_n 3, 1), (25, .iconst 0, 1)] := dAre0 (by decide +kernel)
theorem dX9_step_0 : decode cX9_step 0 = .ok (.aload_n 0, 1) := DX9_step_0.1
theorem dX9_step_1 : decode cX9_step 1 = .ok (.iload_n 1, 1) := DX9_step_0.2.1
theorem dX9_step_2 : decode cX9_step 2 = .ok (.invokevirtual 409, 3) := DX9_step_0.2.2.1
theorem dX9_step_5 : decode cX9_step 5 = .ok (.ifCond .eq 46, 3) := DX9_step_0.2.2.2.1
theorem dX9_step_8 : decode cX9_step 8 = .ok (.iload_n 2, 1) := DX9_step_0.2.2.2.2.1
theorem dX9_step_9 : decode cX9_step 9 = .ok (.iconst 0, 1) := DX9_step_0.2.2.2.2.2.1
theorem dX9_step_10 : decode cX9_step 10 = .ok (.aload_n 0, 1) := DX9_step_0.2.2.2.2.2.2.1
theorem dX9_step_11 : decode cX9_step 11 = .ok (.getfield 28, 3) := DX9_step_0.2.2.2.2.2.2.2.1
theorem dX9_step_14 : decode cX9_step 14 = .ok (.iload_n 1, 1) := DX9_step_0.2.2.2.2.2.2.2.2.1
theorem dX9_step_15 : decode cX9_step 15 = .ok (.iaload, 1) := DX9_step_0.2.2.2.2.2.2.2.2.2.1
theorem dX9_step_16 : decode cX9_step 16 = .ok (.iconst 1, 1) := DX9_step_0.2.2.2.2.2.2.2.2.2.2.1
theorem dX9_step_17 : decode cX9_step 17 = .ok (.isub, 1) := DX9_step_0.2.2.2.2.2.2.2.2.2.2.2.1
theorem dX9_step_18 : decode cX9_step 18 = .ok (.invokestatic 104, 3) := DX9_step_0.2.2.2.2.2.2.2.2.2.2.2.2.1
theorem dX9_step_21 : decode cX9_step 21 = .ok (.ifCond .eq 30, 3) := DX9_step_0.2.2.2.2.2.2.2.2.2.2.2.2.2.1
theorem dX9_step_24 : decode cX9_step 24 = .ok (.iload_n 3, 1) := DX9_step_0.2.2.2.2.2.2.2.2.2.2.2.2.2.2.1
theorem dX9_step_25 : decode cX9_step 25 = .ok (.iconst 0, 1) := DX9_step_0.2.2.2.2.2.2.2.2.2.2.2.2.2.2.2.1
theorem DX9_step_26 : dAre cX9_step [(26, .iconst 4, 1), (27, .invokestatic 104, 3), (30, .ifCond .eq 21, 3), (33, .aload_n 0, 1), (34, .getfield 25, 3), (37, .iconst 5, 1), (38, .bipush 12, 2), (40, .iload_n 1, 1), (41, .imul, 1), (42, .iload_n 2, 1), (43, .iadd, 1), (44, .imul, 1), (45, .iload_n 3, 1), (46, .iadd, 1), (47, .iaload, 1), (48, .goto 6, 3)] := dAre0 (by decide +kernel)
theorem dX9_step_26 : decode cX9_step 26 = .ok (.iconst 4, 1) := DX9_step_26.1
theorem dX9_step_27 : decode cX9_step 27 = .ok (.invokestatic 104, 3) := DX9_step_26.2.1
theorem dX9_step_30 : decode cX9_step 30 = .ok (.ifCond .eq 21, 3) := DX9_step_26.2.2.1
theorem dX9_step_33 : decode cX9_step 33 = .ok (.aload_n 0, 1) := DX9_step_26.2.2.2.1
theorem dX9_step_34 : decode cX9_step 34 = .ok (.getfield 25, 3) := DX9_step_26.2.2.2.2.1
theorem dX9_step_37 : decode cX9_step 37 = .ok (.iconst 5, 1) := DX9_step_26.2.2.2.2.2.1
theorem dX9_step_38 : decode cX9_step 38 = .ok (.bipush 12, 2) := DX9_step_26.2.2.2.2.2.2.1
theorem dX9_step_40 : decode cX9_step 40 = .ok (.iload_n 1, 1) := DX9_step_26.2.2.2.2.2.2.2.1
theorem dX9_step_41 : decode cX9_step 41 = .ok (.imul, 1) := DX9_step_26.2.2.2.2.2.2.2.2.1
theorem dX9_step_42 : decode cX9_step 42 = .ok (.iload_n 2, 1) := DX9_step_26.2.2.2.2.2.2.2.2.2.1
theorem dX9_step_43 : decode cX9_step 43 = .ok (.iadd, 1) := DX9_step_26.2.2.2.2.2.2.2.2.2.2.1
theorem dX9_step_44 : decode cX9_step 44 = .ok (.imul, 1) := DX9_step_26.2.2.2.2.2.2.2.2.2.2.2.1
theorem dX9_step_45 : decode cX9_step 45 = .ok (.iload_n 3, 1) := DX9_step_26.2.2.2.2.2.2.2.2.2.2.2.2.1
theorem dX9_step_46 : decode cX9_step 46 = .ok (.iadd, 1) := DX9_step_26.2.2.2.2.2.2.2.2.2.2.2.2.2.1
theorem dX9_step_47 : decode cX9_step 47 = .ok (.iaload, 1) := DX9_step_26.2.2.2.2.2.2.2.2.2.2.2.2.2.2.1
theorem dX9_step_48 : decode cX9_step 48 = .ok (.goto 6, 3) := DX9_step_26.2.2.2.2.2.2.2.2.2.2.2.2.2.2.2.1
theorem dX9_step_51 : decode cX9_step 51 = .ok (.ldc_w 338, 3) := by decide +kernel
theorem dX9_step_54 : decode cX9_step 54 = .ok (.ireturn, 1) := by decide +kernel
theorem mX9_step : gMv yX9_step cX9_step 4 (some .int) RX9 3 := ⟨q1297, q1298, q10, q1299, rfl, by decide, by decide, by decide +kernel⟩
noncomputable def fX9_step (v1 : Int32) (v2 : Int32) (v3 : Int32) (I : gM) : Option (Int32) :=
  (fX9_isScript v1 I).bind fun r1 =>
  if r1 = 0 then
    some ((-1000000) : Int32)
  else
    (rI 5 (I 69) v1).bind fun u2 =>
    (fX9_in v2 (0 : Int32) (u2 - 1)).bind fun r3 =>
    if r3 = 0 then
      some ((-1000000) : Int32)
    else
      (fX9_in v3 (0 : Int32) (4 : Int32)).bind fun r4 =>
      if r4 = 0 then
        some ((-1000000) : Int32)
      else
        (rI 300 (I 68) (((5 : Int32) * (((12 : Int32) * v1) + v2)) + v3)).bind fun u5 =>
        some u5
set_option maxRecDepth 100000 in
set_option maxHeartbeats 4000000 in
theorem wX9_step (l : Launch) (E : gE) (hE : gDist sh E) (bk : Nat) (v1 : Int32) (v2 : Int32) (v3 : Int32) (I : gM) (J : gN) {r : Int32} (h : fX9_step v1 v2 v3 I = some r) : Cu l sh E bk yX9_step cX9_step 4 (some .int) (gR 2) [.ref (E.2.1 62), .int v1, .int v2, .int v3] I J (fun r1 I1 J1 => r1 = some (.int r) ∧ I1 = I ∧ J1 = J) := by
  refine Cu.of "LeapJoinModel" rfl hE (by decide) (Nat.le_of_ble_eq_true rfl) (fun z F B e hl => ?_)
  subst hl
  unfold fX9_step at h
  refine g_aload_n F 0 dX9_step_0 rfl rfl ?_
  refine g_iload_n F 1 dX9_step_1 rfl rfl ?_
  refine u_callV (k := 62) (As := [.int v1]) (rest := []) (sn := fun r1 => [.int r1]) F B (fun _ => wX9_isScript (zl z) E hE bk v1 I J) mX9_isScript q1300 rfl s62 rfl rfl rfl (Nat.le_of_ble_eq_true rfl) dX9_step_2 (fun _ => rfl) h (fun r1 h => ?_)
  refine u_if_eq (tgt := 51) F dX9_step_5 (by decide) h (fun h => ?_) (fun h => ?_)
  · refine g_ldc_w F dX9_step_51 q1143 ?_
    obtain rfl := Option.some.inj h
    exact g_iret F e dX9_step_54 ⟨rfl, rfl, rfl⟩
  · refine g_iload_n F 2 dX9_step_8 rfl rfl ?_
    refine g_iconst (v := 0) F dX9_step_9 (by decide) ?_
    refine g_aload_n F 0 dX9_step_10 rfl rfl ?_
    refine g_getr (j := 11) (nn := 69) F s62 rfl rfl uX9 (by decide) q832 dX9_step_11 ?_
    refine g_iload_n F 1 dX9_step_14 rfl rfl ?_
    refine u_rI F s69 (by decide) dX9_step_15 h (fun u2 h => ?_)
    refine g_iconst (v := 1) F dX9_step_16 (by decide) ?_
    refine g_isub (v := u2 - 1) F dX9_step_17 rfl ?_
    refine u_callS (As := [.int v2, .int 0, .int (u2 - 1)]) (rest := []) (sn := fun r3 => [.int r3]) F B (fun _ => wX9_in (zl z) E hE bk v2 (0 : Int32) (u2 - 1) I J) mX9_in q923 rfl rfl rfl (Nat.le_of_ble_eq_true rfl) dX9_step_18 (fun _ => rfl) h (fun r3 h => ?_)
    refine u_if_eq (tgt := 51) F dX9_step_21 (by decide) h (fun h => ?_) (fun h => ?_)
    · refine g_ldc_w F dX9_step_51 q1143 ?_
      obtain rfl := Option.some.inj h
      exact g_iret F e dX9_step_54 ⟨rfl, rfl, rfl⟩
    · refine g_iload_n F 3 dX9_step_24 rfl rfl ?_
      refine g_iconst (v := 0) F dX9_step_25 (by decide) ?_
      refine g_iconst (v := 4) F dX9_step_26 (by decide) ?_
      refine u_callS (As := [.int v3, .int 0, .int 4]) (rest := []) (sn := fun r4 => [.int r4]) F B (fun _ => wX9_in (zl z) E hE bk v3 (0 : Int32) (4 : Int32) I J) mX9_in q923 rfl rfl rfl (Nat.le_of_ble_eq_true rfl) dX9_step_27 (fun _ => rfl) h (fun r4 h => ?_)
      refine u_if_eq (tgt := 51) F dX9_step_30 (by decide) h (fun h => ?_) (fun h => ?_)
      · refine g_ldc_w F dX9_step_51 q1143 ?_
        obtain rfl := Option.some.inj h
        exact g_iret F e dX9_step_54 ⟨rfl, rfl, rfl⟩
      · refine g_aload_n F 0 dX9_step_33 rfl rfl ?_
        refine g_getr (j := 10) (nn := 68) F s62 rfl rfl uX9 (by decide) q831 dX9_step_34 ?_
        refine g_iconst (v := 5) F dX9_step_37 (by decide) ?_
        refine g_bipush (v := 12) F dX9_step_38 (by decide) ?_
        refine g_iload_n F 1 dX9_step_40 rfl rfl ?_
        refine g_imul (v := (12 : Int32) * v1) F dX9_step_41 rfl ?_
        refine g_iload_n F 2 dX9_step_42 rfl rfl ?_
        refine g_iadd (v := ((12 : Int32) * v1) + v2) F dX9_step_43 rfl ?_
        refine g_imul (v := (5 : Int32) * (((12 : Int32) * v1) + v2)) F dX9_step_44 rfl ?_
        refine g_iload_n F 3 dX9_step_45 rfl rfl ?_
        refine g_iadd (v := ((5 : Int32) * (((12 : Int32) * v1) + v2)) + v3) F dX9_step_46 rfl ?_
        refine u_rI F s68 (by decide) dX9_step_47 h (fun u5 h => ?_)
        refine g_goto (tgt := 54) F dX9_step_48 (by decide) ?_
        obtain rfl := Option.some.inj h
        exact g_iret F e dX9_step_54 ⟨rfl, rfl, rfl⟩
theorem DX9_goSteps_0 : dAre cX9_goSteps [(0, .iconst 0, 1), (1, .istore_n 3, 1), (2, .iload_n 3, 1), (3, .aload_n 0, 1), (4, .getfield 28, 3), (7, .iload_n 1, 1), (8, .iaload, 1), (9, .if_icmp .ge 175, 3), (12, .iconst 5, 1), (13, .bipush 12, 2), (15, .iload_n 1, 1), (16, .imul, 1), (17, .iload_n 3, 1), (18, .iadd, 1), (19, .imul, 1), (20, .istore 4, 2)] := dAre0 (by decide +kernel)
theorem dX9_goSteps_0 : decode cX9_goSteps 0 = .ok (.iconst 0, 1) := DX9_goSteps_0.1
theorem dX9_goSteps_1 : decode cX9_goSteps 1 = .ok (.istore_n 3, 1) := DX9_goSteps_0.2.1
theorem dX9_goSteps_2 : decode cX9_goSteps 2 = .ok (.iload_n 3, 1) := DX9_goSteps_0.2.2.1
theorem dX9_goSteps_3 : decode cX9_goSteps 3 = .ok (.aload_n 0, 1) := DX9_goSteps_0.2.2.2.1
theorem dX9_goSteps_4 : decode cX9_goSteps 4 = .ok (.getfield 28, 3) := DX9_goSteps_0.2.2.2.2.1
theorem dX9_goSteps_7 : decode cX9_goSteps 7 = .ok (.iload_n 1, 1) := DX9_goSteps_0.2.2.2.2.2.1
theorem dX9_goSteps_8 : decode cX9_goSteps 8 = .ok (.iaload, 1) := DX9_goSteps_0.2.2.2.2.2.2.1
theorem dX9_goSteps_9 : decode cX9_goSteps 9 = .ok (.if_icmp .ge 175, 3) := DX9_goSteps_0.2.2.2.2.2.2.2.1
theorem dX9_goSteps_12 : decode cX9_goSteps 12 = .ok (.iconst 5, 1) := DX9_goSteps_0.2.2.2.2.2.2.2.2.1
theorem dX9_goSteps_13 : decode cX9_goSteps 13 = .ok (.bipush 12, 2) := DX9_goSteps_0.2.2.2.2.2.2.2.2.2.1
theorem dX9_goSteps_15 : decode cX9_goSteps 15 = .ok (.iload_n 1, 1) := DX9_goSteps_0.2.2.2.2.2.2.2.2.2.2.1
theorem dX9_goSteps_16 : decode cX9_goSteps 16 = .ok (.imul, 1) := DX9_goSteps_0.2.2.2.2.2.2.2.2.2.2.2.1
theorem dX9_goSteps_17 : decode cX9_goSteps 17 = .ok (.iload_n 3, 1) := DX9_goSteps_0.2.2.2.2.2.2.2.2.2.2.2.2.1
theorem dX9_goSteps_18 : decode cX9_goSteps 18 = .ok (.iadd, 1) := DX9_goSteps_0.2.2.2.2.2.2.2.2.2.2.2.2.2.1
theorem dX9_goSteps_19 : decode cX9_goSteps 19 = .ok (.imul, 1) := DX9_goSteps_0.2.2.2.2.2.2.2.2.2.2.2.2.2.2.1
theorem dX9_goSteps_20 : decode cX9_goSteps 20 = .ok (.istore 4, 2) := DX9_goSteps_0.2.2.2.2.2.2.2.2.2.2.2.2.2.2.2.1
theorem DX9_goSteps_22 : dAre cX9_goSteps [(22, .aload_n 0, 1), (23, .aload_n 0, 1), (24, .getfield 25, 3), (27, .iload 4, 2), (29, .iaload, 1), (30, .aload_n 0, 1), (31, .getfield 25, 3), (34, .iload 4, 2), (36, .iconst 1, 1), (37, .iadd, 1), (38, .iaload, 1), (39, .aload_n 0, 1), (40, .getfield 25, 3), (43, .iload 4, 2), (45, .iconst 2, 1), (46, .iadd, 1)] := dAre0 (by decide +kernel)
theorem dX9_goSteps_22 : decode cX9_goSteps 22 = .ok (.aload_n 0, 1) := DX9_goSteps_22.1
theorem dX9_goSteps_23 : decode cX9_goSteps 23 = .ok (.aload_n 0, 1) := DX9_goSteps_22.2.1
theorem dX9_goSteps_24 : decode cX9_goSteps 24 = .ok (.getfield 25, 3) := DX9_goSteps_22.2.2.1
theorem dX9_goSteps_27 : decode cX9_goSteps 27 = .ok (.iload 4, 2) := DX9_goSteps_22.2.2.2.1
theorem dX9_goSteps_29 : decode cX9_goSteps 29 = .ok (.iaload, 1) := DX9_goSteps_22.2.2.2.2.1
theorem dX9_goSteps_30 : decode cX9_goSteps 30 = .ok (.aload_n 0, 1) := DX9_goSteps_22.2.2.2.2.2.1
theorem dX9_goSteps_31 : decode cX9_goSteps 31 = .ok (.getfield 25, 3) := DX9_goSteps_22.2.2.2.2.2.2.1
theorem dX9_goSteps_34 : decode cX9_goSteps 34 = .ok (.iload 4, 2) := DX9_goSteps_22.2.2.2.2.2.2.2.1
theorem dX9_goSteps_36 : decode cX9_goSteps 36 = .ok (.iconst 1, 1) := DX9_goSteps_22.2.2.2.2.2.2.2.2.1
theorem dX9_goSteps_37 : decode cX9_goSteps 37 = .ok (.iadd, 1) := DX9_goSteps_22.2.2.2.2.2.2.2.2.2.1
theorem dX9_goSteps_38 : decode cX9_goSteps 38 = .ok (.iaload, 1) := DX9_goSteps_22.2.2.2.2.2.2.2.2.2.2.1
theorem dX9_goSteps_39 : decode cX9_goSteps 39 = .ok (.aload_n 0, 1) := DX9_goSteps_22.2.2.2.2.2.2.2.2.2.2.2.1
theorem dX9_goSteps_40 : decode cX9_goSteps 40 = .ok (.getfield 25, 3) := DX9_goSteps_22.2.2.2.2.2.2.2.2.2.2.2.2.1
theorem dX9_goSteps_43 : decode cX9_goSteps 43 = .ok (.iload 4, 2) := DX9_goSteps_22.2.2.2.2.2.2.2.2.2.2.2.2.2.1
theorem dX9_goSteps_45 : decode cX9_goSteps 45 = .ok (.iconst 2, 1) := DX9_goSteps_22.2.2.2.2.2.2.2.2.2.2.2.2.2.2.1
theorem dX9_goSteps_46 : decode cX9_goSteps 46 = .ok (.iadd, 1) := DX9_goSteps_22.2.2.2.2.2.2.2.2.2.2.2.2.2.2.2.1
theorem DX9_goSteps_47 : dAre cX9_goSteps [(47, .iaload, 1), (48, .aload_n 0, 1), (49, .getfield 25, 3), (52, .iload 4, 2), (54, .iconst 3, 1), (55, .iadd, 1), (56, .iaload, 1), (57, .aload_n 0, 1), (58, .getfield 25, 3), (61, .iload 4, 2), (63, .iconst 4, 1), (64, .iadd, 1), (65, .iaload, 1), (66, .invokevirtual 311, 3), (69, .iconst (-1), 1), (70, .if_icmp .eq 5, 3)] := dAre0 (by decide +kernel)
theorem dX9_goSteps_47 : decode cX9_goSteps 47 = .ok (.iaload, 1) := DX9_goSteps_47.1
theorem dX9_goSteps_48 : decode cX9_goSteps 48 = .ok (.aload_n 0, 1) := DX9_goSteps_47.2.1
theorem dX9_goSteps_49 : decode cX9_goSteps 49 = .ok (.getfield 25, 3) := DX9_goSteps_47.2.2.1
theorem dX9_goSteps_52 : decode cX9_goSteps 52 = .ok (.iload 4, 2) := DX9_goSteps_47.2.2.2.1
theorem dX9_goSteps_54 : decode cX9_goSteps 54 = .ok (.iconst 3, 1) := DX9_goSteps_47.2.2.2.2.1
theorem dX9_goSteps_55 : decode cX9_goSteps 55 = .ok (.iadd, 1) := DX9_goSteps_47.2.2.2.2.2.1
theorem dX9_goSteps_56 : decode cX9_goSteps 56 = .ok (.iaload, 1) := DX9_goSteps_47.2.2.2.2.2.2.1
theorem dX9_goSteps_57 : decode cX9_goSteps 57 = .ok (.aload_n 0, 1) := DX9_goSteps_47.2.2.2.2.2.2.2.1
theorem dX9_goSteps_58 : decode cX9_goSteps 58 = .ok (.getfield 25, 3) := DX9_goSteps_47.2.2.2.2.2.2.2.2.1
theorem dX9_goSteps_61 : decode cX9_goSteps 61 = .ok (.iload 4, 2) := DX9_goSteps_47.2.2.2.2.2.2.2.2.2.1
theorem dX9_goSteps_63 : decode cX9_goSteps 63 = .ok (.iconst 4, 1) := DX9_goSteps_47.2.2.2.2.2.2.2.2.2.2.1
theorem dX9_goSteps_64 : decode cX9_goSteps 64 = .ok (.iadd, 1) := DX9_goSteps_47.2.2.2.2.2.2.2.2.2.2.2.1
theorem dX9_goSteps_65 : decode cX9_goSteps 65 = .ok (.iaload, 1) := DX9_goSteps_47.2.2.2.2.2.2.2.2.2.2.2.2.1
theorem dX9_goSteps_66 : decode cX9_goSteps 66 = .ok (.invokevirtual 311, 3) := DX9_goSteps_47.2.2.2.2.2.2.2.2.2.2.2.2.2.1
theorem dX9_goSteps_69 : decode cX9_goSteps 69 = .ok (.iconst (-1), 1) := DX9_goSteps_47.2.2.2.2.2.2.2.2.2.2.2.2.2.2.1
theorem dX9_goSteps_70 : decode cX9_goSteps 70 = .ok (.if_icmp .eq 5, 3) := DX9_goSteps_47.2.2.2.2.2.2.2.2.2.2.2.2.2.2.2.1
theorem DX9_goSteps_73 : dAre cX9_goSteps [(73, .iload_n 3, 1), (74, .ireturn, 1), (75, .iload_n 2, 1), (76, .ifCond .eq 54, 3), (79, .aload_n 0, 1), (80, .aload_n 0, 1), (81, .getfield 25, 3), (84, .iload 4, 2), (86, .iaload, 1), (87, .aload_n 0, 1), (88, .getfield 25, 3), (91, .iload 4, 2), (93, .iconst 1, 1), (94, .iadd, 1), (95, .iaload, 1), (96, .aload_n 0, 1)] := dAre0 (by decide +kernel)
theorem dX9_goSteps_73 : decode cX9_goSteps 73 = .ok (.iload_n 3, 1) := DX9_goSteps_73.1
theorem dX9_goSteps_74 : decode cX9_goSteps 74 = .ok (.ireturn, 1) := DX9_goSteps_73.2.1
theorem dX9_goSteps_75 : decode cX9_goSteps 75 = .ok (.iload_n 2, 1) := DX9_goSteps_73.2.2.1
theorem dX9_goSteps_76 : decode cX9_goSteps 76 = .ok (.ifCond .eq 54, 3) := DX9_goSteps_73.2.2.2.1
theorem dX9_goSteps_79 : decode cX9_goSteps 79 = .ok (.aload_n 0, 1) := DX9_goSteps_73.2.2.2.2.1
theorem dX9_goSteps_80 : decode cX9_goSteps 80 = .ok (.aload_n 0, 1) := DX9_goSteps_73.2.2.2.2.2.1
theorem dX9_goSteps_81 : decode cX9_goSteps 81 = .ok (.getfield 25, 3) := DX9_goSteps_73.2.2.2.2.2.2.1
theorem dX9_goSteps_84 : decode cX9_goSteps 84 = .ok (.iload 4, 2) := DX9_goSteps_73.2.2.2.2.2.2.2.1
theorem dX9_goSteps_86 : decode cX9_goSteps 86 = .ok (.iaload, 1) := DX9_goSteps_73.2.2.2.2.2.2.2.2.1
theorem dX9_goSteps_87 : decode cX9_goSteps 87 = .ok (.aload_n 0, 1) := DX9_goSteps_73.2.2.2.2.2.2.2.2.2.1
theorem dX9_goSteps_88 : decode cX9_goSteps 88 = .ok (.getfield 25, 3) := DX9_goSteps_73.2.2.2.2.2.2.2.2.2.2.1
theorem dX9_goSteps_91 : decode cX9_goSteps 91 = .ok (.iload 4, 2) := DX9_goSteps_73.2.2.2.2.2.2.2.2.2.2.2.1
theorem dX9_goSteps_93 : decode cX9_goSteps 93 = .ok (.iconst 1, 1) := DX9_goSteps_73.2.2.2.2.2.2.2.2.2.2.2.2.1
theorem dX9_goSteps_94 : decode cX9_goSteps 94 = .ok (.iadd, 1) := DX9_goSteps_73.2.2.2.2.2.2.2.2.2.2.2.2.2.1
theorem dX9_goSteps_95 : decode cX9_goSteps 95 = .ok (.iaload, 1) := DX9_goSteps_73.2.2.2.2.2.2.2.2.2.2.2.2.2.2.1
theorem dX9_goSteps_96 : decode cX9_goSteps 96 = .ok (.aload_n 0, 1) := DX9_goSteps_73.2.2.2.2.2.2.2.2.2.2.2.2.2.2.2.1
theorem DX9_goSteps_97 : dAre cX9_goSteps [(97, .getfield 25, 3), (100, .iload 4, 2), (102, .iconst 2, 1), (103, .iadd, 1), (104, .iaload, 1), (105, .aload_n 0, 1), (106, .getfield 25, 3), (109, .iload 4, 2), (111, .iconst 3, 1), (112, .iadd, 1), (113, .iaload, 1), (114, .aload_n 0, 1), (115, .getfield 25, 3), (118, .iload 4, 2), (120, .iconst 4, 1), (121, .iadd, 1)] := dAre0 (by decide +kernel)
theorem dX9_goSteps_97 : decode cX9_goSteps 97 = .ok (.getfield 25, 3) := DX9_goSteps_97.1
theorem dX9_goSteps_100 : decode cX9_goSteps 100 = .ok (.iload 4, 2) := DX9_goSteps_97.2.1
theorem dX9_goSteps_102 : decode cX9_goSteps 102 = .ok (.iconst 2, 1) := DX9_goSteps_97.2.2.1
theorem dX9_goSteps_103 : decode cX9_goSteps 103 = .ok (.iadd, 1) := DX9_goSteps_97.2.2.2.1
theorem dX9_goSteps_104 : decode cX9_goSteps 104 = .ok (.iaload, 1) := DX9_goSteps_97.2.2.2.2.1
theorem dX9_goSteps_105 : decode cX9_goSteps 105 = .ok (.aload_n 0, 1) := DX9_goSteps_97.2.2.2.2.2.1
theorem dX9_goSteps_106 : decode cX9_goSteps 106 = .ok (.getfield 25, 3) := DX9_goSteps_97.2.2.2.2.2.2.1
theorem dX9_goSteps_109 : decode cX9_goSteps 109 = .ok (.iload 4, 2) := DX9_goSteps_97.2.2.2.2.2.2.2.1
theorem dX9_goSteps_111 : decode cX9_goSteps 111 = .ok (.iconst 3, 1) := DX9_goSteps_97.2.2.2.2.2.2.2.2.1
theorem dX9_goSteps_112 : decode cX9_goSteps 112 = .ok (.iadd, 1) := DX9_goSteps_97.2.2.2.2.2.2.2.2.2.1
theorem dX9_goSteps_113 : decode cX9_goSteps 113 = .ok (.iaload, 1) := DX9_goSteps_97.2.2.2.2.2.2.2.2.2.2.1
theorem dX9_goSteps_114 : decode cX9_goSteps 114 = .ok (.aload_n 0, 1) := DX9_goSteps_97.2.2.2.2.2.2.2.2.2.2.2.1
theorem dX9_goSteps_115 : decode cX9_goSteps 115 = .ok (.getfield 25, 3) := DX9_goSteps_97.2.2.2.2.2.2.2.2.2.2.2.2.1
theorem dX9_goSteps_118 : decode cX9_goSteps 118 = .ok (.iload 4, 2) := DX9_goSteps_97.2.2.2.2.2.2.2.2.2.2.2.2.2.1
theorem dX9_goSteps_120 : decode cX9_goSteps 120 = .ok (.iconst 4, 1) := DX9_goSteps_97.2.2.2.2.2.2.2.2.2.2.2.2.2.2.1
theorem dX9_goSteps_121 : decode cX9_goSteps 121 = .ok (.iadd, 1) := DX9_goSteps_97.2.2.2.2.2.2.2.2.2.2.2.2.2.2.2.1
theorem DX9_goSteps_122 : dAre cX9_goSteps [(122, .iaload, 1), (123, .invokevirtual 314, 3), (126, .pop, 1), (127, .goto 51, 3), (130, .aload_n 0, 1), (131, .aload_n 0, 1), (132, .getfield 25, 3), (135, .iload 4, 2), (137, .iaload, 1), (138, .aload_n 0, 1), (139, .getfield 25, 3), (142, .iload 4, 2), (144, .iconst 1, 1), (145, .iadd, 1), (146, .iaload, 1), (147, .aload_n 0, 1)] := dAre0 (by decide +kernel)
theorem dX9_goSteps_122 : decode cX9_goSteps 122 = .ok (.iaload, 1) := DX9_goSteps_122.1
theorem dX9_goSteps_123 : decode cX9_goSteps 123 = .ok (.invokevirtual 314, 3) := DX9_goSteps_122.2.1
theorem dX9_goSteps_126 : decode cX9_goSteps 126 = .ok (.pop, 1) := DX9_goSteps_122.2.2.1
theorem dX9_goSteps_127 : decode cX9_goSteps 127 = .ok (.goto 51, 3) := DX9_goSteps_122.2.2.2.1
theorem dX9_goSteps_130 : decode cX9_goSteps 130 = .ok (.aload_n 0, 1) := DX9_goSteps_122.2.2.2.2.1
theorem dX9_goSteps_131 : decode cX9_goSteps 131 = .ok (.aload_n 0, 1) := DX9_goSteps_122.2.2.2.2.2.1
theorem dX9_goSteps_132 : decode cX9_goSteps 132 = .ok (.getfield 25, 3) := DX9_goSteps_122.2.2.2.2.2.2.1
theorem dX9_goSteps_135 : decode cX9_goSteps 135 = .ok (.iload 4, 2) := DX9_goSteps_122.2.2.2.2.2.2.2.1
theorem dX9_goSteps_137 : decode cX9_goSteps 137 = .ok (.iaload, 1) := DX9_goSteps_122.2.2.2.2.2.2.2.2.1
theorem dX9_goSteps_138 : decode cX9_goSteps 138 = .ok (.aload_n 0, 1) := DX9_goSteps_122.2.2.2.2.2.2.2.2.2.1
theorem dX9_goSteps_139 : decode cX9_goSteps 139 = .ok (.getfield 25, 3) := DX9_goSteps_122.2.2.2.2.2.2.2.2.2.2.1
theorem dX9_goSteps_142 : decode cX9_goSteps 142 = .ok (.iload 4, 2) := DX9_goSteps_122.2.2.2.2.2.2.2.2.2.2.2.1
theorem dX9_goSteps_144 : decode cX9_goSteps 144 = .ok (.iconst 1, 1) := DX9_goSteps_122.2.2.2.2.2.2.2.2.2.2.2.2.1
theorem dX9_goSteps_145 : decode cX9_goSteps 145 = .ok (.iadd, 1) := DX9_goSteps_122.2.2.2.2.2.2.2.2.2.2.2.2.2.1
theorem dX9_goSteps_146 : decode cX9_goSteps 146 = .ok (.iaload, 1) := DX9_goSteps_122.2.2.2.2.2.2.2.2.2.2.2.2.2.2.1
theorem dX9_goSteps_147 : decode cX9_goSteps 147 = .ok (.aload_n 0, 1) := DX9_goSteps_122.2.2.2.2.2.2.2.2.2.2.2.2.2.2.2.1
theorem DX9_goSteps_148 : dAre cX9_goSteps [(148, .getfield 25, 3), (151, .iload 4, 2), (153, .iconst 2, 1), (154, .iadd, 1), (155, .iaload, 1), (156, .aload_n 0, 1), (157, .getfield 25, 3), (160, .iload 4, 2), (162, .iconst 3, 1), (163, .iadd, 1), (164, .iaload, 1), (165, .aload_n 0, 1), (166, .getfield 25, 3), (169, .iload 4, 2), (171, .iconst 4, 1), (172, .iadd, 1)] := dAre0 (by decide +kernel)
theorem dX9_goSteps_148 : decode cX9_goSteps 148 = .ok (.getfield 25, 3) := DX9_goSteps_148.1
theorem dX9_goSteps_151 : decode cX9_goSteps 151 = .ok (.iload 4, 2) := DX9_goSteps_148.2.1
theorem dX9_goSteps_153 : decode cX9_goSteps 153 = .ok (.iconst 2, 1) := DX9_goSteps_148.2.2.1
theorem dX9_goSteps_154 : decode cX9_goSteps 154 = .ok (.iadd, 1) := DX9_goSteps_148.2.2.2.1
theorem dX9_goSteps_155 : decode cX9_goSteps 155 = .ok (.iaload, 1) := DX9_goSteps_148.2.2.2.2.1
theorem dX9_goSteps_156 : decode cX9_goSteps 156 = .ok (.aload_n 0, 1) := DX9_goSteps_148.2.2.2.2.2.1
theorem dX9_goSteps_157 : decode cX9_goSteps 157 = .ok (.getfield 25, 3) := DX9_goSteps_148.2.2.2.2.2.2.1
theorem dX9_goSteps_160 : decode cX9_goSteps 160 = .ok (.iload 4, 2) := DX9_goSteps_148.2.2.2.2.2.2.2.1
theorem dX9_goSteps_162 : decode cX9_goSteps 162 = .ok (.iconst 3, 1) := DX9_goSteps_148.2.2.2.2.2.2.2.2.1
theorem dX9_goSteps_163 : decode cX9_goSteps 163 = .ok (.iadd, 1) := DX9_goSteps_148.2.2.2.2.2.2.2.2.2.1
theorem dX9_goSteps_164 : decode cX9_goSteps 164 = .ok (.iaload, 1) := DX9_goSteps_148.2.2.2.2.2.2.2.2.2.2.1
theorem dX9_goSteps_165 : decode cX9_goSteps 165 = .ok (.aload_n 0, 1) := DX9_goSteps_148.2.2.2.2.2.2.2.2.2.2.2.1
theorem dX9_goSteps_166 : decode cX9_goSteps 166 = .ok (.getfield 25, 3) := DX9_goSteps_148.2.2.2.2.2.2.2.2.2.2.2.2.1
theorem dX9_goSteps_169 : decode cX9_goSteps 169 = .ok (.iload 4, 2) := DX9_goSteps_148.2.2.2.2.2.2.2.2.2.2.2.2.2.1
theorem dX9_goSteps_171 : decode cX9_goSteps 171 = .ok (.iconst 4, 1) := DX9_goSteps_148.2.2.2.2.2.2.2.2.2.2.2.2.2.2.1
theorem dX9_goSteps_172 : decode cX9_goSteps 172 = .ok (.iadd, 1) := DX9_goSteps_148.2.2.2.2.2.2.2.2.2.2.2.2.2.2.2.1
theorem DX9_goSteps_173 : dAre cX9_goSteps [(173, .iaload, 1), (174, .invokevirtual 305, 3), (177, .pop, 1), (178, .iinc 3 1, 3), (181, .goto (-179), 3), (184, .aload_n 0, 1), (185, .getfield 28, 3), (188, .iload_n 1, 1), (189, .iaload, 1), (190, .ireturn, 1)] := dAre0 (by decide +kernel)
theorem dX9_goSteps_173 : decode cX9_goSteps 173 = .ok (.iaload, 1) := DX9_goSteps_173.1
theorem dX9_goSteps_174 : decode cX9_goSteps 174 = .ok (.invokevirtual 305, 3) := DX9_goSteps_173.2.1
theorem dX9_goSteps_177 : decode cX9_goSteps 177 = .ok (.pop, 1) := DX9_goSteps_173.2.2.1
theorem dX9_goSteps_178 : decode cX9_goSteps 178 = .ok (.iinc 3 1, 3) := DX9_goSteps_173.2.2.2.1
theorem dX9_goSteps_181 : decode cX9_goSteps 181 = .ok (.goto (-179), 3) := DX9_goSteps_173.2.2.2.2.1
theorem dX9_goSteps_184 : decode cX9_goSteps 184 = .ok (.aload_n 0, 1) := DX9_goSteps_173.2.2.2.2.2.1
theorem dX9_goSteps_185 : decode cX9_goSteps 185 = .ok (.getfield 28, 3) := DX9_goSteps_173.2.2.2.2.2.2.1
theorem dX9_goSteps_188 : decode cX9_goSteps 188 = .ok (.iload_n 1, 1) := DX9_goSteps_173.2.2.2.2.2.2.2.1
theorem dX9_goSteps_189 : decode cX9_goSteps 189 = .ok (.iaload, 1) := DX9_goSteps_173.2.2.2.2.2.2.2.2.1
theorem dX9_goSteps_190 : decode cX9_goSteps 190 = .ok (.ireturn, 1) := DX9_goSteps_173.2.2.2.2.2.2.2.2.2.1
theorem mX9_goSteps : gMv yX9_goSteps cX9_goSteps 5 (some .int) RX9 2 := ⟨q1308, q1452, q10, q1309, rfl, by decide, by decide, by decide +kernel⟩
noncomputable def bX9_goSteps_178 (v3 : Int32) (I : gM) : Option ((Int32 × gM) ⊕ ((Int32 × gM) ⊕ (gM))) :=
  some (.inl (v3 + 1, I))
set_option maxRecDepth 100000 in
set_option maxHeartbeats 4000000 in
theorem wbX9_goSteps_178 {z : gZ} {E : gE} {bk : Nat} (F : Fx z sh E "LeapJoinModel" cX9_goSteps (gR 16) 5) (B : bZ z bk) (hE : gDist sh E) (v1 : Int32) (v2 : Int32) (v3 : Int32) (I : gM) (J : gN) {y : (Int32 × gM) ⊕ ((Int32 × gM) ⊕ (gM))} (h : bX9_goSteps_178 v3 I = some y) (hl : ∀ s' : Int32 × gM, y = .inl s' → G z 2 [(0, .ref (E.2.1 62)), (1, .int v1), (2, .int v2), (3, .int (s'.1))] [] s'.2 J) (K2_0 : ∀ x : Int32 × gM, y = .inr (.inl x) → G z 73 [(3, .int x.1)] [] x.2 J) (K2_1 : ∀ x : gM, y = .inr (.inr x) → G z 184 [(0, .ref (E.2.1 62)), (1, .int v1)] [] x J) : G z 178 [(0, .ref (E.2.1 62)), (1, .int v1), (2, .int v2), (3, .int v3)] [] I J := by
  unfold bX9_goSteps_178 at h
  refine g_iinc (v := v3 + 1) (Ln := [(3, .int (v3 + 1)), (0, .ref (E.2.1 62)), (1, .int v1), (2, .int v2)]) F 3 dX9_goSteps_178 rfl (add_c (by decide)) (by decide) rfl ?_
  refine g_goto (tgt := 2) F dX9_goSteps_181 (by decide) ?_
  obtain rfl := Option.some.inj h
  refine g_sub (Ln := [(0, .ref (E.2.1 62)), (1, .int v1), (2, .int v2), (3, .int (v3 + 1))]) [1, 2, 3, 0] rfl ?_
  exact hl (v3 + 1, I) rfl
noncomputable def lX9_goSteps_2 (v1 : Int32) (v2 : Int32) : (Int32 × gM) → Option ((Int32 × gM) ⊕ (gM)) :=
  itO fun s =>
    (rI 5 (s.2 69) v1).bind fun u1 =>
    if u1 ≤ s.1 then
      some (.inr (.inr s.2))
    else
      (rI 300 (s.2 68) ((5 : Int32) * (((12 : Int32) * v1) + s.1))).bind fun u2 =>
      (rI 300 (s.2 68) (((5 : Int32) * (((12 : Int32) * v1) + s.1)) + 1)).bind fun u3 =>
      (rI 300 (s.2 68) (((5 : Int32) * (((12 : Int32) * v1) + s.1)) + 2)).bind fun u4 =>
      (rI 300 (s.2 68) (((5 : Int32) * (((12 : Int32) * v1) + s.1)) + 3)).bind fun u5 =>
      (rI 300 (s.2 68) (((5 : Int32) * (((12 : Int32) * v1) + s.1)) + 4)).bind fun u6 =>
      (fX9_whyNot u2 u3 u4 u5 u6 s.2).bind fun r7 =>
      if r7 = (-1) then
        if v2 = 0 then
          (rI 300 (s.2 68) ((5 : Int32) * (((12 : Int32) * v1) + s.1))).bind fun u8 =>
          (rI 300 (s.2 68) (((5 : Int32) * (((12 : Int32) * v1) + s.1)) + 1)).bind fun u9 =>
          (rI 300 (s.2 68) (((5 : Int32) * (((12 : Int32) * v1) + s.1)) + 2)).bind fun u10 =>
          (rI 300 (s.2 68) (((5 : Int32) * (((12 : Int32) * v1) + s.1)) + 3)).bind fun u11 =>
          (rI 300 (s.2 68) (((5 : Int32) * (((12 : Int32) * v1) + s.1)) + 4)).bind fun u12 =>
          (fX9_doNow u8 u9 u10 u11 u12 s.2).bind fun r13 =>
          bX9_goSteps_178 s.1 r13.2
        else
          (rI 300 (s.2 68) ((5 : Int32) * (((12 : Int32) * v1) + s.1))).bind fun u14 =>
          (rI 300 (s.2 68) (((5 : Int32) * (((12 : Int32) * v1) + s.1)) + 1)).bind fun u15 =>
          (rI 300 (s.2 68) (((5 : Int32) * (((12 : Int32) * v1) + s.1)) + 2)).bind fun u16 =>
          (rI 300 (s.2 68) (((5 : Int32) * (((12 : Int32) * v1) + s.1)) + 3)).bind fun u17 =>
          (rI 300 (s.2 68) (((5 : Int32) * (((12 : Int32) * v1) + s.1)) + 4)).bind fun u18 =>
          (fX9_act u14 u15 u16 u17 u18 s.2).bind fun r19 =>
          bX9_goSteps_178 s.1 r19.2
      else
        some (.inr (.inl (s.1, s.2)))
set_option maxRecDepth 100000 in
set_option maxHeartbeats 4000000 in
theorem wlX9_goSteps_2 {z : gZ} {E : gE} {bk : Nat} (F : Fx z sh E "LeapJoinModel" cX9_goSteps (gR 16) 5) (B : bZ z bk) (hE : gDist sh E) (v1 : Int32) (v2 : Int32) (J : gN) {r : (Int32 × gM) ⊕ (gM)} : ∀ s : Int32 × gM, lX9_goSteps_2 v1 v2 s = some r → (∀ x : Int32 × gM, r = .inl x → G z 73 [(3, .int x.1)] [] x.2 J) → (∀ x : gM, r = .inr x → G z 184 [(0, .ref (E.2.1 62)), (1, .int v1)] [] x J) → G z 2 [(0, .ref (E.2.1 62)), (1, .int v1), (2, .int v2), (3, .int s.1)] [] s.2 J := by
  intro s h X0 X1
  unfold lX9_goSteps_2 at h
  revert s
  refine itO_ind (P := fun s : Int32 × gM => G z 2 [(0, .ref (E.2.1 62)), (1, .int v1), (2, .int v2), (3, .int s.1)] [] s.2 J) (fun s y h hl hr => ?_)
  have K2_0 := fun (x : Int32 × gM) (q : y = .inr (.inl x)) => X0 x (hr _ q).symm
  have K2_1 := fun (x : gM) (q : y = .inr (.inr x)) => X1 x (hr _ q).symm
  refine g_iload_n F 3 dX9_goSteps_2 rfl rfl ?_
  refine g_aload_n F 0 dX9_goSteps_3 rfl rfl ?_
  refine g_getr (j := 11) (nn := 69) F s62 rfl rfl uX9 (by decide) q832 dX9_goSteps_4 ?_
  refine g_iload_n F 1 dX9_goSteps_7 rfl rfl ?_
  refine u_rI F s69 (by decide) dX9_goSteps_8 h (fun u1 h => ?_)
  refine u_icmp_ge (tgt := 184) F dX9_goSteps_9 (by decide) h (fun h => ?_) (fun h => ?_)
  · obtain rfl := Option.some.inj h
    refine g_sub (Ln := [(0, .ref (E.2.1 62)), (1, .int v1)]) [0, 1] rfl ?_
    exact K2_1 s.2 rfl
  · refine g_iconst (v := 5) F dX9_goSteps_12 (by decide) ?_
    refine g_bipush (v := 12) F dX9_goSteps_13 (by decide) ?_
    refine g_iload_n F 1 dX9_goSteps_15 rfl rfl ?_
    refine g_imul (v := (12 : Int32) * v1) F dX9_goSteps_16 rfl ?_
    refine g_iload_n F 3 dX9_goSteps_17 rfl rfl ?_
    refine g_iadd (v := ((12 : Int32) * v1) + s.1) F dX9_goSteps_18 rfl ?_
    refine g_imul (v := (5 : Int32) * (((12 : Int32) * v1) + s.1)) F dX9_goSteps_19 rfl ?_
    refine g_istore (Ln := [(4, .int ((5 : Int32) * (((12 : Int32) * v1) + s.1))), (0, .ref (E.2.1 62)), (1, .int v1), (2, .int v2), (3, .int s.1)]) F dX9_goSteps_20 (by decide) rfl ?_
    refine g_aload_n F 1 dX9_goSteps_22 rfl rfl ?_
    refine g_aload_n F 1 dX9_goSteps_23 rfl rfl ?_
    refine g_getr (j := 10) (nn := 68) F s62 rfl rfl uX9 (by decide) q831 dX9_goSteps_24 ?_
    refine g_iload F 0 dX9_goSteps_27 rfl ?_
    refine u_rI F s68 (by decide) dX9_goSteps_29 h (fun u2 h => ?_)
    refine g_aload_n F 1 dX9_goSteps_30 rfl rfl ?_
    refine g_getr (j := 10) (nn := 68) F s62 rfl rfl uX9 (by decide) q831 dX9_goSteps_31 ?_
    refine g_iload F 0 dX9_goSteps_34 rfl ?_
    refine g_iconst (v := 1) F dX9_goSteps_36 (by decide) ?_
    refine g_iadd (v := ((5 : Int32) * (((12 : Int32) * v1) + s.1)) + 1) F dX9_goSteps_37 rfl ?_
    refine u_rI F s68 (by decide) dX9_goSteps_38 h (fun u3 h => ?_)
    refine g_aload_n F 1 dX9_goSteps_39 rfl rfl ?_
    refine g_getr (j := 10) (nn := 68) F s62 rfl rfl uX9 (by decide) q831 dX9_goSteps_40 ?_
    refine g_iload F 0 dX9_goSteps_43 rfl ?_
    refine g_iconst (v := 2) F dX9_goSteps_45 (by decide) ?_
    refine g_iadd (v := ((5 : Int32) * (((12 : Int32) * v1) + s.1)) + 2) F dX9_goSteps_46 rfl ?_
    refine u_rI F s68 (by decide) dX9_goSteps_47 h (fun u4 h => ?_)
    refine g_aload_n F 1 dX9_goSteps_48 rfl rfl ?_
    refine g_getr (j := 10) (nn := 68) F s62 rfl rfl uX9 (by decide) q831 dX9_goSteps_49 ?_
    refine g_iload F 0 dX9_goSteps_52 rfl ?_
    refine g_iconst (v := 3) F dX9_goSteps_54 (by decide) ?_
    refine g_iadd (v := ((5 : Int32) * (((12 : Int32) * v1) + s.1)) + 3) F dX9_goSteps_55 rfl ?_
    refine u_rI F s68 (by decide) dX9_goSteps_56 h (fun u5 h => ?_)
    refine g_aload_n F 1 dX9_goSteps_57 rfl rfl ?_
    refine g_getr (j := 10) (nn := 68) F s62 rfl rfl uX9 (by decide) q831 dX9_goSteps_58 ?_
    refine g_iload F 0 dX9_goSteps_61 rfl ?_
    refine g_iconst (v := 4) F dX9_goSteps_63 (by decide) ?_
    refine g_iadd (v := ((5 : Int32) * (((12 : Int32) * v1) + s.1)) + 4) F dX9_goSteps_64 rfl ?_
    refine u_rI F s68 (by decide) dX9_goSteps_65 h (fun u6 h => ?_)
    refine u_callV (k := 62) (As := [.int u2, .int u3, .int u4, .int u5, .int u6]) (rest := []) (sn := fun r7 => [.int r7]) F B (fun _ => wX9_whyNot (zl z) E hE bk u2 u3 u4 u5 u6 s.2 J) mX9_whyNot q1013 rfl s62 rfl rfl rfl (Nat.le_of_ble_eq_true rfl) dX9_goSteps_66 (fun _ => rfl) h (fun r7 h => ?_)
    refine g_iconst (v := (-1)) F dX9_goSteps_69 (by decide) ?_
    refine u_icmp_eq (tgt := 75) F dX9_goSteps_70 (by decide) h (fun h => ?_) (fun h => ?_)
    · refine g_iload_n F 3 dX9_goSteps_75 rfl rfl ?_
      refine u_if_eq (tgt := 130) F dX9_goSteps_76 (by decide) h (fun h => ?_) (fun h => ?_)
      · refine g_aload_n F 1 dX9_goSteps_130 rfl rfl ?_
        refine g_aload_n F 1 dX9_goSteps_131 rfl rfl ?_
        refine g_getr (j := 10) (nn := 68) F s62 rfl rfl uX9 (by decide) q831 dX9_goSteps_132 ?_
        refine g_iload F 0 dX9_goSteps_135 rfl ?_
        refine u_rI F s68 (by decide) dX9_goSteps_137 h (fun u8 h => ?_)
        refine g_aload_n F 1 dX9_goSteps_138 rfl rfl ?_
        refine g_getr (j := 10) (nn := 68) F s62 rfl rfl uX9 (by decide) q831 dX9_goSteps_139 ?_
        refine g_iload F 0 dX9_goSteps_142 rfl ?_
        refine g_iconst (v := 1) F dX9_goSteps_144 (by decide) ?_
        refine g_iadd (v := ((5 : Int32) * (((12 : Int32) * v1) + s.1)) + 1) F dX9_goSteps_145 rfl ?_
        refine u_rI F s68 (by decide) dX9_goSteps_146 h (fun u9 h => ?_)
        refine g_aload_n F 1 dX9_goSteps_147 rfl rfl ?_
        refine g_getr (j := 10) (nn := 68) F s62 rfl rfl uX9 (by decide) q831 dX9_goSteps_148 ?_
        refine g_iload F 0 dX9_goSteps_151 rfl ?_
        refine g_iconst (v := 2) F dX9_goSteps_153 (by decide) ?_
        refine g_iadd (v := ((5 : Int32) * (((12 : Int32) * v1) + s.1)) + 2) F dX9_goSteps_154 rfl ?_
        refine u_rI F s68 (by decide) dX9_goSteps_155 h (fun u10 h => ?_)
        refine g_aload_n F 1 dX9_goSteps_156 rfl rfl ?_
        refine g_getr (j := 10) (nn := 68) F s62 rfl rfl uX9 (by decide) q831 dX9_goSteps_157 ?_
        refine g_iload F 0 dX9_goSteps_160 rfl ?_
        refine g_iconst (v := 3) F dX9_goSteps_162 (by decide) ?_
        refine g_iadd (v := ((5 : Int32) * (((12 : Int32) * v1) + s.1)) + 3) F dX9_goSteps_163 rfl ?_
        refine u_rI F s68 (by decide) dX9_goSteps_164 h (fun u11 h => ?_)
        refine g_aload_n F 1 dX9_goSteps_165 rfl rfl ?_
        refine g_getr (j := 10) (nn := 68) F s62 rfl rfl uX9 (by decide) q831 dX9_goSteps_166 ?_
        refine g_iload F 0 dX9_goSteps_169 rfl ?_
        refine g_iconst (v := 4) F dX9_goSteps_171 (by decide) ?_
        refine g_iadd (v := ((5 : Int32) * (((12 : Int32) * v1) + s.1)) + 4) F dX9_goSteps_172 rfl ?_
        refine u_rI F s68 (by decide) dX9_goSteps_173 h (fun u12 h => ?_)
        refine u_callV (k := 62) (As := [.int u8, .int u9, .int u10, .int u11, .int u12]) (rest := []) (sn := fun r13 => [.int r13.1]) F B (fun _ => wX9_doNow (zl z) E hE bk u8 u9 u10 u11 u12 s.2 J) mX9_doNow q1037 rfl s62 rfl rfl rfl (Nat.le_of_ble_eq_true rfl) dX9_goSteps_174 (fun _ => rfl) h (fun r13 h => ?_)
        refine g_pop F dX9_goSteps_177 rfl ?_
        refine g_sub (Ln := [(0, .ref (E.2.1 62)), (1, .int v1), (2, .int v2), (3, .int s.1)]) [1, 2, 3, 4] rfl ?_
        exact wbX9_goSteps_178 F B hE v1 v2 s.1 r13.2 J h hl K2_0 K2_1
      · refine g_aload_n F 1 dX9_goSteps_79 rfl rfl ?_
        refine g_aload_n F 1 dX9_goSteps_80 rfl rfl ?_
        refine g_getr (j := 10) (nn := 68) F s62 rfl rfl uX9 (by decide) q831 dX9_goSteps_81 ?_
        refine g_iload F 0 dX9_goSteps_84 rfl ?_
        refine u_rI F s68 (by decide) dX9_goSteps_86 h (fun u14 h => ?_)
        refine g_aload_n F 1 dX9_goSteps_87 rfl rfl ?_
        refine g_getr (j := 10) (nn := 68) F s62 rfl rfl uX9 (by decide) q831 dX9_goSteps_88 ?_
        refine g_iload F 0 dX9_goSteps_91 rfl ?_
        refine g_iconst (v := 1) F dX9_goSteps_93 (by decide) ?_
        refine g_iadd (v := ((5 : Int32) * (((12 : Int32) * v1) + s.1)) + 1) F dX9_goSteps_94 rfl ?_
        refine u_rI F s68 (by decide) dX9_goSteps_95 h (fun u15 h => ?_)
        refine g_aload_n F 1 dX9_goSteps_96 rfl rfl ?_
        refine g_getr (j := 10) (nn := 68) F s62 rfl rfl uX9 (by decide) q831 dX9_goSteps_97 ?_
        refine g_iload F 0 dX9_goSteps_100 rfl ?_
        refine g_iconst (v := 2) F dX9_goSteps_102 (by decide) ?_
        refine g_iadd (v := ((5 : Int32) * (((12 : Int32) * v1) + s.1)) + 2) F dX9_goSteps_103 rfl ?_
        refine u_rI F s68 (by decide) dX9_goSteps_104 h (fun u16 h => ?_)
        refine g_aload_n F 1 dX9_goSteps_105 rfl rfl ?_
        refine g_getr (j := 10) (nn := 68) F s62 rfl rfl uX9 (by decide) q831 dX9_goSteps_106 ?_
        refine g_iload F 0 dX9_goSteps_109 rfl ?_
        refine g_iconst (v := 3) F dX9_goSteps_111 (by decide) ?_
        refine g_iadd (v := ((5 : Int32) * (((12 : Int32) * v1) + s.1)) + 3) F dX9_goSteps_112 rfl ?_
        refine u_rI F s68 (by decide) dX9_goSteps_113 h (fun u17 h => ?_)
        refine g_aload_n F 1 dX9_goSteps_114 rfl rfl ?_
        refine g_getr (j := 10) (nn := 68) F s62 rfl rfl uX9 (by decide) q831 dX9_goSteps_115 ?_
        refine g_iload F 0 dX9_goSteps_118 rfl ?_
        refine g_iconst (v := 4) F dX9_goSteps_120 (by decide) ?_
        refine g_iadd (v := ((5 : Int32) * (((12 : Int32) * v1) + s.1)) + 4) F dX9_goSteps_121 rfl ?_
        refine u_rI F s68 (by decide) dX9_goSteps_122 h (fun u18 h => ?_)
        refine u_callV (k := 62) (As := [.int u14, .int u15, .int u16, .int u17, .int u18]) (rest := []) (sn := fun r19 => [.int r19.1]) F B (fun _ => wX9_act (zl z) E hE bk u14 u15 u16 u17 u18 s.2 J) mX9_act q1031 rfl s62 rfl rfl rfl (Nat.le_of_ble_eq_true rfl) dX9_goSteps_123 (fun _ => rfl) h (fun r19 h => ?_)
        refine g_pop F dX9_goSteps_126 rfl ?_
        refine g_goto (tgt := 178) F dX9_goSteps_127 (by decide) ?_
        refine g_sub (Ln := [(0, .ref (E.2.1 62)), (1, .int v1), (2, .int v2), (3, .int s.1)]) [1, 2, 3, 4] rfl ?_
        exact wbX9_goSteps_178 F B hE v1 v2 s.1 r19.2 J h hl K2_0 K2_1
    · obtain rfl := Option.some.inj h
      refine g_sub (Ln := [(3, .int s.1)]) [4] rfl ?_
      exact K2_0 (s.1, s.2) rfl
noncomputable def fX9_goSteps (v1 : Int32) (v2 : Int32) (I : gM) : Option (Int32 × gM) :=
  (lX9_goSteps_2 v1 v2 ((0 : Int32), I)).bind fun w20 =>
  Sum.elim (fun w20_0 =>
    some (w20_0.1, w20_0.2))
  (fun w20_1 =>
    (rI 5 (w20_1 69) v1).bind fun u21 =>
    some (u21, w20_1)) w20
set_option maxRecDepth 100000 in
set_option maxHeartbeats 4000000 in
theorem wX9_goSteps (l : Launch) (E : gE) (hE : gDist sh E) (bk : Nat) (v1 : Int32) (v2 : Int32) (I : gM) (J : gN) {r : Int32 × gM} (h : fX9_goSteps v1 v2 I = some r) : Cu l sh E bk yX9_goSteps cX9_goSteps 5 (some .int) (gR 16) [.ref (E.2.1 62), .int v1, .int v2] I J (fun r1 I1 J1 => r1 = some (.int r.1) ∧ I1 = r.2 ∧ J1 = J) := by
  refine Cu.of "LeapJoinModel" rfl hE (by decide) (Nat.le_of_ble_eq_true rfl) (fun z F B e hl => ?_)
  subst hl
  unfold fX9_goSteps at h
  refine g_iconst (v := 0) F dX9_goSteps_0 (by decide) ?_
  refine g_istore_n (Ln := [(3, .int 0), (0, .ref (E.2.1 62)), (1, .int v1), (2, .int v2)]) F dX9_goSteps_1 rfl (by decide) rfl ?_
  obtain ⟨w20, ew20, h⟩ := ob h
  refine g_sub (Ln := [(0, .ref (E.2.1 62)), (1, .int v1), (2, .int v2), (3, .int 0)]) [1, 2, 3, 0] rfl ?_
  refine wlX9_goSteps_2 F B hE v1 v2 J _ ew20 (fun w20_0 q => ?_) (fun w20_1 q => ?_)
  · subst q
    replace h := oE1 h
    refine g_iload_n F 0 dX9_goSteps_73 rfl rfl ?_
    obtain rfl := Option.some.inj h
    exact g_iret F e dX9_goSteps_74 ⟨rfl, rfl, rfl⟩
  · subst q
    replace h := oE2 h
    refine g_aload_n F 0 dX9_goSteps_184 rfl rfl ?_
    refine g_getr (j := 11) (nn := 69) F s62 rfl rfl uX9 (by decide) q832 dX9_goSteps_185 ?_
    refine g_iload_n F 1 dX9_goSteps_188 rfl rfl ?_
    refine u_rI F s69 (by decide) dX9_goSteps_189 h (fun u21 h => ?_)
    obtain rfl := Option.some.inj h
    exact g_iret F e dX9_goSteps_190 ⟨rfl, rfl, rfl⟩
theorem DX9_run_0 : dAre cX9_run [(0, .aload_n 0, 1), (1, .iload_n 1, 1), (2, .invokevirtual 409, 3), (5, .ifCond .eq 19, 3), (8, .aload_n 0, 1), (9, .invokevirtual 277, 3), (12, .ifCond .eq 12, 3), (15, .iload_n 2, 1), (16, .iconst 0, 1), (17, .iconst 1, 1), (18, .invokestatic 104, 3), (21, .ifCond .ne 7, 3), (24, .ldc_w 338, 3), (27, .ireturn, 1), (28, .aload_n 0, 1), (29, .invokevirtual 403, 3)] := dAre0 (by decide +kernel)
theorem dX9_run_0 : decode cX9_run 0 = .ok (.aload_n 0, 1) := DX9_run_0.1
theorem dX9_run_1 : decode cX9_run 1 = .ok (.iload_n 1, 1) := DX9_run_0.2.1
theorem dX9_run_2 : decode cX9_run 2 = .ok (.invokevirtual 409, 3) := DX9_run_0.2.2.1
theorem dX9_run_5 : decode cX9_run 5 = .ok (.ifCond .eq 19, 3) := DX9_run_0.2.2.2.1
theorem dX9_run_8 : decode cX9_run 8 = .ok (.aload_n 0, 1) := DX9_run_0.2.2.2.2.1
theorem dX9_run_9 : decode cX9_run 9 = .ok (.invokevirtual 277, 3) := DX9_run_0.2.2.2.2.2.1
theorem dX9_run_12 : decode cX9_run 12 = .ok (.ifCond .eq 12, 3) := DX9_run_0.2.2.2.2.2.2.1
theorem dX9_run_15 : decode cX9_run 15 = .ok (.iload_n 2, 1) := DX9_run_0.2.2.2.2.2.2.2.1
theorem dX9_run_16 : decode cX9_run 16 = .ok (.iconst 0, 1) := DX9_run_0.2.2.2.2.2.2.2.2.1
theorem dX9_run_17 : decode cX9_run 17 = .ok (.iconst 1, 1) := DX9_run_0.2.2.2.2.2.2.2.2.2.1
theorem dX9_run_18 : decode cX9_run 18 = .ok (.invokestatic 104, 3) := DX9_run_0.2.2.2.2.2.2.2.2.2.2.1
theorem dX9_run_21 : decode cX9_run 21 = .ok (.ifCond .ne 7, 3) := DX9_run_0.2.2.2.2.2.2.2.2.2.2.2.1
theorem dX9_run_24 : decode cX9_run 24 = .ok (.ldc_w 338, 3) := DX9_run_0.2.2.2.2.2.2.2.2.2.2.2.2.1
theorem dX9_run_27 : decode cX9_run 27 = .ok (.ireturn, 1) := DX9_run_0.2.2.2.2.2.2.2.2.2.2.2.2.2.1
theorem dX9_run_28 : decode cX9_run 28 = .ok (.aload_n 0, 1) := DX9_run_0.2.2.2.2.2.2.2.2.2.2.2.2.2.2.1
theorem dX9_run_29 : decode cX9_run 29 = .ok (.invokevirtual 403, 3) := DX9_run_0.2.2.2.2.2.2.2.2.2.2.2.2.2.2.2.1
theorem DX9_run_32 : dAre cX9_run [(32, .aload_n 0, 1), (33, .iload_n 1, 1), (34, .iconst 0, 1), (35, .invokevirtual 412, 3), (38, .istore_n 3, 1), (39, .aload_n 0, 1), (40, .invokevirtual 299, 3), (43, .istore 4, 2), (45, .aload_n 0, 1), (46, .invokevirtual 406, 3), (49, .iload_n 2, 1), (50, .iconst 1, 1), (51, .if_icmp .ne 8, 3), (54, .iload 4, 2), (56, .goto 18, 3), (59, .iload_n 3, 1)] := dAre0 (by decide +kernel)
theorem dX9_run_32 : decode cX9_run 32 = .ok (.aload_n 0, 1) := DX9_run_32.1
theorem dX9_run_33 : decode cX9_run 33 = .ok (.iload_n 1, 1) := DX9_run_32.2.1
theorem dX9_run_34 : decode cX9_run 34 = .ok (.iconst 0, 1) := DX9_run_32.2.2.1
theorem dX9_run_35 : decode cX9_run 35 = .ok (.invokevirtual 412, 3) := DX9_run_32.2.2.2.1
theorem dX9_run_38 : decode cX9_run 38 = .ok (.istore_n 3, 1) := DX9_run_32.2.2.2.2.1
theorem dX9_run_39 : decode cX9_run 39 = .ok (.aload_n 0, 1) := DX9_run_32.2.2.2.2.2.1
theorem dX9_run_40 : decode cX9_run 40 = .ok (.invokevirtual 299, 3) := DX9_run_32.2.2.2.2.2.2.1
theorem dX9_run_43 : decode cX9_run 43 = .ok (.istore 4, 2) := DX9_run_32.2.2.2.2.2.2.2.1
theorem dX9_run_45 : decode cX9_run 45 = .ok (.aload_n 0, 1) := DX9_run_32.2.2.2.2.2.2.2.2.1
theorem dX9_run_46 : decode cX9_run 46 = .ok (.invokevirtual 406, 3) := DX9_run_32.2.2.2.2.2.2.2.2.2.1
theorem dX9_run_49 : decode cX9_run 49 = .ok (.iload_n 2, 1) := DX9_run_32.2.2.2.2.2.2.2.2.2.2.1
theorem dX9_run_50 : decode cX9_run 50 = .ok (.iconst 1, 1) := DX9_run_32.2.2.2.2.2.2.2.2.2.2.2.1
theorem dX9_run_51 : decode cX9_run 51 = .ok (.if_icmp .ne 8, 3) := DX9_run_32.2.2.2.2.2.2.2.2.2.2.2.2.1
theorem dX9_run_54 : decode cX9_run 54 = .ok (.iload 4, 2) := DX9_run_32.2.2.2.2.2.2.2.2.2.2.2.2.2.1
theorem dX9_run_56 : decode cX9_run 56 = .ok (.goto 18, 3) := DX9_run_32.2.2.2.2.2.2.2.2.2.2.2.2.2.2.1
theorem dX9_run_59 : decode cX9_run 59 = .ok (.iload_n 3, 1) := DX9_run_32.2.2.2.2.2.2.2.2.2.2.2.2.2.2.2.1
theorem DX9_run_60 : dAre cX9_run [(60, .aload_n 0, 1), (61, .getfield 28, 3), (64, .iload_n 1, 1), (65, .iaload, 1), (66, .if_icmp .ne 7, 3), (69, .iconst (-1), 1), (70, .goto 4, 3), (73, .iload_n 3, 1), (74, .ireturn, 1)] := dAre0 (by decide +kernel)
theorem dX9_run_60 : decode cX9_run 60 = .ok (.aload_n 0, 1) := DX9_run_60.1
theorem dX9_run_61 : decode cX9_run 61 = .ok (.getfield 28, 3) := DX9_run_60.2.1
theorem dX9_run_64 : decode cX9_run 64 = .ok (.iload_n 1, 1) := DX9_run_60.2.2.1
theorem dX9_run_65 : decode cX9_run 65 = .ok (.iaload, 1) := DX9_run_60.2.2.2.1
theorem dX9_run_66 : decode cX9_run 66 = .ok (.if_icmp .ne 7, 3) := DX9_run_60.2.2.2.2.1
theorem dX9_run_69 : decode cX9_run 69 = .ok (.iconst (-1), 1) := DX9_run_60.2.2.2.2.2.1
theorem dX9_run_70 : decode cX9_run 70 = .ok (.goto 4, 3) := DX9_run_60.2.2.2.2.2.2.1
theorem dX9_run_73 : decode cX9_run 73 = .ok (.iload_n 3, 1) := DX9_run_60.2.2.2.2.2.2.2.1
theorem dX9_run_74 : decode cX9_run 74 = .ok (.ireturn, 1) := DX9_run_60.2.2.2.2.2.2.2.2.1
theorem mX9_run : gMv yX9_run cX9_run 5 (some .int) RX9 2 := ⟨q1304, q1305, q10, q1306, rfl, by decide, by decide, by decide +kernel⟩
noncomputable def fX9_run (v1 : Int32) (v2 : Int32) (I : gM) : Option (Int32 × gM) :=
  (fX9_isScript v1 I).bind fun r1 =>
  if r1 = 0 then
    some (((-1000000) : Int32), I)
  else
    (fX9_areTables I).bind fun r2 =>
    if r2 = 0 then
      some (((-1000000) : Int32), I)
    else
      (fX9_in v2 (0 : Int32) (1 : Int32)).bind fun r3 =>
      if r3 = 0 then
        some (((-1000000) : Int32), I)
      else
        (fX9_putAside I).bind fun r4 =>
        (fX9_goSteps v1 (0 : Int32) r4).bind fun r5 =>
        (fX9_rowsNow r5.2).bind fun r6 =>
        (fX9_bringBack r6.2).bind fun r7 =>
        if v2 = 1 then
          some (r6.1, r7)
        else
          (rI 5 (r7 69) v1).bind fun u8 =>
          if r5.1 = u8 then
            some (((-1) : Int32), r7)
          else
            some (r5.1, r7)
set_option maxRecDepth 100000 in
set_option maxHeartbeats 4000000 in
theorem wX9_run (l : Launch) (E : gE) (hE : gDist sh E) (bk : Nat) (v1 : Int32) (v2 : Int32) (I : gM) (J : gN) {r : Int32 × gM} (h : fX9_run v1 v2 I = some r) : Cu l sh E bk yX9_run cX9_run 5 (some .int) (gR 17) [.ref (E.2.1 62), .int v1, .int v2] I J (fun r1 I1 J1 => r1 = some (.int r.1) ∧ I1 = r.2 ∧ J1 = J) := by
  refine Cu.of "LeapJoinModel" rfl hE (by decide) (Nat.le_of_ble_eq_true rfl) (fun z F B e hl => ?_)
  subst hl
  unfold fX9_run at h
  refine g_aload_n F 0 dX9_run_0 rfl rfl ?_
  refine g_iload_n F 1 dX9_run_1 rfl rfl ?_
  refine u_callV (k := 62) (As := [.int v1]) (rest := []) (sn := fun r1 => [.int r1]) F B (fun _ => wX9_isScript (zl z) E hE bk v1 I J) mX9_isScript q1300 rfl s62 rfl rfl rfl (Nat.le_of_ble_eq_true rfl) dX9_run_2 (fun _ => rfl) h (fun r1 h => ?_)
  refine u_if_eq (tgt := 24) F dX9_run_5 (by decide) h (fun h => ?_) (fun h => ?_)
  · refine g_ldc_w F dX9_run_24 q1143 ?_
    obtain rfl := Option.some.inj h
    exact g_iret F e dX9_run_27 ⟨rfl, rfl, rfl⟩
  · refine g_aload_n F 0 dX9_run_8 rfl rfl ?_
    refine u_callV (k := 62) (As := []) (rest := []) (sn := fun r2 => [.int r2]) F B (fun _ => wX9_areTables (zl z) E hE bk  I J) mX9_areTables q1028 rfl s62 rfl rfl rfl (Nat.le_of_ble_eq_true rfl) dX9_run_9 (fun _ => rfl) h (fun r2 h => ?_)
    refine u_if_eq (tgt := 24) F dX9_run_12 (by decide) h (fun h => ?_) (fun h => ?_)
    · refine g_ldc_w F dX9_run_24 q1143 ?_
      obtain rfl := Option.some.inj h
      exact g_iret F e dX9_run_27 ⟨rfl, rfl, rfl⟩
    · refine g_iload_n F 2 dX9_run_15 rfl rfl ?_
      refine g_iconst (v := 0) F dX9_run_16 (by decide) ?_
      refine g_iconst (v := 1) F dX9_run_17 (by decide) ?_
      refine u_callS (As := [.int v2, .int 0, .int 1]) (rest := []) (sn := fun r3 => [.int r3]) F B (fun _ => wX9_in (zl z) E hE bk v2 (0 : Int32) (1 : Int32) I J) mX9_in q923 rfl rfl rfl (Nat.le_of_ble_eq_true rfl) dX9_run_18 (fun _ => rfl) h (fun r3 h => ?_)
      refine u_if_ne (tgt := 28) F dX9_run_21 (by decide) h (fun h => ?_) (fun h => ?_)
      · refine g_ldc_w F dX9_run_24 q1143 ?_
        obtain rfl := Option.some.inj h
        exact g_iret F e dX9_run_27 ⟨rfl, rfl, rfl⟩
      · refine g_aload_n F 0 dX9_run_28 rfl rfl ?_
        refine u_callV (k := 62) (As := []) (rest := []) (sn := fun _ => []) F B (fun _ => wX9_putAside (zl z) E hE bk  I J) mX9_putAside q1290 rfl s62 rfl rfl rfl (Nat.le_of_ble_eq_true rfl) dX9_run_29 (fun _ => rfl) h (fun r4 h => ?_)
        refine g_aload_n F 0 dX9_run_32 rfl rfl ?_
        refine g_iload_n F 1 dX9_run_33 rfl rfl ?_
        refine g_iconst (v := 0) F dX9_run_34 (by decide) ?_
        refine u_callV (k := 62) (As := [.int v1, .int 0]) (rest := []) (sn := fun r5 => [.int r5.1]) F B (fun _ => wX9_goSteps (zl z) E hE bk v1 (0 : Int32) r4 J) mX9_goSteps q1307 rfl s62 rfl rfl rfl (Nat.le_of_ble_eq_true rfl) dX9_run_35 (fun _ => rfl) h (fun r5 h => ?_)
        refine g_istore_n (Ln := [(3, .int r5.1), (0, .ref (E.2.1 62)), (1, .int v1), (2, .int v2)]) F dX9_run_38 rfl (by decide) rfl ?_
        refine g_aload_n F 1 dX9_run_39 rfl rfl ?_
        refine u_callV (k := 62) (As := []) (rest := []) (sn := fun r6 => [.int r6.1]) F B (fun _ => wX9_rowsNow (zl z) E hE bk  r5.2 J) mX9_rowsNow q1049 rfl s62 rfl rfl rfl (Nat.le_of_ble_eq_true rfl) dX9_run_40 (fun _ => rfl) h (fun r6 h => ?_)
        refine g_istore (Ln := [(4, .int r6.1), (3, .int r5.1), (0, .ref (E.2.1 62)), (1, .int v1), (2, .int v2)]) F dX9_run_43 (by decide) rfl ?_
        refine g_aload_n F 2 dX9_run_45 rfl rfl ?_
        refine u_callV (k := 62) (As := []) (rest := []) (sn := fun _ => []) F B (fun _ => wX9_bringBack (zl z) E hE bk  r6.2 J) mX9_bringBack q1293 rfl s62 rfl rfl rfl (Nat.le_of_ble_eq_true rfl) dX9_run_46 (fun _ => rfl) h (fun r7 h => ?_)
        refine g_iload_n F 4 dX9_run_49 rfl rfl ?_
        refine g_iconst (v := 1) F dX9_run_50 (by decide) ?_
        refine u_icmp_ne (tgt := 59) F dX9_run_51 (by decide) h (fun h => ?_) (fun h => ?_)
        · refine g_iload F 0 dX9_run_54 rfl ?_
          refine g_goto (tgt := 74) F dX9_run_56 (by decide) ?_
          obtain rfl := Option.some.inj h
          exact g_iret F e dX9_run_74 ⟨rfl, rfl, rfl⟩
        · refine g_iload_n F 1 dX9_run_59 rfl rfl ?_
          refine g_aload_n F 2 dX9_run_60 rfl rfl ?_
          refine g_getr (j := 11) (nn := 69) F s62 rfl rfl uX9 (by decide) q832 dX9_run_61 ?_
          refine g_iload_n F 3 dX9_run_64 rfl rfl ?_
          refine u_rI F s69 (by decide) dX9_run_65 h (fun u8 h => ?_)
          refine u_icmp_ne (tgt := 73) F dX9_run_66 (by decide) h (fun h => ?_) (fun h => ?_)
          · refine g_iconst (v := (-1)) F dX9_run_69 (by decide) ?_
            refine g_goto (tgt := 74) F dX9_run_70 (by decide) ?_
            obtain rfl := Option.some.inj h
            exact g_iret F e dX9_run_74 ⟨rfl, rfl, rfl⟩
          · refine g_iload_n F 1 dX9_run_73 rfl rfl ?_
            obtain rfl := Option.some.inj h
            exact g_iret F e dX9_run_74 ⟨rfl, rfl, rfl⟩
theorem DX9_perform_0 : dAre cX9_perform [(0, .aload_n 0, 1), (1, .iload_n 1, 1), (2, .invokevirtual 409, 3), (5, .ifCond .eq 19, 3), (8, .aload_n 0, 1), (9, .invokevirtual 277, 3), (12, .ifCond .eq 12, 3), (15, .aload_n 0, 1), (16, .iload_n 1, 1), (17, .iconst 1, 1), (18, .invokevirtual 412, 3), (21, .goto 4, 3), (24, .iconst (-1), 1), (25, .ireturn, 1)] := dAre0 (by decide +kernel)
theorem dX9_perform_0 : decode cX9_perform 0 = .ok (.aload_n 0, 1) := DX9_perform_0.1
theorem dX9_perform_1 : decode cX9_perform 1 = .ok (.iload_n 1, 1) := DX9_perform_0.2.1
theorem dX9_perform_2 : decode cX9_perform 2 = .ok (.invokevirtual 409, 3) := DX9_perform_0.2.2.1
theorem dX9_perform_5 : decode cX9_perform 5 = .ok (.ifCond .eq 19, 3) := DX9_perform_0.2.2.2.1
theorem dX9_perform_8 : decode cX9_perform 8 = .ok (.aload_n 0, 1) := DX9_perform_0.2.2.2.2.1
theorem dX9_perform_9 : decode cX9_perform 9 = .ok (.invokevirtual 277, 3) := DX9_perform_0.2.2.2.2.2.1
theorem dX9_perform_12 : decode cX9_perform 12 = .ok (.ifCond .eq 12, 3) := DX9_perform_0.2.2.2.2.2.2.1
theorem dX9_perform_15 : decode cX9_perform 15 = .ok (.aload_n 0, 1) := DX9_perform_0.2.2.2.2.2.2.2.1
theorem dX9_perform_16 : decode cX9_perform 16 = .ok (.iload_n 1, 1) := DX9_perform_0.2.2.2.2.2.2.2.2.1
theorem dX9_perform_17 : decode cX9_perform 17 = .ok (.iconst 1, 1) := DX9_perform_0.2.2.2.2.2.2.2.2.2.1
theorem dX9_perform_18 : decode cX9_perform 18 = .ok (.invokevirtual 412, 3) := DX9_perform_0.2.2.2.2.2.2.2.2.2.2.1
theorem dX9_perform_21 : decode cX9_perform 21 = .ok (.goto 4, 3) := DX9_perform_0.2.2.2.2.2.2.2.2.2.2.2.1
theorem dX9_perform_24 : decode cX9_perform 24 = .ok (.iconst (-1), 1) := DX9_perform_0.2.2.2.2.2.2.2.2.2.2.2.2.1
theorem dX9_perform_25 : decode cX9_perform 25 = .ok (.ireturn, 1) := DX9_perform_0.2.2.2.2.2.2.2.2.2.2.2.2.2.1
theorem mX9_perform : gMv yX9_perform cX9_perform 2 (some .int) RX9 1 := ⟨q1311, q1312, q10, q1313, rfl, by decide, by decide, by decide +kernel⟩
noncomputable def fX9_perform (v1 : Int32) (I : gM) : Option (Int32 × gM) :=
  (fX9_isScript v1 I).bind fun r1 =>
  if r1 = 0 then
    some (((-1) : Int32), I)
  else
    (fX9_areTables I).bind fun r2 =>
    if r2 = 0 then
      some (((-1) : Int32), I)
    else
      (fX9_goSteps v1 (1 : Int32) I).bind fun r3 =>
      some (r3.1, r3.2)
set_option maxRecDepth 100000 in
set_option maxHeartbeats 4000000 in
theorem wX9_perform (l : Launch) (E : gE) (hE : gDist sh E) (bk : Nat) (v1 : Int32) (I : gM) (J : gN) {r : Int32 × gM} (h : fX9_perform v1 I = some r) : Cu l sh E bk yX9_perform cX9_perform 2 (some .int) (gR 17) [.ref (E.2.1 62), .int v1] I J (fun r1 I1 J1 => r1 = some (.int r.1) ∧ I1 = r.2 ∧ J1 = J) := by
  refine Cu.of "LeapJoinModel" rfl hE (by decide) (Nat.le_of_ble_eq_true rfl) (fun z F B e hl => ?_)
  subst hl
  unfold fX9_perform at h
  refine g_aload_n F 0 dX9_perform_0 rfl rfl ?_
  refine g_iload_n F 1 dX9_perform_1 rfl rfl ?_
  refine u_callV (k := 62) (As := [.int v1]) (rest := []) (sn := fun r1 => [.int r1]) F B (fun _ => wX9_isScript (zl z) E hE bk v1 I J) mX9_isScript q1300 rfl s62 rfl rfl rfl (Nat.le_of_ble_eq_true rfl) dX9_perform_2 (fun _ => rfl) h (fun r1 h => ?_)
  refine u_if_eq (tgt := 24) F dX9_perform_5 (by decide) h (fun h => ?_) (fun h => ?_)
  · refine g_iconst (v := (-1)) F dX9_perform_24 (by decide) ?_
    obtain rfl := Option.some.inj h
    exact g_iret F e dX9_perform_25 ⟨rfl, rfl, rfl⟩
  · refine g_aload_n F 0 dX9_perform_8 rfl rfl ?_
    refine u_callV (k := 62) (As := []) (rest := []) (sn := fun r2 => [.int r2]) F B (fun _ => wX9_areTables (zl z) E hE bk  I J) mX9_areTables q1028 rfl s62 rfl rfl rfl (Nat.le_of_ble_eq_true rfl) dX9_perform_9 (fun _ => rfl) h (fun r2 h => ?_)
    refine u_if_eq (tgt := 24) F dX9_perform_12 (by decide) h (fun h => ?_) (fun h => ?_)
    · refine g_iconst (v := (-1)) F dX9_perform_24 (by decide) ?_
      obtain rfl := Option.some.inj h
      exact g_iret F e dX9_perform_25 ⟨rfl, rfl, rfl⟩
    · refine g_aload_n F 0 dX9_perform_15 rfl rfl ?_
      refine g_iload_n F 1 dX9_perform_16 rfl rfl ?_
      refine g_iconst (v := 1) F dX9_perform_17 (by decide) ?_
      refine u_callV (k := 62) (As := [.int v1, .int 1]) (rest := []) (sn := fun r3 => [.int r3.1]) F B (fun _ => wX9_goSteps (zl z) E hE bk v1 (1 : Int32) I J) mX9_goSteps q1307 rfl s62 rfl rfl rfl (Nat.le_of_ble_eq_true rfl) dX9_perform_18 (fun _ => rfl) h (fun r3 h => ?_)
      refine g_goto (tgt := 25) F dX9_perform_21 (by decide) ?_
      obtain rfl := Option.some.inj h
      exact g_iret F e dX9_perform_25 ⟨rfl, rfl, rfl⟩
theorem DX9_sumOfRows_0 : dAre cX9_sumOfRows [(0, .iconst 0, 1), (1, .istore_n 1, 1), (2, .iconst 0, 1), (3, .istore_n 2, 1), (4, .iload_n 2, 1), (5, .aload_n 0, 1), (6, .getfield 173, 3), (9, .if_icmp .ge 62, 3), (12, .iconst 0, 1), (13, .istore_n 3, 1), (14, .iload_n 3, 1), (15, .aload_n 0, 1), (16, .iload_n 2, 1), (17, .invokevirtual 186, 3), (20, .if_icmp .ge 45, 3), (23, .iconst 0, 1)] := dAre0 (by decide +kernel)
theorem dX9_sumOfRows_0 : decode cX9_sumOfRows 0 = .ok (.iconst 0, 1) := DX9_sumOfRows_0.1
theorem dX9_sumOfRows_1 : decode cX9_sumOfRows 1 = .ok (.istore_n 1, 1) := DX9_sumOfRows_0.2.1
theorem dX9_sumOfRows_2 : decode cX9_sumOfRows 2 = .ok (.iconst 0, 1) := DX9_sumOfRows_0.2.2.1
theorem dX9_sumOfRows_3 : decode cX9_sumOfRows 3 = .ok (.istore_n 2, 1) := DX9_sumOfRows_0.2.2.2.1
theorem dX9_sumOfRows_4 : decode cX9_sumOfRows 4 = .ok (.iload_n 2, 1) := DX9_sumOfRows_0.2.2.2.2.1
theorem dX9_sumOfRows_5 : decode cX9_sumOfRows 5 = .ok (.aload_n 0, 1) := DX9_sumOfRows_0.2.2.2.2.2.1
theorem dX9_sumOfRows_6 : decode cX9_sumOfRows 6 = .ok (.getfield 173, 3) := DX9_sumOfRows_0.2.2.2.2.2.2.1
theorem dX9_sumOfRows_9 : decode cX9_sumOfRows 9 = .ok (.if_icmp .ge 62, 3) := DX9_sumOfRows_0.2.2.2.2.2.2.2.1
theorem dX9_sumOfRows_12 : decode cX9_sumOfRows 12 = .ok (.iconst 0, 1) := DX9_sumOfRows_0.2.2.2.2.2.2.2.2.1
theorem dX9_sumOfRows_13 : decode cX9_sumOfRows 13 = .ok (.istore_n 3, 1) := DX9_sumOfRows_0.2.2.2.2.2.2.2.2.2.1
theorem dX9_sumOfRows_14 : decode cX9_sumOfRows 14 = .ok (.iload_n 3, 1) := DX9_sumOfRows_0.2.2.2.2.2.2.2.2.2.2.1
theorem dX9_sumOfRows_15 : decode cX9_sumOfRows 15 = .ok (.aload_n 0, 1) := DX9_sumOfRows_0.2.2.2.2.2.2.2.2.2.2.2.1
theorem dX9_sumOfRows_16 : decode cX9_sumOfRows 16 = .ok (.iload_n 2, 1) := DX9_sumOfRows_0.2.2.2.2.2.2.2.2.2.2.2.2.1
theorem dX9_sumOfRows_17 : decode cX9_sumOfRows 17 = .ok (.invokevirtual 186, 3) := DX9_sumOfRows_0.2.2.2.2.2.2.2.2.2.2.2.2.2.1
theorem dX9_sumOfRows_20 : decode cX9_sumOfRows 20 = .ok (.if_icmp .ge 45, 3) := DX9_sumOfRows_0.2.2.2.2.2.2.2.2.2.2.2.2.2.2.1
theorem dX9_sumOfRows_23 : decode cX9_sumOfRows 23 = .ok (.iconst 0, 1) := DX9_sumOfRows_0.2.2.2.2.2.2.2.2.2.2.2.2.2.2.2.1
theorem DX9_sumOfRows_24 : dAre cX9_sumOfRows [(24, .istore 4, 2), (26, .iload 4, 2), (28, .aload_n 0, 1), (29, .getfield 37, 3), (32, .iload_n 2, 1), (33, .iaload, 1), (34, .if_icmp .ge 25, 3), (37, .iload_n 1, 1), (38, .aload_n 0, 1), (39, .getfield 31, 3), (42, .iload_n 2, 1), (43, .iload_n 3, 1), (44, .invokestatic 182, 3), (47, .iload 4, 2), (49, .iadd, 1), (50, .iaload, 1)] := dAre0 (by decide +kernel)
theorem dX9_sumOfRows_24 : decode cX9_sumOfRows 24 = .ok (.istore 4, 2) := DX9_sumOfRows_24.1
theorem dX9_sumOfRows_26 : decode cX9_sumOfRows 26 = .ok (.iload 4, 2) := DX9_sumOfRows_24.2.1
theorem dX9_sumOfRows_28 : decode cX9_sumOfRows 28 = .ok (.aload_n 0, 1) := DX9_sumOfRows_24.2.2.1
theorem dX9_sumOfRows_29 : decode cX9_sumOfRows 29 = .ok (.getfield 37, 3) := DX9_sumOfRows_24.2.2.2.1
theorem dX9_sumOfRows_32 : decode cX9_sumOfRows 32 = .ok (.iload_n 2, 1) := DX9_sumOfRows_24.2.2.2.2.1
theorem dX9_sumOfRows_33 : decode cX9_sumOfRows 33 = .ok (.iaload, 1) := DX9_sumOfRows_24.2.2.2.2.2.1
theorem dX9_sumOfRows_34 : decode cX9_sumOfRows 34 = .ok (.if_icmp .ge 25, 3) := DX9_sumOfRows_24.2.2.2.2.2.2.1
theorem dX9_sumOfRows_37 : decode cX9_sumOfRows 37 = .ok (.iload_n 1, 1) := DX9_sumOfRows_24.2.2.2.2.2.2.2.1
theorem dX9_sumOfRows_38 : decode cX9_sumOfRows 38 = .ok (.aload_n 0, 1) := DX9_sumOfRows_24.2.2.2.2.2.2.2.2.1
theorem dX9_sumOfRows_39 : decode cX9_sumOfRows 39 = .ok (.getfield 31, 3) := DX9_sumOfRows_24.2.2.2.2.2.2.2.2.2.1
theorem dX9_sumOfRows_42 : decode cX9_sumOfRows 42 = .ok (.iload_n 2, 1) := DX9_sumOfRows_24.2.2.2.2.2.2.2.2.2.2.1
theorem dX9_sumOfRows_43 : decode cX9_sumOfRows 43 = .ok (.iload_n 3, 1) := DX9_sumOfRows_24.2.2.2.2.2.2.2.2.2.2.2.1
theorem dX9_sumOfRows_44 : decode cX9_sumOfRows 44 = .ok (.invokestatic 182, 3) := DX9_sumOfRows_24.2.2.2.2.2.2.2.2.2.2.2.2.1
theorem dX9_sumOfRows_47 : decode cX9_sumOfRows 47 = .ok (.iload 4, 2) := DX9_sumOfRows_24.2.2.2.2.2.2.2.2.2.2.2.2.2.1
theorem dX9_sumOfRows_49 : decode cX9_sumOfRows 49 = .ok (.iadd, 1) := DX9_sumOfRows_24.2.2.2.2.2.2.2.2.2.2.2.2.2.2.1
theorem dX9_sumOfRows_50 : decode cX9_sumOfRows 50 = .ok (.iaload, 1) := DX9_sumOfRows_24.2.2.2.2.2.2.2.2.2.2.2.2.2.2.2.1
theorem DX9_sumOfRows_51 : dAre cX9_sumOfRows [(51, .iadd, 1), (52, .istore_n 1, 1), (53, .iinc 4 1, 3), (56, .goto (-30), 3), (59, .iinc 3 1, 3), (62, .goto (-48), 3), (65, .iinc 2 1, 3), (68, .goto (-64), 3), (71, .iload_n 1, 1), (72, .ireturn, 1)] := dAre0 (by decide +kernel)
theorem dX9_sumOfRows_51 : decode cX9_sumOfRows 51 = .ok (.iadd, 1) := DX9_sumOfRows_51.1
theorem dX9_sumOfRows_52 : decode cX9_sumOfRows 52 = .ok (.istore_n 1, 1) := DX9_sumOfRows_51.2.1
theorem dX9_sumOfRows_53 : decode cX9_sumOfRows 53 = .ok (.iinc 4 1, 3) := DX9_sumOfRows_51.2.2.1
theorem dX9_sumOfRows_56 : decode cX9_sumOfRows 56 = .ok (.goto (-30), 3) := DX9_sumOfRows_51.2.2.2.1
theorem dX9_sumOfRows_59 : decode cX9_sumOfRows 59 = .ok (.iinc 3 1, 3) := DX9_sumOfRows_51.2.2.2.2.1
theorem dX9_sumOfRows_62 : decode cX9_sumOfRows 62 = .ok (.goto (-48), 3) := DX9_sumOfRows_51.2.2.2.2.2.1
theorem dX9_sumOfRows_65 : decode cX9_sumOfRows 65 = .ok (.iinc 2 1, 3) := DX9_sumOfRows_51.2.2.2.2.2.2.1
theorem dX9_sumOfRows_68 : decode cX9_sumOfRows 68 = .ok (.goto (-64), 3) := DX9_sumOfRows_51.2.2.2.2.2.2.2.1
theorem dX9_sumOfRows_71 : decode cX9_sumOfRows 71 = .ok (.iload_n 1, 1) := DX9_sumOfRows_51.2.2.2.2.2.2.2.2.1
theorem dX9_sumOfRows_72 : decode cX9_sumOfRows 72 = .ok (.ireturn, 1) := DX9_sumOfRows_51.2.2.2.2.2.2.2.2.2.1
theorem mX9_sumOfRows : gMv yX9_sumOfRows cX9_sumOfRows 5 (some .int) RX9 0 := ⟨q1319, q1453, q10, q1320, rfl, by decide, by decide, by decide +kernel⟩
noncomputable def lX9_sumOfRows_26 (v2 : Int32) (v3 : Int32) (I : gM) : (Int32 × Int32) → Option (Int32) :=
  itO fun s =>
    (rI 4 (I 72) v2).bind fun u2 =>
    if u2 ≤ s.2 then
      some (.inr s.1)
    else
      (fX9_rowAt v2 v3).bind fun r3 =>
      (rI 331 (I 70) (r3 + s.2)).bind fun u4 =>
      some (.inl (s.1 + u4, s.2 + 1))
set_option maxRecDepth 100000 in
set_option maxHeartbeats 4000000 in
theorem wlX9_sumOfRows_26 {z : gZ} {E : gE} {bk : Nat} (F : Fx z sh E "LeapJoinModel" cX9_sumOfRows (gR 1) 5) (B : bZ z bk) (hE : gDist sh E) (v2 : Int32) (v3 : Int32) (I : gM) (J : gN) {r : Int32} : ∀ s : Int32 × Int32, lX9_sumOfRows_26 v2 v3 I s = some r → (G z 59 [(0, .ref (E.2.1 62)), (1, .int r), (2, .int v2), (3, .int v3)] [] I J) → G z 26 [(0, .ref (E.2.1 62)), (1, .int s.1), (2, .int v2), (3, .int v3), (4, .int s.2)] [] I J := by
  intro s h X0
  unfold lX9_sumOfRows_26 at h
  revert s
  refine itO_ind (P := fun s : Int32 × Int32 => G z 26 [(0, .ref (E.2.1 62)), (1, .int s.1), (2, .int v2), (3, .int v3), (4, .int s.2)] [] I J) (fun s y h hl hr => ?_)
  have K26_0 : ∀ x : Int32, y = .inr x → (G z 59 [(0, .ref (E.2.1 62)), (1, .int x), (2, .int v2), (3, .int v3)] [] I J) := fun x q => by have q2 := hr _ q; subst q2; exact X0
  refine g_iload F 4 dX9_sumOfRows_26 rfl ?_
  refine g_aload_n F 0 dX9_sumOfRows_28 rfl rfl ?_
  refine g_getr (j := 15) (nn := 72) F s62 rfl rfl uX9 (by decide) q836 dX9_sumOfRows_29 ?_
  refine g_iload_n F 2 dX9_sumOfRows_32 rfl rfl ?_
  refine u_rI F s72 (by decide) dX9_sumOfRows_33 h (fun u2 h => ?_)
  refine u_icmp_ge (tgt := 59) F dX9_sumOfRows_34 (by decide) h (fun h => ?_) (fun h => ?_)
  · obtain rfl := Option.some.inj h
    refine g_sub (Ln := [(0, .ref (E.2.1 62)), (1, .int s.1), (2, .int v2), (3, .int v3)]) [0, 1, 2, 3] rfl ?_
    exact K26_0 s.1 rfl
  · refine g_iload_n F 1 dX9_sumOfRows_37 rfl rfl ?_
    refine g_aload_n F 0 dX9_sumOfRows_38 rfl rfl ?_
    refine g_getr (j := 13) (nn := 70) F s62 rfl rfl uX9 (by decide) q834 dX9_sumOfRows_39 ?_
    refine g_iload_n F 2 dX9_sumOfRows_42 rfl rfl ?_
    refine g_iload_n F 3 dX9_sumOfRows_43 rfl rfl ?_
    refine u_callS (As := [.int v2, .int v3]) (rest := [.ref (E.2.1 70), .int s.1]) (sn := fun r3 => [.int r3, .ref (E.2.1 70), .int s.1]) F B (fun _ => wX9_rowAt (zl z) E hE bk v2 v3 I J) mX9_rowAt q1000 rfl rfl rfl (Nat.le_of_ble_eq_true rfl) dX9_sumOfRows_44 (fun _ => rfl) h (fun r3 h => ?_)
    refine g_iload F 4 dX9_sumOfRows_47 rfl ?_
    refine g_iadd (v := r3 + s.2) F dX9_sumOfRows_49 rfl ?_
    refine u_rI F s70 (by decide) dX9_sumOfRows_50 h (fun u4 h => ?_)
    refine g_iadd (v := s.1 + u4) F dX9_sumOfRows_51 rfl ?_
    refine g_istore_n (Ln := [(1, .int (s.1 + u4)), (0, .ref (E.2.1 62)), (2, .int v2), (3, .int v3), (4, .int s.2)]) F dX9_sumOfRows_52 rfl (by decide) rfl ?_
    refine g_iinc (v := s.2 + 1) (Ln := [(4, .int (s.2 + 1)), (1, .int (s.1 + u4)), (0, .ref (E.2.1 62)), (2, .int v2), (3, .int v3)]) F 4 dX9_sumOfRows_53 rfl (add_c (by decide)) (by decide) rfl ?_
    refine g_goto (tgt := 26) F dX9_sumOfRows_56 (by decide) ?_
    obtain rfl := Option.some.inj h
    refine g_sub (Ln := [(0, .ref (E.2.1 62)), (1, .int (s.1 + u4)), (2, .int v2), (3, .int v3), (4, .int (s.2 + 1))]) [2, 1, 3, 4, 0] rfl ?_
    exact hl (s.1 + u4, s.2 + 1) rfl
noncomputable def lX9_sumOfRows_14 (v2 : Int32) (I : gM) : (Int32 × Int32) → Option (Int32) :=
  itO fun s =>
    (fX9_many v2 I).bind fun r1 =>
    if r1 ≤ s.2 then
      some (.inr s.1)
    else
      (lX9_sumOfRows_26 v2 s.2 I (s.1, (0 : Int32))).bind fun w5 =>
      some (.inl (w5, s.2 + 1))
set_option maxRecDepth 100000 in
set_option maxHeartbeats 4000000 in
theorem wlX9_sumOfRows_14 {z : gZ} {E : gE} {bk : Nat} (F : Fx z sh E "LeapJoinModel" cX9_sumOfRows (gR 1) 5) (B : bZ z bk) (hE : gDist sh E) (v2 : Int32) (I : gM) (J : gN) {r : Int32} : ∀ s : Int32 × Int32, lX9_sumOfRows_14 v2 I s = some r → (G z 65 [(0, .ref (E.2.1 62)), (1, .int r), (2, .int v2)] [] I J) → G z 14 [(0, .ref (E.2.1 62)), (1, .int s.1), (2, .int v2), (3, .int s.2)] [] I J := by
  intro s h X0
  unfold lX9_sumOfRows_14 at h
  revert s
  refine itO_ind (P := fun s : Int32 × Int32 => G z 14 [(0, .ref (E.2.1 62)), (1, .int s.1), (2, .int v2), (3, .int s.2)] [] I J) (fun s y h hl hr => ?_)
  have K14_0 : ∀ x : Int32, y = .inr x → (G z 65 [(0, .ref (E.2.1 62)), (1, .int x), (2, .int v2)] [] I J) := fun x q => by have q2 := hr _ q; subst q2; exact X0
  refine g_iload_n F 3 dX9_sumOfRows_14 rfl rfl ?_
  refine g_aload_n F 0 dX9_sumOfRows_15 rfl rfl ?_
  refine g_iload_n F 2 dX9_sumOfRows_16 rfl rfl ?_
  refine u_callV (k := 62) (As := [.int v2]) (rest := [.int s.2]) (sn := fun r1 => [.int r1, .int s.2]) F B (fun _ => wX9_many (zl z) E hE bk v2 I J) mX9_many q994 rfl s62 rfl rfl rfl (Nat.le_of_ble_eq_true rfl) dX9_sumOfRows_17 (fun _ => rfl) h (fun r1 h => ?_)
  refine u_icmp_ge (tgt := 65) F dX9_sumOfRows_20 (by decide) h (fun h => ?_) (fun h => ?_)
  · obtain rfl := Option.some.inj h
    refine g_sub (Ln := [(0, .ref (E.2.1 62)), (1, .int s.1), (2, .int v2)]) [0, 1, 2] rfl ?_
    exact K14_0 s.1 rfl
  · refine g_iconst (v := 0) F dX9_sumOfRows_23 (by decide) ?_
    refine g_istore (Ln := [(4, .int 0), (0, .ref (E.2.1 62)), (1, .int s.1), (2, .int v2), (3, .int s.2)]) F dX9_sumOfRows_24 (by decide) rfl ?_
    obtain ⟨w5, ew5, h⟩ := ob h
    refine g_sub (Ln := [(0, .ref (E.2.1 62)), (1, .int s.1), (2, .int v2), (3, .int s.2), (4, .int 0)]) [1, 2, 3, 4, 0] rfl ?_
    refine wlX9_sumOfRows_26 F B hE v2 s.2 I J _ ew5 ?_
    refine g_iinc (v := s.2 + 1) (Ln := [(3, .int (s.2 + 1)), (0, .ref (E.2.1 62)), (1, .int w5), (2, .int v2)]) F 3 dX9_sumOfRows_59 rfl (add_c (by decide)) (by decide) rfl ?_
    refine g_goto (tgt := 14) F dX9_sumOfRows_62 (by decide) ?_
    obtain rfl := Option.some.inj h
    refine g_sub (Ln := [(0, .ref (E.2.1 62)), (1, .int w5), (2, .int v2), (3, .int (s.2 + 1))]) [1, 2, 3, 0] rfl ?_
    exact hl (w5, s.2 + 1) rfl
noncomputable def lX9_sumOfRows_4 (I : gM) : (Int32 × Int32) → Option (Int32) :=
  itO fun s =>
    if (I 62 17) ≤ s.2 then
      some (.inr s.1)
    else
      (lX9_sumOfRows_14 s.2 I (s.1, (0 : Int32))).bind fun w6 =>
      some (.inl (w6, s.2 + 1))
set_option maxRecDepth 100000 in
set_option maxHeartbeats 4000000 in
theorem wlX9_sumOfRows_4 {z : gZ} {E : gE} {bk : Nat} (F : Fx z sh E "LeapJoinModel" cX9_sumOfRows (gR 1) 5) (B : bZ z bk) (hE : gDist sh E) (I : gM) (J : gN) {r : Int32} : ∀ s : Int32 × Int32, lX9_sumOfRows_4 I s = some r → (G z 71 [(1, .int r)] [] I J) → G z 4 [(0, .ref (E.2.1 62)), (1, .int s.1), (2, .int s.2)] [] I J := by
  intro s h X0
  unfold lX9_sumOfRows_4 at h
  revert s
  refine itO_ind (P := fun s : Int32 × Int32 => G z 4 [(0, .ref (E.2.1 62)), (1, .int s.1), (2, .int s.2)] [] I J) (fun s y h hl hr => ?_)
  have K4_0 : ∀ x : Int32, y = .inr x → (G z 71 [(1, .int x)] [] I J) := fun x q => by have q2 := hr _ q; subst q2; exact X0
  refine g_iload_n F 2 dX9_sumOfRows_4 rfl rfl ?_
  refine g_aload_n F 0 dX9_sumOfRows_5 rfl rfl ?_
  refine g_geti (j := 17) (v := I 62 17) F s62 rfl rfl uX9 (by decide) q838 rfl dX9_sumOfRows_6 ?_
  refine u_icmp_ge (tgt := 71) F dX9_sumOfRows_9 (by decide) h (fun h => ?_) (fun h => ?_)
  · obtain rfl := Option.some.inj h
    refine g_sub (Ln := [(1, .int s.1)]) [1] rfl ?_
    exact K4_0 s.1 rfl
  · refine g_iconst (v := 0) F dX9_sumOfRows_12 (by decide) ?_
    refine g_istore_n (Ln := [(3, .int 0), (0, .ref (E.2.1 62)), (1, .int s.1), (2, .int s.2)]) F dX9_sumOfRows_13 rfl (by decide) rfl ?_
    obtain ⟨w6, ew6, h⟩ := ob h
    refine g_sub (Ln := [(0, .ref (E.2.1 62)), (1, .int s.1), (2, .int s.2), (3, .int 0)]) [1, 2, 3, 0] rfl ?_
    refine wlX9_sumOfRows_14 F B hE s.2 I J _ ew6 ?_
    refine g_iinc (v := s.2 + 1) (Ln := [(2, .int (s.2 + 1)), (0, .ref (E.2.1 62)), (1, .int w6)]) F 2 dX9_sumOfRows_65 rfl (add_c (by decide)) (by decide) rfl ?_
    refine g_goto (tgt := 4) F dX9_sumOfRows_68 (by decide) ?_
    obtain rfl := Option.some.inj h
    refine g_sub (Ln := [(0, .ref (E.2.1 62)), (1, .int w6), (2, .int (s.2 + 1))]) [1, 2, 0] rfl ?_
    exact hl (w6, s.2 + 1) rfl
noncomputable def fX9_sumOfRows (I : gM) : Option (Int32) :=
  (lX9_sumOfRows_4 I ((0 : Int32), (0 : Int32))).bind fun w7 =>
  some w7
set_option maxRecDepth 100000 in
set_option maxHeartbeats 4000000 in
theorem wX9_sumOfRows (l : Launch) (E : gE) (hE : gDist sh E) (bk : Nat) (I : gM) (J : gN) {r : Int32} (h : fX9_sumOfRows I = some r) : Cu l sh E bk yX9_sumOfRows cX9_sumOfRows 5 (some .int) (gR 1) [.ref (E.2.1 62)] I J (fun r1 I1 J1 => r1 = some (.int r) ∧ I1 = I ∧ J1 = J) := by
  refine Cu.of "LeapJoinModel" rfl hE (by decide) (Nat.le_of_ble_eq_true rfl) (fun z F B e hl => ?_)
  subst hl
  unfold fX9_sumOfRows at h
  refine g_iconst (v := 0) F dX9_sumOfRows_0 (by decide) ?_
  refine g_istore_n (Ln := [(1, .int 0), (0, .ref (E.2.1 62))]) F dX9_sumOfRows_1 rfl (by decide) rfl ?_
  refine g_iconst (v := 0) F dX9_sumOfRows_2 (by decide) ?_
  refine g_istore_n (Ln := [(2, .int 0), (1, .int 0), (0, .ref (E.2.1 62))]) F dX9_sumOfRows_3 rfl (by decide) rfl ?_
  obtain ⟨w7, ew7, h⟩ := ob h
  refine g_sub (Ln := [(0, .ref (E.2.1 62)), (1, .int 0), (2, .int 0)]) [2, 1, 0] rfl ?_
  refine wlX9_sumOfRows_4 F B hE I J _ ew7 ?_
  refine g_iload_n F 0 dX9_sumOfRows_71 rfl rfl ?_
  obtain rfl := Option.some.inj h
  exact g_iret F e dX9_sumOfRows_72 ⟨rfl, rfl, rfl⟩
