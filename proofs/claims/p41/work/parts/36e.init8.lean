set_option maxRecDepth 100000 in
set_option maxHeartbeats 4000000 in
theorem iX8_init (l : Launch) (D : va_G) (tA : Nat → ClassId) : CtI l D tA U0 U122 0 yX8_init cX8_init 2 ({ frames := 2, cells := 61, slots := 43635, locals := 128 }) 61 43635 exX8 := by
  refine CtI.of "LeapJoin" rfl rfl (by decide) (by decide) (fun z ad F hin e hl hEx => ?_)
  subst hl
  refine gc_aload_n F 0 dX8_init_0 rfl rfl ?_
  refine gc_objInit F q27 q28 q29 rfl (Nat.le_of_ble_eq_true rfl) (Nat.le_of_ble_eq_true rfl) dX8_init_1 ?_
  refine gc_aload_n F 0 dX8_init_4 rfl rfl ?_
  refine gc_new (ci := 6) (fds := [0, 2, 0]) (S1 := U1) (N := 1) F uX6 tyX6_ok q30 q31 q2 rfl (ndX6 _) (Nat.le_of_ble_eq_true rfl) (Nat.le_of_ble_eq_true rfl) (by decide +kernel) (by decide +kernel) (by decide +kernel) dX8_init_5 (fun ob1 => ?_)
  refine gc_dup F dX8_init_8 ?_
  refine gc_callN (i := 1) (S1 := U3) F (iX6_init (zl z) D tA) rfl hEx.1 q32 q2 q33 rfl ⟨by decide, by decide, by decide +kernel⟩ ⟨Nat.le_of_ble_eq_true rfl, Nat.le_of_ble_eq_true rfl⟩ rfl rfl (Nat.le_of_ble_eq_true rfl) (Nat.le_of_ble_eq_true rfl) (Nat.le_of_ble_eq_true rfl) dX8_init_9 (fun ad1 ag1 => ?_)
  refine gc_ls (Ln := [(0, .ref (ad1 0))]) (sn := [.ref (ad1 1), .ref (ad1 0)]) (by rw [ag1 0 (by decide)]; rfl) (by rw [ag1 0 (by decide), ag1 1 (by decide)]; rfl) ?_
  refine gc_putr (i := 0) (j := 0) (m := 1) (S1 := U4) (ci := 8) (fds := [2, 2, 2, 2, 2, 2, 2, 2, 2, 2, 2, 2, 2, 2, 0, 0, 1]) F hin rfl rfl (by decide +kernel) (by decide +kernel) (by decide +kernel) rfl uX8 (by decide) q169 tyX8_ok nmX8 rfl rfl (fun _ => rfl) (fun _ => rfl) dX8_init_12 ?_
  refine gc_aload_n F 0 dX8_init_15 rfl rfl ?_
  refine gc_new (ci := 5) (fds := [0, 0, 0, 2, 2, 2, 2]) (S1 := U5) (N := 3) F uX5 tyX5_ok q43 q44 q3 rfl (ndX5 _) (Nat.le_of_ble_eq_true rfl) (Nat.le_of_ble_eq_true rfl) (by decide +kernel) (by decide +kernel) (by decide +kernel) dX8_init_16 (fun ob3 => ?_)
  refine gc_dup F dX8_init_19 ?_
  refine gc_callN (i := 3) (S1 := U13) F (iX5_init (zl z) D tA) rfl hEx.2.1 q45 q3 q46 rfl ⟨by decide, by decide, by decide +kernel⟩ ⟨Nat.le_of_ble_eq_true rfl, Nat.le_of_ble_eq_true rfl⟩ rfl rfl (Nat.le_of_ble_eq_true rfl) (Nat.le_of_ble_eq_true rfl) (Nat.le_of_ble_eq_true rfl) dX8_init_20 (fun ad2 ag2 => ?_)
  refine gc_ls (Ln := [(0, .ref (ad2 0))]) (sn := [.ref (ad2 3), .ref (ad2 0)]) (by rw [ag2 0 (by decide)]; rfl) (by rw [ag2 0 (by decide), ag2 3 (by decide)]; rfl) ?_
  refine gc_putr (i := 0) (j := 1) (m := 3) (S1 := U14) (ci := 8) (fds := [4, 2, 2, 2, 2, 2, 2, 2, 2, 2, 2, 2, 2, 2, 0, 0, 1]) F hin rfl rfl (by decide +kernel) (by decide +kernel) (by decide +kernel) rfl uX8 (by decide) q170 tyX8_ok nmX8 rfl rfl (fun _ => rfl) (fun _ => rfl) dX8_init_23 ?_
  refine gc_aload_n F 0 dX8_init_26 rfl rfl ?_
  refine gc_new (ci := 5) (fds := [0, 0, 0, 2, 2, 2, 2]) (S1 := U15) (N := 8) F uX5 tyX5_ok q43 q44 q3 rfl (ndX5 _) (Nat.le_of_ble_eq_true rfl) (Nat.le_of_ble_eq_true rfl) (by decide +kernel) (by decide +kernel) (by decide +kernel) dX8_init_27 (fun ob8 => ?_)
  refine gc_dup F dX8_init_30 ?_
  refine gc_callN (i := 8) (S1 := U23) F (iX5_init_8 (zl z) D tA) rfl hEx.2.1 q45 q3 q46 rfl ⟨by decide, by decide, by decide +kernel⟩ ⟨Nat.le_of_ble_eq_true rfl, Nat.le_of_ble_eq_true rfl⟩ rfl rfl (Nat.le_of_ble_eq_true rfl) (Nat.le_of_ble_eq_true rfl) (Nat.le_of_ble_eq_true rfl) dX8_init_31 (fun ad3 ag3 => ?_)
  refine gc_ls (Ln := [(0, .ref (ad3 0))]) (sn := [.ref (ad3 8), .ref (ad3 0)]) (by rw [ag3 0 (by decide)]; rfl) (by rw [ag3 0 (by decide), ag3 8 (by decide)]; rfl) ?_
  refine gc_putr (i := 0) (j := 2) (m := 8) (S1 := U24) (ci := 8) (fds := [4, 6, 2, 2, 2, 2, 2, 2, 2, 2, 2, 2, 2, 2, 0, 0, 1]) F hin rfl rfl (by decide +kernel) (by decide +kernel) (by decide +kernel) rfl uX8 (by decide) q171 tyX8_ok nmX8 rfl rfl (fun _ => rfl) (fun _ => rfl) dX8_init_34 ?_
  refine gc_aload_n F 0 dX8_init_37 rfl rfl ?_
  refine gc_new (ci := 5) (fds := [0, 0, 0, 2, 2, 2, 2]) (S1 := U25) (N := 13) F uX5 tyX5_ok q43 q44 q3 rfl (ndX5 _) (Nat.le_of_ble_eq_true rfl) (Nat.le_of_ble_eq_true rfl) (by decide +kernel) (by decide +kernel) (by decide +kernel) dX8_init_38 (fun ob13 => ?_)
  refine gc_dup F dX8_init_41 ?_
  refine gc_callN (i := 13) (S1 := U33) F (iX5_init_13 (zl z) D tA) rfl hEx.2.1 q45 q3 q46 rfl ⟨by decide, by decide, by decide +kernel⟩ ⟨Nat.le_of_ble_eq_true rfl, Nat.le_of_ble_eq_true rfl⟩ rfl rfl (Nat.le_of_ble_eq_true rfl) (Nat.le_of_ble_eq_true rfl) (Nat.le_of_ble_eq_true rfl) dX8_init_42 (fun ad4 ag4 => ?_)
  refine gc_ls (Ln := [(0, .ref (ad4 0))]) (sn := [.ref (ad4 13), .ref (ad4 0)]) (by rw [ag4 0 (by decide)]; rfl) (by rw [ag4 0 (by decide), ag4 13 (by decide)]; rfl) ?_
  refine gc_putr (i := 0) (j := 3) (m := 13) (S1 := U34) (ci := 8) (fds := [4, 6, 11, 2, 2, 2, 2, 2, 2, 2, 2, 2, 2, 2, 0, 0, 1]) F hin rfl rfl (by decide +kernel) (by decide +kernel) (by decide +kernel) rfl uX8 (by decide) q172 tyX8_ok nmX8 rfl rfl (fun _ => rfl) (fun _ => rfl) dX8_init_45 ?_
  refine gc_aload_n F 0 dX8_init_48 rfl rfl ?_
  refine gc_new (ci := 1) (fds := [0, 0, 0, 2, 2, 2, 2, 2, 2, 2, 2, 2, 2]) (S1 := U35) (N := 18) F uX1 tyX1_ok q72 q73 q4 rfl (ndX1 _) (Nat.le_of_ble_eq_true rfl) (Nat.le_of_ble_eq_true rfl) (by decide +kernel) (by decide +kernel) (by decide +kernel) dX8_init_49 (fun ob18 => ?_)
  refine gc_dup F dX8_init_52 ?_
  refine gc_callN (i := 18) (S1 := U55) F (iX1_init (zl z) D tA) rfl hEx.2.2.1 q74 q4 q75 rfl ⟨by decide, by decide, by decide +kernel⟩ ⟨Nat.le_of_ble_eq_true rfl, Nat.le_of_ble_eq_true rfl⟩ rfl rfl (Nat.le_of_ble_eq_true rfl) (Nat.le_of_ble_eq_true rfl) (Nat.le_of_ble_eq_true rfl) dX8_init_53 (fun ad5 ag5 => ?_)
  refine gc_ls (Ln := [(0, .ref (ad5 0))]) (sn := [.ref (ad5 18), .ref (ad5 0)]) (by rw [ag5 0 (by decide)]; rfl) (by rw [ag5 0 (by decide), ag5 18 (by decide)]; rfl) ?_
  refine gc_putr (i := 0) (j := 4) (m := 18) (S1 := U56) (ci := 8) (fds := [4, 6, 11, 16, 2, 2, 2, 2, 2, 2, 2, 2, 2, 2, 0, 0, 1]) F hin rfl rfl (by decide +kernel) (by decide +kernel) (by decide +kernel) rfl uX8 (by decide) q173 tyX8_ok nmX8 rfl rfl (fun _ => rfl) (fun _ => rfl) dX8_init_56 ?_
  refine gc_aload_n F 0 dX8_init_59 rfl rfl ?_
  refine gc_new (ci := 1) (fds := [0, 0, 0, 2, 2, 2, 2, 2, 2, 2, 2, 2, 2]) (S1 := U57) (N := 29) F uX1 tyX1_ok q72 q73 q4 rfl (ndX1 _) (Nat.le_of_ble_eq_true rfl) (Nat.le_of_ble_eq_true rfl) (by decide +kernel) (by decide +kernel) (by decide +kernel) dX8_init_60 (fun ob29 => ?_)
  refine gc_dup F dX8_init_63 ?_
  refine gc_callN (i := 29) (S1 := U77) F (iX1_init_29 (zl z) D tA) rfl hEx.2.2.1 q74 q4 q75 rfl ⟨by decide, by decide, by decide +kernel⟩ ⟨Nat.le_of_ble_eq_true rfl, Nat.le_of_ble_eq_true rfl⟩ rfl rfl (Nat.le_of_ble_eq_true rfl) (Nat.le_of_ble_eq_true rfl) (Nat.le_of_ble_eq_true rfl) dX8_init_64 (fun ad6 ag6 => ?_)
  refine gc_ls (Ln := [(0, .ref (ad6 0))]) (sn := [.ref (ad6 29), .ref (ad6 0)]) (by rw [ag6 0 (by decide)]; rfl) (by rw [ag6 0 (by decide), ag6 29 (by decide)]; rfl) ?_
  refine gc_putr (i := 0) (j := 5) (m := 29) (S1 := U78) (ci := 8) (fds := [4, 6, 11, 16, 21, 2, 2, 2, 2, 2, 2, 2, 2, 2, 0, 0, 1]) F hin rfl rfl (by decide +kernel) (by decide +kernel) (by decide +kernel) rfl uX8 (by decide) q174 tyX8_ok nmX8 rfl rfl (fun _ => rfl) (fun _ => rfl) dX8_init_67 ?_
  refine gc_aload_n F 0 dX8_init_70 rfl rfl ?_
  refine gc_new (ci := 0) (fds := [2, 2]) (S1 := U79) (N := 40) F uX0 tyX0_ok q109 q110 q5 rfl (ndX0 _) (Nat.le_of_ble_eq_true rfl) (Nat.le_of_ble_eq_true rfl) (by decide +kernel) (by decide +kernel) (by decide +kernel) dX8_init_71 (fun ob40 => ?_)
  refine gc_dup F dX8_init_74 ?_
  refine gc_callN (i := 40) (S1 := U83) F (iX0_init (zl z) D tA) rfl hEx.2.2.2.1 q111 q5 q112 rfl ⟨by decide, by decide, by decide +kernel⟩ ⟨Nat.le_of_ble_eq_true rfl, Nat.le_of_ble_eq_true rfl⟩ rfl rfl (Nat.le_of_ble_eq_true rfl) (Nat.le_of_ble_eq_true rfl) (Nat.le_of_ble_eq_true rfl) dX8_init_75 (fun ad7 ag7 => ?_)
  refine gc_ls (Ln := [(0, .ref (ad7 0))]) (sn := [.ref (ad7 40), .ref (ad7 0)]) (by rw [ag7 0 (by decide)]; rfl) (by rw [ag7 0 (by decide), ag7 40 (by decide)]; rfl) ?_
  refine gc_putr (i := 0) (j := 6) (m := 40) (S1 := U84) (ci := 8) (fds := [4, 6, 11, 16, 21, 32, 2, 2, 2, 2, 2, 2, 2, 2, 0, 0, 1]) F hin rfl rfl (by decide +kernel) (by decide +kernel) (by decide +kernel) rfl uX8 (by decide) q175 tyX8_ok nmX8 rfl rfl (fun _ => rfl) (fun _ => rfl) dX8_init_78 ?_
  refine gc_aload_n F 0 dX8_init_81 rfl rfl ?_
  refine gc_new (ci := 7) (fds := [0, 0, 0, 0]) (S1 := U85) (N := 43) F uX7 tyX7_ok q119 q120 q6 rfl (ndX7 _) (Nat.le_of_ble_eq_true rfl) (Nat.le_of_ble_eq_true rfl) (by decide +kernel) (by decide +kernel) (by decide +kernel) dX8_init_82 (fun ob43 => ?_)
  refine gc_dup F dX8_init_85 ?_
  refine gc_callN (i := 43) (S1 := U85) F (iX7_init (zl z) D tA) rfl hEx.2.2.2.2.1 q121 q6 q122 rfl ⟨by decide, by decide, by decide +kernel⟩ ⟨Nat.le_of_ble_eq_true rfl, Nat.le_of_ble_eq_true rfl⟩ rfl rfl (Nat.le_of_ble_eq_true rfl) (Nat.le_of_ble_eq_true rfl) (Nat.le_of_ble_eq_true rfl) dX8_init_86 (fun ad8 ag8 => ?_)
  refine gc_ls (Ln := [(0, .ref (ad8 0))]) (sn := [.ref (ad8 43), .ref (ad8 0)]) (by rw [ag8 0 (by decide)]; rfl) (by rw [ag8 0 (by decide), ag8 43 (by decide)]; rfl) ?_
  refine gc_putr (i := 0) (j := 7) (m := 43) (S1 := U86) (ci := 8) (fds := [4, 6, 11, 16, 21, 32, 43, 2, 2, 2, 2, 2, 2, 2, 0, 0, 1]) F hin rfl rfl (by decide +kernel) (by decide +kernel) (by decide +kernel) rfl uX8 (by decide) q176 tyX8_ok nmX8 rfl rfl (fun _ => rfl) (fun _ => rfl) dX8_init_89 ?_
  refine gc_aload_n F 0 dX8_init_92 rfl rfl ?_
  refine gc_new (ci := 2) (fds := [2, 0, 0]) (S1 := U87) (N := 44) F uX2 tyX2_ok q136 q137 q7 rfl (ndX2 _) (Nat.le_of_ble_eq_true rfl) (Nat.le_of_ble_eq_true rfl) (by decide +kernel) (by decide +kernel) (by decide +kernel) dX8_init_93 (fun ob44 => ?_)
  refine gc_dup F dX8_init_96 ?_
  refine gc_callN (i := 44) (S1 := U89) F (iX2_init (zl z) D tA) rfl hEx.2.2.2.2.2.1 q138 q7 q139 rfl ⟨by decide, by decide, by decide +kernel⟩ ⟨Nat.le_of_ble_eq_true rfl, Nat.le_of_ble_eq_true rfl⟩ rfl rfl (Nat.le_of_ble_eq_true rfl) (Nat.le_of_ble_eq_true rfl) (Nat.le_of_ble_eq_true rfl) dX8_init_97 (fun ad9 ag9 => ?_)
  refine gc_ls (Ln := [(0, .ref (ad9 0))]) (sn := [.ref (ad9 44), .ref (ad9 0)]) (by rw [ag9 0 (by decide)]; rfl) (by rw [ag9 0 (by decide), ag9 44 (by decide)]; rfl) ?_
  refine gc_putr (i := 0) (j := 8) (m := 44) (S1 := U90) (ci := 8) (fds := [4, 6, 11, 16, 21, 32, 43, 46, 2, 2, 2, 2, 2, 2, 0, 0, 1]) F hin rfl rfl (by decide +kernel) (by decide +kernel) (by decide +kernel) rfl uX8 (by decide) q177 tyX8_ok nmX8 rfl rfl (fun _ => rfl) (fun _ => rfl) dX8_init_100 ?_
  refine gc_aload_n F 0 dX8_init_103 rfl rfl ?_
  refine gc_new (ci := 2) (fds := [2, 0, 0]) (S1 := U91) (N := 46) F uX2 tyX2_ok q136 q137 q7 rfl (ndX2 _) (Nat.le_of_ble_eq_true rfl) (Nat.le_of_ble_eq_true rfl) (by decide +kernel) (by decide +kernel) (by decide +kernel) dX8_init_104 (fun ob46 => ?_)
  refine gc_dup F dX8_init_107 ?_
  refine gc_callN (i := 46) (S1 := U93) F (iX2_init_46 (zl z) D tA) rfl hEx.2.2.2.2.2.1 q138 q7 q139 rfl ⟨by decide, by decide, by decide +kernel⟩ ⟨Nat.le_of_ble_eq_true rfl, Nat.le_of_ble_eq_true rfl⟩ rfl rfl (Nat.le_of_ble_eq_true rfl) (Nat.le_of_ble_eq_true rfl) (Nat.le_of_ble_eq_true rfl) dX8_init_108 (fun ad10 ag10 => ?_)
  refine gc_ls (Ln := [(0, .ref (ad10 0))]) (sn := [.ref (ad10 46), .ref (ad10 0)]) (by rw [ag10 0 (by decide)]; rfl) (by rw [ag10 0 (by decide), ag10 46 (by decide)]; rfl) ?_
  refine gc_putr (i := 0) (j := 9) (m := 46) (S1 := U94) (ci := 8) (fds := [4, 6, 11, 16, 21, 32, 43, 46, 47, 2, 2, 2, 2, 2, 0, 0, 1]) F hin rfl rfl (by decide +kernel) (by decide +kernel) (by decide +kernel) rfl uX8 (by decide) q178 tyX8_ok nmX8 rfl rfl (fun _ => rfl) (fun _ => rfl) dX8_init_111 ?_
  refine gc_aload_n F 0 dX8_init_114 rfl rfl ?_
  refine gc_new (ci := 3) (fds := [0, 2, 0]) (S1 := U95) (N := 48) F uX3 tyX3_ok q147 q148 q8 rfl (ndX3 _) (Nat.le_of_ble_eq_true rfl) (Nat.le_of_ble_eq_true rfl) (by decide +kernel) (by decide +kernel) (by decide +kernel) dX8_init_115 (fun ob48 => ?_)
  refine gc_dup F dX8_init_118 ?_
  refine gc_callN (i := 48) (S1 := U97) F (iX3_init (zl z) D tA) rfl hEx.2.2.2.2.2.2.1 q149 q8 q150 rfl ⟨by decide, by decide, by decide +kernel⟩ ⟨Nat.le_of_ble_eq_true rfl, Nat.le_of_ble_eq_true rfl⟩ rfl rfl (Nat.le_of_ble_eq_true rfl) (Nat.le_of_ble_eq_true rfl) (Nat.le_of_ble_eq_true rfl) dX8_init_119 (fun ad11 ag11 => ?_)
  refine gc_ls (Ln := [(0, .ref (ad11 0))]) (sn := [.ref (ad11 48), .ref (ad11 0)]) (by rw [ag11 0 (by decide)]; rfl) (by rw [ag11 0 (by decide), ag11 48 (by decide)]; rfl) ?_
  refine gc_putr (i := 0) (j := 10) (m := 48) (S1 := U98) (ci := 8) (fds := [4, 6, 11, 16, 21, 32, 43, 46, 47, 49, 2, 2, 2, 2, 0, 0, 1]) F hin rfl rfl (by decide +kernel) (by decide +kernel) (by decide +kernel) rfl uX8 (by decide) q179 tyX8_ok nmX8 rfl rfl (fun _ => rfl) (fun _ => rfl) dX8_init_122 ?_
  refine gc_aload_n F 0 dX8_init_125 rfl rfl ?_
  refine gc_iconst (v := 4) F dX8_init_126 (by decide) ?_
  refine gc_newq (S1 := U99) (N := 50) (m := 54) (len := 4) F q159 hEx.2.2.2.2.2.2.2.2 (by decide +kernel) (by decide +kernel) (Nat.le_of_ble_eq_true rfl) (Nat.le_of_ble_eq_true rfl) (Nat.le_of_ble_eq_true rfl) (by decide +kernel) (by decide +kernel) (by decide +kernel) dX8_init_127 (fun ob50 => ?_)
  refine gc_putr (i := 0) (j := 11) (m := 50) (S1 := U100) (ci := 8) (fds := [4, 6, 11, 16, 21, 32, 43, 46, 47, 49, 51, 2, 2, 2, 0, 0, 1]) F hin rfl rfl (by decide +kernel) (by decide +kernel) (by decide +kernel) rfl uX8 (by decide) q180 tyX8_ok nmX8 rfl rfl (fun _ => rfl) (fun _ => rfl) dX8_init_130 ?_
  refine gc_aload_n F 0 dX8_init_133 rfl rfl ?_
  refine gc_new (ci := 4) (fds := [0, 2]) (S1 := U101) (N := 51) F uX4 tyX4_ok q159 q160 q9 rfl (ndX4 _) (Nat.le_of_ble_eq_true rfl) (Nat.le_of_ble_eq_true rfl) (by decide +kernel) (by decide +kernel) (by decide +kernel) dX8_init_134 (fun ob51 => ?_)
  refine gc_dup F dX8_init_137 ?_
  refine gc_callN (i := 51) (S1 := U103) F (iX4_init (zl z) D tA) rfl hEx.2.2.2.2.2.2.2.1 q161 q9 q162 rfl ⟨by decide, by decide, by decide +kernel⟩ ⟨Nat.le_of_ble_eq_true rfl, Nat.le_of_ble_eq_true rfl⟩ rfl rfl (Nat.le_of_ble_eq_true rfl) (Nat.le_of_ble_eq_true rfl) (Nat.le_of_ble_eq_true rfl) dX8_init_138 (fun ad12 ag12 => ?_)
  refine gc_ls (Ln := [(0, .ref (ad12 0))]) (sn := [.ref (ad12 51), .ref (ad12 0)]) (by rw [ag12 0 (by decide)]; rfl) (by rw [ag12 0 (by decide), ag12 51 (by decide)]; rfl) ?_
  refine gc_putr (i := 0) (j := 12) (m := 51) (S1 := U104) (ci := 8) (fds := [4, 6, 11, 16, 21, 32, 43, 46, 47, 49, 51, 53, 2, 2, 0, 0, 1]) F hin rfl rfl (by decide +kernel) (by decide +kernel) (by decide +kernel) rfl uX8 (by decide) q181 tyX8_ok nmX8 rfl rfl (fun _ => rfl) (fun _ => rfl) dX8_init_141 ?_
  refine gc_aload_n F 0 dX8_init_144 rfl rfl ?_
  refine gc_iconst (v := 4) F dX8_init_145 (by decide) ?_
  refine gc_newa (at_ := .int) (ty := .int) (v := 4) (S1 := U105) (N := 53) (t := 0) (so := 0) (len := 4) F rfl q71 rfl (fun _ => rfl) (fun _ => gc_cellI rfl) (by decide +kernel) (by decide +kernel) (Nat.le_of_ble_eq_true rfl) (Nat.le_of_ble_eq_true rfl) (Nat.le_of_ble_eq_true rfl) (by decide +kernel) (by decide +kernel) (by decide +kernel) dX8_init_146 (fun ob53 => ?_)
  refine gc_putr (i := 0) (j := 13) (m := 53) (S1 := U106) (ci := 8) (fds := [4, 6, 11, 16, 21, 32, 43, 46, 47, 49, 51, 53, 54, 2, 0, 0, 1]) F hin rfl rfl (by decide +kernel) (by decide +kernel) (by decide +kernel) rfl uX8 (by decide) q182 tyX8_ok nmX8 rfl rfl (fun _ => rfl) (fun _ => rfl) dX8_init_148 ?_
  refine gc_aload_n F 0 dX8_init_151 rfl rfl ?_
  refine gc_iconst (v := 0) F dX8_init_152 (by decide) ?_
  refine gc_puti (i := 0) (j := 14) (ci := 8) (fds := [4, 6, 11, 16, 21, 32, 43, 46, 47, 49, 51, 53, 54, 56, 0, 0, 1]) F rfl (by decide +kernel) (by decide +kernel) rfl uX8 (by decide) q183 tyX8_ok nmX8 rfl rfl rfl dX8_init_153 ?_
  refine gc_aload_n F 0 dX8_init_156 rfl rfl ?_
  refine gc_iconst (v := 0) F dX8_init_157 (by decide) ?_
  refine gc_puti (i := 0) (j := 15) (ci := 8) (fds := [4, 6, 11, 16, 21, 32, 43, 46, 47, 49, 51, 53, 54, 56, 0, 0, 1]) F rfl (by decide +kernel) (by decide +kernel) rfl uX8 (by decide) q184 tyX8_ok nmX8 rfl rfl rfl dX8_init_158 ?_
  refine gc_aload_n F 0 dX8_init_161 rfl rfl ?_
  refine gc_lconst (v := 0) F dX8_init_162 (by decide) ?_
  refine gc_putl (i := 0) (j := 16) (ci := 8) (fds := [4, 6, 11, 16, 21, 32, 43, 46, 47, 49, 51, 53, 54, 56, 0, 0, 1]) F rfl (by decide +kernel) (by decide +kernel) rfl uX8 (by decide) q185 tyX8_ok nmX8 rfl rfl rfl dX8_init_163 ?_
  refine gc_iconst (v := 0) F dX8_init_166 (by decide) ?_
  refine gc_istore_n (Ln := [(1, .int 0), (0, .ref (ad12 0))]) F dX8_init_167 rfl (by decide) rfl ?_
  refine gc_iload_n F 0 dX8_init_168 rfl rfl ?_
  refine gc_iconst (v := 4) F dX8_init_169 (by decide) ?_
  refine gc_icmp_ge (tgt := 192) F dX8_init_170 (by decide) (fun h => absurd h (by decide)) (fun _ => ?_)
  refine gc_aload_n F 1 dX8_init_173 rfl rfl ?_
  refine gc_getr (i := 0) (j := 11) (m := 50) (ci := 8) (fds := [4, 6, 11, 16, 21, 32, 43, 46, 47, 49, 51, 53, 54, 56, 0, 0, 1]) F rfl (by decide +kernel) (by decide +kernel) rfl uX8 (by decide) q180 dX8_init_174 ?_
  refine gc_iload_n F 0 dX8_init_177 rfl rfl ?_
  refine gc_new (ci := 4) (fds := [0, 2]) (S1 := U107) (N := 54) F uX4 tyX4_ok q159 q160 q9 rfl (ndX4 _) (Nat.le_of_ble_eq_true rfl) (Nat.le_of_ble_eq_true rfl) (by decide +kernel) (by decide +kernel) (by decide +kernel) dX8_init_178 (fun ob54 => ?_)
  refine gc_dup F dX8_init_181 ?_
  refine gc_callN (i := 54) (S1 := U109) F (iX4_init_54 (zl z) D tA) rfl hEx.2.2.2.2.2.2.2.1 q161 q9 q162 rfl ⟨by decide, by decide, by decide +kernel⟩ ⟨Nat.le_of_ble_eq_true rfl, Nat.le_of_ble_eq_true rfl⟩ rfl rfl (Nat.le_of_ble_eq_true rfl) (Nat.le_of_ble_eq_true rfl) (Nat.le_of_ble_eq_true rfl) dX8_init_182 (fun ad13 ag13 => ?_)
  refine gc_ls (Ln := [(1, .int 0), (0, .ref (ad13 0))]) (sn := [.ref (ad13 54), .int 0, .ref (ad13 50)]) (by rw [ag13 0 (by decide)]; rfl) (by rw [ag13 50 (by decide), ag13 54 (by decide)]; rfl) ?_
  refine gc_aast (C := "") (i := 50) (c := 0) (m := 54) (len := 4) (qk := 54) (ci := 4) (fds := [0, 58]) (S1 := U110) F rfl rfl (by decide +kernel) rfl (by decide +kernel) rfl (by decide) (by decide) (by decide) (by decide +kernel) dX8_init_185 ?_
  refine gc_iinc (v := 1) (Ln := [(1, .int 1), (0, .ref (ad13 0))]) F 0 dX8_init_186 rfl (by decide) (by decide) rfl ?_
  refine gc_goto (tgt := 168) F dX8_init_189 (by decide) ?_
  refine gc_iload_n F 0 dX8_init_168 rfl rfl ?_
  refine gc_iconst (v := 4) F dX8_init_169 (by decide) ?_
  refine gc_icmp_ge (tgt := 192) F dX8_init_170 (by decide) (fun h => absurd h (by decide)) (fun _ => ?_)
  refine gc_aload_n F 1 dX8_init_173 rfl rfl ?_
  refine gc_getr (i := 0) (j := 11) (m := 50) (ci := 8) (fds := [4, 6, 11, 16, 21, 32, 43, 46, 47, 49, 51, 53, 54, 56, 0, 0, 1]) F rfl (by decide +kernel) (by decide +kernel) rfl uX8 (by decide) q180 dX8_init_174 ?_
  refine gc_iload_n F 0 dX8_init_177 rfl rfl ?_
  refine gc_new (ci := 4) (fds := [0, 2]) (S1 := U111) (N := 56) F uX4 tyX4_ok q159 q160 q9 rfl (ndX4 _) (Nat.le_of_ble_eq_true rfl) (Nat.le_of_ble_eq_true rfl) (by decide +kernel) (by decide +kernel) (by decide +kernel) dX8_init_178 (fun ob56 => ?_)
  refine gc_dup F dX8_init_181 ?_
  refine gc_callN (i := 56) (S1 := U113) F (iX4_init_56 (zl z) D tA) rfl hEx.2.2.2.2.2.2.2.1 q161 q9 q162 rfl ⟨by decide, by decide, by decide +kernel⟩ ⟨Nat.le_of_ble_eq_true rfl, Nat.le_of_ble_eq_true rfl⟩ rfl rfl (Nat.le_of_ble_eq_true rfl) (Nat.le_of_ble_eq_true rfl) (Nat.le_of_ble_eq_true rfl) dX8_init_182 (fun ad14 ag14 => ?_)
  refine gc_ls (Ln := [(1, .int 1), (0, .ref (ad14 0))]) (sn := [.ref (ad14 56), .int 1, .ref (ad14 50)]) (by rw [ag14 0 (by decide)]; rfl) (by rw [ag14 50 (by decide), ag14 56 (by decide)]; rfl) ?_
  refine gc_aast (C := "") (i := 50) (c := 1) (m := 54) (len := 4) (qk := 56) (ci := 4) (fds := [0, 60]) (S1 := U114) F rfl rfl (by decide +kernel) rfl (by decide +kernel) rfl (by decide) (by decide) (by decide) (by decide +kernel) dX8_init_185 ?_
  refine gc_iinc (v := 2) (Ln := [(1, .int 2), (0, .ref (ad14 0))]) F 0 dX8_init_186 rfl (by decide) (by decide) rfl ?_
  refine gc_goto (tgt := 168) F dX8_init_189 (by decide) ?_
  refine gc_iload_n F 0 dX8_init_168 rfl rfl ?_
  refine gc_iconst (v := 4) F dX8_init_169 (by decide) ?_
  refine gc_icmp_ge (tgt := 192) F dX8_init_170 (by decide) (fun h => absurd h (by decide)) (fun _ => ?_)
  refine gc_aload_n F 1 dX8_init_173 rfl rfl ?_
  refine gc_getr (i := 0) (j := 11) (m := 50) (ci := 8) (fds := [4, 6, 11, 16, 21, 32, 43, 46, 47, 49, 51, 53, 54, 56, 0, 0, 1]) F rfl (by decide +kernel) (by decide +kernel) rfl uX8 (by decide) q180 dX8_init_174 ?_
  refine gc_iload_n F 0 dX8_init_177 rfl rfl ?_
  refine gc_new (ci := 4) (fds := [0, 2]) (S1 := U115) (N := 58) F uX4 tyX4_ok q159 q160 q9 rfl (ndX4 _) (Nat.le_of_ble_eq_true rfl) (Nat.le_of_ble_eq_true rfl) (by decide +kernel) (by decide +kernel) (by decide +kernel) dX8_init_178 (fun ob58 => ?_)
  refine gc_dup F dX8_init_181 ?_
  refine gc_callN (i := 58) (S1 := U117) F (iX4_init_58 (zl z) D tA) rfl hEx.2.2.2.2.2.2.2.1 q161 q9 q162 rfl ⟨by decide, by decide, by decide +kernel⟩ ⟨Nat.le_of_ble_eq_true rfl, Nat.le_of_ble_eq_true rfl⟩ rfl rfl (Nat.le_of_ble_eq_true rfl) (Nat.le_of_ble_eq_true rfl) (Nat.le_of_ble_eq_true rfl) dX8_init_182 (fun ad15 ag15 => ?_)
  refine gc_ls (Ln := [(1, .int 2), (0, .ref (ad15 0))]) (sn := [.ref (ad15 58), .int 2, .ref (ad15 50)]) (by rw [ag15 0 (by decide)]; rfl) (by rw [ag15 50 (by decide), ag15 58 (by decide)]; rfl) ?_
  refine gc_aast (C := "") (i := 50) (c := 2) (m := 54) (len := 4) (qk := 58) (ci := 4) (fds := [0, 62]) (S1 := U118) F rfl rfl (by decide +kernel) rfl (by decide +kernel) rfl (by decide) (by decide) (by decide) (by decide +kernel) dX8_init_185 ?_
  refine gc_iinc (v := 3) (Ln := [(1, .int 3), (0, .ref (ad15 0))]) F 0 dX8_init_186 rfl (by decide) (by decide) rfl ?_
  refine gc_goto (tgt := 168) F dX8_init_189 (by decide) ?_
  refine gc_iload_n F 0 dX8_init_168 rfl rfl ?_
  refine gc_iconst (v := 4) F dX8_init_169 (by decide) ?_
  refine gc_icmp_ge (tgt := 192) F dX8_init_170 (by decide) (fun h => absurd h (by decide)) (fun _ => ?_)
  refine gc_aload_n F 1 dX8_init_173 rfl rfl ?_
  refine gc_getr (i := 0) (j := 11) (m := 50) (ci := 8) (fds := [4, 6, 11, 16, 21, 32, 43, 46, 47, 49, 51, 53, 54, 56, 0, 0, 1]) F rfl (by decide +kernel) (by decide +kernel) rfl uX8 (by decide) q180 dX8_init_174 ?_
  refine gc_iload_n F 0 dX8_init_177 rfl rfl ?_
  refine gc_new (ci := 4) (fds := [0, 2]) (S1 := U119) (N := 60) F uX4 tyX4_ok q159 q160 q9 rfl (ndX4 _) (Nat.le_of_ble_eq_true rfl) (Nat.le_of_ble_eq_true rfl) (by decide +kernel) (by decide +kernel) (by decide +kernel) dX8_init_178 (fun ob60 => ?_)
  refine gc_dup F dX8_init_181 ?_
  refine gc_callN (i := 60) (S1 := U121) F (iX4_init_60 (zl z) D tA) rfl hEx.2.2.2.2.2.2.2.1 q161 q9 q162 rfl ⟨by decide, by decide, by decide +kernel⟩ ⟨Nat.le_of_ble_eq_true rfl, Nat.le_of_ble_eq_true rfl⟩ rfl rfl (Nat.le_of_ble_eq_true rfl) (Nat.le_of_ble_eq_true rfl) (Nat.le_of_ble_eq_true rfl) dX8_init_182 (fun ad16 ag16 => ?_)
  refine gc_ls (Ln := [(1, .int 3), (0, .ref (ad16 0))]) (sn := [.ref (ad16 60), .int 3, .ref (ad16 50)]) (by rw [ag16 0 (by decide)]; rfl) (by rw [ag16 50 (by decide), ag16 60 (by decide)]; rfl) ?_
  refine gc_aast (C := "") (i := 50) (c := 3) (m := 54) (len := 4) (qk := 60) (ci := 4) (fds := [0, 64]) (S1 := U122) F rfl rfl (by decide +kernel) rfl (by decide +kernel) rfl (by decide) (by decide) (by decide) (by decide +kernel) dX8_init_185 ?_
  refine gc_iinc (v := 4) (Ln := [(1, .int 4), (0, .ref (ad16 0))]) F 0 dX8_init_186 rfl (by decide) (by decide) rfl ?_
  refine gc_goto (tgt := 168) F dX8_init_189 (by decide) ?_
  refine gc_iload_n F 0 dX8_init_168 rfl rfl ?_
  refine gc_iconst (v := 4) F dX8_init_169 (by decide) ?_
  refine gc_icmp_ge (tgt := 192) F dX8_init_170 (by decide) (fun _ => ?_) (fun h => absurd (by decide) h)
  exact gc_vret F e (fun i hi => by have hi : i < 1 := hi; rw [ag16 i (Nat.lt_of_lt_of_le hi (by decide +kernel)), va_up_ne _ _ (by omega), ag15 i (Nat.lt_of_lt_of_le hi (by decide +kernel)), va_up_ne _ _ (by omega), ag14 i (Nat.lt_of_lt_of_le hi (by decide +kernel)), va_up_ne _ _ (by omega), ag13 i (Nat.lt_of_lt_of_le hi (by decide +kernel)), va_up_ne _ _ (by omega), va_up_ne _ _ (by omega), ag12 i (Nat.lt_of_lt_of_le hi (by decide +kernel)), va_up_ne _ _ (by omega), va_up_ne _ _ (by omega), ag11 i (Nat.lt_of_lt_of_le hi (by decide +kernel)), va_up_ne _ _ (by omega), ag10 i (Nat.lt_of_lt_of_le hi (by decide +kernel)), va_up_ne _ _ (by omega), ag9 i (Nat.lt_of_lt_of_le hi (by decide +kernel)), va_up_ne _ _ (by omega), ag8 i (Nat.lt_of_lt_of_le hi (by decide +kernel)), va_up_ne _ _ (by omega), ag7 i (Nat.lt_of_lt_of_le hi (by decide +kernel)), va_up_ne _ _ (by omega), ag6 i (Nat.lt_of_lt_of_le hi (by decide +kernel)), va_up_ne _ _ (by omega), ag5 i (Nat.lt_of_lt_of_le hi (by decide +kernel)), va_up_ne _ _ (by omega), ag4 i (Nat.lt_of_lt_of_le hi (by decide +kernel)), va_up_ne _ _ (by omega), ag3 i (Nat.lt_of_lt_of_le hi (by decide +kernel)), va_up_ne _ _ (by omega), ag2 i (Nat.lt_of_lt_of_le hi (by decide +kernel)), va_up_ne _ _ (by omega), ag1 i (Nat.lt_of_lt_of_le hi (by decide +kernel)), va_up_ne _ _ (by omega)]) dX8_init_192
