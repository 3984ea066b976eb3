theorem gc_cellI {cA : ClassId} {len N : Nat} {ad : Nat → Nat} {ty : FieldType} (h : defaultValue ty = .int 0) : vp_cell cA (len, g_av ad (g0 N) (h0 N) 0) = arrV cA len (fun _ => defaultValue ty) := by
  rw [h]
  rfl
theorem gc_cellL {cA : ClassId} {len N : Nat} {ad : Nat → Nat} {ty : FieldType} (h : defaultValue ty = .long 0) : vp_cell cA (len, g_av ad (g0 N) (h0 N) 1) = arrV cA len (fun _ => defaultValue ty) := by
  rw [h]
  rfl
set_option maxRecDepth 100000 in
set_option maxHeartbeats 4000000 in
theorem iX6_init (l : Launch) (D : va_G) (tA : Nat → ClassId) : CtI l D tA U1 U3 1 yX6_init cX6_init 1 ({ frames := 1, cells := 1, slots := 400, locals := 64 }) 1 400 (fun _ => True) := by
  refine CtI.of "LeapJoin$Tape" rfl rfl (by decide) (by decide) (fun z ad F hin e hl hEx => ?_)
  subst hl
  refine gc_aload_n F 0 dX6_init_0 rfl rfl ?_
  refine gc_objInit F q34 q28 q29 rfl (Nat.le_of_ble_eq_true rfl) (Nat.le_of_ble_eq_true rfl) dX6_init_1 ?_
  refine gc_aload_n F 0 dX6_init_4 rfl rfl ?_
  refine gc_iconst (v := 0) F dX6_init_5 (by decide) ?_
  refine gc_puti (i := 1) (j := 0) (ci := 6) (fds := [0, 2, 0]) F rfl (by decide +kernel) (by decide +kernel) rfl uX6 (by decide) q35 tyX6_ok nmX6 rfl rfl rfl dX6_init_6 ?_
  refine gc_aload_n F 0 dX6_init_9 rfl rfl ?_
  refine gc_sipush (v := 400) F dX6_init_10 (by decide) ?_
  refine gc_newa (at_ := .byte) (ty := .byte) (v := 400) (S1 := U2) (N := 2) (t := 1) (so := 0) (len := 400) F rfl q42 rfl (fun _ => rfl) (fun _ => gc_cellI rfl) (by decide +kernel) (by decide +kernel) (Nat.le_of_ble_eq_true rfl) (Nat.le_of_ble_eq_true rfl) (Nat.le_of_ble_eq_true rfl) (by decide +kernel) (by decide +kernel) (by decide +kernel) dX6_init_13 (fun ob2 => ?_)
  refine gc_putr (i := 1) (j := 1) (m := 2) (S1 := U3) (ci := 6) (fds := [0, 2, 0]) F hin rfl rfl (by decide +kernel) (by decide +kernel) (by decide +kernel) rfl uX6 (by decide) q37 tyX6_ok nmX6 rfl rfl (fun _ => rfl) (fun _ => rfl) dX6_init_15 ?_
  refine gc_aload_n F 0 dX6_init_18 rfl rfl ?_
  refine gc_iconst (v := 0) F dX6_init_19 (by decide) ?_
  refine gc_puti (i := 1) (j := 2) (ci := 6) (fds := [0, 5, 0]) F rfl (by decide +kernel) (by decide +kernel) rfl uX6 (by decide) q38 tyX6_ok nmX6 rfl rfl rfl dX6_init_20 ?_
  exact gc_vret F e (fun i hi => by have hi : i < 2 := hi; rw [va_up_ne _ _ (by omega)]) dX6_init_23
set_option maxRecDepth 100000 in
set_option maxHeartbeats 4000000 in
theorem iX5_init (l : Launch) (D : va_G) (tA : Nat → ClassId) : CtI l D tA U5 U13 3 yX5_init cX5_init 1 ({ frames := 1, cells := 4, slots := 68, locals := 64 }) 4 68 (fun _ => True) := by
  refine CtI.of "LeapJoin$Tables" rfl rfl (by decide) (by decide) (fun z ad F hin e hl hEx => ?_)
  subst hl
  refine gc_aload_n F 0 dX5_init_0 rfl rfl ?_
  refine gc_objInit F q47 q28 q29 rfl (Nat.le_of_ble_eq_true rfl) (Nat.le_of_ble_eq_true rfl) dX5_init_1 ?_
  refine gc_aload_n F 0 dX5_init_4 rfl rfl ?_
  refine gc_iconst (v := 0) F dX5_init_5 (by decide) ?_
  refine gc_puti (i := 3) (j := 0) (ci := 5) (fds := [0, 0, 0, 2, 2, 2, 2]) F rfl (by decide +kernel) (by decide +kernel) rfl uX5 (by decide) q48 tyX5_ok nmX5 rfl rfl rfl dX5_init_6 ?_
  refine gc_aload_n F 0 dX5_init_9 rfl rfl ?_
  refine gc_iconst (v := 0) F dX5_init_10 (by decide) ?_
  refine gc_puti (i := 3) (j := 1) (ci := 5) (fds := [0, 0, 0, 2, 2, 2, 2]) F rfl (by decide +kernel) (by decide +kernel) rfl uX5 (by decide) q51 tyX5_ok nmX5 rfl rfl rfl dX5_init_11 ?_
  refine gc_aload_n F 0 dX5_init_14 rfl rfl ?_
  refine gc_iconst (v := 0) F dX5_init_15 (by decide) ?_
  refine gc_puti (i := 3) (j := 2) (ci := 5) (fds := [0, 0, 0, 2, 2, 2, 2]) F rfl (by decide +kernel) (by decide +kernel) rfl uX5 (by decide) q53 tyX5_ok nmX5 rfl rfl rfl dX5_init_16 ?_
  refine gc_aload_n F 0 dX5_init_19 rfl rfl ?_
  refine gc_iconst (v := 4) F dX5_init_20 (by decide) ?_
  refine gc_newa (at_ := .int) (ty := .int) (v := 4) (S1 := U6) (N := 4) (t := 0) (so := 0) (len := 4) F rfl q71 rfl (fun _ => rfl) (fun _ => gc_cellI rfl) (by decide +kernel) (by decide +kernel) (Nat.le_of_ble_eq_true rfl) (Nat.le_of_ble_eq_true rfl) (Nat.le_of_ble_eq_true rfl) (by decide +kernel) (by decide +kernel) (by decide +kernel) dX5_init_21 (fun ob4 => ?_)
  refine gc_putr (i := 3) (j := 3) (m := 4) (S1 := U7) (ci := 5) (fds := [0, 0, 0, 2, 2, 2, 2]) F hin rfl rfl (by decide +kernel) (by decide +kernel) (by decide +kernel) rfl uX5 (by decide) q55 tyX5_ok nmX5 rfl rfl (fun _ => rfl) (fun _ => rfl) dX5_init_23 ?_
  refine gc_aload_n F 0 dX5_init_26 rfl rfl ?_
  refine gc_iconst (v := 4) F dX5_init_27 (by decide) ?_
  refine gc_newa (at_ := .int) (ty := .int) (v := 4) (S1 := U8) (N := 5) (t := 0) (so := 0) (len := 4) F rfl q71 rfl (fun _ => rfl) (fun _ => gc_cellI rfl) (by decide +kernel) (by decide +kernel) (Nat.le_of_ble_eq_true rfl) (Nat.le_of_ble_eq_true rfl) (Nat.le_of_ble_eq_true rfl) (by decide +kernel) (by decide +kernel) (by decide +kernel) dX5_init_28 (fun ob5 => ?_)
  refine gc_putr (i := 3) (j := 4) (m := 5) (S1 := U9) (ci := 5) (fds := [0, 0, 0, 7, 2, 2, 2]) F hin rfl rfl (by decide +kernel) (by decide +kernel) (by decide +kernel) rfl uX5 (by decide) q58 tyX5_ok nmX5 rfl rfl (fun _ => rfl) (fun _ => rfl) dX5_init_30 ?_
  refine gc_aload_n F 0 dX5_init_33 rfl rfl ?_
  refine gc_bipush (v := 12) F dX5_init_34 (by decide) ?_
  refine gc_newa (at_ := .int) (ty := .int) (v := 12) (S1 := U10) (N := 6) (t := 0) (so := 0) (len := 12) F rfl q71 rfl (fun _ => rfl) (fun _ => gc_cellI rfl) (by decide +kernel) (by decide +kernel) (Nat.le_of_ble_eq_true rfl) (Nat.le_of_ble_eq_true rfl) (Nat.le_of_ble_eq_true rfl) (by decide +kernel) (by decide +kernel) (by decide +kernel) dX5_init_36 (fun ob6 => ?_)
  refine gc_putr (i := 3) (j := 5) (m := 6) (S1 := U11) (ci := 5) (fds := [0, 0, 0, 7, 8, 2, 2]) F hin rfl rfl (by decide +kernel) (by decide +kernel) (by decide +kernel) rfl uX5 (by decide) q62 tyX5_ok nmX5 rfl rfl (fun _ => rfl) (fun _ => rfl) dX5_init_38 ?_
  refine gc_aload_n F 0 dX5_init_41 rfl rfl ?_
  refine gc_bipush (v := 48) F dX5_init_42 (by decide) ?_
  refine gc_newa (at_ := .int) (ty := .int) (v := 48) (S1 := U12) (N := 7) (t := 0) (so := 0) (len := 48) F rfl q71 rfl (fun _ => rfl) (fun _ => gc_cellI rfl) (by decide +kernel) (by decide +kernel) (Nat.le_of_ble_eq_true rfl) (Nat.le_of_ble_eq_true rfl) (Nat.le_of_ble_eq_true rfl) (by decide +kernel) (by decide +kernel) (by decide +kernel) dX5_init_44 (fun ob7 => ?_)
  refine gc_putr (i := 3) (j := 6) (m := 7) (S1 := U13) (ci := 5) (fds := [0, 0, 0, 7, 8, 9, 2]) F hin rfl rfl (by decide +kernel) (by decide +kernel) (by decide +kernel) rfl uX5 (by decide) q63 tyX5_ok nmX5 rfl rfl (fun _ => rfl) (fun _ => rfl) dX5_init_46 ?_
  exact gc_vret F e (fun i hi => by have hi : i < 4 := hi; rw [va_up_ne _ _ (by omega), va_up_ne _ _ (by omega), va_up_ne _ _ (by omega), va_up_ne _ _ (by omega)]) dX5_init_49
set_option maxRecDepth 100000 in
set_option maxHeartbeats 4000000 in
theorem iX5_init_8 (l : Launch) (D : va_G) (tA : Nat → ClassId) : CtI l D tA U15 U23 8 yX5_init cX5_init 1 ({ frames := 1, cells := 4, slots := 68, locals := 64 }) 4 68 (fun _ => True) := by
  refine CtI.of "LeapJoin$Tables" rfl rfl (by decide) (by decide) (fun z ad F hin e hl hEx => ?_)
  subst hl
  refine gc_aload_n F 0 dX5_init_0 rfl rfl ?_
  refine gc_objInit F q47 q28 q29 rfl (Nat.le_of_ble_eq_true rfl) (Nat.le_of_ble_eq_true rfl) dX5_init_1 ?_
  refine gc_aload_n F 0 dX5_init_4 rfl rfl ?_
  refine gc_iconst (v := 0) F dX5_init_5 (by decide) ?_
  refine gc_puti (i := 8) (j := 0) (ci := 5) (fds := [0, 0, 0, 2, 2, 2, 2]) F rfl (by decide +kernel) (by decide +kernel) rfl uX5 (by decide) q48 tyX5_ok nmX5 rfl rfl rfl dX5_init_6 ?_
  refine gc_aload_n F 0 dX5_init_9 rfl rfl ?_
  refine gc_iconst (v := 0) F dX5_init_10 (by decide) ?_
  refine gc_puti (i := 8) (j := 1) (ci := 5) (fds := [0, 0, 0, 2, 2, 2, 2]) F rfl (by decide +kernel) (by decide +kernel) rfl uX5 (by decide) q51 tyX5_ok nmX5 rfl rfl rfl dX5_init_11 ?_
  refine gc_aload_n F 0 dX5_init_14 rfl rfl ?_
  refine gc_iconst (v := 0) F dX5_init_15 (by decide) ?_
  refine gc_puti (i := 8) (j := 2) (ci := 5) (fds := [0, 0, 0, 2, 2, 2, 2]) F rfl (by decide +kernel) (by decide +kernel) rfl uX5 (by decide) q53 tyX5_ok nmX5 rfl rfl rfl dX5_init_16 ?_
  refine gc_aload_n F 0 dX5_init_19 rfl rfl ?_
  refine gc_iconst (v := 4) F dX5_init_20 (by decide) ?_
  refine gc_newa (at_ := .int) (ty := .int) (v := 4) (S1 := U16) (N := 9) (t := 0) (so := 0) (len := 4) F rfl q71 rfl (fun _ => rfl) (fun _ => gc_cellI rfl) (by decide +kernel) (by decide +kernel) (Nat.le_of_ble_eq_true rfl) (Nat.le_of_ble_eq_true rfl) (Nat.le_of_ble_eq_true rfl) (by decide +kernel) (by decide +kernel) (by decide +kernel) dX5_init_21 (fun ob9 => ?_)
  refine gc_putr (i := 8) (j := 3) (m := 9) (S1 := U17) (ci := 5) (fds := [0, 0, 0, 2, 2, 2, 2]) F hin rfl rfl (by decide +kernel) (by decide +kernel) (by decide +kernel) rfl uX5 (by decide) q55 tyX5_ok nmX5 rfl rfl (fun _ => rfl) (fun _ => rfl) dX5_init_23 ?_
  refine gc_aload_n F 0 dX5_init_26 rfl rfl ?_
  refine gc_iconst (v := 4) F dX5_init_27 (by decide) ?_
  refine gc_newa (at_ := .int) (ty := .int) (v := 4) (S1 := U18) (N := 10) (t := 0) (so := 0) (len := 4) F rfl q71 rfl (fun _ => rfl) (fun _ => gc_cellI rfl) (by decide +kernel) (by decide +kernel) (Nat.le_of_ble_eq_true rfl) (Nat.le_of_ble_eq_true rfl) (Nat.le_of_ble_eq_true rfl) (by decide +kernel) (by decide +kernel) (by decide +kernel) dX5_init_28 (fun ob10 => ?_)
  refine gc_putr (i := 8) (j := 4) (m := 10) (S1 := U19) (ci := 5) (fds := [0, 0, 0, 12, 2, 2, 2]) F hin rfl rfl (by decide +kernel) (by decide +kernel) (by decide +kernel) rfl uX5 (by decide) q58 tyX5_ok nmX5 rfl rfl (fun _ => rfl) (fun _ => rfl) dX5_init_30 ?_
  refine gc_aload_n F 0 dX5_init_33 rfl rfl ?_
  refine gc_bipush (v := 12) F dX5_init_34 (by decide) ?_
  refine gc_newa (at_ := .int) (ty := .int) (v := 12) (S1 := U20) (N := 11) (t := 0) (so := 0) (len := 12) F rfl q71 rfl (fun _ => rfl) (fun _ => gc_cellI rfl) (by decide +kernel) (by decide +kernel) (Nat.le_of_ble_eq_true rfl) (Nat.le_of_ble_eq_true rfl) (Nat.le_of_ble_eq_true rfl) (by decide +kernel) (by decide +kernel) (by decide +kernel) dX5_init_36 (fun ob11 => ?_)
  refine gc_putr (i := 8) (j := 5) (m := 11) (S1 := U21) (ci := 5) (fds := [0, 0, 0, 12, 13, 2, 2]) F hin rfl rfl (by decide +kernel) (by decide +kernel) (by decide +kernel) rfl uX5 (by decide) q62 tyX5_ok nmX5 rfl rfl (fun _ => rfl) (fun _ => rfl) dX5_init_38 ?_
  refine gc_aload_n F 0 dX5_init_41 rfl rfl ?_
  refine gc_bipush (v := 48) F dX5_init_42 (by decide) ?_
  refine gc_newa (at_ := .int) (ty := .int) (v := 48) (S1 := U22) (N := 12) (t := 0) (so := 0) (len := 48) F rfl q71 rfl (fun _ => rfl) (fun _ => gc_cellI rfl) (by decide +kernel) (by decide +kernel) (Nat.le_of_ble_eq_true rfl) (Nat.le_of_ble_eq_true rfl) (Nat.le_of_ble_eq_true rfl) (by decide +kernel) (by decide +kernel) (by decide +kernel) dX5_init_44 (fun ob12 => ?_)
  refine gc_putr (i := 8) (j := 6) (m := 12) (S1 := U23) (ci := 5) (fds := [0, 0, 0, 12, 13, 14, 2]) F hin rfl rfl (by decide +kernel) (by decide +kernel) (by decide +kernel) rfl uX5 (by decide) q63 tyX5_ok nmX5 rfl rfl (fun _ => rfl) (fun _ => rfl) dX5_init_46 ?_
  exact gc_vret F e (fun i hi => by have hi : i < 9 := hi; rw [va_up_ne _ _ (by omega), va_up_ne _ _ (by omega), va_up_ne _ _ (by omega), va_up_ne _ _ (by omega)]) dX5_init_49
set_option maxRecDepth 100000 in
set_option maxHeartbeats 4000000 in
theorem iX5_init_13 (l : Launch) (D : va_G) (tA : Nat → ClassId) : CtI l D tA U25 U33 13 yX5_init cX5_init 1 ({ frames := 1, cells := 4, slots := 68, locals := 64 }) 4 68 (fun _ => True) := by
  refine CtI.of "LeapJoin$Tables" rfl rfl (by decide) (by decide) (fun z ad F hin e hl hEx => ?_)
  subst hl
  refine gc_aload_n F 0 dX5_init_0 rfl rfl ?_
  refine gc_objInit F q47 q28 q29 rfl (Nat.le_of_ble_eq_true rfl) (Nat.le_of_ble_eq_true rfl) dX5_init_1 ?_
  refine gc_aload_n F 0 dX5_init_4 rfl rfl ?_
  refine gc_iconst (v := 0) F dX5_init_5 (by decide) ?_
  refine gc_puti (i := 13) (j := 0) (ci := 5) (fds := [0, 0, 0, 2, 2, 2, 2]) F rfl (by decide +kernel) (by decide +kernel) rfl uX5 (by decide) q48 tyX5_ok nmX5 rfl rfl rfl dX5_init_6 ?_
  refine gc_aload_n F 0 dX5_init_9 rfl rfl ?_
  refine gc_iconst (v := 0) F dX5_init_10 (by decide) ?_
  refine gc_puti (i := 13) (j := 1) (ci := 5) (fds := [0, 0, 0, 2, 2, 2, 2]) F rfl (by decide +kernel) (by decide +kernel) rfl uX5 (by decide) q51 tyX5_ok nmX5 rfl rfl rfl dX5_init_11 ?_
  refine gc_aload_n F 0 dX5_init_14 rfl rfl ?_
  refine gc_iconst (v := 0) F dX5_init_15 (by decide) ?_
  refine gc_puti (i := 13) (j := 2) (ci := 5) (fds := [0, 0, 0, 2, 2, 2, 2]) F rfl (by decide +kernel) (by decide +kernel) rfl uX5 (by decide) q53 tyX5_ok nmX5 rfl rfl rfl dX5_init_16 ?_
  refine gc_aload_n F 0 dX5_init_19 rfl rfl ?_
  refine gc_iconst (v := 4) F dX5_init_20 (by decide) ?_
  refine gc_newa (at_ := .int) (ty := .int) (v := 4) (S1 := U26) (N := 14) (t := 0) (so := 0) (len := 4) F rfl q71 rfl (fun _ => rfl) (fun _ => gc_cellI rfl) (by decide +kernel) (by decide +kernel) (Nat.le_of_ble_eq_true rfl) (Nat.le_of_ble_eq_true rfl) (Nat.le_of_ble_eq_true rfl) (by decide +kernel) (by decide +kernel) (by decide +kernel) dX5_init_21 (fun ob14 => ?_)
  refine gc_putr (i := 13) (j := 3) (m := 14) (S1 := U27) (ci := 5) (fds := [0, 0, 0, 2, 2, 2, 2]) F hin rfl rfl (by decide +kernel) (by decide +kernel) (by decide +kernel) rfl uX5 (by decide) q55 tyX5_ok nmX5 rfl rfl (fun _ => rfl) (fun _ => rfl) dX5_init_23 ?_
  refine gc_aload_n F 0 dX5_init_26 rfl rfl ?_
  refine gc_iconst (v := 4) F dX5_init_27 (by decide) ?_
  refine gc_newa (at_ := .int) (ty := .int) (v := 4) (S1 := U28) (N := 15) (t := 0) (so := 0) (len := 4) F rfl q71 rfl (fun _ => rfl) (fun _ => gc_cellI rfl) (by decide +kernel) (by decide +kernel) (Nat.le_of_ble_eq_true rfl) (Nat.le_of_ble_eq_true rfl) (Nat.le_of_ble_eq_true rfl) (by decide +kernel) (by decide +kernel) (by decide +kernel) dX5_init_28 (fun ob15 => ?_)
  refine gc_putr (i := 13) (j := 4) (m := 15) (S1 := U29) (ci := 5) (fds := [0, 0, 0, 17, 2, 2, 2]) F hin rfl rfl (by decide +kernel) (by decide +kernel) (by decide +kernel) rfl uX5 (by decide) q58 tyX5_ok nmX5 rfl rfl (fun _ => rfl) (fun _ => rfl) dX5_init_30 ?_
  refine gc_aload_n F 0 dX5_init_33 rfl rfl ?_
  refine gc_bipush (v := 12) F dX5_init_34 (by decide) ?_
  refine gc_newa (at_ := .int) (ty := .int) (v := 12) (S1 := U30) (N := 16) (t := 0) (so := 0) (len := 12) F rfl q71 rfl (fun _ => rfl) (fun _ => gc_cellI rfl) (by decide +kernel) (by decide +kernel) (Nat.le_of_ble_eq_true rfl) (Nat.le_of_ble_eq_true rfl) (Nat.le_of_ble_eq_true rfl) (by decide +kernel) (by decide +kernel) (by decide +kernel) dX5_init_36 (fun ob16 => ?_)
  refine gc_putr (i := 13) (j := 5) (m := 16) (S1 := U31) (ci := 5) (fds := [0, 0, 0, 17, 18, 2, 2]) F hin rfl rfl (by decide +kernel) (by decide +kernel) (by decide +kernel) rfl uX5 (by decide) q62 tyX5_ok nmX5 rfl rfl (fun _ => rfl) (fun _ => rfl) dX5_init_38 ?_
  refine gc_aload_n F 0 dX5_init_41 rfl rfl ?_
  refine gc_bipush (v := 48) F dX5_init_42 (by decide) ?_
  refine gc_newa (at_ := .int) (ty := .int) (v := 48) (S1 := U32) (N := 17) (t := 0) (so := 0) (len := 48) F rfl q71 rfl (fun _ => rfl) (fun _ => gc_cellI rfl) (by decide +kernel) (by decide +kernel) (Nat.le_of_ble_eq_true rfl) (Nat.le_of_ble_eq_true rfl) (Nat.le_of_ble_eq_true rfl) (by decide +kernel) (by decide +kernel) (by decide +kernel) dX5_init_44 (fun ob17 => ?_)
  refine gc_putr (i := 13) (j := 6) (m := 17) (S1 := U33) (ci := 5) (fds := [0, 0, 0, 17, 18, 19, 2]) F hin rfl rfl (by decide +kernel) (by decide +kernel) (by decide +kernel) rfl uX5 (by decide) q63 tyX5_ok nmX5 rfl rfl (fun _ => rfl) (fun _ => rfl) dX5_init_46 ?_
  exact gc_vret F e (fun i hi => by have hi : i < 14 := hi; rw [va_up_ne _ _ (by omega), va_up_ne _ _ (by omega), va_up_ne _ _ (by omega), va_up_ne _ _ (by omega)]) dX5_init_49
set_option maxRecDepth 100000 in
set_option maxHeartbeats 4000000 in
theorem iX1_init (l : Launch) (D : va_G) (tA : Nat → ClassId) : CtI l D tA U35 U55 18 yX1_init cX1_init 1 ({ frames := 1, cells := 10, slots := 20864, locals := 64 }) 10 20864 (fun _ => True) := by
  refine CtI.of "LeapJoin$Join" rfl rfl (by decide) (by decide) (fun z ad F hin e hl hEx => ?_)
  subst hl
  refine gc_aload_n F 0 dX1_init_0 rfl rfl ?_
  refine gc_objInit F q76 q28 q29 rfl (Nat.le_of_ble_eq_true rfl) (Nat.le_of_ble_eq_true rfl) dX1_init_1 ?_
  refine gc_aload_n F 0 dX1_init_4 rfl rfl ?_
  refine gc_iconst (v := 0) F dX1_init_5 (by decide) ?_
  refine gc_puti (i := 18) (j := 0) (ci := 1) (fds := [0, 0, 0, 2, 2, 2, 2, 2, 2, 2, 2, 2, 2]) F rfl (by decide +kernel) (by decide +kernel) rfl uX1 (by decide) q77 tyX1_ok nmX1 rfl rfl rfl dX1_init_6 ?_
  refine gc_aload_n F 0 dX1_init_9 rfl rfl ?_
  refine gc_iconst (v := 0) F dX1_init_10 (by decide) ?_
  refine gc_puti (i := 18) (j := 1) (ci := 1) (fds := [0, 0, 0, 2, 2, 2, 2, 2, 2, 2, 2, 2, 2]) F rfl (by decide +kernel) (by decide +kernel) rfl uX1 (by decide) q80 tyX1_ok nmX1 rfl rfl rfl dX1_init_11 ?_
  refine gc_aload_n F 0 dX1_init_14 rfl rfl ?_
  refine gc_iconst (v := 0) F dX1_init_15 (by decide) ?_
  refine gc_puti (i := 18) (j := 2) (ci := 1) (fds := [0, 0, 0, 2, 2, 2, 2, 2, 2, 2, 2, 2, 2]) F rfl (by decide +kernel) (by decide +kernel) rfl uX1 (by decide) q83 tyX1_ok nmX1 rfl rfl rfl dX1_init_16 ?_
  refine gc_aload_n F 0 dX1_init_19 rfl rfl ?_
  refine gc_iconst (v := 4) F dX1_init_20 (by decide) ?_
  refine gc_newa (at_ := .int) (ty := .int) (v := 4) (S1 := U36) (N := 19) (t := 0) (so := 0) (len := 4) F rfl q71 rfl (fun _ => rfl) (fun _ => gc_cellI rfl) (by decide +kernel) (by decide +kernel) (Nat.le_of_ble_eq_true rfl) (Nat.le_of_ble_eq_true rfl) (Nat.le_of_ble_eq_true rfl) (by decide +kernel) (by decide +kernel) (by decide +kernel) dX1_init_21 (fun ob19 => ?_)
  refine gc_putr (i := 18) (j := 3) (m := 19) (S1 := U37) (ci := 1) (fds := [0, 0, 0, 2, 2, 2, 2, 2, 2, 2, 2, 2, 2]) F hin rfl rfl (by decide +kernel) (by decide +kernel) (by decide +kernel) rfl uX1 (by decide) q85 tyX1_ok nmX1 rfl rfl (fun _ => rfl) (fun _ => rfl) dX1_init_23 ?_
  refine gc_aload_n F 0 dX1_init_26 rfl rfl ?_
  refine gc_iconst (v := 4) F dX1_init_27 (by decide) ?_
  refine gc_newa (at_ := .int) (ty := .int) (v := 4) (S1 := U38) (N := 20) (t := 0) (so := 0) (len := 4) F rfl q71 rfl (fun _ => rfl) (fun _ => gc_cellI rfl) (by decide +kernel) (by decide +kernel) (Nat.le_of_ble_eq_true rfl) (Nat.le_of_ble_eq_true rfl) (Nat.le_of_ble_eq_true rfl) (by decide +kernel) (by decide +kernel) (by decide +kernel) dX1_init_28 (fun ob20 => ?_)
  refine gc_putr (i := 18) (j := 4) (m := 20) (S1 := U39) (ci := 1) (fds := [0, 0, 0, 22, 2, 2, 2, 2, 2, 2, 2, 2, 2]) F hin rfl rfl (by decide +kernel) (by decide +kernel) (by decide +kernel) rfl uX1 (by decide) q87 tyX1_ok nmX1 rfl rfl (fun _ => rfl) (fun _ => rfl) dX1_init_30 ?_
  refine gc_aload_n F 0 dX1_init_33 rfl rfl ?_
  refine gc_sipush (v := 20736) F dX1_init_34 (by decide) ?_
  refine gc_newa (at_ := .int) (ty := .int) (v := 20736) (S1 := U40) (N := 21) (t := 0) (so := 0) (len := 20736) F rfl q71 rfl (fun _ => rfl) (fun _ => gc_cellI rfl) (by decide +kernel) (by decide +kernel) (Nat.le_of_ble_eq_true rfl) (Nat.le_of_ble_eq_true rfl) (Nat.le_of_ble_eq_true rfl) (by decide +kernel) (by decide +kernel) (by decide +kernel) dX1_init_37 (fun ob21 => ?_)
  refine gc_putr (i := 18) (j := 5) (m := 21) (S1 := U41) (ci := 1) (fds := [0, 0, 0, 22, 23, 2, 2, 2, 2, 2, 2, 2, 2]) F hin rfl rfl (by decide +kernel) (by decide +kernel) (by decide +kernel) rfl uX1 (by decide) q88 tyX1_ok nmX1 rfl rfl (fun _ => rfl) (fun _ => rfl) dX1_init_39 ?_
  refine gc_aload_n F 0 dX1_init_42 rfl rfl ?_
  refine gc_iconst (v := 5) F dX1_init_43 (by decide) ?_
  refine gc_newa (at_ := .int) (ty := .int) (v := 5) (S1 := U42) (N := 22) (t := 0) (so := 0) (len := 5) F rfl q71 rfl (fun _ => rfl) (fun _ => gc_cellI rfl) (by decide +kernel) (by decide +kernel) (Nat.le_of_ble_eq_true rfl) (Nat.le_of_ble_eq_true rfl) (Nat.le_of_ble_eq_true rfl) (by decide +kernel) (by decide +kernel) (by decide +kernel) dX1_init_44 (fun ob22 => ?_)
  refine gc_putr (i := 18) (j := 6) (m := 22) (S1 := U43) (ci := 1) (fds := [0, 0, 0, 22, 23, 24, 2, 2, 2, 2, 2, 2, 2]) F hin rfl rfl (by decide +kernel) (by decide +kernel) (by decide +kernel) rfl uX1 (by decide) q89 tyX1_ok nmX1 rfl rfl (fun _ => rfl) (fun _ => rfl) dX1_init_46 ?_
  refine gc_aload_n F 0 dX1_init_49 rfl rfl ?_
  refine gc_bipush (v := 48) F dX1_init_50 (by decide) ?_
  refine gc_newa (at_ := .int) (ty := .int) (v := 48) (S1 := U44) (N := 23) (t := 0) (so := 0) (len := 48) F rfl q71 rfl (fun _ => rfl) (fun _ => gc_cellI rfl) (by decide +kernel) (by decide +kernel) (Nat.le_of_ble_eq_true rfl) (Nat.le_of_ble_eq_true rfl) (Nat.le_of_ble_eq_true rfl) (by decide +kernel) (by decide +kernel) (by decide +kernel) dX1_init_52 (fun ob23 => ?_)
  refine gc_putr (i := 18) (j := 7) (m := 23) (S1 := U45) (ci := 1) (fds := [0, 0, 0, 22, 23, 24, 25, 2, 2, 2, 2, 2, 2]) F hin rfl rfl (by decide +kernel) (by decide +kernel) (by decide +kernel) rfl uX1 (by decide) q90 tyX1_ok nmX1 rfl rfl (fun _ => rfl) (fun _ => rfl) dX1_init_54 ?_
  refine gc_aload_n F 0 dX1_init_57 rfl rfl ?_
  refine gc_iconst (v := 3) F dX1_init_58 (by decide) ?_
  refine gc_newa (at_ := .int) (ty := .int) (v := 3) (S1 := U46) (N := 24) (t := 0) (so := 0) (len := 3) F rfl q71 rfl (fun _ => rfl) (fun _ => gc_cellI rfl) (by decide +kernel) (by decide +kernel) (Nat.le_of_ble_eq_true rfl) (Nat.le_of_ble_eq_true rfl) (Nat.le_of_ble_eq_true rfl) (by decide +kernel) (by decide +kernel) (by decide +kernel) dX1_init_59 (fun ob24 => ?_)
  refine gc_putr (i := 18) (j := 8) (m := 24) (S1 := U47) (ci := 1) (fds := [0, 0, 0, 22, 23, 24, 25, 26, 2, 2, 2, 2, 2]) F hin rfl rfl (by decide +kernel) (by decide +kernel) (by decide +kernel) rfl uX1 (by decide) q91 tyX1_ok nmX1 rfl rfl (fun _ => rfl) (fun _ => rfl) dX1_init_61 ?_
  refine gc_aload_n F 0 dX1_init_64 rfl rfl ?_
  refine gc_bipush (v := 16) F dX1_init_65 (by decide) ?_
  refine gc_newa (at_ := .int) (ty := .int) (v := 16) (S1 := U48) (N := 25) (t := 0) (so := 0) (len := 16) F rfl q71 rfl (fun _ => rfl) (fun _ => gc_cellI rfl) (by decide +kernel) (by decide +kernel) (Nat.le_of_ble_eq_true rfl) (Nat.le_of_ble_eq_true rfl) (Nat.le_of_ble_eq_true rfl) (by decide +kernel) (by decide +kernel) (by decide +kernel) dX1_init_67 (fun ob25 => ?_)
  refine gc_putr (i := 18) (j := 9) (m := 25) (S1 := U49) (ci := 1) (fds := [0, 0, 0, 22, 23, 24, 25, 26, 27, 2, 2, 2, 2]) F hin rfl rfl (by decide +kernel) (by decide +kernel) (by decide +kernel) rfl uX1 (by decide) q92 tyX1_ok nmX1 rfl rfl (fun _ => rfl) (fun _ => rfl) dX1_init_69 ?_
  refine gc_aload_n F 0 dX1_init_72 rfl rfl ?_
  refine gc_bipush (v := 16) F dX1_init_73 (by decide) ?_
  refine gc_newa (at_ := .int) (ty := .int) (v := 16) (S1 := U50) (N := 26) (t := 0) (so := 0) (len := 16) F rfl q71 rfl (fun _ => rfl) (fun _ => gc_cellI rfl) (by decide +kernel) (by decide +kernel) (Nat.le_of_ble_eq_true rfl) (Nat.le_of_ble_eq_true rfl) (Nat.le_of_ble_eq_true rfl) (by decide +kernel) (by decide +kernel) (by decide +kernel) dX1_init_75 (fun ob26 => ?_)
  refine gc_putr (i := 18) (j := 10) (m := 26) (S1 := U51) (ci := 1) (fds := [0, 0, 0, 22, 23, 24, 25, 26, 27, 28, 2, 2, 2]) F hin rfl rfl (by decide +kernel) (by decide +kernel) (by decide +kernel) rfl uX1 (by decide) q93 tyX1_ok nmX1 rfl rfl (fun _ => rfl) (fun _ => rfl) dX1_init_77 ?_
  refine gc_aload_n F 0 dX1_init_80 rfl rfl ?_
  refine gc_bipush (v := 16) F dX1_init_81 (by decide) ?_
  refine gc_newa (at_ := .int) (ty := .int) (v := 16) (S1 := U52) (N := 27) (t := 0) (so := 0) (len := 16) F rfl q71 rfl (fun _ => rfl) (fun _ => gc_cellI rfl) (by decide +kernel) (by decide +kernel) (Nat.le_of_ble_eq_true rfl) (Nat.le_of_ble_eq_true rfl) (Nat.le_of_ble_eq_true rfl) (by decide +kernel) (by decide +kernel) (by decide +kernel) dX1_init_83 (fun ob27 => ?_)
  refine gc_putr (i := 18) (j := 11) (m := 27) (S1 := U53) (ci := 1) (fds := [0, 0, 0, 22, 23, 24, 25, 26, 27, 28, 29, 2, 2]) F hin rfl rfl (by decide +kernel) (by decide +kernel) (by decide +kernel) rfl uX1 (by decide) q94 tyX1_ok nmX1 rfl rfl (fun _ => rfl) (fun _ => rfl) dX1_init_85 ?_
  refine gc_aload_n F 0 dX1_init_88 rfl rfl ?_
  refine gc_bipush (v := 16) F dX1_init_89 (by decide) ?_
  refine gc_newa (at_ := .int) (ty := .int) (v := 16) (S1 := U54) (N := 28) (t := 0) (so := 0) (len := 16) F rfl q71 rfl (fun _ => rfl) (fun _ => gc_cellI rfl) (by decide +kernel) (by decide +kernel) (Nat.le_of_ble_eq_true rfl) (Nat.le_of_ble_eq_true rfl) (Nat.le_of_ble_eq_true rfl) (by decide +kernel) (by decide +kernel) (by decide +kernel) dX1_init_91 (fun ob28 => ?_)
  refine gc_putr (i := 18) (j := 12) (m := 28) (S1 := U55) (ci := 1) (fds := [0, 0, 0, 22, 23, 24, 25, 26, 27, 28, 29, 30, 2]) F hin rfl rfl (by decide +kernel) (by decide +kernel) (by decide +kernel) rfl uX1 (by decide) q95 tyX1_ok nmX1 rfl rfl (fun _ => rfl) (fun _ => rfl) dX1_init_93 ?_
  exact gc_vret F e (fun i hi => by have hi : i < 19 := hi; rw [va_up_ne _ _ (by omega), va_up_ne _ _ (by omega), va_up_ne _ _ (by omega), va_up_ne _ _ (by omega), va_up_ne _ _ (by omega), va_up_ne _ _ (by omega), va_up_ne _ _ (by omega), va_up_ne _ _ (by omega), va_up_ne _ _ (by omega), va_up_ne _ _ (by omega)]) dX1_init_96
set_option maxRecDepth 100000 in
set_option maxHeartbeats 4000000 in
theorem iX1_init_29 (l : Launch) (D : va_G) (tA : Nat → ClassId) : CtI l D tA U57 U77 29 yX1_init cX1_init 1 ({ frames := 1, cells := 10, slots := 20864, locals := 64 }) 10 20864 (fun _ => True) := by
  refine CtI.of "LeapJoin$Join" rfl rfl (by decide) (by decide) (fun z ad F hin e hl hEx => ?_)
  subst hl
  refine gc_aload_n F 0 dX1_init_0 rfl rfl ?_
  refine gc_objInit F q76 q28 q29 rfl (Nat.le_of_ble_eq_true rfl) (Nat.le_of_ble_eq_true rfl) dX1_init_1 ?_
  refine gc_aload_n F 0 dX1_init_4 rfl rfl ?_
  refine gc_iconst (v := 0) F dX1_init_5 (by decide) ?_
  refine gc_puti (i := 29) (j := 0) (ci := 1) (fds := [0, 0, 0, 2, 2, 2, 2, 2, 2, 2, 2, 2, 2]) F rfl (by decide +kernel) (by decide +kernel) rfl uX1 (by decide) q77 tyX1_ok nmX1 rfl rfl rfl dX1_init_6 ?_
  refine gc_aload_n F 0 dX1_init_9 rfl rfl ?_
  refine gc_iconst (v := 0) F dX1_init_10 (by decide) ?_
  refine gc_puti (i := 29) (j := 1) (ci := 1) (fds := [0, 0, 0, 2, 2, 2, 2, 2, 2, 2, 2, 2, 2]) F rfl (by decide +kernel) (by decide +kernel) rfl uX1 (by decide) q80 tyX1_ok nmX1 rfl rfl rfl dX1_init_11 ?_
  refine gc_aload_n F 0 dX1_init_14 rfl rfl ?_
  refine gc_iconst (v := 0) F dX1_init_15 (by decide) ?_
  refine gc_puti (i := 29) (j := 2) (ci := 1) (fds := [0, 0, 0, 2, 2, 2, 2, 2, 2, 2, 2, 2, 2]) F rfl (by decide +kernel) (by decide +kernel) rfl uX1 (by decide) q83 tyX1_ok nmX1 rfl rfl rfl dX1_init_16 ?_
  refine gc_aload_n F 0 dX1_init_19 rfl rfl ?_
  refine gc_iconst (v := 4) F dX1_init_20 (by decide) ?_
  refine gc_newa (at_ := .int) (ty := .int) (v := 4) (S1 := U58) (N := 30) (t := 0) (so := 0) (len := 4) F rfl q71 rfl (fun _ => rfl) (fun _ => gc_cellI rfl) (by decide +kernel) (by decide +kernel) (Nat.le_of_ble_eq_true rfl) (Nat.le_of_ble_eq_true rfl) (Nat.le_of_ble_eq_true rfl) (by decide +kernel) (by decide +kernel) (by decide +kernel) dX1_init_21 (fun ob30 => ?_)
  refine gc_putr (i := 29) (j := 3) (m := 30) (S1 := U59) (ci := 1) (fds := [0, 0, 0, 2, 2, 2, 2, 2, 2, 2, 2, 2, 2]) F hin rfl rfl (by decide +kernel) (by decide +kernel) (by decide +kernel) rfl uX1 (by decide) q85 tyX1_ok nmX1 rfl rfl (fun _ => rfl) (fun _ => rfl) dX1_init_23 ?_
  refine gc_aload_n F 0 dX1_init_26 rfl rfl ?_
  refine gc_iconst (v := 4) F dX1_init_27 (by decide) ?_
  refine gc_newa (at_ := .int) (ty := .int) (v := 4) (S1 := U60) (N := 31) (t := 0) (so := 0) (len := 4) F rfl q71 rfl (fun _ => rfl) (fun _ => gc_cellI rfl) (by decide +kernel) (by decide +kernel) (Nat.le_of_ble_eq_true rfl) (Nat.le_of_ble_eq_true rfl) (Nat.le_of_ble_eq_true rfl) (by decide +kernel) (by decide +kernel) (by decide +kernel) dX1_init_28 (fun ob31 => ?_)
  refine gc_putr (i := 29) (j := 4) (m := 31) (S1 := U61) (ci := 1) (fds := [0, 0, 0, 33, 2, 2, 2, 2, 2, 2, 2, 2, 2]) F hin rfl rfl (by decide +kernel) (by decide +kernel) (by decide +kernel) rfl uX1 (by decide) q87 tyX1_ok nmX1 rfl rfl (fun _ => rfl) (fun _ => rfl) dX1_init_30 ?_
  refine gc_aload_n F 0 dX1_init_33 rfl rfl ?_
  refine gc_sipush (v := 20736) F dX1_init_34 (by decide) ?_
  refine gc_newa (at_ := .int) (ty := .int) (v := 20736) (S1 := U62) (N := 32) (t := 0) (so := 0) (len := 20736) F rfl q71 rfl (fun _ => rfl) (fun _ => gc_cellI rfl) (by decide +kernel) (by decide +kernel) (Nat.le_of_ble_eq_true rfl) (Nat.le_of_ble_eq_true rfl) (Nat.le_of_ble_eq_true rfl) (by decide +kernel) (by decide +kernel) (by decide +kernel) dX1_init_37 (fun ob32 => ?_)
  refine gc_putr (i := 29) (j := 5) (m := 32) (S1 := U63) (ci := 1) (fds := [0, 0, 0, 33, 34, 2, 2, 2, 2, 2, 2, 2, 2]) F hin rfl rfl (by decide +kernel) (by decide +kernel) (by decide +kernel) rfl uX1 (by decide) q88 tyX1_ok nmX1 rfl rfl (fun _ => rfl) (fun _ => rfl) dX1_init_39 ?_
  refine gc_aload_n F 0 dX1_init_42 rfl rfl ?_
  refine gc_iconst (v := 5) F dX1_init_43 (by decide) ?_
  refine gc_newa (at_ := .int) (ty := .int) (v := 5) (S1 := U64) (N := 33) (t := 0) (so := 0) (len := 5) F rfl q71 rfl (fun _ => rfl) (fun _ => gc_cellI rfl) (by decide +kernel) (by decide +kernel) (Nat.le_of_ble_eq_true rfl) (Nat.le_of_ble_eq_true rfl) (Nat.le_of_ble_eq_true rfl) (by decide +kernel) (by decide +kernel) (by decide +kernel) dX1_init_44 (fun ob33 => ?_)
  refine gc_putr (i := 29) (j := 6) (m := 33) (S1 := U65) (ci := 1) (fds := [0, 0, 0, 33, 34, 35, 2, 2, 2, 2, 2, 2, 2]) F hin rfl rfl (by decide +kernel) (by decide +kernel) (by decide +kernel) rfl uX1 (by decide) q89 tyX1_ok nmX1 rfl rfl (fun _ => rfl) (fun _ => rfl) dX1_init_46 ?_
  refine gc_aload_n F 0 dX1_init_49 rfl rfl ?_
  refine gc_bipush (v := 48) F dX1_init_50 (by decide) ?_
  refine gc_newa (at_ := .int) (ty := .int) (v := 48) (S1 := U66) (N := 34) (t := 0) (so := 0) (len := 48) F rfl q71 rfl (fun _ => rfl) (fun _ => gc_cellI rfl) (by decide +kernel) (by decide +kernel) (Nat.le_of_ble_eq_true rfl) (Nat.le_of_ble_eq_true rfl) (Nat.le_of_ble_eq_true rfl) (by decide +kernel) (by decide +kernel) (by decide +kernel) dX1_init_52 (fun ob34 => ?_)
  refine gc_putr (i := 29) (j := 7) (m := 34) (S1 := U67) (ci := 1) (fds := [0, 0, 0, 33, 34, 35, 36, 2, 2, 2, 2, 2, 2]) F hin rfl rfl (by decide +kernel) (by decide +kernel) (by decide +kernel) rfl uX1 (by decide) q90 tyX1_ok nmX1 rfl rfl (fun _ => rfl) (fun _ => rfl) dX1_init_54 ?_
  refine gc_aload_n F 0 dX1_init_57 rfl rfl ?_
  refine gc_iconst (v := 3) F dX1_init_58 (by decide) ?_
  refine gc_newa (at_ := .int) (ty := .int) (v := 3) (S1 := U68) (N := 35) (t := 0) (so := 0) (len := 3) F rfl q71 rfl (fun _ => rfl) (fun _ => gc_cellI rfl) (by decide +kernel) (by decide +kernel) (Nat.le_of_ble_eq_true rfl) (Nat.le_of_ble_eq_true rfl) (Nat.le_of_ble_eq_true rfl) (by decide +kernel) (by decide +kernel) (by decide +kernel) dX1_init_59 (fun ob35 => ?_)
  refine gc_putr (i := 29) (j := 8) (m := 35) (S1 := U69) (ci := 1) (fds := [0, 0, 0, 33, 34, 35, 36, 37, 2, 2, 2, 2, 2]) F hin rfl rfl (by decide +kernel) (by decide +kernel) (by decide +kernel) rfl uX1 (by decide) q91 tyX1_ok nmX1 rfl rfl (fun _ => rfl) (fun _ => rfl) dX1_init_61 ?_
  refine gc_aload_n F 0 dX1_init_64 rfl rfl ?_
  refine gc_bipush (v := 16) F dX1_init_65 (by decide) ?_
  refine gc_newa (at_ := .int) (ty := .int) (v := 16) (S1 := U70) (N := 36) (t := 0) (so := 0) (len := 16) F rfl q71 rfl (fun _ => rfl) (fun _ => gc_cellI rfl) (by decide +kernel) (by decide +kernel) (Nat.le_of_ble_eq_true rfl) (Nat.le_of_ble_eq_true rfl) (Nat.le_of_ble_eq_true rfl) (by decide +kernel) (by decide +kernel) (by decide +kernel) dX1_init_67 (fun ob36 => ?_)
  refine gc_putr (i := 29) (j := 9) (m := 36) (S1 := U71) (ci := 1) (fds := [0, 0, 0, 33, 34, 35, 36, 37, 38, 2, 2, 2, 2]) F hin rfl rfl (by decide +kernel) (by decide +kernel) (by decide +kernel) rfl uX1 (by decide) q92 tyX1_ok nmX1 rfl rfl (fun _ => rfl) (fun _ => rfl) dX1_init_69 ?_
  refine gc_aload_n F 0 dX1_init_72 rfl rfl ?_
  refine gc_bipush (v := 16) F dX1_init_73 (by decide) ?_
  refine gc_newa (at_ := .int) (ty := .int) (v := 16) (S1 := U72) (N := 37) (t := 0) (so := 0) (len := 16) F rfl q71 rfl (fun _ => rfl) (fun _ => gc_cellI rfl) (by decide +kernel) (by decide +kernel) (Nat.le_of_ble_eq_true rfl) (Nat.le_of_ble_eq_true rfl) (Nat.le_of_ble_eq_true rfl) (by decide +kernel) (by decide +kernel) (by decide +kernel) dX1_init_75 (fun ob37 => ?_)
  refine gc_putr (i := 29) (j := 10) (m := 37) (S1 := U73) (ci := 1) (fds := [0, 0, 0, 33, 34, 35, 36, 37, 38, 39, 2, 2, 2]) F hin rfl rfl (by decide +kernel) (by decide +kernel) (by decide +kernel) rfl uX1 (by decide) q93 tyX1_ok nmX1 rfl rfl (fun _ => rfl) (fun _ => rfl) dX1_init_77 ?_
  refine gc_aload_n F 0 dX1_init_80 rfl rfl ?_
  refine gc_bipush (v := 16) F dX1_init_81 (by decide) ?_
  refine gc_newa (at_ := .int) (ty := .int) (v := 16) (S1 := U74) (N := 38) (t := 0) (so := 0) (len := 16) F rfl q71 rfl (fun _ => rfl) (fun _ => gc_cellI rfl) (by decide +kernel) (by decide +kernel) (Nat.le_of_ble_eq_true rfl) (Nat.le_of_ble_eq_true rfl) (Nat.le_of_ble_eq_true rfl) (by decide +kernel) (by decide +kernel) (by decide +kernel) dX1_init_83 (fun ob38 => ?_)
  refine gc_putr (i := 29) (j := 11) (m := 38) (S1 := U75) (ci := 1) (fds := [0, 0, 0, 33, 34, 35, 36, 37, 38, 39, 40, 2, 2]) F hin rfl rfl (by decide +kernel) (by decide +kernel) (by decide +kernel) rfl uX1 (by decide) q94 tyX1_ok nmX1 rfl rfl (fun _ => rfl) (fun _ => rfl) dX1_init_85 ?_
  refine gc_aload_n F 0 dX1_init_88 rfl rfl ?_
  refine gc_bipush (v := 16) F dX1_init_89 (by decide) ?_
  refine gc_newa (at_ := .int) (ty := .int) (v := 16) (S1 := U76) (N := 39) (t := 0) (so := 0) (len := 16) F rfl q71 rfl (fun _ => rfl) (fun _ => gc_cellI rfl) (by decide +kernel) (by decide +kernel) (Nat.le_of_ble_eq_true rfl) (Nat.le_of_ble_eq_true rfl) (Nat.le_of_ble_eq_true rfl) (by decide +kernel) (by decide +kernel) (by decide +kernel) dX1_init_91 (fun ob39 => ?_)
  refine gc_putr (i := 29) (j := 12) (m := 39) (S1 := U77) (ci := 1) (fds := [0, 0, 0, 33, 34, 35, 36, 37, 38, 39, 40, 41, 2]) F hin rfl rfl (by decide +kernel) (by decide +kernel) (by decide +kernel) rfl uX1 (by decide) q95 tyX1_ok nmX1 rfl rfl (fun _ => rfl) (fun _ => rfl) dX1_init_93 ?_
  exact gc_vret F e (fun i hi => by have hi : i < 30 := hi; rw [va_up_ne _ _ (by omega), va_up_ne _ _ (by omega), va_up_ne _ _ (by omega), va_up_ne _ _ (by omega), va_up_ne _ _ (by omega), va_up_ne _ _ (by omega), va_up_ne _ _ (by omega), va_up_ne _ _ (by omega), va_up_ne _ _ (by omega), va_up_ne _ _ (by omega)]) dX1_init_96
set_option maxRecDepth 100000 in
set_option maxHeartbeats 4000000 in
theorem iX0_init (l : Launch) (D : va_G) (tA : Nat → ClassId) : CtI l D tA U79 U83 40 yX0_init cX0_init 1 ({ frames := 1, cells := 2, slots := 200, locals := 64 }) 2 200 (fun _ => True) := by
  refine CtI.of "LeapJoin$Figures" rfl rfl (by decide) (by decide) (fun z ad F hin e hl hEx => ?_)
  subst hl
  refine gc_aload_n F 0 dX0_init_0 rfl rfl ?_
  refine gc_objInit F q113 q28 q29 rfl (Nat.le_of_ble_eq_true rfl) (Nat.le_of_ble_eq_true rfl) dX0_init_1 ?_
  refine gc_aload_n F 0 dX0_init_4 rfl rfl ?_
  refine gc_bipush (v := 100) F dX0_init_5 (by decide) ?_
  refine gc_newa (at_ := .int) (ty := .int) (v := 100) (S1 := U80) (N := 41) (t := 0) (so := 0) (len := 100) F rfl q71 rfl (fun _ => rfl) (fun _ => gc_cellI rfl) (by decide +kernel) (by decide +kernel) (Nat.le_of_ble_eq_true rfl) (Nat.le_of_ble_eq_true rfl) (Nat.le_of_ble_eq_true rfl) (by decide +kernel) (by decide +kernel) (by decide +kernel) dX0_init_7 (fun ob41 => ?_)
  refine gc_putr (i := 40) (j := 0) (m := 41) (S1 := U81) (ci := 0) (fds := [2, 2]) F hin rfl rfl (by decide +kernel) (by decide +kernel) (by decide +kernel) rfl uX0 (by decide) q114 tyX0_ok nmX0 rfl rfl (fun _ => rfl) (fun _ => rfl) dX0_init_9 ?_
  refine gc_aload_n F 0 dX0_init_12 rfl rfl ?_
  refine gc_bipush (v := 100) F dX0_init_13 (by decide) ?_
  refine gc_newa (at_ := .int) (ty := .int) (v := 100) (S1 := U82) (N := 42) (t := 0) (so := 0) (len := 100) F rfl q71 rfl (fun _ => rfl) (fun _ => gc_cellI rfl) (by decide +kernel) (by decide +kernel) (Nat.le_of_ble_eq_true rfl) (Nat.le_of_ble_eq_true rfl) (Nat.le_of_ble_eq_true rfl) (by decide +kernel) (by decide +kernel) (by decide +kernel) dX0_init_15 (fun ob42 => ?_)
  refine gc_putr (i := 40) (j := 1) (m := 42) (S1 := U83) (ci := 0) (fds := [44, 2]) F hin rfl rfl (by decide +kernel) (by decide +kernel) (by decide +kernel) rfl uX0 (by decide) q116 tyX0_ok nmX0 rfl rfl (fun _ => rfl) (fun _ => rfl) dX0_init_17 ?_
  exact gc_vret F e (fun i hi => by have hi : i < 41 := hi; rw [va_up_ne _ _ (by omega), va_up_ne _ _ (by omega)]) dX0_init_20
set_option maxRecDepth 100000 in
set_option maxHeartbeats 4000000 in
theorem iX7_init (l : Launch) (D : va_G) (tA : Nat → ClassId) : CtI l D tA U85 U85 43 yX7_init cX7_init 1 ({ frames := 1, cells := 0, slots := 0, locals := 64 }) 0 0 (fun _ => True) := by
  refine CtI.of "LeapJoin$Weights" rfl rfl (by decide) (by decide) (fun z ad F hin e hl hEx => ?_)
  subst hl
  refine gc_aload_n F 0 dX7_init_0 rfl rfl ?_
  refine gc_objInit F q123 q28 q29 rfl (Nat.le_of_ble_eq_true rfl) (Nat.le_of_ble_eq_true rfl) dX7_init_1 ?_
  refine gc_aload_n F 0 dX7_init_4 rfl rfl ?_
  refine gc_iconst (v := 0) F dX7_init_5 (by decide) ?_
  refine gc_puti (i := 43) (j := 0) (ci := 7) (fds := [0, 0, 0, 0]) F rfl (by decide +kernel) (by decide +kernel) rfl uX7 (by decide) q124 tyX7_ok nmX7 rfl rfl rfl dX7_init_6 ?_
  refine gc_aload_n F 0 dX7_init_9 rfl rfl ?_
  refine gc_iconst (v := 0) F dX7_init_10 (by decide) ?_
  refine gc_puti (i := 43) (j := 1) (ci := 7) (fds := [0, 0, 0, 0]) F rfl (by decide +kernel) (by decide +kernel) rfl uX7 (by decide) q126 tyX7_ok nmX7 rfl rfl rfl dX7_init_11 ?_
  refine gc_aload_n F 0 dX7_init_14 rfl rfl ?_
  refine gc_iconst (v := 0) F dX7_init_15 (by decide) ?_
  refine gc_puti (i := 43) (j := 2) (ci := 7) (fds := [0, 0, 0, 0]) F rfl (by decide +kernel) (by decide +kernel) rfl uX7 (by decide) q128 tyX7_ok nmX7 rfl rfl rfl dX7_init_16 ?_
  refine gc_aload_n F 0 dX7_init_19 rfl rfl ?_
  refine gc_iconst (v := 0) F dX7_init_20 (by decide) ?_
  refine gc_puti (i := 43) (j := 3) (ci := 7) (fds := [0, 0, 0, 0]) F rfl (by decide +kernel) (by decide +kernel) rfl uX7 (by decide) q130 tyX7_ok nmX7 rfl rfl rfl dX7_init_21 ?_
  exact gc_vret F e (fun _ _ => rfl) dX7_init_24
set_option maxRecDepth 100000 in
set_option maxHeartbeats 4000000 in
theorem iX2_init (l : Launch) (D : va_G) (tA : Nat → ClassId) : CtI l D tA U87 U89 44 yX2_init cX2_init 1 ({ frames := 1, cells := 1, slots := 300, locals := 64 }) 1 300 (fun _ => True) := by
  refine CtI.of "LeapJoin$Log" rfl rfl (by decide) (by decide) (fun z ad F hin e hl hEx => ?_)
  subst hl
  refine gc_aload_n F 0 dX2_init_0 rfl rfl ?_
  refine gc_objInit F q140 q28 q29 rfl (Nat.le_of_ble_eq_true rfl) (Nat.le_of_ble_eq_true rfl) dX2_init_1 ?_
  refine gc_aload_n F 0 dX2_init_4 rfl rfl ?_
  refine gc_sipush (v := 300) F dX2_init_5 (by decide) ?_
  refine gc_newa (at_ := .int) (ty := .int) (v := 300) (S1 := U88) (N := 45) (t := 0) (so := 0) (len := 300) F rfl q71 rfl (fun _ => rfl) (fun _ => gc_cellI rfl) (by decide +kernel) (by decide +kernel) (Nat.le_of_ble_eq_true rfl) (Nat.le_of_ble_eq_true rfl) (Nat.le_of_ble_eq_true rfl) (by decide +kernel) (by decide +kernel) (by decide +kernel) dX2_init_8 (fun ob45 => ?_)
  refine gc_putr (i := 44) (j := 0) (m := 45) (S1 := U89) (ci := 2) (fds := [2, 0, 0]) F hin rfl rfl (by decide +kernel) (by decide +kernel) (by decide +kernel) rfl uX2 (by decide) q141 tyX2_ok nmX2 rfl rfl (fun _ => rfl) (fun _ => rfl) dX2_init_10 ?_
  refine gc_aload_n F 0 dX2_init_13 rfl rfl ?_
  refine gc_iconst (v := 0) F dX2_init_14 (by decide) ?_
  refine gc_puti (i := 44) (j := 1) (ci := 2) (fds := [48, 0, 0]) F rfl (by decide +kernel) (by decide +kernel) rfl uX2 (by decide) q142 tyX2_ok nmX2 rfl rfl rfl dX2_init_15 ?_
  refine gc_aload_n F 0 dX2_init_18 rfl rfl ?_
  refine gc_iconst (v := 0) F dX2_init_19 (by decide) ?_
  refine gc_puti (i := 44) (j := 2) (ci := 2) (fds := [48, 0, 0]) F rfl (by decide +kernel) (by decide +kernel) rfl uX2 (by decide) q143 tyX2_ok nmX2 rfl rfl rfl dX2_init_20 ?_
  exact gc_vret F e (fun i hi => by have hi : i < 45 := hi; rw [va_up_ne _ _ (by omega)]) dX2_init_23
set_option maxRecDepth 100000 in
set_option maxHeartbeats 4000000 in
theorem iX2_init_46 (l : Launch) (D : va_G) (tA : Nat → ClassId) : CtI l D tA U91 U93 46 yX2_init cX2_init 1 ({ frames := 1, cells := 1, slots := 300, locals := 64 }) 1 300 (fun _ => True) := by
  refine CtI.of "LeapJoin$Log" rfl rfl (by decide) (by decide) (fun z ad F hin e hl hEx => ?_)
  subst hl
  refine gc_aload_n F 0 dX2_init_0 rfl rfl ?_
  refine gc_objInit F q140 q28 q29 rfl (Nat.le_of_ble_eq_true rfl) (Nat.le_of_ble_eq_true rfl) dX2_init_1 ?_
  refine gc_aload_n F 0 dX2_init_4 rfl rfl ?_
  refine gc_sipush (v := 300) F dX2_init_5 (by decide) ?_
  refine gc_newa (at_ := .int) (ty := .int) (v := 300) (S1 := U92) (N := 47) (t := 0) (so := 0) (len := 300) F rfl q71 rfl (fun _ => rfl) (fun _ => gc_cellI rfl) (by decide +kernel) (by decide +kernel) (Nat.le_of_ble_eq_true rfl) (Nat.le_of_ble_eq_true rfl) (Nat.le_of_ble_eq_true rfl) (by decide +kernel) (by decide +kernel) (by decide +kernel) dX2_init_8 (fun ob47 => ?_)
  refine gc_putr (i := 46) (j := 0) (m := 47) (S1 := U93) (ci := 2) (fds := [2, 0, 0]) F hin rfl rfl (by decide +kernel) (by decide +kernel) (by decide +kernel) rfl uX2 (by decide) q141 tyX2_ok nmX2 rfl rfl (fun _ => rfl) (fun _ => rfl) dX2_init_10 ?_
  refine gc_aload_n F 0 dX2_init_13 rfl rfl ?_
  refine gc_iconst (v := 0) F dX2_init_14 (by decide) ?_
  refine gc_puti (i := 46) (j := 1) (ci := 2) (fds := [50, 0, 0]) F rfl (by decide +kernel) (by decide +kernel) rfl uX2 (by decide) q142 tyX2_ok nmX2 rfl rfl rfl dX2_init_15 ?_
  refine gc_aload_n F 0 dX2_init_18 rfl rfl ?_
  refine gc_iconst (v := 0) F dX2_init_19 (by decide) ?_
  refine gc_puti (i := 46) (j := 2) (ci := 2) (fds := [50, 0, 0]) F rfl (by decide +kernel) (by decide +kernel) rfl uX2 (by decide) q143 tyX2_ok nmX2 rfl rfl rfl dX2_init_20 ?_
  exact gc_vret F e (fun i hi => by have hi : i < 47 := hi; rw [va_up_ne _ _ (by omega)]) dX2_init_23
set_option maxRecDepth 100000 in
set_option maxHeartbeats 4000000 in
theorem iX3_init (l : Launch) (D : va_G) (tA : Nat → ClassId) : CtI l D tA U95 U97 48 yX3_init cX3_init 1 ({ frames := 1, cells := 1, slots := 120, locals := 64 }) 1 120 (fun _ => True) := by
  refine CtI.of "LeapJoin$Past" rfl rfl (by decide) (by decide) (fun z ad F hin e hl hEx => ?_)
  subst hl
  refine gc_aload_n F 0 dX3_init_0 rfl rfl ?_
  refine gc_objInit F q151 q28 q29 rfl (Nat.le_of_ble_eq_true rfl) (Nat.le_of_ble_eq_true rfl) dX3_init_1 ?_
  refine gc_aload_n F 0 dX3_init_4 rfl rfl ?_
  refine gc_iconst (v := 0) F dX3_init_5 (by decide) ?_
  refine gc_puti (i := 48) (j := 0) (ci := 3) (fds := [0, 2, 0]) F rfl (by decide +kernel) (by decide +kernel) rfl uX3 (by decide) q152 tyX3_ok nmX3 rfl rfl rfl dX3_init_6 ?_
  refine gc_aload_n F 0 dX3_init_9 rfl rfl ?_
  refine gc_bipush (v := 120) F dX3_init_10 (by decide) ?_
  refine gc_newa (at_ := .int) (ty := .int) (v := 120) (S1 := U96) (N := 49) (t := 0) (so := 0) (len := 120) F rfl q71 rfl (fun _ => rfl) (fun _ => gc_cellI rfl) (by decide +kernel) (by decide +kernel) (Nat.le_of_ble_eq_true rfl) (Nat.le_of_ble_eq_true rfl) (Nat.le_of_ble_eq_true rfl) (by decide +kernel) (by decide +kernel) (by decide +kernel) dX3_init_12 (fun ob49 => ?_)
  refine gc_putr (i := 48) (j := 1) (m := 49) (S1 := U97) (ci := 3) (fds := [0, 2, 0]) F hin rfl rfl (by decide +kernel) (by decide +kernel) (by decide +kernel) rfl uX3 (by decide) q154 tyX3_ok nmX3 rfl rfl (fun _ => rfl) (fun _ => rfl) dX3_init_14 ?_
  refine gc_aload_n F 0 dX3_init_17 rfl rfl ?_
  refine gc_iconst (v := 0) F dX3_init_18 (by decide) ?_
  refine gc_puti (i := 48) (j := 2) (ci := 3) (fds := [0, 52, 0]) F rfl (by decide +kernel) (by decide +kernel) rfl uX3 (by decide) q155 tyX3_ok nmX3 rfl rfl rfl dX3_init_19 ?_
  exact gc_vret F e (fun i hi => by have hi : i < 49 := hi; rw [va_up_ne _ _ (by omega)]) dX3_init_22
set_option maxRecDepth 100000 in
set_option maxHeartbeats 4000000 in
theorem iX4_init (l : Launch) (D : va_G) (tA : Nat → ClassId) : CtI l D tA U101 U103 51 yX4_init cX4_init 1 ({ frames := 1, cells := 1, slots := 60, locals := 64 }) 1 60 (fun _ => True) := by
  refine CtI.of "LeapJoin$Script" rfl rfl (by decide) (by decide) (fun z ad F hin e hl hEx => ?_)
  subst hl
  refine gc_aload_n F 0 dX4_init_0 rfl rfl ?_
  refine gc_objInit F q163 q28 q29 rfl (Nat.le_of_ble_eq_true rfl) (Nat.le_of_ble_eq_true rfl) dX4_init_1 ?_
  refine gc_aload_n F 0 dX4_init_4 rfl rfl ?_
  refine gc_iconst (v := 0) F dX4_init_5 (by decide) ?_
  refine gc_puti (i := 51) (j := 0) (ci := 4) (fds := [0, 2]) F rfl (by decide +kernel) (by decide +kernel) rfl uX4 (by decide) q164 tyX4_ok nmX4 rfl rfl rfl dX4_init_6 ?_
  refine gc_aload_n F 0 dX4_init_9 rfl rfl ?_
  refine gc_bipush (v := 60) F dX4_init_10 (by decide) ?_
  refine gc_newa (at_ := .int) (ty := .int) (v := 60) (S1 := U102) (N := 52) (t := 0) (so := 0) (len := 60) F rfl q71 rfl (fun _ => rfl) (fun _ => gc_cellI rfl) (by decide +kernel) (by decide +kernel) (Nat.le_of_ble_eq_true rfl) (Nat.le_of_ble_eq_true rfl) (Nat.le_of_ble_eq_true rfl) (by decide +kernel) (by decide +kernel) (by decide +kernel) dX4_init_12 (fun ob52 => ?_)
  refine gc_putr (i := 51) (j := 1) (m := 52) (S1 := U103) (ci := 4) (fds := [0, 2]) F hin rfl rfl (by decide +kernel) (by decide +kernel) (by decide +kernel) rfl uX4 (by decide) q166 tyX4_ok nmX4 rfl rfl (fun _ => rfl) (fun _ => rfl) dX4_init_14 ?_
  exact gc_vret F e (fun i hi => by have hi : i < 52 := hi; rw [va_up_ne _ _ (by omega)]) dX4_init_17
set_option maxRecDepth 100000 in
set_option maxHeartbeats 4000000 in
theorem iX4_init_54 (l : Launch) (D : va_G) (tA : Nat → ClassId) : CtI l D tA U107 U109 54 yX4_init cX4_init 1 ({ frames := 1, cells := 1, slots := 60, locals := 64 }) 1 60 (fun _ => True) := by
  refine CtI.of "LeapJoin$Script" rfl rfl (by decide) (by decide) (fun z ad F hin e hl hEx => ?_)
  subst hl
  refine gc_aload_n F 0 dX4_init_0 rfl rfl ?_
  refine gc_objInit F q163 q28 q29 rfl (Nat.le_of_ble_eq_true rfl) (Nat.le_of_ble_eq_true rfl) dX4_init_1 ?_
  refine gc_aload_n F 0 dX4_init_4 rfl rfl ?_
  refine gc_iconst (v := 0) F dX4_init_5 (by decide) ?_
  refine gc_puti (i := 54) (j := 0) (ci := 4) (fds := [0, 2]) F rfl (by decide +kernel) (by decide +kernel) rfl uX4 (by decide) q164 tyX4_ok nmX4 rfl rfl rfl dX4_init_6 ?_
  refine gc_aload_n F 0 dX4_init_9 rfl rfl ?_
  refine gc_bipush (v := 60) F dX4_init_10 (by decide) ?_
  refine gc_newa (at_ := .int) (ty := .int) (v := 60) (S1 := U108) (N := 55) (t := 0) (so := 0) (len := 60) F rfl q71 rfl (fun _ => rfl) (fun _ => gc_cellI rfl) (by decide +kernel) (by decide +kernel) (Nat.le_of_ble_eq_true rfl) (Nat.le_of_ble_eq_true rfl) (Nat.le_of_ble_eq_true rfl) (by decide +kernel) (by decide +kernel) (by decide +kernel) dX4_init_12 (fun ob55 => ?_)
  refine gc_putr (i := 54) (j := 1) (m := 55) (S1 := U109) (ci := 4) (fds := [0, 2]) F hin rfl rfl (by decide +kernel) (by decide +kernel) (by decide +kernel) rfl uX4 (by decide) q166 tyX4_ok nmX4 rfl rfl (fun _ => rfl) (fun _ => rfl) dX4_init_14 ?_
  exact gc_vret F e (fun i hi => by have hi : i < 55 := hi; rw [va_up_ne _ _ (by omega)]) dX4_init_17
set_option maxRecDepth 100000 in
set_option maxHeartbeats 4000000 in
theorem iX4_init_56 (l : Launch) (D : va_G) (tA : Nat → ClassId) : CtI l D tA U111 U113 56 yX4_init cX4_init 1 ({ frames := 1, cells := 1, slots := 60, locals := 64 }) 1 60 (fun _ => True) := by
  refine CtI.of "LeapJoin$Script" rfl rfl (by decide) (by decide) (fun z ad F hin e hl hEx => ?_)
  subst hl
  refine gc_aload_n F 0 dX4_init_0 rfl rfl ?_
  refine gc_objInit F q163 q28 q29 rfl (Nat.le_of_ble_eq_true rfl) (Nat.le_of_ble_eq_true rfl) dX4_init_1 ?_
  refine gc_aload_n F 0 dX4_init_4 rfl rfl ?_
  refine gc_iconst (v := 0) F dX4_init_5 (by decide) ?_
  refine gc_puti (i := 56) (j := 0) (ci := 4) (fds := [0, 2]) F rfl (by decide +kernel) (by decide +kernel) rfl uX4 (by decide) q164 tyX4_ok nmX4 rfl rfl rfl dX4_init_6 ?_
  refine gc_aload_n F 0 dX4_init_9 rfl rfl ?_
  refine gc_bipush (v := 60) F dX4_init_10 (by decide) ?_
  refine gc_newa (at_ := .int) (ty := .int) (v := 60) (S1 := U112) (N := 57) (t := 0) (so := 0) (len := 60) F rfl q71 rfl (fun _ => rfl) (fun _ => gc_cellI rfl) (by decide +kernel) (by decide +kernel) (Nat.le_of_ble_eq_true rfl) (Nat.le_of_ble_eq_true rfl) (Nat.le_of_ble_eq_true rfl) (by decide +kernel) (by decide +kernel) (by decide +kernel) dX4_init_12 (fun ob57 => ?_)
  refine gc_putr (i := 56) (j := 1) (m := 57) (S1 := U113) (ci := 4) (fds := [0, 2]) F hin rfl rfl (by decide +kernel) (by decide +kernel) (by decide +kernel) rfl uX4 (by decide) q166 tyX4_ok nmX4 rfl rfl (fun _ => rfl) (fun _ => rfl) dX4_init_14 ?_
  exact gc_vret F e (fun i hi => by have hi : i < 57 := hi; rw [va_up_ne _ _ (by omega)]) dX4_init_17
set_option maxRecDepth 100000 in
set_option maxHeartbeats 4000000 in
theorem iX4_init_58 (l : Launch) (D : va_G) (tA : Nat → ClassId) : CtI l D tA U115 U117 58 yX4_init cX4_init 1 ({ frames := 1, cells := 1, slots := 60, locals := 64 }) 1 60 (fun _ => True) := by
  refine CtI.of "LeapJoin$Script" rfl rfl (by decide) (by decide) (fun z ad F hin e hl hEx => ?_)
  subst hl
  refine gc_aload_n F 0 dX4_init_0 rfl rfl ?_
  refine gc_objInit F q163 q28 q29 rfl (Nat.le_of_ble_eq_true rfl) (Nat.le_of_ble_eq_true rfl) dX4_init_1 ?_
  refine gc_aload_n F 0 dX4_init_4 rfl rfl ?_
  refine gc_iconst (v := 0) F dX4_init_5 (by decide) ?_
  refine gc_puti (i := 58) (j := 0) (ci := 4) (fds := [0, 2]) F rfl (by decide +kernel) (by decide +kernel) rfl uX4 (by decide) q164 tyX4_ok nmX4 rfl rfl rfl dX4_init_6 ?_
  refine gc_aload_n F 0 dX4_init_9 rfl rfl ?_
  refine gc_bipush (v := 60) F dX4_init_10 (by decide) ?_
  refine gc_newa (at_ := .int) (ty := .int) (v := 60) (S1 := U116) (N := 59) (t := 0) (so := 0) (len := 60) F rfl q71 rfl (fun _ => rfl) (fun _ => gc_cellI rfl) (by decide +kernel) (by decide +kernel) (Nat.le_of_ble_eq_true rfl) (Nat.le_of_ble_eq_true rfl) (Nat.le_of_ble_eq_true rfl) (by decide +kernel) (by decide +kernel) (by decide +kernel) dX4_init_12 (fun ob59 => ?_)
  refine gc_putr (i := 58) (j := 1) (m := 59) (S1 := U117) (ci := 4) (fds := [0, 2]) F hin rfl rfl (by decide +kernel) (by decide +kernel) (by decide +kernel) rfl uX4 (by decide) q166 tyX4_ok nmX4 rfl rfl (fun _ => rfl) (fun _ => rfl) dX4_init_14 ?_
  exact gc_vret F e (fun i hi => by have hi : i < 59 := hi; rw [va_up_ne _ _ (by omega)]) dX4_init_17
set_option maxRecDepth 100000 in
set_option maxHeartbeats 4000000 in
theorem iX4_init_60 (l : Launch) (D : va_G) (tA : Nat → ClassId) : CtI l D tA U119 U121 60 yX4_init cX4_init 1 ({ frames := 1, cells := 1, slots := 60, locals := 64 }) 1 60 (fun _ => True) := by
  refine CtI.of "LeapJoin$Script" rfl rfl (by decide) (by decide) (fun z ad F hin e hl hEx => ?_)
  subst hl
  refine gc_aload_n F 0 dX4_init_0 rfl rfl ?_
  refine gc_objInit F q163 q28 q29 rfl (Nat.le_of_ble_eq_true rfl) (Nat.le_of_ble_eq_true rfl) dX4_init_1 ?_
  refine gc_aload_n F 0 dX4_init_4 rfl rfl ?_
  refine gc_iconst (v := 0) F dX4_init_5 (by decide) ?_
  refine gc_puti (i := 60) (j := 0) (ci := 4) (fds := [0, 2]) F rfl (by decide +kernel) (by decide +kernel) rfl uX4 (by decide) q164 tyX4_ok nmX4 rfl rfl rfl dX4_init_6 ?_
  refine gc_aload_n F 0 dX4_init_9 rfl rfl ?_
  refine gc_bipush (v := 60) F dX4_init_10 (by decide) ?_
  refine gc_newa (at_ := .int) (ty := .int) (v := 60) (S1 := U120) (N := 61) (t := 0) (so := 0) (len := 60) F rfl q71 rfl (fun _ => rfl) (fun _ => gc_cellI rfl) (by decide +kernel) (by decide +kernel) (Nat.le_of_ble_eq_true rfl) (Nat.le_of_ble_eq_true rfl) (Nat.le_of_ble_eq_true rfl) (by decide +kernel) (by decide +kernel) (by decide +kernel) dX4_init_12 (fun ob61 => ?_)
  refine gc_putr (i := 60) (j := 1) (m := 61) (S1 := U121) (ci := 4) (fds := [0, 2]) F hin rfl rfl (by decide +kernel) (by decide +kernel) (by decide +kernel) rfl uX4 (by decide) q166 tyX4_ok nmX4 rfl rfl (fun _ => rfl) (fun _ => rfl) dX4_init_14 ?_
  exact gc_vret F e (fun i hi => by have hi : i < 61 := hi; rw [va_up_ne _ _ (by omega)]) dX4_init_17
