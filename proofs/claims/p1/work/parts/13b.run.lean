set_option maxRecDepth 100000 in
set_option maxHeartbeats 4000000 in
theorem law_main {z : gZ} {E : gE} {b n : Nat} {xs : Nat → Int32} {sa : Nat} (F : Fx z sh E RL cL_law room_1 7) (hE : gDist sh E) (hn6 : n ≤ 6) (hX : va_X b n xs (zs z) (zs z).heap) (hbl : b < (zs z).heap.size) (hbA : ¬ zA z b) (hfl : (zl z).stackTraces = false) (hjx : jx_X (zA z) sa (zs z).heap (zs z)) (hkx : zk z + 1 ≤ room_1.cells ∧ zn z + 6 ≤ room_1.slots) (hcwt : Cond.codeWith yL_table cL_table 5 (some .int) jx_hh ∈ gw) (hza : za z = #[Value.ref b]) (hzQ : zQ z = lw_Z (zb z) #[Value.ref b] (zs z)) (hret : (zh z).sig.returnType = ret) (hlk : (zh z).locks = false) (hzA : ∀ q, zA z q → (zs z).heap.size ≤ q) : G z 23 [(4, .int 0), (3, .ref (E.2.1 90)), (2, .ref (E.2.1 62)), (1, .ref (E.2.1 0)), (0, .ref b)] [] g0 h0 := by
  have hk6 : zk z + 1 ≤ 600002 ∧ zn z + 6 ≤ 7302232 := hkx
  have hk : zk z ≤ 600002 ∧ zn z ≤ 7302232 := ⟨Nat.le_of_succ_le hk6.1, Nat.le_trans (Nat.le_add_right _ 6) hk6.2⟩
  have hmt : Cond.static yL_table ∈ gw ∧ Cond.initialized RL ∈ gw ∧ Cond.methodLink RL 42 yL_table ∈ gw := ⟨q765, q0, q764⟩
  have h7 : n = 0 ∨ n = 1 ∨ n = 2 ∨ n = 3 ∨ n = 4 ∨ n = 5 ∨ n = 6 := by omega
  rcases h7 with rfl | rfl | rfl | rfl | rfl | rfl | rfl
  · exact law_short (v := (-6)) F hza hzQ hret hlk hzA hX hbl hbA hk (by decide) (by decide)
  · exact law_short (v := (-5)) F hza hzQ hret hlk hzA hX hbl hbA hk (by decide) (by decide)
  · exact law_short (v := (-4)) F hza hzQ hret hlk hzA hX hbl hbA hk (by decide) (by decide)
  · exact law_short (v := (-3)) F hza hzQ hret hlk hzA hX hbl hbA hk (by decide) (by decide)
  · exact law_short (v := (-2)) F hza hzQ hret hlk hzA hX hbl hbA hk (by decide) (by decide)
  · exact law_short (v := (-1)) F hza hzQ hret hlk hzA hX hbl hbA hk (by decide) (by decide)
  · refine g_iload F 0 dL_law_23 rfl ?_
    refine g_aload_n F 4 dL_law_25 rfl rfl ?_
    refine g_slen F hX hbl hbA dL_law_26 ?_
    refine g_bipush (v := 6) F dL_law_27 (by decide) ?_
    refine g_isub (v := 0) F dL_law_29 (by decide) ?_
    refine g_icmp_gt (tgt := 1640) F dL_law_30 (by decide) (fun h => absurd h (by decide)) (fun _ => ?_)
    refine g_aload_n F 4 dL_law_33 rfl rfl ?_
    refine g_iload F 0 dL_law_34 rfl ?_
    refine g_sld (v := xs 0) F hX hbl hbA (vp_in_nI (n := 0) (by decide) (by decide)) (congrArg xs (nI_clamp (n := 0) (by decide))) dL_law_36 ?_
    refine g_bipush (v := 63) F dL_law_37 (by decide) ?_
    refine g_iand (v := xs 0 &&& 63) F dL_law_39 rfl ?_
    exact law_sw F hE hX hbl hbA hfl hjx hkx hcwt hmt (law_end F hza hzQ hret hlk hzA hX hbl hbA hk) (law_end (z := zUp z 1 6) (F.up hkx) hza hzQ hret hlk hzA hX hbl hbA hk6)
theorem gc_istore {z : gZ} {k n : Nat} {S : List gS} {D : va_G} {ad : Nat → Nat} {tA : Nat → ClassId} {own : String} {cc : ByteArray} {rm : Room} {nL pc : Nat} {L : List (Nat × Value)} {st : List Value} (F : Fc z own cc rm nL D tA) {i : Nat} {x : Int32} {Ln : List (Nat × Value)} (hd : decode cc pc = .ok (.istore i, 2)) (hn : i < nL) (hL : (i, Value.int x) :: L.filter (fun q => !(q.1 == i) && !(q.1 + 1 == i && q.2.category == 2)) = Ln) (K : GC z k n S (D, ad, tA) (pc + 2) Ln st) : GC z k n S (D, ad, tA) pc L (.int x :: st) := by
  obtain ⟨hx, hb, hml, hown, hts, hK, hA, rfl, rfl⟩ := F
  exact fun H locs ls hP hD hS hl => lv_istore (lv := L) hx hb hd hl hn hL (fun ls hl => K H locs ls hP hD hS hl)
theorem gc_g {z : gZ} {k n : Nat} {S : List gS} {D : va_G} {ad : Nat → Nat} {tA : Nat → ClassId} {pc : Nat} {L : List (Nat × Value)} {st : List Value} (K : va_D (zA z) (g_w S (D, ad, tA) g0 h0) → G (z.1, (k, n, zQ z), (S, (D, ad, tA)), z.2.2.2) pc L st g0 h0) : GC z k n S (D, ad, tA) pc L st :=
  fun H locs ls hP hD hS hl => K hD H locs ls hP hS hl
theorem gd_of {S : List gS} {E : gE} {A : Nat → Prop} (h : va_D A (g_w S E g0 h0)) : gDist S E ∧ ∀ k, k < S.length → A (E.2.1 k) := by
  refine ⟨fun i j hi hj hij => h.1 i j _ _ (g_get (List.getElem?_eq_getElem hi)) (g_get (List.getElem?_eq_getElem hj)) hij, fun k hk => h.2 k _ (g_get (List.getElem?_eq_getElem hk))⟩
theorem jx_arr {s : State} {args : Array Value} {ty : FieldType} (h : (Cond.arrayClass ty).before args s = true) : ∃ cA : ClassId, ArrOfT s cA ty ∧ s.vm.findClass ("[" ++ ty.toString) = some cA := by
  obtain ⟨c, k, comp, h1, h2, h3⟩ := Cond.arrayClass_spec h
  exact ⟨c, fun n z => ⟨fun k h => (by cases h), k, h2, comp, h3⟩, h1⟩
theorem jx_arrq {s : State} {args : Array Value} {C : String} (h : (Cond.arrayOver (.object C)).before args s = true) : ∃ cA : ClassId, ArrOfT s cA (.object C) ∧ va_RA s cA (.object C) := by
  obtain ⟨comp, c, k, h1, h2, h3, h4, h5⟩ := Cond.arrayOver_spec h
  exact ⟨c, fun n z => ⟨fun k h => (by cases h), k, h3, comp, h4⟩, k, comp, h3, h4, h1, h5⟩
/-- what the two objects' classes and arrays are, out of the tables -/
theorem law_K {s : State} {args : Array Value} (hw : ∀ w ∈ gw, w.before args s = true) (hAO : (Cond.arrayOver (.object "LeapJoin$Script")).before args s = true) : ∃ (D : va_G) (tA : Nat → ClassId), va_K D vwCl (g_ty (D, fun _ => 0, tA)) s := by
  obtain ⟨c0, i0, k0⟩ := u_known (C := RX0) (T := TX0) (N := 2) (n := 2) hw uX0 (hw _ (gw_t1 139 rfl rfl))
  obtain ⟨c1, i1, k1⟩ := u_known (C := RX1) (T := TX1) (N := 13) (n := 13) hw uX1 (hw _ (gw_t1 87 rfl rfl))
  obtain ⟨c2, i2, k2⟩ := u_known (C := RX2) (T := TX2) (N := 3) (n := 3) hw uX2 (hw _ (gw_t1 176 rfl rfl))
  obtain ⟨c3, i3, k3⟩ := u_known (C := RX3) (T := TX3) (N := 3) (n := 3) hw uX3 (hw _ (gw_t1 192 rfl rfl))
  obtain ⟨c4, i4, k4⟩ := u_known (C := RX4) (T := TX4) (N := 2) (n := 2) hw uX4 (hw _ (gw_t1 210 rfl rfl))
  obtain ⟨c5, i5, k5⟩ := u_known (C := RX5) (T := TX5) (N := 7) (n := 7) hw uX5 (hw _ (gw_t1 49 rfl rfl))
  obtain ⟨c6, i6, k6⟩ := u_known (C := RX6) (T := TX6) (N := 3) (n := 3) hw uX6 (hw _ (gw_t1 31 rfl rfl))
  obtain ⟨c7, i7, k7⟩ := u_known (C := RX7) (T := TX7) (N := 4) (n := 4) hw uX7 (hw _ (gw_t1 153 rfl rfl))
  obtain ⟨c8, i8, k8⟩ := u_known (C := RX8) (T := TX8) (N := 17) (n := 17) hw uX8 (hw _ (gw_t1 23 rfl rfl))
  obtain ⟨c9, i9, k9⟩ := u_known (C := RX9) (T := TX9) (N := 43) (n := 43) hw uX9 (hw _ (gw_t4 227 rfl rfl))
  obtain ⟨a0, e0, f0⟩ := jx_arr (ty := .int) (hw _ (gw_t1 85 rfl rfl))
  obtain ⟨a1, e1, f1⟩ := jx_arr (ty := .byte) (hw _ (gw_t1 47 rfl rfl))
  obtain ⟨a2, e2, f2⟩ := jx_arr (ty := .boolean) (hw _ (gw_t5 123 rfl rfl))
  obtain ⟨a3, e3, f3⟩ := jx_arr (ty := .long) (hw _ (gw_t7 160 rfl rfl))
  obtain ⟨a4, e4, f4⟩ := jx_arrq hAO
  refine ⟨(fun k => match k with | 0 => c0 | 1 => c1 | 2 => c2 | 3 => c3 | 4 => c4 | 5 => c5 | 6 => c6 | 7 => c7 | 8 => c8 | _ => c9, fun k => match k with | 0 => i0 | 1 => i1 | 2 => i2 | 3 => i3 | 4 => i4 | 5 => i5 | 6 => i6 | 7 => i7 | 8 => i8 | _ => i9), fun t => match t with | 0 => a0 | 1 => a1 | 2 => a2 | 3 => a3 | _ => a4, ?_, ?_⟩
  · intro k q hq
    match k, hq with
    | 0, hq => cases hq; exact k0
    | 1, hq => cases hq; exact k1
    | 2, hq => cases hq; exact k2
    | 3, hq => cases hq; exact k3
    | 4, hq => cases hq; exact k4
    | 5, hq => cases hq; exact k5
    | 6, hq => cases hq; exact k6
    | 7, hq => cases hq; exact k7
    | 8, hq => cases hq; exact k8
    | 9, hq => cases hq; exact k9
    | k + 10, hq => simp [vwCl] at hq
  · intro k q hq
    match k, hq with
    | 0, hq => cases hq; exact ⟨e0, f0⟩
    | 1, hq => cases hq; exact ⟨e1, f1⟩
    | 2, hq => cases hq; exact ⟨e2, f2⟩
    | 3, hq => cases hq; exact ⟨e3, f3⟩
    | 4, hq => cases hq; exact ⟨e4, f4⟩
    | k + 5, hq => simp at hq
theorem law_X {s : State} {args : Array Value} (hts : ∀ w ∈ lw_tbl, w.before args s = true) (hg : (Jvm.Cond.and given_1 narrow_1).before args s = true) : ∃ sa : Nat, jx_X (fun q => s.heap.size ≤ q) sa s.heap s := by
  have hs := flat_of_before _ hg
  have hU : (Cond.isRef (.static Bundle.tN "UNASSIGNED_STACK" Bundle.steD)).before args s = true := hs _ (by decide +kernel)
  have hN : (Cond.isRef (.static Bundle.tN "SUPPRESSED_SENTINEL" Bundle.listD)).before args s = true := hs _ (by decide +kernel)
  have hE : (Cond.exactly (.string "LeapJoin" 165) "java/lang/String").before args s = true := hs _ (by decide +kernel)
  obtain ⟨a, c, cell, k, h1, -⟩ := Cond.exactly_spec hE
  refine ⟨a, vx_Zqof (hts _ (jt_t4 187 rfl)) (hts _ (jt_t1 14 rfl)) hU (fun q hq => Nat.not_le.mpr hq), vx_Zqof (hts _ (jt_t4 189 rfl)) (hts _ (jt_t1 14 rfl)) hN (fun q hq => Nat.not_le.mpr hq), vk_R.of (A := args) (hts _ (jt_t4 199 rfl)) h1, va_Nw.of rfl (hts _ (jt_t4 162 rfl)), va_Nw.of rfl (hts _ (jt_t4 164 rfl)), va_Nw.of rfl (hts _ (jt_t4 166 rfl)), va_Nw.of rfl (hts _ (jt_t4 168 rfl))⟩
theorem law_ex {s : State} {args : Array Value} (hts : ∀ w ∈ lw_tbl, w.before args s = true) : exX8 s :=
  ⟨va_Nw.of rfl (hts _ (jt_t1 32 rfl)), va_Nw.of rfl (hts _ (jt_t1 50 rfl)), va_Nw.of rfl (hts _ (jt_t1 88 rfl)), va_Nw.of rfl (hts _ (jt_t1 140 rfl)), va_Nw.of rfl (hts _ (jt_t1 154 rfl)), va_Nw.of rfl (hts _ (jt_t1 177 rfl)), va_Nw.of rfl (hts _ (jt_t1 193 rfl)), va_Nw.of rfl (hts _ (jt_t1 211 rfl)), va_AO.of (hts _ (jt_t1 209 rfl))⟩
def law_S : List gS := sh
set_option maxRecDepth 100000 in
set_option maxHeartbeats 4000000 in
theorem law_run {z : gZ} {D : va_G} {tA : Nat → ClassId} {b n : Nat} {xs : Nat → Int32} {sa : Nat} (F : Fc z RL cL_law room_1 7 D tA) (hn6 : n ≤ 6) (hEx : exX8 (zs z)) (hX : va_X b n xs (zs z) (zs z).heap) (hbl : b < (zs z).heap.size) (hbA : ¬ zA z b) (hfl : (zl z).stackTraces = false) (hjx : jx_X (zA z) sa (zs z).heap (zs z)) (hcwt : Cond.codeWith yL_table cL_table 5 (some .int) jx_hh ∈ gw) (hza : za z = #[Value.ref b]) (hzQ : zQ z = lw_Z (zb z) #[Value.ref b] (zs z)) (hret : (zh z).sig.returnType = ret) (hlk : (zh z).locks = false) (hzA : ∀ q, zA z q → (zs z).heap.size ≤ q) (ad : Nat → Nat) : GC z 0 0 [] (D, ad, tA) 0 [(0, .ref b)] [] := by
  refine gc_new (ci := 8) (fds := [2, 2, 2, 2, 2, 2, 2, 2, 2, 2, 2, 2, 2, 2, 0, 0, 1]) (S1 := U0) (N := 0) F uX8 tyX8_ok q22 q23 q1 rfl (ndX8 _) (Nat.le_of_ble_eq_true rfl) (Nat.le_of_ble_eq_true rfl) (by decide +kernel) (by decide +kernel) (by decide +kernel) dL_law_0 (fun ob0 => ?_)
  refine gc_dup F dL_law_3 ?_
  refine gc_callI (i := 0) (S1 := U122) F exX8_blind (fun U hW => exX8_warm hW hEx) (iX8_init (zl z) D tA) rfl q24 q25 q1 q26 rfl ⟨by decide, by decide, by decide +kernel⟩ ⟨Nat.le_of_ble_eq_true rfl, Nat.le_of_ble_eq_true rfl⟩ rfl rfl (Nat.le_of_ble_eq_true rfl) (Nat.le_of_ble_eq_true rfl) (Nat.le_of_ble_eq_true rfl) dL_law_4 (fun ad1 ag1 => ?_)
  refine gc_ls (Ln := [(0, .ref b)]) (sn := [.ref (ad1 0)]) rfl (by rw [ag1 0 (by decide)]) ?_
  refine gc_astore_n (Ln := [(1, .ref (ad1 0)), (0, .ref b)]) F dL_law_7 rfl (by decide) rfl ?_
  refine gc_new (ci := 9) (fds := [0, 2, 0, 0, 0, 2, 2, 2, 2, 0, 2, 2, 0, 2, 2, 2, 2, 0, 2, 0, 2, 2, 2, 2, 2, 2, 0, 0, 2, 0, 1, 0, 0, 0, 2, 2, 2, 2, 2, 2, 2, 2, 0]) (S1 := U123) (N := 62) F uX9 tyX9_ok q814 q815 q10 rfl (ndX9 _) (Nat.le_of_ble_eq_true rfl) (Nat.le_of_ble_eq_true rfl) (by decide +kernel) (by decide +kernel) (by decide +kernel) dL_law_8 (fun ob62 => ?_)
  refine gc_dup F dL_law_11 ?_
  refine gc_callI (i := 62) (S1 := U177) F (fun _ _ _ _ q => q) (fun _ _ => trivial) (iX9_init (zl z) D tA) rfl q816 q817 q10 q818 rfl ⟨by decide, by decide, by decide +kernel⟩ ⟨Nat.le_of_ble_eq_true rfl, Nat.le_of_ble_eq_true rfl⟩ rfl rfl (Nat.le_of_ble_eq_true rfl) (Nat.le_of_ble_eq_true rfl) (Nat.le_of_ble_eq_true rfl) dL_law_12 (fun ad2 ag2 => ?_)
  refine gc_ls (Ln := [(1, .ref (ad2 0)), (0, .ref b)]) (sn := [.ref (ad2 62)]) (by rw [ag2 0 (by decide +kernel)]; rfl) (by rw [ag2 62 (by decide +kernel)]) ?_
  refine gc_astore_n (Ln := [(2, .ref (ad2 62)), (1, .ref (ad2 0)), (0, .ref b)]) F dL_law_15 rfl (by decide) rfl ?_
  refine gc_iconst (v := 1) F dL_law_16 (by decide) ?_
  refine gc_newa (at_ := .long) (ty := .long) (v := 1) (S1 := sh) (N := 90) (t := 3) (so := 1) (len := 1) F rfl q1346 rfl (fun _ => rfl) (fun _ => gc_cellL rfl) (by decide +kernel) (by decide +kernel) (Nat.le_of_ble_eq_true rfl) (Nat.le_of_ble_eq_true rfl) (Nat.le_of_ble_eq_true rfl) (by decide +kernel) (by decide +kernel) (by decide +kernel) dL_law_17 (fun ob90 => ?_)
  generalize hadE : va_up ad2 90 ob90 = ad3
  refine gc_ls (Ln := [(2, .ref (ad3 62)), (1, .ref (ad3 0)), (0, .ref b)]) (sn := [.ref (ad3 90)]) (by rw [← hadE, va_up_ne _ _ (by decide : (62 : Nat) ≠ 90), va_up_ne _ _ (by decide : (0 : Nat) ≠ 90)]) rfl ?_
  refine gc_astore_n (Ln := [(3, .ref (ad3 90)), (2, .ref (ad3 62)), (1, .ref (ad3 0)), (0, .ref b)]) F dL_law_19 rfl (by decide) rfl ?_
  refine gc_iconst (v := 0) F dL_law_20 (by decide) ?_
  refine gc_istore (Ln := [(4, .int 0), (3, .ref (ad3 90)), (2, .ref (ad3 62)), (1, .ref (ad3 0)), (0, .ref b)]) F dL_law_21 (by decide) rfl ?_
  refine gc_g (fun hD => ?_)
  obtain ⟨hE, hAA⟩ := gd_of hD
  obtain ⟨hx, hb, hml, hown, hts, hK, hA, hL, hR⟩ := F
  have F2 : Fx (z.1, (91, 163462, zQ z), (sh, (D, ad3, tA)), z.2.2.2) sh (D, ad3, tA) RL cL_law room_1 7 := ⟨hx, hb, hml, hown, hts, hK, g_D hE hAA, ⟨Nat.le_of_ble_eq_true rfl, Nat.le_of_ble_eq_true rfl⟩, hL, hR, rfl, rfl⟩
  exact law_main F2 hE hn6 hX hbl hbA hfl hjx ⟨Nat.le_of_ble_eq_true rfl, Nat.le_of_ble_eq_true rfl⟩ hcwt hza hzQ hret hlk hzA
