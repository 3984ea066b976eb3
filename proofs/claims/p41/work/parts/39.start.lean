theorem gc_istore {z : gZ} {k n : Nat} {S : List gS} {D : va_G} {ad : Nat → Nat} {tA : Nat → ClassId} {own : String} {cc : ByteArray} {rm : Room} {nL pc : Nat} {L : List (Nat × Value)} {st : List Value} (F : Fc z own cc rm nL D tA) {i : Nat} {x : Int32} {Ln : List (Nat × Value)} (hd : decode cc pc = .ok (.istore i, 2)) (hn : i < nL) (hL : (i, Value.int x) :: L.filter (fun q => !(q.1 == i) && !(q.1 + 1 == i && q.2.category == 2)) = Ln) (K : GC z k n S (D, ad, tA) (pc + 2) Ln st) : GC z k n S (D, ad, tA) pc L (.int x :: st) := by
  obtain ⟨hx, hb, hml, hown, hts, hK, hA, rfl, rfl⟩ := F
  exact fun H locs ls hP hD hS hl => lv_istore (lv := L) hx hb hd hl hn hL (fun ls hl => K H locs ls hP hD hS hl)
theorem gc_g {z : gZ} {k n : Nat} {S : List gS} {D : va_G} {ad : Nat → Nat} {tA : Nat → ClassId} {pc : Nat} {L : List (Nat × Value)} {st : List Value} (K : va_D (zA z) (g_w S (D, ad, tA) g0 h0) → G (z.1, (k, n, zQ z), (S, (D, ad, tA)), z.2.2.2) pc L st g0 h0) : GC z k n S (D, ad, tA) pc L st :=
  fun H locs ls hP hD hS hl => K hD H locs ls hP hS hl
theorem gd_of {S : List gS} {E : gE} {A : Nat → Prop} (h : va_D A (g_w S E g0 h0)) : gDist S E ∧ ∀ k, k < S.length → A (E.2.1 k) := by
  refine ⟨fun i j hi hj hij => h.1 i j _ _ (g_get (List.getElem?_eq_getElem hi)) (g_get (List.getElem?_eq_getElem hj)) hij, fun k hk => h.2 k _ (g_get (List.getElem?_eq_getElem hk))⟩
theorem jx_arr {s : State} {args : Array Value} {ty : FieldType} (h : (Cond.arrayClass ty).before args s = true) : ∃ cA : ClassId, ArrOfT s cA ty ∧ s.vm.findClass ("[" ++ ty.toString) = some cA := by
  obtain ⟨c, k, comp, h1, h2, h3⟩ := Cond.arrayClass_spec h
  exact ⟨c, fun n z => ⟨fun k h => (by cases h), k, h2, comp, h3⟩, h1⟩
theorem jx_arrq {s : State} {args : Array Value} {C : String} (h : (Cond.arrayOver (.object C)).before args s = true) : ∃ cA : ClassId, ArrOfT s cA (.object C) ∧ va_RA s cA (.object C) := by
  obtain ⟨comp, c, k, h1, h2, h3, h4, h5⟩ := Cond.arrayOver_spec h
  exact ⟨c, fun n z => ⟨fun k h => (by cases h), k, h3, comp, h4⟩, k, comp, h3, h4, h1, h5⟩
/-- what the two objects' classes and arrays are, out of the tables -/
theorem law_K {s : State} {args : Array Value} (hw : ∀ w ∈ gw, w.before args s = true) (hAO : (Cond.arrayOver (.object "LeapJoin$Script")).before args s = true) : ∃ (D : va_G) (tA : Nat → ClassId), va_K D vwCl (g_ty (D, fun _ => 0, tA)) s := by
  obtain ⟨c0, i0, k0⟩ := u_known (C := RX0) (T := TX0) (N := 2) (n := 2) hw uX0 (hw _ (gw_t1 139 rfl rfl))
  obtain ⟨c1, i1, k1⟩ := u_known (C := RX1) (T := TX1) (N := 13) (n := 13) hw uX1 (hw _ (gw_t1 87 rfl rfl))
  obtain ⟨c2, i2, k2⟩ := u_known (C := RX2) (T := TX2) (N := 3) (n := 3) hw uX2 (hw _ (gw_t1 176 rfl rfl))
  obtain ⟨c3, i3, k3⟩ := u_known (C := RX3) (T := TX3) (N := 3) (n := 3) hw uX3 (hw _ (gw_t1 192 rfl rfl))
  obtain ⟨c4, i4, k4⟩ := u_known (C := RX4) (T := TX4) (N := 2) (n := 2) hw uX4 (hw _ (gw_t1 210 rfl rfl))
  obtain ⟨c5, i5, k5⟩ := u_known (C := RX5) (T := TX5) (N := 7) (n := 7) hw uX5 (hw _ (gw_t1 49 rfl rfl))
  obtain ⟨c6, i6, k6⟩ := u_known (C := RX6) (T := TX6) (N := 3) (n := 3) hw uX6 (hw _ (gw_t1 31 rfl rfl))
  obtain ⟨c7, i7, k7⟩ := u_known (C := RX7) (T := TX7) (N := 4) (n := 4) hw uX7 (hw _ (gw_t1 153 rfl rfl))
  obtain ⟨c8, i8, k8⟩ := u_known (C := RX8) (T := TX8) (N := 17) (n := 17) hw uX8 (hw _ (gw_t1 23 rfl rfl))
  obtain ⟨c9, i9, k9⟩ := u_known (C := RX9) (T := TX9) (N := 43) (n := 43) hw uX9 (hw _ (gw_t4 227 rfl rfl))
  obtain ⟨a0, e0, f0⟩ := jx_arr (ty := .int) (hw _ (gw_t1 85 rfl rfl))
  obtain ⟨a1, e1, f1⟩ := jx_arr (ty := .byte) (hw _ (gw_t1 47 rfl rfl))
  obtain ⟨a2, e2, f2⟩ := jx_arr (ty := .boolean) (hw _ (gw_t5 123 rfl rfl))
  obtain ⟨a3, e3, f3⟩ := jx_arr (ty := .long) (hw _ (gw_t7 156 rfl rfl))
  obtain ⟨a4, e4, f4⟩ := jx_arrq hAO
  refine ⟨(fun k => match k with | 0 => c0 | 1 => c1 | 2 => c2 | 3 => c3 | 4 => c4 | 5 => c5 | 6 => c6 | 7 => c7 | 8 => c8 | _ => c9, fun k => match k with | 0 => i0 | 1 => i1 | 2 => i2 | 3 => i3 | 4 => i4 | 5 => i5 | 6 => i6 | 7 => i7 | 8 => i8 | _ => i9), fun t => match t with | 0 => a0 | 1 => a1 | 2 => a2 | 3 => a3 | _ => a4, ?_, ?_⟩
  · intro k q hq
    match k, hq with
    | 0, hq => cases hq; exact k0
    | 1, hq => cases hq; exact k1
    | 2, hq => cases hq; exact k2
    | 3, hq => cases hq; exact k3
    | 4, hq => cases hq; exact k4
    | 5, hq => cases hq; exact k5
    | 6, hq => cases hq; exact k6
    | 7, hq => cases hq; exact k7
    | 8, hq => cases hq; exact k8
    | 9, hq => cases hq; exact k9
    | k + 10, hq => simp [vwCl] at hq
  · intro k q hq
    match k, hq with
    | 0, hq => cases hq; exact ⟨e0, f0⟩
    | 1, hq => cases hq; exact ⟨e1, f1⟩
    | 2, hq => cases hq; exact ⟨e2, f2⟩
    | 3, hq => cases hq; exact ⟨e3, f3⟩
    | 4, hq => cases hq; exact ⟨e4, f4⟩
    | k + 5, hq => simp at hq
theorem law_X {s : State} {args : Array Value} (hts : ∀ w ∈ lw_tbl, w.before args s = true) (hg : (Jvm.Cond.and given_1 narrow_1).before args s = true) : ∃ sa : Nat, jx_X (fun q => s.heap.size ≤ q) sa s.heap s := by
  have hs := flat_of_before _ hg
  have hU : (Cond.isRef (.static Bundle.tN "UNASSIGNED_STACK" Bundle.steD)).before args s = true := hs _ (by decide +kernel)
  have hN : (Cond.isRef (.static Bundle.tN "SUPPRESSED_SENTINEL" Bundle.listD)).before args s = true := hs _ (by decide +kernel)
  have hE : (Cond.exactly (.string "LeapJoin" 165) "java/lang/String").before args s = true := hs _ (by decide +kernel)
  obtain ⟨a, c, cell, k, h1, -⟩ := Cond.exactly_spec hE
  refine ⟨a, vx_Zqof (hts _ (jt_t4 187 rfl)) (hts _ (jt_t1 14 rfl)) hU (fun q hq => Nat.not_le.mpr hq), vx_Zqof (hts _ (jt_t4 189 rfl)) (hts _ (jt_t1 14 rfl)) hN (fun q hq => Nat.not_le.mpr hq), vk_R.of (A := args) (hts _ (jt_t4 199 rfl)) h1, va_Nw.of rfl (hts _ (jt_t4 162 rfl)), va_Nw.of rfl (hts _ (jt_t4 164 rfl)), va_Nw.of rfl (hts _ (jt_t4 166 rfl)), va_Nw.of rfl (hts _ (jt_t4 168 rfl))⟩
theorem law_ex {s : State} {args : Array Value} (hts : ∀ w ∈ lw_tbl, w.before args s = true) : exX8 s :=
  ⟨va_Nw.of rfl (hts _ (jt_t1 32 rfl)), va_Nw.of rfl (hts _ (jt_t1 50 rfl)), va_Nw.of rfl (hts _ (jt_t1 88 rfl)), va_Nw.of rfl (hts _ (jt_t1 140 rfl)), va_Nw.of rfl (hts _ (jt_t1 154 rfl)), va_Nw.of rfl (hts _ (jt_t1 177 rfl)), va_Nw.of rfl (hts _ (jt_t1 193 rfl)), va_Nw.of rfl (hts _ (jt_t1 211 rfl)), va_AO.of (hts _ (jt_t1 209 rfl))⟩

/-- the static row of Join, as the Statement has it at the start -/
theorem law_B {s : State} {args : Array Value} (hts : ∀ w ∈ lw_tbl, w.before args s = true) (hg : (Jvm.Cond.and given_1 narrow_1).before args s = true) : ∃ bk : Nat, bX (fun q => s.heap.size ≤ q) bk s.heap s := by
  have hs := flat_of_before _ hg
  have hA : ∀ a : Nat, a < s.heap.size → ¬ s.heap.size ≤ a := fun a h => Nat.not_le.mpr h
  have harr : (Cond.arrayOf (.static "LeapJoin$Join" "BLOCKS" "[I") .int).before args s = true := hs _ (by decide +kernel)
  have hl : (Cond.eq (.length (.static "LeapJoin$Join" "BLOCKS" "[I")) (.int 4)).before args s = true := hs _ (by decide +kernel)
  have h0 : (Cond.eq (.elem (.static "LeapJoin$Join" "BLOCKS" "[I") (.int 0)) (.int 6)).before args s = true := hs _ (by decide +kernel)
  have h1 : (Cond.eq (.elem (.static "LeapJoin$Join" "BLOCKS" "[I") (.int 1)) (.int 2)).before args s = true := hs _ (by decide +kernel)
  have h2 : (Cond.eq (.elem (.static "LeapJoin$Join" "BLOCKS" "[I") (.int 2)) (.int 1)).before args s = true := hs _ (by decide +kernel)
  have h3 : (Cond.eq (.elem (.static "LeapJoin$Join" "BLOCKS" "[I") (.int 3)) (.int 1)).before args s = true := hs _ (by decide +kernel)
  have el := va_eqt hl
  obtain ⟨bk, cell, ht, hcell, hv⟩ := Term.length_spec el
  have key : ∀ tm : Term, tm.eval args s none [] s = some (.ref bk) → (Term.length tm).eval args s none [] s = some (.int 4) → cell.slots.size < 2 ^ 31 := by
    intro tm ht el
    simp only [Term.eval, ht, hcell, Option.bind_eq_bind, Option.bind_some] at el
    by_cases hlt : cell.slots.size < 2147483648
    · exact hlt
    · simp [hlt] at el
  have hsz := key _ ht el
  have h4 : cell.slots.size = 4 := by
    have q : (4 : Int32) = cell.slots.size.toInt32 := by
      injection hv
    have q2 : nI 4 = nI cell.slots.size := q
    exact (nI_inj q2 (by decide) hsz).symm
  obtain ⟨hH, hkn, hst, -⟩ := State.arrayAt?_spec hcell
  have hof := (Cond.arrayOf_spec harr ht hH).1
  have hb : bk < s.heap.size := (Array.getElem?_eq_some_iff.mp hH).1
  have elem : ∀ (j : Nat) (v : Int32), j < 2 ^ 31 → (Term.elem (.static "LeapJoin$Join" "BLOCKS" "[I") (.int (nI j))).eval args s none [] s = some (.int v) → cell.slots[j]? = some (.int v) := by
    intro j v hj h
    obtain ⟨a', i', c', e1, e2, e3, _, e5⟩ := Term.elem_spec h
    rw [ht] at e1
    cases e1
    rw [hcell] at e3
    cases e3
    have e2 : some (Value.int (nI j)) = some (Value.int i') := e2
    cases e2
    rw [nI_clamp hj] at e5
    exact e5
  refine ⟨bk, va_Zof (hts _ (jt_t2 190 rfl)) (hts _ (jt_t1 4 rfl)) ht hA, ⟨cell, hH, hof, hkn, h4, fun j hj => ?_⟩, hb, hA bk hb⟩
  rcases (by omega : j = 0 ∨ j = 1 ∨ j = 2 ∨ j = 3) with rfl | rfl | rfl | rfl
  · exact elem 0 6 (by decide) (va_eqt h0)
  · exact elem 1 2 (by decide) (va_eqt h1)
  · exact elem 2 1 (by decide) (va_eqt h2)
  · exact elem 3 1 (by decide) (va_eqt h3)
set_option maxRecDepth 100000 in
set_option maxHeartbeats 4000000 in
theorem law_run {z : gZ} {D : va_G} {tA : Nat → ClassId} {b n : Nat} {xs : Nat → Int32} {sa : Nat} (F : Fc z RL cL_law room_1 7 D tA) (hnN : n ≤ 3072) (hEx : exX8 (zs z)) (hX : va_X b n xs (zs z) (zs z).heap) (hbl : b < (zs z).heap.size) (hbA : ¬ zA z b) (hfl : (zl z).stackTraces = false) (hjx : jx_X (zA z) sa (zs z).heap (zs z)) {bk : Nat} (hBk : bZ z bk) (hza : za z = #[Value.ref b]) (hzQ : zQ z = lw_Z (zb z) #[Value.ref b] (zs z)) (hret : (zh z).sig.returnType = ret) (hlk : (zh z).locks = false) (hzA : ∀ q, zA z q → (zs z).heap.size ≤ q) (ad : Nat → Nat) : GC z 0 0 [] (D, ad, tA) 0 [(0, .ref b)] [] := by
  refine gc_new (ci := 8) (fds := [2, 2, 2, 2, 2, 2, 2, 2, 2, 2, 2, 2, 2, 2, 0, 0, 1]) (S1 := U0) (N := 0) F uX8 tyX8_ok q22 q23 q1 rfl (ndX8 _) (Nat.le_of_ble_eq_true rfl) (Nat.le_of_ble_eq_true rfl) (by decide +kernel) (by decide +kernel) (by decide +kernel) dL_law_0 (fun ob0 => ?_)
  refine gc_dup F dL_law_3 ?_
  refine gc_callI (i := 0) (S1 := U122) F exX8_blind (fun U hW => exX8_warm hW hEx) (iX8_init (zl z) D tA) rfl q24 q25 q1 q26 rfl ⟨by decide, by decide, by decide +kernel⟩ ⟨Nat.le_of_ble_eq_true rfl, Nat.le_of_ble_eq_true rfl⟩ rfl rfl (Nat.le_of_ble_eq_true rfl) (Nat.le_of_ble_eq_true rfl) (Nat.le_of_ble_eq_true rfl) dL_law_4 (fun ad1 ag1 => ?_)
  refine gc_ls (Ln := [(0, .ref b)]) (sn := [.ref (ad1 0)]) rfl (by rw [ag1 0 (by decide)]) ?_
  refine gc_astore_n (Ln := [(1, .ref (ad1 0)), (0, .ref b)]) F dL_law_7 rfl (by decide) rfl ?_
  refine gc_new (ci := 9) (fds := [0, 2, 0, 0, 0, 2, 2, 2, 2, 0, 2, 2, 0, 2, 2, 2, 2, 0, 2, 0, 2, 2, 2, 2, 2, 2, 0, 0, 2, 0, 1, 0, 0, 0, 2, 2, 2, 2, 2, 2, 2, 2, 0]) (S1 := U123) (N := 62) F uX9 tyX9_ok q814 q815 q10 rfl (ndX9 _) (Nat.le_of_ble_eq_true rfl) (Nat.le_of_ble_eq_true rfl) (by decide +kernel) (by decide +kernel) (by decide +kernel) dL_law_8 (fun ob62 => ?_)
  refine gc_dup F dL_law_11 ?_
  refine gc_callI (i := 62) (S1 := U177) F (fun _ _ _ _ q => q) (fun _ _ => trivial) (iX9_init (zl z) D tA) rfl q816 q817 q10 q818 rfl ⟨by decide, by decide, by decide +kernel⟩ ⟨Nat.le_of_ble_eq_true rfl, Nat.le_of_ble_eq_true rfl⟩ rfl rfl (Nat.le_of_ble_eq_true rfl) (Nat.le_of_ble_eq_true rfl) (Nat.le_of_ble_eq_true rfl) dL_law_12 (fun ad2 ag2 => ?_)
  refine gc_ls (Ln := [(1, .ref (ad2 0)), (0, .ref b)]) (sn := [.ref (ad2 62)]) (by rw [ag2 0 (by decide +kernel)]; rfl) (by rw [ag2 62 (by decide +kernel)]) ?_
  refine gc_astore_n (Ln := [(2, .ref (ad2 62)), (1, .ref (ad2 0)), (0, .ref b)]) F dL_law_15 rfl (by decide) rfl ?_
  refine gc_iconst (v := 1) F dL_law_16 (by decide) ?_
  refine gc_newa (at_ := .long) (ty := .long) (v := 1) (S1 := sh) (N := 90) (t := 3) (so := 1) (len := 1) F rfl q1346 rfl (fun _ => rfl) (fun _ => gc_cellL rfl) (by decide +kernel) (by decide +kernel) (Nat.le_of_ble_eq_true rfl) (Nat.le_of_ble_eq_true rfl) (Nat.le_of_ble_eq_true rfl) (by decide +kernel) (by decide +kernel) (by decide +kernel) dL_law_17 (fun ob90 => ?_)
  generalize hadE : va_up ad2 90 ob90 = ad3
  refine gc_ls (Ln := [(2, .ref (ad3 62)), (1, .ref (ad3 0)), (0, .ref b)]) (sn := [.ref (ad3 90)]) (by rw [← hadE, va_up_ne _ _ (by decide : (62 : Nat) ≠ 90), va_up_ne _ _ (by decide : (0 : Nat) ≠ 90)]) rfl ?_
  refine gc_astore_n (Ln := [(3, .ref (ad3 90)), (2, .ref (ad3 62)), (1, .ref (ad3 0)), (0, .ref b)]) F dL_law_19 rfl (by decide) rfl ?_
  refine gc_iconst (v := 0) F dL_law_20 (by decide) ?_
  refine gc_istore (Ln := [(4, .int 0), (3, .ref (ad3 90)), (2, .ref (ad3 62)), (1, .ref (ad3 0)), (0, .ref b)]) F dL_law_21 (by decide) rfl ?_
  refine gc_g (fun hD => ?_)
  obtain ⟨hE, hAA⟩ := gd_of hD
  obtain ⟨hx, hb, hml, hown, hts, hK, hA, hL, hR⟩ := F
  have F2 : Fx (z.1, (91, 163462, zQ z), (sh, (D, ad3, tA)), z.2.2.2) sh (D, ad3, tA) RL cL_law room_1 7 := ⟨hx, hb, hml, hown, hts, hK, g_D hE hAA, ⟨Nat.le_of_ble_eq_true rfl, Nat.le_of_ble_eq_true rfl⟩, hL, hR, rfl, rfl⟩
  exact law_loop hE hnN _ 0 _ g0 h0 rfl (Nat.zero_le _) ⟨F2, hBk, hX, hbl, hbA, hfl, hjx, hza, hzQ, hret, hlk, hzA⟩ ⟨Nat.le_refl _, Nat.le_refl _⟩ invB_g0
set_option maxRecDepth 100000 in
set_option maxHeartbeats 4000000 in
theorem whole_start {p : Program} {e : Env} {s : State} {m : MethodId} {below : List Frame} {meth : Method} {c : Code} (l : Launch) (hflags : l.flags = flags0) {b L : Nat} {xs : Nat → Int32} (hL : L ≤ 3072) (C0 : lw_At p s m meth c b L xs) : W p l e room_1 s m #[Value.ref b] below meth c s.heap [] 0 0 (lw_Z below #[Value.ref b] s) (entryFrame m ([Value.ref b] : List Value).toArray 7) := by
  obtain ⟨hx, hb, hr, hml, hown, hts, hX, hbl, hlocks, hgv⟩ := C0
  have hw : ∀ w ∈ gw, w.before #[Value.ref b] s = true := fun w h => hts w (gw_tbl h)
  obtain ⟨D, tA, hK⟩ := law_K hw (hts _ (jt_t1 209 rfl))
  obtain ⟨sa, hjx⟩ := law_X hts hgv
  obtain ⟨bk, hBk⟩ := law_B hts hgv
  have hfl : l.stackTraces = false := by
    unfold Launch.stackTraces
    rw [hflags]
    decide +kernel
  have hl := lv_entry ([.ref b]) (n := 7) (Nat.le_of_ble_eq_true rfl)
  rw [lg_entry_eq]
  have hP : va_P D vwCl (g_w [] (D, fun _ => 0, tA) g0 h0) s.heap := fun k q h => by simp [g_w] at h
  have hD : va_D (fun q : Nat => s.heap.size ≤ q) (g_w [] (D, fun _ => 0, tA) g0 h0) := ⟨fun i j p q h => by simp [g_w] at h, fun k q h => by simp [g_w] at h⟩
  exact law_run (z := ((p, l, e, room_1, s, m, #[Value.ref b], below, meth, c), (0, 0, lw_Z below #[Value.ref b] s), ([], (D, fun _ => 0, tA)), (fun q => s.heap.size ≤ q), 7)) ⟨hx, hb, hml, hown, hw, hK, fun q h => h, rfl, rfl⟩ hL (law_ex hts) hX hbl (Nat.not_le.mpr hbl) hfl hjx hBk rfl rfl hr hlocks (fun q h => h) (fun _ => 0) s.heap [] _ hP hD va_S.rf hl
set_option maxHeartbeats 4000000 in
theorem lw_walk (l : Launch) (hflags : l.flags = flags0) (b : Addr) (xs : List Int32) : MetFree l x (headSpec (Jvm.Cond.code x code maxLocals ret :: tables_1) room_1) (lw_P b xs) (fun _ _ _ _ _ => True) lw_Q := by
  refine MetFree.of_bodyS (code := code) (maxLocals := maxLocals) (ret := ret) (by decide) ?_ ?_
  · intro args s m h hn
    obtain ⟨meth, c, h1, h2, h3, h4, h5, h6, -, -⟩ := Cond.code_spec hn (atoms_spec (ws := Jvm.Cond.code x code maxLocals ret :: tables_1) h _ List.mem_cons_self)
    exact ⟨meth, c, h1, h2, h3, h4, h5, h6⟩
  · intro p e s m args below meth c s₁ B hml0 hP _
    obtain ⟨rfl, hx, hbd, hgv⟩ := hP
    obtain ⟨scr, harrAt, hlist, hof, hsmall⟩ := hx
    obtain ⟨hcb, hkn, -, -⟩ := State.arrayAt?_spec harrAt
    have hown : s.vm.findClass R_law = some m.cls := findClass_of_methodNamed B.named
    have hts0 : ∀ c ∈ (Jvm.Cond.code x code maxLocals ret :: tables_1), c.before #[Value.ref b] s = true := atoms_spec (ws := Jvm.Cond.code x code maxLocals ret :: tables_1) B.pre
    have hts : ∀ w ∈ lw_tbl, w.before #[Value.ref b] s = true := k2_hts_sels lw_privs (fun w hw => hts0 w (List.mem_cons_of_mem _ hw)) lw_privs_ok
    have hml : c.maxLocals = 7 := B.maxLocals_eq (hts0 _ List.mem_cons_self)
    have X₀ : Stand p l e room_1 s m #[Value.ref b] below meth c s₁ [] 0 0 := Stand.of_body B
    have hh0 : s₁.heap = s.heap := by rw [B.state]; rfl
    have hsz : scr.slots.size = xs.length := by rw [← Array.length_toList, hlist, List.length_map]
    have hval : ∀ j : Nat, j < xs.length → scr.slots[j]? = some (.int (xs.getD j 0)) := fun j hj => by
      rw [← Array.getElem?_toList, hlist]
      simp [hj]
    have hbl : b < s.heap.size := (Array.getElem?_eq_some_iff.mp hcb).1
    have hX : va_X b xs.length (fun j => xs.getD j 0) s s.heap := ⟨scr, hcb, hof, hkn, hsz, hval⟩
    have K : W p l e room_1 s m #[Value.ref b] below meth c s₁.heap [] 0 0 (lw_Z below #[Value.ref b] s) (entryFrame m ([Value.ref b] : List Value).toArray 7) := by
      rw [hh0]
      exact whole_start l hflags hbd ⟨B.exec, B.bytes, B.returns, hml, hown, hts, hX, hbl, B.notSynchronized, hgv⟩
    obtain ⟨t, a1, o, b1, b2, b3⟩ := K s₁ rfl X₀
    exact ⟨t, o, a1, b1, b2, b3⟩
theorem lw_pre_spec {args : Array Value} {s : State} (h : (Jvm.Cond.and given_1 narrow_1).before args s = true) (hr : rest_1_c.before args s = true) : ∃ (b : Addr) (xs : List Int32), lw_P b xs args s := by
  have hs := flat_of_before _ h
  have hq := flat_of_before _ hr
  have hc : (Cond.count 1).before args s = true := hs _ (by decide +kernel)
  have harr : (Cond.arrayOf (.arg 0) .int).before args s = true := hs _ (by decide +kernel)
  have hle : (Cond.le (.length (.arg 0)) (.int 3072)).before args s = true := hs _ (by decide +kernel)
  have hlen : (Cond.isInt (.length (.arg 0))).before args s = true := hq _ (by decide +kernel)
  have hall : (Cond.all (.arg 0) (.isInt (.elem (.arg 0) (.index 0)))).before args s = true := hq _ (by decide +kernel)
  obtain ⟨b, xs, hb, hx⟩ := State.ints_of_pre rfl harr hlen hall
  have hsm : xs.length < 2 ^ 31 := hx.choose_spec.2.2.2
  have hev : (Term.length (.arg 0)).eval args s none [] s = some (.int xs.length.toInt32) := hx.length_eval hb
  have hv := Cond.le_ints hev (show (Term.int 3072).eval args s none [] s = some (.int 3072) from rfl)
  have hd : xs.length.toInt32 ≤ 3072 := by
    simpa [Cond.before, Cond.holds, hv] using hle
  have hN : xs.length ≤ 3072 := (Int32.ofNat_le_ofNat hsm (by decide)).mp (show Int32.ofNat xs.length ≤ Int32.ofNat 3072 from hd)
  exact ⟨b, xs, Cond.one_arg hc (show args[0]? = some (.ref b) from hb), hx, hN, h⟩
theorem lw_comes (l : Launch) (hflags : l.flags = flags0) : Comes l x (Jvm.Cond.code x code maxLocals ret :: tables_1) room_1 (fun tb e args s => Calls_1 tb e args s ∧ rest_1 tb e args s ∧ Pre_1 tb e args s)
    (fun _ _ args s o t => lw_Q args s o t) := by
  intro p e ha hc hk s m args below hf hfit hheap happ hpre
  obtain ⟨b, xs, hP⟩ := lw_pre_spec hpre.2.2 hpre.2.1
  obtain ⟨k, o, h1, h2, h3, hQ⟩ := lw_walk l hflags b xs p e ha hc hk s m args below hf ((Spec.applies_iff_loose hf).mp happ).1 hP trivial
  exact ⟨k, o, h1, h2, h3, hQ⟩
theorem lw_frame {s t : State} {o : Outcome} {args : Array Value} (h : State.butDraws s t lw_cs (fun t1 => Framed s o t1 [] 601024 7293034)) :
    State.butDraws s t [Jvm.Choice.named "NaN.bits"] (fun t1 => Framed s o t1 (fieldLocs frame_1_writes args s ++ arrayLocs frame_1_arrays args s ++ staticLocs frame_1_statics s) 601024 7293034) := h
theorem lw_limb (L : Cond) (hL : ∀ (args : Array Value) (s t : State), L.after args s (.returned (some (.int 1))) t = true) :
    ArmFor flags0 classFile x code maxLocals ret World_1 tables_1 room_1 Calls_1 rest_1 Pre_1
      (fun tb e a s o t => postC L tb e a s o t ∧ State.butDraws s t [Jvm.Choice.named "NaN.bits"] (fun t1 => Framed s o t1 (fieldLocs frame_1_writes a s ++ arrayLocs frame_1_arrays a s ++ staticLocs frame_1_statics s) 601024 7293034)) := by
  intro l hflags _ _ p e ha hc hk s m args below hf hfit hheap happ hpre
  obtain ⟨k, o, h1, h2, h3, rfl, hF⟩ := lw_comes l hflags p e ha hc hk s m args below hf hfit hheap happ hpre
  exact ⟨k, _, h1, h2, h3, hL args s _, lw_frame hF⟩
theorem i_vc : Claimed_1_1 ∧ Claimed_1_2 := ⟨lw_limb limb_1_1 (fun args s t => by simp [limb_1_1, Cond.after, Cond.holds, Cond.value]), lw_limb limb_1_2 (fun args s t => Cond.after_iff.mpr (by
  first | (rw [show limb_1_2 = Cond.eq .result (.int 1) from rfl, Cond.eq_ints (x := 1) (y := 1) rfl rfl]; simp; done) | (simp [limb_1_2, Cond.value, Term.eval]; done)))⟩

