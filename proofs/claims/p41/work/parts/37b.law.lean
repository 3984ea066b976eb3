section LROWS
variable {z : gZ} {S : List gS} {E : gE} {own : String} {cc : ByteArray} {rm : Room} {nL pc : Nat} {L : List (Nat × Value)} {st : List Value} {I : gM} {J : gN}
theorem g_sld (F : Fx z S E own cc rm nL) {b n : Nat} {xs : Nat → Int32} {i v : Int32} (hX : va_X b n xs (zs z) (zs z).heap) (hbl : b < (zs z).heap.size) (hbA : ¬ zA z b) (hin : vp_in i n) (hv : xs i.toNatClampNeg = v) (hd : decode cc pc = .ok (.iaload, 1)) (K : G z (pc + 1) L (.int v :: st) I J) : G z pc L (.int i :: .ref b :: st) I J := by
  obtain ⟨hx, hb, hml, hown, hts, hK, hD, hk0, rfl, rfl, rfl, rfl⟩ := F
  intro H locs ls hP hS hl
  exact va_sld hx hb hX hbl hbA hS hin hd (by rw [hv]; exact K H locs ls hP hS hl)
theorem g_slen (F : Fx z S E own cc rm nL) {b n : Nat} {xs : Nat → Int32} (hX : va_X b n xs (zs z) (zs z).heap) (hbl : b < (zs z).heap.size) (hbA : ¬ zA z b) (hd : decode cc pc = .ok (.arraylength, 1)) (K : G z (pc + 1) L (.int (nI n) :: st) I J) : G z pc L (.ref b :: st) I J := by
  obtain ⟨hx, hb, hml, hown, hts, hK, hD, hk0, rfl, rfl, rfl, rfl⟩ := F
  intro H locs ls hP hS hl
  exact va_slen hx hb hX hbl hbA hS hd (K H locs ls hP hS hl)
theorem g_lcmpE (F : Fx z S E own cc rm nL) {x y : Int64} (he : x = y) (hd : decode cc pc = .ok (.lcmp, 1)) (K : G z (pc + 1) L (.int 0 :: st) I J) : G z pc L (.long y :: .long x :: st) I J := by
  obtain ⟨hx, hb, hml, hown, hts, hK, hD, hk0, rfl, rfl, rfl, rfl⟩ := F
  subst he
  intro H locs ls hP hS hl
  have e : lg_cmp x x = 0 := by
    have h1 : ¬ x < x := Int64.lt_irrefl
    simp [lg_cmp, h1]
  exact W.lcmp hx hb hd (by rw [e]; exact K H locs ls hP hS hl)
theorem g_pop2 (F : Fx z S E own cc rm nL) {a : Value} (hd : decode cc pc = .ok (.pop2, 1)) (ha : a.category = 2) (K : G z (pc + 1) L (st) I J) : G z pc L (a :: st) I J := by
  obtain ⟨hx, hb, hml, hown, hts, hK, hD, hk0, rfl, rfl, rfl, rfl⟩ := F
  intro H locs ls hP hS hl
  exact lv_pop2_2 hx hb hd ha (K H locs ls hP hS hl)
end LROWS
/-- the machine's place with more cells made -/
abbrev zUp (z : gZ) (k n : Nat) : gZ := (z.1, (zk z + k, zn z + n, zQ z), z.2.2)
theorem Fx.up {z : gZ} {S : List gS} {E : gE} {own : String} {cc : ByteArray} {rm : Room} {nL : Nat} (F : Fx z S E own cc rm nL) {k n : Nat} (h : zk z + k ≤ rm.cells ∧ zn z + n ≤ rm.slots) : Fx (zUp z k n) S E own cc rm nL := by
  obtain ⟨hx, hb, hml, hown, hts, hK, hD, hk0, h1, h2, h3, h4⟩ := F
  exact ⟨hx, hb, hml, hown, hts, hK, hD, h, h1, h2, h3, h4⟩
/-- where the law stands between two calls -/
def LZ (z : gZ) (E : gE) (bk b n : Nat) (xs : Nat → Int32) (sa : Nat) : Prop := Fx z sh E RL cL_law room_1 7 ∧ bZ z bk ∧ va_X b n xs (zs z) (zs z).heap ∧ b < (zs z).heap.size ∧ ¬ zA z b ∧ (zl z).stackTraces = false ∧ jx_X (zA z) sa (zs z).heap (zs z) ∧ za z = #[Value.ref b] ∧ zQ z = lw_Z (zb z) #[Value.ref b] (zs z) ∧ (zh z).sig.returnType = ret ∧ (zh z).locks = false ∧ ∀ q, zA z q → (zs z).heap.size ≤ q
/-- behind c calls: so many cells at most -/
def LK (z : gZ) (c : Nat) : Prop := zk z ≤ 91 + c ∧ zn z ≤ 163462 + 6 * c
theorem LK.next {z : gZ} {c : Nat} (h : LK z c) : LK z (c + 1) := ⟨by have := h.1; omega, by have := h.2; omega⟩
theorem LK.up {z : gZ} {c : Nat} (h : LK z c) : LK (zUp z 1 6) (c + 1) := ⟨by have := h.1; show zk z + 1 ≤ _; omega, by have := h.2; show zn z + 6 ≤ _; omega⟩
theorem LK.room {z : gZ} {c : Nat} (h : LK z c) (hc : 6 * c + 6 ≤ 3072) : zk z + 1 ≤ room_1.cells ∧ zn z + 6 ≤ room_1.slots := by
  have h1 := h.1
  have h2 := h.2
  show zk z + 1 ≤ 601024 ∧ zn z + 6 ≤ 7293034
  omega
theorem LZ.up {z : gZ} {E : gE} {bk b n sa : Nat} {xs : Nat → Int32} (h : LZ z E bk b n xs sa) (hk : zk z + 1 ≤ room_1.cells ∧ zn z + 6 ≤ room_1.slots) : LZ (zUp z 1 6) E bk b n xs sa := ⟨h.1.up hk, h.2⟩
abbrev LV5 (E : gE) (b c : Nat) : List (Nat × Value) := [(4, .int (nI (6 * c))), (3, .ref (E.2.1 90)), (2, .ref (E.2.1 62)), (1, .ref (E.2.1 0)), (0, .ref b)]
/-- what is wanted behind a call -/
abbrev LE (E : gE) (bk b n sa c : Nat) (xs : Nat → Int32) : Prop := ∀ (z : gZ) (I : gM) (J : gN), LZ z E bk b n xs sa → LK z (c + 1) → InvB I → G z 1604 (LV5 E b c) [] I J
theorem g_tab {z : gZ} {E : gE} {bk b n sa pc : Nat} {xs : Nat → Int32} {L : List (Nat × Value)} {rest : List Value} {a1 a2 : Int32} {I : gM} {J : gN} {y : Option Int32} (Z : LZ z E bk b n xs sa) (hE : gDist sh E) (hy : fT8 a1 a2 I = some y) (hW : (rest.map fun v => v.category).sum ≤ 8) (hk : zk z + 1 ≤ room_1.cells ∧ zn z + 6 ≤ room_1.slots)
    (hd : decode cL_law pc = .ok (.invokestatic 42, 3)) (K : G (zUp z 1 6) (pc + 3) L (.int (jr y) :: rest) I (jJ J y)) : G z pc L ((jx_avL E a1 a2).reverse ++ rest) I J := by
  obtain ⟨⟨hx, hb, hml, hown, hts, hK, hD, hk0, hL, hR, hS0, hE0⟩, B, _, _, _, hfl, hX, _⟩ := Z
  have hAA : ∀ q, gA sh E q → zA z q := g_AA (S := sh) (E := E) hD
  have hcw : Cond.codeWith yL_table cL_table 5 (some .int) jx_hh ∈ gw := (gw_t4 154 rfl rfl)
  have hm : Cond.static yL_table ∈ gw ∧ Cond.initialized RL ∈ gw ∧ Cond.methodLink RL 42 yL_table ∈ gw := ⟨q765, q0, q764⟩
  intro H locs ls hP hS hl
  rw [hS0, hE0] at hP
  unfold gW
  rw [hR]
  have hXH : jx_X (gA sh E) sa H (zs z) := (hX.kept hS.2.1).narrow hAA
  have hB : bX (gA sh E) bk H (zs z) := (bX.kept B hS.1 hS.2.1).narrow hAA
  have cw : vx_CSW room_1 (zs z) (za z) RL 42 yL_table cL_table 5 (some .int) jx_hh jx_wsL ({ frames := 8, cells := 1, slots := 6, locals := 512 } : Room) 1 6 4 :=
    ⟨⟨rfl, rfl, Nat.le_of_ble_eq_true rfl, Nat.le_of_ble_eq_true rfl, pay_in hts (gw_good0 hcw), List.mem_cons_self⟩, hts _ hcw, hts _ hm.2.1, ⟨by decide, by decide⟩, fun sig h => by
      have e : (parseMethodDescriptor yL_table.desc).map (fun d => d.parameters.length) = some 4 := by decide +kernel
      rw [h] at e
      exact (Option.some.inj e).symm, hts _ hm.2.2, hts _ hm.1⟩
  refine vx_calli (vx_runSX (As := jx_avL E a1 a2) (rest := rest) ⟨hx, hb, hml.trans hL.symm, hown, hts⟩ (kL_table (zl z) hfl E hE bk sa a1 a2 I J hy) cw ⟨jx_blind, fun U hU hW => ⟨rfl, by rw [hU]; exact hP, va_K.moved hW.alike hK, by rw [hU]; exact jx_X.warm hW hXH, by rw [hU]; exact bX.same hW.alike hB⟩⟩ rfl rfl hl.1 rfl (g_room hW) hd hk) hS (fun q _ h => hAA q h) (fun q h => hAA q h) (fun q _ h => h.elim) (fun C ce q9 u t H1 locs1 ht hvm hpx hBX hz hk hS1 hce hcv hcl => hpx.elim) (fun r u t H1 locs1 ht hvm hpost hB1 hz hk hS1 => ?_)
  have hpost : r = jr y := hpost
  subst hpost
  have hB1 : va_P E.1 vwCl (g_w sh E I (jJ J y)) t.heap := hB1
  rw [ht] at hB1
  have K2 := K H1 locs1 ls (by rw [show zS (zUp z 1 6) = sh from hS0, show zE (zUp z 1 6) = E from hE0]; exact hB1) hS1 hl
  unfold gW at K2
  rw [show zR (zUp z 1 6) = room_1 from hR] at K2
  exact K2
theorem law_fin {z : gZ} {E : gE} {bk b n sa : Nat} {xs : Nat → Int32} {Lc : List (Nat × Value)} {I : gM} {J : gN} (Z : LZ z E bk b n xs sa) (hk : zk z ≤ 601024 ∧ zn z ≤ 7293034) : G z 1610 Lc [] I J := by
  obtain ⟨F, B, _, _, _, _, _, hza, hzQ, hret, hlk, hzA⟩ := Z
  refine g_iconst (v := 1) F dL_law_1610 (by decide) ?_
  obtain ⟨hx, hb, hml, hown, hts, hK, hD, hk0, hL, hR, hS0, hE0⟩ := F
  intro H locs ls hP hS hl
  unfold gW
  rw [hza, hzQ, hR]
  refine va_forget (fun q hq => hzA _ (hS.2.2 q hq)) ?_
  refine W.widen (k := 601024) (n := 7293034) hk.1 hk.2 ?_
  refine W.base ?_
  exact lw_ret (Drawn.sameBut.refl (zs z).drawn lw_cs) hx hb hret hlk dL_law_1611
set_option maxRecDepth 100000 in
set_option maxHeartbeats 4000000 in
theorem law_c0 {z : gZ} {E : gE} {bk b n sa c : Nat} {xs : Nat → Int32} {I : gM} {J : gN} (hE : gDist sh E) (Z : LZ z E bk b n xs sa) (hK : LK z c) (hn : 6 * c + 6 ≤ n) (hN : n ≤ 3072) (hI : InvB I) (hend : LE E bk b n sa c xs) : G z 220 (LV5 E b c) [] I J := by
  have hc : 6 * c + 6 ≤ 3072 := Nat.le_trans hn hN
  obtain ⟨F, B, hX, hbl, hbA, hrest⟩ := Z
  have Z : LZ z E bk b n xs sa := ⟨F, B, hX, hbl, hbA, hrest⟩
  refine g_aload_n F 3 dL_law_220 rfl rfl ?_
  refine g_aload_n F 4 dL_law_221 rfl rfl ?_
  refine g_iload F 0 dL_law_222 rfl ?_
  refine g_iconst (v := nI 1) F dL_law_224 (by decide) ?_
  refine g_iadd (v := nI (6 * c + 1)) F dL_law_225 (nI_add (6 * c) 1) ?_
  refine g_sld (v := xs (6 * c + 1)) F hX hbl hbA (vp_in_nI (n := 6 * c + 1) (by omega) (by omega)) (congrArg xs (nI_clamp (n := 6 * c + 1) (by omega))) dL_law_226 ?_
  refine g_aload_n F 4 dL_law_227 rfl rfl ?_
  refine g_iload F 0 dL_law_228 rfl ?_
  refine g_iconst (v := nI 2) F dL_law_230 (by decide) ?_
  refine g_iadd (v := nI (6 * c + 2)) F dL_law_231 (nI_add (6 * c) 2) ?_
  refine g_sld (v := xs (6 * c + 2)) F hX hbl hbA (vp_in_nI (n := 6 * c + 2) (by omega) (by omega)) (congrArg xs (nI_clamp (n := 6 * c + 2) (by omega))) dL_law_232 ?_
  refine g_aload_n F 4 dL_law_233 rfl rfl ?_
  refine g_iload F 0 dL_law_234 rfl ?_
  refine g_iconst (v := nI 3) F dL_law_236 (by decide) ?_
  refine g_iadd (v := nI (6 * c + 3)) F dL_law_237 (nI_add (6 * c) 3) ?_
  refine g_sld (v := xs (6 * c + 3)) F hX hbl hbA (vp_in_nI (n := 6 * c + 3) (by omega) (by omega)) (congrArg xs (nI_clamp (n := 6 * c + 3) (by omega))) dL_law_238 ?_
  refine g_aload_n F 4 dL_law_239 rfl rfl ?_
  refine g_iload F 0 dL_law_240 rfl ?_
  refine g_iconst (v := nI 4) F dL_law_242 (by decide) ?_
  refine g_iadd (v := nI (6 * c + 4)) F dL_law_243 (nI_add (6 * c) 4) ?_
  refine g_sld (v := xs (6 * c + 4)) F hX hbl hbA (vp_in_nI (n := 6 * c + 4) (by omega) (by omega)) (congrArg xs (nI_clamp (n := 6 * c + 4) (by omega))) dL_law_244 ?_
  refine g_aload_n F 4 dL_law_245 rfl rfl ?_
  refine g_iload F 0 dL_law_246 rfl ?_
  refine g_iconst (v := nI 5) F dL_law_248 (by decide) ?_
  refine g_iadd (v := nI (6 * c + 5)) F dL_law_249 (nI_add (6 * c) 5) ?_
  refine g_sld (v := xs (6 * c + 5)) F hX hbl hbA (vp_in_nI (n := 6 * c + 5) (by omega) (by omega)) (congrArg xs (nI_clamp (n := 6 * c + 5) (by omega))) dL_law_250 ?_
  obtain ⟨ra, rb, ea, eb, hI2, hab⟩ := alb_feed hI (xs (6 * c + 1)) (xs (6 * c + 2)) (xs (6 * c + 3)) (xs (6 * c + 4)) (xs (6 * c + 5))
  refine u_callV0 (k := 0) (As := [.int (xs (6 * c + 1)), .int (xs (6 * c + 2)), .int (xs (6 * c + 3)), .int (xs (6 * c + 4)), .int (xs (6 * c + 5))]) (rest := []) F B (wX8_feed (zl z) E hE bk (xs (6 * c + 1)) (xs (6 * c + 2)) (xs (6 * c + 3)) (xs (6 * c + 4)) (xs (6 * c + 5)) I J ea) mX8_feed q203 rfl s0 rfl rfl rfl (Nat.le_of_ble_eq_true rfl) dL_law_251 (fun r1 I1 J1 h1 => ?_)
  rw [h1.1, h1.2.1, h1.2.2]
  refine g_st (sn := [.int ra.1]) rfl ?_
  refine g_pop F dL_law_254 rfl ?_
  refine g_aload_n F 2 dL_law_255 rfl rfl ?_
  refine g_aload_n F 4 dL_law_256 rfl rfl ?_
  refine g_iload F 0 dL_law_257 rfl ?_
  refine g_iconst (v := nI 1) F dL_law_259 (by decide) ?_
  refine g_iadd (v := nI (6 * c + 1)) F dL_law_260 (nI_add (6 * c) 1) ?_
  refine g_sld (v := xs (6 * c + 1)) F hX hbl hbA (vp_in_nI (n := 6 * c + 1) (by omega) (by omega)) (congrArg xs (nI_clamp (n := 6 * c + 1) (by omega))) dL_law_261 ?_
  refine g_aload_n F 4 dL_law_262 rfl rfl ?_
  refine g_iload F 0 dL_law_263 rfl ?_
  refine g_iconst (v := nI 2) F dL_law_265 (by decide) ?_
  refine g_iadd (v := nI (6 * c + 2)) F dL_law_266 (nI_add (6 * c) 2) ?_
  refine g_sld (v := xs (6 * c + 2)) F hX hbl hbA (vp_in_nI (n := 6 * c + 2) (by omega) (by omega)) (congrArg xs (nI_clamp (n := 6 * c + 2) (by omega))) dL_law_267 ?_
  refine g_aload_n F 4 dL_law_268 rfl rfl ?_
  refine g_iload F 0 dL_law_269 rfl ?_
  refine g_iconst (v := nI 3) F dL_law_271 (by decide) ?_
  refine g_iadd (v := nI (6 * c + 3)) F dL_law_272 (nI_add (6 * c) 3) ?_
  refine g_sld (v := xs (6 * c + 3)) F hX hbl hbA (vp_in_nI (n := 6 * c + 3) (by omega) (by omega)) (congrArg xs (nI_clamp (n := 6 * c + 3) (by omega))) dL_law_273 ?_
  refine g_aload_n F 4 dL_law_274 rfl rfl ?_
  refine g_iload F 0 dL_law_275 rfl ?_
  refine g_iconst (v := nI 4) F dL_law_277 (by decide) ?_
  refine g_iadd (v := nI (6 * c + 4)) F dL_law_278 (nI_add (6 * c) 4) ?_
  refine g_sld (v := xs (6 * c + 4)) F hX hbl hbA (vp_in_nI (n := 6 * c + 4) (by omega) (by omega)) (congrArg xs (nI_clamp (n := 6 * c + 4) (by omega))) dL_law_279 ?_
  refine g_aload_n F 4 dL_law_280 rfl rfl ?_
  refine g_iload F 0 dL_law_281 rfl ?_
  refine g_iconst (v := nI 5) F dL_law_283 (by decide) ?_
  refine g_iadd (v := nI (6 * c + 5)) F dL_law_284 (nI_add (6 * c) 5) ?_
  refine g_sld (v := xs (6 * c + 5)) F hX hbl hbA (vp_in_nI (n := 6 * c + 5) (by omega) (by omega)) (congrArg xs (nI_clamp (n := 6 * c + 5) (by omega))) dL_law_285 ?_
  refine u_callV0 (k := 62) (As := [.int (xs (6 * c + 1)), .int (xs (6 * c + 2)), .int (xs (6 * c + 3)), .int (xs (6 * c + 4)), .int (xs (6 * c + 5))]) (rest := []) F B (wX9_feed (zl z) E hE bk (xs (6 * c + 1)) (xs (6 * c + 2)) (xs (6 * c + 3)) (xs (6 * c + 4)) (xs (6 * c + 5)) ra.2 J eb) mX9_feed q912 rfl s62 rfl rfl rfl (Nat.le_of_ble_eq_true rfl) dL_law_286 (fun r2 I2 J2 h2 => ?_)
  rw [h2.1, h2.2.1, h2.2.2]
  refine g_st (sn := [.int rb.1]) rfl ?_
  refine g_pop F dL_law_289 rfl ?_
  refine g_goto (tgt := 1604) F dL_law_290 (by decide) ?_
  refine g_sub (Ln := LV5 E b c) [0, 1, 2, 3, 4] rfl ?_
  exact hend _ _ _ Z hK.next hI2
set_option maxRecDepth 100000 in
set_option maxHeartbeats 4000000 in
theorem law_c1 {z : gZ} {E : gE} {bk b n sa c : Nat} {xs : Nat → Int32} {I : gM} {J : gN} (hE : gDist sh E) (Z : LZ z E bk b n xs sa) (hK : LK z c) (hn : 6 * c + 6 ≤ n) (hN : n ≤ 3072) (hI : InvB I) (hend : LE E bk b n sa c xs) : G z 293 (LV5 E b c) [] I J := by
  have hc : 6 * c + 6 ≤ 3072 := Nat.le_trans hn hN
  obtain ⟨F, B, hX, hbl, hbA, hrest⟩ := Z
  have Z : LZ z E bk b n xs sa := ⟨F, B, hX, hbl, hbA, hrest⟩
  refine g_aload_n F 3 dL_law_293 rfl rfl ?_
  refine g_aload_n F 4 dL_law_294 rfl rfl ?_
  refine g_iload F 0 dL_law_295 rfl ?_
  refine g_iconst (v := nI 1) F dL_law_297 (by decide) ?_
  refine g_iadd (v := nI (6 * c + 1)) F dL_law_298 (nI_add (6 * c) 1) ?_
  refine g_sld (v := xs (6 * c + 1)) F hX hbl hbA (vp_in_nI (n := 6 * c + 1) (by omega) (by omega)) (congrArg xs (nI_clamp (n := 6 * c + 1) (by omega))) dL_law_299 ?_
  obtain ⟨ra, rb, ea, eb, hI2, hab⟩ := alb_end hI (xs (6 * c + 1))
  refine u_callV0 (k := 0) (As := [.int (xs (6 * c + 1))]) (rest := []) F B (wX8_end (zl z) E hE bk (xs (6 * c + 1)) I J ea) mX8_end q214 rfl s0 rfl rfl rfl (Nat.le_of_ble_eq_true rfl) dL_law_300 (fun r1 I1 J1 h1 => ?_)
  rw [h1.1, h1.2.1, h1.2.2]
  refine g_st (sn := [.int ra.1]) rfl ?_
  refine g_pop F dL_law_303 rfl ?_
  refine g_aload_n F 2 dL_law_304 rfl rfl ?_
  refine g_aload_n F 4 dL_law_305 rfl rfl ?_
  refine g_iload F 0 dL_law_306 rfl ?_
  refine g_iconst (v := nI 1) F dL_law_308 (by decide) ?_
  refine g_iadd (v := nI (6 * c + 1)) F dL_law_309 (nI_add (6 * c) 1) ?_
  refine g_sld (v := xs (6 * c + 1)) F hX hbl hbA (vp_in_nI (n := 6 * c + 1) (by omega) (by omega)) (congrArg xs (nI_clamp (n := 6 * c + 1) (by omega))) dL_law_310 ?_
  refine u_callV0 (k := 62) (As := [.int (xs (6 * c + 1))]) (rest := []) F B (wX9_end (zl z) E hE bk (xs (6 * c + 1)) ra.2 J eb) mX9_end q919 rfl s62 rfl rfl rfl (Nat.le_of_ble_eq_true rfl) dL_law_311 (fun r2 I2 J2 h2 => ?_)
  rw [h2.1, h2.2.1, h2.2.2]
  refine g_st (sn := [.int rb.1]) rfl ?_
  refine g_pop F dL_law_314 rfl ?_
  refine g_goto (tgt := 1604) F dL_law_315 (by decide) ?_
  refine g_sub (Ln := LV5 E b c) [0, 1, 2, 3, 4] rfl ?_
  exact hend _ _ _ Z hK.next hI2
set_option maxRecDepth 100000 in
set_option maxHeartbeats 4000000 in
theorem law_c2 {z : gZ} {E : gE} {bk b n sa c : Nat} {xs : Nat → Int32} {I : gM} {J : gN} (hE : gDist sh E) (Z : LZ z E bk b n xs sa) (hK : LK z c) (hn : 6 * c + 6 ≤ n) (hN : n ≤ 3072) (hI : InvB I) (hend : LE E bk b n sa c xs) : G z 318 (LV5 E b c) [] I J := by
  have hc : 6 * c + 6 ≤ 3072 := Nat.le_trans hn hN
  obtain ⟨F, B, hX, hbl, hbA, hrest⟩ := Z
  have Z : LZ z E bk b n xs sa := ⟨F, B, hX, hbl, hbA, hrest⟩
  refine g_aload_n F 3 dL_law_318 rfl rfl ?_
  refine g_aload_n F 4 dL_law_319 rfl rfl ?_
  refine g_iload F 0 dL_law_320 rfl ?_
  refine g_iconst (v := nI 1) F dL_law_322 (by decide) ?_
  refine g_iadd (v := nI (6 * c + 1)) F dL_law_323 (nI_add (6 * c) 1) ?_
  refine g_sld (v := xs (6 * c + 1)) F hX hbl hbA (vp_in_nI (n := 6 * c + 1) (by omega) (by omega)) (congrArg xs (nI_clamp (n := 6 * c + 1) (by omega))) dL_law_324 ?_
  obtain ⟨ra, rb, ea, eb, hI2⟩ := alb_fault hI (xs (6 * c + 1))
  refine u_callV0 (k := 0) (As := [.int (xs (6 * c + 1))]) (rest := []) F B (wX8_fault (zl z) E hE bk (xs (6 * c + 1)) I J ea) mX8_fault q218 rfl s0 rfl rfl rfl (Nat.le_of_ble_eq_true rfl) dL_law_325 (fun r1 I1 J1 h1 => ?_)
  rw [h1.1, h1.2.1, h1.2.2]
  refine g_st (sn := [.int ra.1]) rfl ?_
  refine g_pop F dL_law_328 rfl ?_
  refine g_aload_n F 2 dL_law_329 rfl rfl ?_
  refine g_aload_n F 4 dL_law_330 rfl rfl ?_
  refine g_iload F 0 dL_law_331 rfl ?_
  refine g_iconst (v := nI 1) F dL_law_333 (by decide) ?_
  refine g_iadd (v := nI (6 * c + 1)) F dL_law_334 (nI_add (6 * c) 1) ?_
  refine g_sld (v := xs (6 * c + 1)) F hX hbl hbA (vp_in_nI (n := 6 * c + 1) (by omega) (by omega)) (congrArg xs (nI_clamp (n := 6 * c + 1) (by omega))) dL_law_335 ?_
  refine u_callV0 (k := 62) (As := [.int (xs (6 * c + 1))]) (rest := []) F B (wX9_fault (zl z) E hE bk (xs (6 * c + 1)) ra.2 J eb) mX9_fault q926 rfl s62 rfl rfl rfl (Nat.le_of_ble_eq_true rfl) dL_law_336 (fun r2 I2 J2 h2 => ?_)
  rw [h2.1, h2.2.1, h2.2.2]
  refine g_st (sn := [.int rb.1]) rfl ?_
  refine g_pop F dL_law_339 rfl ?_
  refine g_goto (tgt := 1604) F dL_law_340 (by decide) ?_
  refine g_sub (Ln := LV5 E b c) [0, 1, 2, 3, 4] rfl ?_
  exact hend _ _ _ Z hK.next hI2
set_option maxRecDepth 100000 in
set_option maxHeartbeats 4000000 in
theorem law_c3 {z : gZ} {E : gE} {bk b n sa c : Nat} {xs : Nat → Int32} {I : gM} {J : gN} (hE : gDist sh E) (Z : LZ z E bk b n xs sa) (hK : LK z c) (hn : 6 * c + 6 ≤ n) (hN : n ≤ 3072) (hI : InvB I) (hend : LE E bk b n sa c xs) : G z 343 (LV5 E b c) [] I J := by
  have hc : 6 * c + 6 ≤ 3072 := Nat.le_trans hn hN
  obtain ⟨F, B, hX, hbl, hbA, hrest⟩ := Z
  have Z : LZ z E bk b n xs sa := ⟨F, B, hX, hbl, hbA, hrest⟩
  refine g_aload_n F 3 dL_law_343 rfl rfl ?_
  refine g_aload_n F 4 dL_law_344 rfl rfl ?_
  refine g_iload F 0 dL_law_345 rfl ?_
  refine g_iconst (v := nI 1) F dL_law_347 (by decide) ?_
  refine g_iadd (v := nI (6 * c + 1)) F dL_law_348 (nI_add (6 * c) 1) ?_
  refine g_sld (v := xs (6 * c + 1)) F hX hbl hbA (vp_in_nI (n := 6 * c + 1) (by omega) (by omega)) (congrArg xs (nI_clamp (n := 6 * c + 1) (by omega))) dL_law_349 ?_
  obtain ⟨ra, rb, ea, eb, hI2, hab⟩ := alb_text hI (xs (6 * c + 1))
  refine u_callV0 (k := 0) (As := [.int (xs (6 * c + 1))]) (rest := []) F B (wX8_text (zl z) E hE bk (xs (6 * c + 1)) I J ea) mX8_text q307 rfl s0 rfl rfl rfl (Nat.le_of_ble_eq_true rfl) dL_law_350 (fun r1 I1 J1 h1 => ?_)
  rw [h1.1, h1.2.1, h1.2.2]
  refine g_st (sn := [.int ra.1]) rfl ?_
  refine g_pop F dL_law_353 rfl ?_
  refine g_aload_n F 2 dL_law_354 rfl rfl ?_
  refine g_aload_n F 4 dL_law_355 rfl rfl ?_
  refine g_iload F 0 dL_law_356 rfl ?_
  refine g_iconst (v := nI 1) F dL_law_358 (by decide) ?_
  refine g_iadd (v := nI (6 * c + 1)) F dL_law_359 (nI_add (6 * c) 1) ?_
  refine g_sld (v := xs (6 * c + 1)) F hX hbl hbA (vp_in_nI (n := 6 * c + 1) (by omega) (by omega)) (congrArg xs (nI_clamp (n := 6 * c + 1) (by omega))) dL_law_360 ?_
  refine u_callV0 (k := 62) (As := [.int (xs (6 * c + 1))]) (rest := []) F B (wX9_text (zl z) E hE bk (xs (6 * c + 1)) ra.2 J eb) mX9_text q981 rfl s62 rfl rfl rfl (Nat.le_of_ble_eq_true rfl) dL_law_361 (fun r2 I2 J2 h2 => ?_)
  rw [h2.1, h2.2.1, h2.2.2]
  refine g_st (sn := [.int rb.1]) rfl ?_
  refine g_pop F dL_law_364 rfl ?_
  refine g_goto (tgt := 1604) F dL_law_365 (by decide) ?_
  refine g_sub (Ln := LV5 E b c) [0, 1, 2, 3, 4] rfl ?_
  exact hend _ _ _ Z hK.next hI2
set_option maxRecDepth 100000 in
set_option maxHeartbeats 4000000 in
theorem law_c4 {z : gZ} {E : gE} {bk b n sa c : Nat} {xs : Nat → Int32} {I : gM} {J : gN} (hE : gDist sh E) (Z : LZ z E bk b n xs sa) (hK : LK z c) (hn : 6 * c + 6 ≤ n) (hN : n ≤ 3072) (hI : InvB I) (hend : LE E bk b n sa c xs) : G z 368 (LV5 E b c) [] I J := by
  have hc : 6 * c + 6 ≤ 3072 := Nat.le_trans hn hN
  obtain ⟨F, B, hX, hbl, hbA, hrest⟩ := Z
  have Z : LZ z E bk b n xs sa := ⟨F, B, hX, hbl, hbA, hrest⟩
  refine g_aload_n F 3 dL_law_368 rfl rfl ?_
  refine g_aload_n F 4 dL_law_369 rfl rfl ?_
  refine g_iload F 0 dL_law_370 rfl ?_
  refine g_iconst (v := nI 1) F dL_law_372 (by decide) ?_
  refine g_iadd (v := nI (6 * c + 1)) F dL_law_373 (nI_add (6 * c) 1) ?_
  refine g_sld (v := xs (6 * c + 1)) F hX hbl hbA (vp_in_nI (n := 6 * c + 1) (by omega) (by omega)) (congrArg xs (nI_clamp (n := 6 * c + 1) (by omega))) dL_law_374 ?_
  obtain ⟨ra, rb, ea, eb, hI2, hab⟩ := alb_rule hI (xs (6 * c + 1))
  refine u_callV0 (k := 0) (As := [.int (xs (6 * c + 1))]) (rest := []) F B (wX8_rule (zl z) E hE bk (xs (6 * c + 1)) I J ea) mX8_rule q399 rfl s0 rfl rfl rfl (Nat.le_of_ble_eq_true rfl) dL_law_375 (fun r1 I1 J1 h1 => ?_)
  rw [h1.1, h1.2.1, h1.2.2]
  refine g_st (sn := [.int ra]) rfl ?_
  refine g_pop F dL_law_378 rfl ?_
  refine g_aload_n F 2 dL_law_379 rfl rfl ?_
  refine g_aload_n F 4 dL_law_380 rfl rfl ?_
  refine g_iload F 0 dL_law_381 rfl ?_
  refine g_iconst (v := nI 1) F dL_law_383 (by decide) ?_
  refine g_iadd (v := nI (6 * c + 1)) F dL_law_384 (nI_add (6 * c) 1) ?_
  refine g_sld (v := xs (6 * c + 1)) F hX hbl hbA (vp_in_nI (n := 6 * c + 1) (by omega) (by omega)) (congrArg xs (nI_clamp (n := 6 * c + 1) (by omega))) dL_law_385 ?_
  refine u_callV0 (k := 62) (As := [.int (xs (6 * c + 1))]) (rest := []) F B (wX9_rule (zl z) E hE bk (xs (6 * c + 1)) I J eb) mX9_rule q1144 rfl s62 rfl rfl rfl (Nat.le_of_ble_eq_true rfl) dL_law_386 (fun r2 I2 J2 h2 => ?_)
  rw [h2.1, h2.2.1, h2.2.2]
  refine g_st (sn := [.int rb]) rfl ?_
  refine g_pop F dL_law_389 rfl ?_
  refine g_goto (tgt := 1604) F dL_law_390 (by decide) ?_
  refine g_sub (Ln := LV5 E b c) [0, 1, 2, 3, 4] rfl ?_
  exact hend _ _ _ Z hK.next hI2
set_option maxRecDepth 100000 in
set_option maxHeartbeats 4000000 in
theorem law_c5 {z : gZ} {E : gE} {bk b n sa c : Nat} {xs : Nat → Int32} {I : gM} {J : gN} (hE : gDist sh E) (Z : LZ z E bk b n xs sa) (hK : LK z c) (hn : 6 * c + 6 ≤ n) (hN : n ≤ 3072) (hI : InvB I) (hend : LE E bk b n sa c xs) : G z 393 (LV5 E b c) [] I J := by
  have hc : 6 * c + 6 ≤ 3072 := Nat.le_trans hn hN
  obtain ⟨F, B, hX, hbl, hbA, hrest⟩ := Z
  have Z : LZ z E bk b n xs sa := ⟨F, B, hX, hbl, hbA, hrest⟩
  refine g_aload_n F 3 dL_law_393 rfl rfl ?_
  refine g_aload_n F 4 dL_law_394 rfl rfl ?_
  refine g_iload F 0 dL_law_395 rfl ?_
  refine g_iconst (v := nI 1) F dL_law_397 (by decide) ?_
  refine g_iadd (v := nI (6 * c + 1)) F dL_law_398 (nI_add (6 * c) 1) ?_
  refine g_sld (v := xs (6 * c + 1)) F hX hbl hbA (vp_in_nI (n := 6 * c + 1) (by omega) (by omega)) (congrArg xs (nI_clamp (n := 6 * c + 1) (by omega))) dL_law_399 ?_
  refine g_aload_n F 4 dL_law_400 rfl rfl ?_
  refine g_iload F 0 dL_law_401 rfl ?_
  refine g_iconst (v := nI 2) F dL_law_403 (by decide) ?_
  refine g_iadd (v := nI (6 * c + 2)) F dL_law_404 (nI_add (6 * c) 2) ?_
  refine g_sld (v := xs (6 * c + 2)) F hX hbl hbA (vp_in_nI (n := 6 * c + 2) (by omega) (by omega)) (congrArg xs (nI_clamp (n := 6 * c + 2) (by omega))) dL_law_405 ?_
  refine g_aload_n F 1 dL_law_406 rfl rfl ?_
  obtain ⟨y, rb, ey, eb, hI2⟩ := alb_table hI (xs (6 * c + 1)) (xs (6 * c + 2))
  refine g_tab (a1 := (xs (6 * c + 1))) (a2 := (xs (6 * c + 2))) (rest := []) Z hE ey (Nat.le_of_ble_eq_true rfl) (hK.room hc) dL_law_407 ?_
  have F := F.up (hK.room hc)
  have B : bZ (zUp z 1 6) bk := B
  refine g_istore (Ln := [(5, .int (jr y)), (4, .int (nI (6 * c))), (3, .ref (E.2.1 90)), (2, .ref (E.2.1 62)), (1, .ref (E.2.1 0)), (0, .ref b)]) F dL_law_410 (by decide) rfl ?_
  refine g_aload_n F 3 dL_law_412 rfl rfl ?_
  refine g_aload_n F 5 dL_law_413 rfl rfl ?_
  refine g_iload F 1 dL_law_414 rfl ?_
  refine g_iconst (v := nI 1) F dL_law_416 (by decide) ?_
  refine g_iadd (v := nI (6 * c + 1)) F dL_law_417 (nI_add (6 * c) 1) ?_
  refine g_sld (v := xs (6 * c + 1)) F hX hbl hbA (vp_in_nI (n := 6 * c + 1) (by omega) (by omega)) (congrArg xs (nI_clamp (n := 6 * c + 1) (by omega))) dL_law_418 ?_
  refine g_aload_n F 5 dL_law_419 rfl rfl ?_
  refine g_iload F 1 dL_law_420 rfl ?_
  refine g_iconst (v := nI 2) F dL_law_422 (by decide) ?_
  refine g_iadd (v := nI (6 * c + 2)) F dL_law_423 (nI_add (6 * c) 2) ?_
  refine g_sld (v := xs (6 * c + 2)) F hX hbl hbA (vp_in_nI (n := 6 * c + 2) (by omega) (by omega)) (congrArg xs (nI_clamp (n := 6 * c + 2) (by omega))) dL_law_424 ?_
  refine u_callV0 (k := 62) (As := [.int (xs (6 * c + 1)), .int (xs (6 * c + 2))]) (rest := []) F B (wX9_table (zl (zUp z 1 6)) E hE bk (xs (6 * c + 1)) (xs (6 * c + 2)) I (jJ J y) eb) mX9_table q1151 rfl s62 rfl rfl rfl (Nat.le_of_ble_eq_true rfl) dL_law_425 (fun r1 I1 J1 h1 => ?_)
  rw [h1.1, h1.2.1, h1.2.2]
  refine g_st (sn := [.int rb.1]) rfl ?_
  refine g_istore (Ln := [(6, .int rb.1), (5, .int (jr y)), (4, .int (nI (6 * c))), (3, .ref (E.2.1 90)), (2, .ref (E.2.1 62)), (1, .ref (E.2.1 0)), (0, .ref b)]) F dL_law_428 (by decide) rfl ?_
  refine g_goto (tgt := 1604) F dL_law_430 (by decide) ?_
  refine g_sub (Ln := LV5 E b c) [2, 3, 4, 5, 6] rfl ?_
  exact hend _ _ _ (Z.up (hK.room hc)) hK.up hI2
set_option maxRecDepth 100000 in
set_option maxHeartbeats 4000000 in
theorem law_c6 {z : gZ} {E : gE} {bk b n sa c : Nat} {xs : Nat → Int32} {I : gM} {J : gN} (hE : gDist sh E) (Z : LZ z E bk b n xs sa) (hK : LK z c) (hn : 6 * c + 6 ≤ n) (hN : n ≤ 3072) (hI : InvB I) (hend : LE E bk b n sa c xs) : G z 433 (LV5 E b c) [] I J := by
  have hc : 6 * c + 6 ≤ 3072 := Nat.le_trans hn hN
  obtain ⟨F, B, hX, hbl, hbA, hrest⟩ := Z
  have Z : LZ z E bk b n xs sa := ⟨F, B, hX, hbl, hbA, hrest⟩
  refine g_aload_n F 3 dL_law_433 rfl rfl ?_
  refine g_aload_n F 4 dL_law_434 rfl rfl ?_
  refine g_iload F 0 dL_law_435 rfl ?_
  refine g_iconst (v := nI 1) F dL_law_437 (by decide) ?_
  refine g_iadd (v := nI (6 * c + 1)) F dL_law_438 (nI_add (6 * c) 1) ?_
  refine g_sld (v := xs (6 * c + 1)) F hX hbl hbA (vp_in_nI (n := 6 * c + 1) (by omega) (by omega)) (congrArg xs (nI_clamp (n := 6 * c + 1) (by omega))) dL_law_439 ?_
  refine g_aload_n F 4 dL_law_440 rfl rfl ?_
  refine g_iload F 0 dL_law_441 rfl ?_
  refine g_iconst (v := nI 2) F dL_law_443 (by decide) ?_
  refine g_iadd (v := nI (6 * c + 2)) F dL_law_444 (nI_add (6 * c) 2) ?_
  refine g_sld (v := xs (6 * c + 2)) F hX hbl hbA (vp_in_nI (n := 6 * c + 2) (by omega) (by omega)) (congrArg xs (nI_clamp (n := 6 * c + 2) (by omega))) dL_law_445 ?_
  refine g_aload_n F 4 dL_law_446 rfl rfl ?_
  refine g_iload F 0 dL_law_447 rfl ?_
  refine g_iconst (v := nI 3) F dL_law_449 (by decide) ?_
  refine g_iadd (v := nI (6 * c + 3)) F dL_law_450 (nI_add (6 * c) 3) ?_
  refine g_sld (v := xs (6 * c + 3)) F hX hbl hbA (vp_in_nI (n := 6 * c + 3) (by omega) (by omega)) (congrArg xs (nI_clamp (n := 6 * c + 3) (by omega))) dL_law_451 ?_
  obtain ⟨ra, rb, ea, eb, hI2, hab⟩ := alb_cell hI (xs (6 * c + 1)) (xs (6 * c + 2)) (xs (6 * c + 3))
  refine u_callV0 (k := 0) (As := [.int (xs (6 * c + 1)), .int (xs (6 * c + 2)), .int (xs (6 * c + 3))]) (rest := []) F B (wX8_cell (zl z) E hE bk (xs (6 * c + 1)) (xs (6 * c + 2)) (xs (6 * c + 3)) I J ea) mX8_cell q1457 rfl s0 rfl rfl rfl (Nat.le_of_ble_eq_true rfl) dL_law_452 (fun r1 I1 J1 h1 => ?_)
  rw [h1.1, h1.2.1, h1.2.2]
  refine g_st (sn := [.int ra]) rfl ?_
  refine g_pop F dL_law_455 rfl ?_
  refine g_aload_n F 2 dL_law_456 rfl rfl ?_
  refine g_aload_n F 4 dL_law_457 rfl rfl ?_
  refine g_iload F 0 dL_law_458 rfl ?_
  refine g_iconst (v := nI 1) F dL_law_460 (by decide) ?_
  refine g_iadd (v := nI (6 * c + 1)) F dL_law_461 (nI_add (6 * c) 1) ?_
  refine g_sld (v := xs (6 * c + 1)) F hX hbl hbA (vp_in_nI (n := 6 * c + 1) (by omega) (by omega)) (congrArg xs (nI_clamp (n := 6 * c + 1) (by omega))) dL_law_462 ?_
  refine g_aload_n F 4 dL_law_463 rfl rfl ?_
  refine g_iload F 0 dL_law_464 rfl ?_
  refine g_iconst (v := nI 2) F dL_law_466 (by decide) ?_
  refine g_iadd (v := nI (6 * c + 2)) F dL_law_467 (nI_add (6 * c) 2) ?_
  refine g_sld (v := xs (6 * c + 2)) F hX hbl hbA (vp_in_nI (n := 6 * c + 2) (by omega) (by omega)) (congrArg xs (nI_clamp (n := 6 * c + 2) (by omega))) dL_law_468 ?_
  refine g_aload_n F 4 dL_law_469 rfl rfl ?_
  refine g_iload F 0 dL_law_470 rfl ?_
  refine g_iconst (v := nI 3) F dL_law_472 (by decide) ?_
  refine g_iadd (v := nI (6 * c + 3)) F dL_law_473 (nI_add (6 * c) 3) ?_
  refine g_sld (v := xs (6 * c + 3)) F hX hbl hbA (vp_in_nI (n := 6 * c + 3) (by omega) (by omega)) (congrArg xs (nI_clamp (n := 6 * c + 3) (by omega))) dL_law_474 ?_
  refine u_callV0 (k := 62) (As := [.int (xs (6 * c + 1)), .int (xs (6 * c + 2)), .int (xs (6 * c + 3))]) (rest := []) F B (wX9_cell (zl z) E hE bk (xs (6 * c + 1)) (xs (6 * c + 2)) (xs (6 * c + 3)) I J eb) mX9_cell q1500 rfl s62 rfl rfl rfl (Nat.le_of_ble_eq_true rfl) dL_law_475 (fun r2 I2 J2 h2 => ?_)
  rw [h2.1, h2.2.1, h2.2.2]
  refine g_st (sn := [.int rb]) rfl ?_
  refine g_pop F dL_law_478 rfl ?_
  refine g_goto (tgt := 1604) F dL_law_479 (by decide) ?_
  refine g_sub (Ln := LV5 E b c) [0, 1, 2, 3, 4] rfl ?_
  exact hend _ _ _ Z hK.next hI2
set_option maxRecDepth 100000 in
set_option maxHeartbeats 4000000 in
theorem law_c7 {z : gZ} {E : gE} {bk b n sa c : Nat} {xs : Nat → Int32} {I : gM} {J : gN} (hE : gDist sh E) (Z : LZ z E bk b n xs sa) (hK : LK z c) (hn : 6 * c + 6 ≤ n) (hN : n ≤ 3072) (hI : InvB I) (hend : LE E bk b n sa c xs) : G z 482 (LV5 E b c) [] I J := by
  have hc : 6 * c + 6 ≤ 3072 := Nat.le_trans hn hN
  obtain ⟨F, B, hX, hbl, hbA, hrest⟩ := Z
  have Z : LZ z E bk b n xs sa := ⟨F, B, hX, hbl, hbA, hrest⟩
  refine g_aload_n F 3 dL_law_482 rfl rfl ?_
  obtain ⟨ra, rb, ea, eb, hI2, hab⟩ := alb_rows hI
  refine u_callV0 (k := 0) (As := []) (rest := []) F B (wX8_rows (zl z) E hE bk I J ea) mX8_rows q1458 rfl s0 rfl rfl rfl (Nat.le_of_ble_eq_true rfl) dL_law_483 (fun r1 I1 J1 h1 => ?_)
  rw [h1.1, h1.2.1, h1.2.2]
  refine g_st (sn := [.int ra]) rfl ?_
  refine g_pop F dL_law_486 rfl ?_
  refine g_aload_n F 2 dL_law_487 rfl rfl ?_
  refine u_callV0 (k := 62) (As := []) (rest := []) F B (wX9_rows (zl z) E hE bk I J eb) mX9_rows q1501 rfl s62 rfl rfl rfl (Nat.le_of_ble_eq_true rfl) dL_law_488 (fun r2 I2 J2 h2 => ?_)
  rw [h2.1, h2.2.1, h2.2.2]
  refine g_st (sn := [.int rb.1]) rfl ?_
  refine g_pop F dL_law_491 rfl ?_
  refine g_goto (tgt := 1604) F dL_law_492 (by decide) ?_
  refine g_sub (Ln := LV5 E b c) [0, 1, 2, 3, 4] rfl ?_
  exact hend _ _ _ Z hK.next hI2
set_option maxRecDepth 100000 in
set_option maxHeartbeats 4000000 in
theorem law_c8 {z : gZ} {E : gE} {bk b n sa c : Nat} {xs : Nat → Int32} {I : gM} {J : gN} (hE : gDist sh E) (Z : LZ z E bk b n xs sa) (hK : LK z c) (hn : 6 * c + 6 ≤ n) (hN : n ≤ 3072) (hI : InvB I) (hend : LE E bk b n sa c xs) : G z 495 (LV5 E b c) [] I J := by
  have hc : 6 * c + 6 ≤ 3072 := Nat.le_trans hn hN
  obtain ⟨F, B, hX, hbl, hbA, hrest⟩ := Z
  have Z : LZ z E bk b n xs sa := ⟨F, B, hX, hbl, hbA, hrest⟩
  refine g_aload_n F 3 dL_law_495 rfl rfl ?_
  refine g_aload_n F 4 dL_law_496 rfl rfl ?_
  refine g_iload F 0 dL_law_497 rfl ?_
  refine g_iconst (v := nI 1) F dL_law_499 (by decide) ?_
  refine g_iadd (v := nI (6 * c + 1)) F dL_law_500 (nI_add (6 * c) 1) ?_
  refine g_sld (v := xs (6 * c + 1)) F hX hbl hbA (vp_in_nI (n := 6 * c + 1) (by omega) (by omega)) (congrArg xs (nI_clamp (n := 6 * c + 1) (by omega))) dL_law_501 ?_
  refine g_aload_n F 4 dL_law_502 rfl rfl ?_
  refine g_iload F 0 dL_law_503 rfl ?_
  refine g_iconst (v := nI 2) F dL_law_505 (by decide) ?_
  refine g_iadd (v := nI (6 * c + 2)) F dL_law_506 (nI_add (6 * c) 2) ?_
  refine g_sld (v := xs (6 * c + 2)) F hX hbl hbA (vp_in_nI (n := 6 * c + 2) (by omega) (by omega)) (congrArg xs (nI_clamp (n := 6 * c + 2) (by omega))) dL_law_507 ?_
  obtain ⟨ra, rb, ea, eb, hI2, hab⟩ := alb_row hI (xs (6 * c + 1)) (xs (6 * c + 2))
  refine u_callV0 (k := 0) (As := [.int (xs (6 * c + 1)), .int (xs (6 * c + 2))]) (rest := []) F B (wX8_row (zl z) E hE bk (xs (6 * c + 1)) (xs (6 * c + 2)) I J ea) mX8_row q1459 rfl s0 rfl rfl rfl (Nat.le_of_ble_eq_true rfl) dL_law_508 (fun r1 I1 J1 h1 => ?_)
  rw [h1.1, h1.2.1, h1.2.2]
  refine g_st (sn := [.int ra]) rfl ?_
  refine g_pop F dL_law_511 rfl ?_
  refine g_aload_n F 2 dL_law_512 rfl rfl ?_
  refine g_aload_n F 4 dL_law_513 rfl rfl ?_
  refine g_iload F 0 dL_law_514 rfl ?_
  refine g_iconst (v := nI 1) F dL_law_516 (by decide) ?_
  refine g_iadd (v := nI (6 * c + 1)) F dL_law_517 (nI_add (6 * c) 1) ?_
  refine g_sld (v := xs (6 * c + 1)) F hX hbl hbA (vp_in_nI (n := 6 * c + 1) (by omega) (by omega)) (congrArg xs (nI_clamp (n := 6 * c + 1) (by omega))) dL_law_518 ?_
  refine g_aload_n F 4 dL_law_519 rfl rfl ?_
  refine g_iload F 0 dL_law_520 rfl ?_
  refine g_iconst (v := nI 2) F dL_law_522 (by decide) ?_
  refine g_iadd (v := nI (6 * c + 2)) F dL_law_523 (nI_add (6 * c) 2) ?_
  refine g_sld (v := xs (6 * c + 2)) F hX hbl hbA (vp_in_nI (n := 6 * c + 2) (by omega) (by omega)) (congrArg xs (nI_clamp (n := 6 * c + 2) (by omega))) dL_law_524 ?_
  refine u_callV0 (k := 62) (As := [.int (xs (6 * c + 1)), .int (xs (6 * c + 2))]) (rest := []) F B (wX9_row (zl z) E hE bk (xs (6 * c + 1)) (xs (6 * c + 2)) I J eb) mX9_row q1502 rfl s62 rfl rfl rfl (Nat.le_of_ble_eq_true rfl) dL_law_525 (fun r2 I2 J2 h2 => ?_)
  rw [h2.1, h2.2.1, h2.2.2]
  refine g_st (sn := [.int rb.1]) rfl ?_
  refine g_pop F dL_law_528 rfl ?_
  refine g_goto (tgt := 1604) F dL_law_529 (by decide) ?_
  refine g_sub (Ln := LV5 E b c) [0, 1, 2, 3, 4] rfl ?_
  exact hend _ _ _ Z hK.next hI2
set_option maxRecDepth 100000 in
set_option maxHeartbeats 4000000 in
theorem law_c9 {z : gZ} {E : gE} {bk b n sa c : Nat} {xs : Nat → Int32} {I : gM} {J : gN} (hE : gDist sh E) (Z : LZ z E bk b n xs sa) (hK : LK z c) (hn : 6 * c + 6 ≤ n) (hN : n ≤ 3072) (hI : InvB I) (hend : LE E bk b n sa c xs) : G z 532 (LV5 E b c) [] I J := by
  have hc : 6 * c + 6 ≤ 3072 := Nat.le_trans hn hN
  obtain ⟨F, B, hX, hbl, hbA, hrest⟩ := Z
  have Z : LZ z E bk b n xs sa := ⟨F, B, hX, hbl, hbA, hrest⟩
  refine g_aload_n F 3 dL_law_532 rfl rfl ?_
  obtain ⟨ra, rb, ea, eb, hI2, hab⟩ := alb_leaps hI
  refine u_callV0 (k := 0) (As := []) (rest := []) F B (wX8_leaps (zl z) E hE bk I J ea) mX8_leaps q1460 rfl s0 rfl rfl rfl (Nat.le_of_ble_eq_true rfl) dL_law_533 (fun r1 I1 J1 h1 => ?_)
  rw [h1.1, h1.2.1, h1.2.2]
  refine g_st (sn := [.int ra]) rfl ?_
  refine g_pop F dL_law_536 rfl ?_
  refine g_aload_n F 2 dL_law_537 rfl rfl ?_
  refine u_callV0 (k := 62) (As := []) (rest := []) F B (wX9_leaps_ (zl z) E hE bk I J eb) mX9_leaps_ q1503 rfl s62 rfl rfl rfl (Nat.le_of_ble_eq_true rfl) dL_law_538 (fun r2 I2 J2 h2 => ?_)
  rw [h2.1, h2.2.1, h2.2.2]
  refine g_st (sn := [.int rb.1]) rfl ?_
  refine g_pop F dL_law_541 rfl ?_
  refine g_goto (tgt := 1604) F dL_law_542 (by decide) ?_
  refine g_sub (Ln := LV5 E b c) [0, 1, 2, 3, 4] rfl ?_
  exact hend _ _ _ Z hK.next hI2
set_option maxRecDepth 100000 in
set_option maxHeartbeats 4000000 in
theorem law_c10 {z : gZ} {E : gE} {bk b n sa c : Nat} {xs : Nat → Int32} {I : gM} {J : gN} (hE : gDist sh E) (Z : LZ z E bk b n xs sa) (hK : LK z c) (hn : 6 * c + 6 ≤ n) (hN : n ≤ 3072) (hI : InvB I) (hend : LE E bk b n sa c xs) : G z 545 (LV5 E b c) [] I J := by
  have hc : 6 * c + 6 ≤ 3072 := Nat.le_trans hn hN
  obtain ⟨F, B, hX, hbl, hbA, hrest⟩ := Z
  have Z : LZ z E bk b n xs sa := ⟨F, B, hX, hbl, hbA, hrest⟩
  refine g_aload_n F 3 dL_law_545 rfl rfl ?_
  refine g_aload_n F 4 dL_law_546 rfl rfl ?_
  refine g_iload F 0 dL_law_547 rfl ?_
  refine g_iconst (v := nI 1) F dL_law_549 (by decide) ?_
  refine g_iadd (v := nI (6 * c + 1)) F dL_law_550 (nI_add (6 * c) 1) ?_
  refine g_sld (v := xs (6 * c + 1)) F hX hbl hbA (vp_in_nI (n := 6 * c + 1) (by omega) (by omega)) (congrArg xs (nI_clamp (n := 6 * c + 1) (by omega))) dL_law_551 ?_
  obtain ⟨ra, rb, ea, eb, hI2, hab⟩ := alb_beginnings hI (xs (6 * c + 1))
  refine u_callV0 (k := 0) (As := [.int (xs (6 * c + 1))]) (rest := []) F B (wX8_beginnings (zl z) E hE bk (xs (6 * c + 1)) I J ea) mX8_beginnings q1461 rfl s0 rfl rfl rfl (Nat.le_of_ble_eq_true rfl) dL_law_552 (fun r1 I1 J1 h1 => ?_)
  rw [h1.1, h1.2.1, h1.2.2]
  refine g_st (sn := [.int ra]) rfl ?_
  refine g_pop F dL_law_555 rfl ?_
  refine g_aload_n F 2 dL_law_556 rfl rfl ?_
  refine g_aload_n F 4 dL_law_557 rfl rfl ?_
  refine g_iload F 0 dL_law_558 rfl ?_
  refine g_iconst (v := nI 1) F dL_law_560 (by decide) ?_
  refine g_iadd (v := nI (6 * c + 1)) F dL_law_561 (nI_add (6 * c) 1) ?_
  refine g_sld (v := xs (6 * c + 1)) F hX hbl hbA (vp_in_nI (n := 6 * c + 1) (by omega) (by omega)) (congrArg xs (nI_clamp (n := 6 * c + 1) (by omega))) dL_law_562 ?_
  refine u_callV0 (k := 62) (As := [.int (xs (6 * c + 1))]) (rest := []) F B (wX9_beginnings (zl z) E hE bk (xs (6 * c + 1)) I J eb) mX9_beginnings q1504 rfl s62 rfl rfl rfl (Nat.le_of_ble_eq_true rfl) dL_law_563 (fun r2 I2 J2 h2 => ?_)
  rw [h2.1, h2.2.1, h2.2.2]
  refine g_st (sn := [.int rb.1]) rfl ?_
  refine g_pop F dL_law_566 rfl ?_
  refine g_goto (tgt := 1604) F dL_law_567 (by decide) ?_
  refine g_sub (Ln := LV5 E b c) [0, 1, 2, 3, 4] rfl ?_
  exact hend _ _ _ Z hK.next hI2
set_option maxRecDepth 100000 in
set_option maxHeartbeats 4000000 in
theorem law_c11 {z : gZ} {E : gE} {bk b n sa c : Nat} {xs : Nat → Int32} {I : gM} {J : gN} (hE : gDist sh E) (Z : LZ z E bk b n xs sa) (hK : LK z c) (hn : 6 * c + 6 ≤ n) (hN : n ≤ 3072) (hI : InvB I) (hend : LE E bk b n sa c xs) : G z 570 (LV5 E b c) [] I J := by
  have hc : 6 * c + 6 ≤ 3072 := Nat.le_trans hn hN
  obtain ⟨F, B, hX, hbl, hbA, hrest⟩ := Z
  have Z : LZ z E bk b n xs sa := ⟨F, B, hX, hbl, hbA, hrest⟩
  refine g_aload_n F 3 dL_law_570 rfl rfl ?_
  refine g_aload_n F 4 dL_law_571 rfl rfl ?_
  refine g_iload F 0 dL_law_572 rfl ?_
  refine g_iconst (v := nI 1) F dL_law_574 (by decide) ?_
  refine g_iadd (v := nI (6 * c + 1)) F dL_law_575 (nI_add (6 * c) 1) ?_
  refine g_sld (v := xs (6 * c + 1)) F hX hbl hbA (vp_in_nI (n := 6 * c + 1) (by omega) (by omega)) (congrArg xs (nI_clamp (n := 6 * c + 1) (by omega))) dL_law_576 ?_
  obtain ⟨ra, rb, ea, eb, hI2, hab⟩ := alb_best hI (xs (6 * c + 1))
  refine u_callV0 (k := 0) (As := [.int (xs (6 * c + 1))]) (rest := []) F B (wX8_best (zl z) E hE bk (xs (6 * c + 1)) I J ea) mX8_best q1462 rfl s0 rfl rfl rfl (Nat.le_of_ble_eq_true rfl) dL_law_577 (fun r1 I1 J1 h1 => ?_)
  rw [h1.1, h1.2.1, h1.2.2]
  refine g_st (sn := [.int ra.1]) rfl ?_
  refine g_pop F dL_law_580 rfl ?_
  refine g_aload_n F 2 dL_law_581 rfl rfl ?_
  refine g_aload_n F 4 dL_law_582 rfl rfl ?_
  refine g_iload F 0 dL_law_583 rfl ?_
  refine g_iconst (v := nI 1) F dL_law_585 (by decide) ?_
  refine g_iadd (v := nI (6 * c + 1)) F dL_law_586 (nI_add (6 * c) 1) ?_
  refine g_sld (v := xs (6 * c + 1)) F hX hbl hbA (vp_in_nI (n := 6 * c + 1) (by omega) (by omega)) (congrArg xs (nI_clamp (n := 6 * c + 1) (by omega))) dL_law_587 ?_
  refine u_callV0 (k := 62) (As := [.int (xs (6 * c + 1))]) (rest := []) F B (wX9_best (zl z) E hE bk (xs (6 * c + 1)) ra.2 J eb) mX9_best q1505 rfl s62 rfl rfl rfl (Nat.le_of_ble_eq_true rfl) dL_law_588 (fun r2 I2 J2 h2 => ?_)
  rw [h2.1, h2.2.1, h2.2.2]
  refine g_st (sn := [.int rb.1]) rfl ?_
  refine g_pop F dL_law_591 rfl ?_
  refine g_goto (tgt := 1604) F dL_law_592 (by decide) ?_
  refine g_sub (Ln := LV5 E b c) [0, 1, 2, 3, 4] rfl ?_
  exact hend _ _ _ Z hK.next hI2
set_option maxRecDepth 100000 in
set_option maxHeartbeats 4000000 in
theorem law_c12 {z : gZ} {E : gE} {bk b n sa c : Nat} {xs : Nat → Int32} {I : gM} {J : gN} (hE : gDist sh E) (Z : LZ z E bk b n xs sa) (hK : LK z c) (hn : 6 * c + 6 ≤ n) (hN : n ≤ 3072) (hI : InvB I) (hend : LE E bk b n sa c xs) : G z 595 (LV5 E b c) [] I J := by
  have hc : 6 * c + 6 ≤ 3072 := Nat.le_trans hn hN
  obtain ⟨F, B, hX, hbl, hbA, hrest⟩ := Z
  have Z : LZ z E bk b n xs sa := ⟨F, B, hX, hbl, hbA, hrest⟩
  refine g_aload_n F 3 dL_law_595 rfl rfl ?_
  obtain ⟨ra, rb, ea, eb, hI2, hab⟩ := alb_plain hI
  refine u_callV0 (k := 0) (As := []) (rest := []) F B (wX8_plain (zl z) E hE bk I J ea) mX8_plain q1463 rfl s0 rfl rfl rfl (Nat.le_of_ble_eq_true rfl) dL_law_596 (fun r1 I1 J1 h1 => ?_)
  rw [h1.1, h1.2.1, h1.2.2]
  refine g_st (sn := [.int ra]) rfl ?_
  refine g_pop F dL_law_599 rfl ?_
  refine g_aload_n F 2 dL_law_600 rfl rfl ?_
  refine u_callV0 (k := 62) (As := []) (rest := []) F B (wX9_plain (zl z) E hE bk I J eb) mX9_plain q1506 rfl s62 rfl rfl rfl (Nat.le_of_ble_eq_true rfl) dL_law_601 (fun r2 I2 J2 h2 => ?_)
  rw [h2.1, h2.2.1, h2.2.2]
  refine g_st (sn := [.int rb]) rfl ?_
  refine g_pop F dL_law_604 rfl ?_
  refine g_goto (tgt := 1604) F dL_law_605 (by decide) ?_
  refine g_sub (Ln := LV5 E b c) [0, 1, 2, 3, 4] rfl ?_
  exact hend _ _ _ Z hK.next hI2
set_option maxRecDepth 100000 in
set_option maxHeartbeats 4000000 in
theorem law_c13 {z : gZ} {E : gE} {bk b n sa c : Nat} {xs : Nat → Int32} {I : gM} {J : gN} (hE : gDist sh E) (Z : LZ z E bk b n xs sa) (hK : LK z c) (hn : 6 * c + 6 ≤ n) (hN : n ≤ 3072) (hI : InvB I) (hend : LE E bk b n sa c xs) : G z 608 (LV5 E b c) [] I J := by
  have hc : 6 * c + 6 ≤ 3072 := Nat.le_trans hn hN
  obtain ⟨F, B, hX, hbl, hbA, hrest⟩ := Z
  have Z : LZ z E bk b n xs sa := ⟨F, B, hX, hbl, hbA, hrest⟩
  refine g_aload_n F 3 dL_law_608 rfl rfl ?_
  refine g_aload_n F 4 dL_law_609 rfl rfl ?_
  refine g_iload F 0 dL_law_610 rfl ?_
  refine g_iconst (v := nI 1) F dL_law_612 (by decide) ?_
  refine g_iadd (v := nI (6 * c + 1)) F dL_law_613 (nI_add (6 * c) 1) ?_
  refine g_sld (v := xs (6 * c + 1)) F hX hbl hbA (vp_in_nI (n := 6 * c + 1) (by omega) (by omega)) (congrArg xs (nI_clamp (n := 6 * c + 1) (by omega))) dL_law_614 ?_
  obtain ⟨ra, rb, ea, eb, hI2, hab⟩ := alb_given hI (xs (6 * c + 1))
  refine u_callV0 (k := 0) (As := [.int (xs (6 * c + 1))]) (rest := []) F B (wX8_given (zl z) E hE bk (xs (6 * c + 1)) I J ea) mX8_given q1464 rfl s0 rfl rfl rfl (Nat.le_of_ble_eq_true rfl) dL_law_615 (fun r1 I1 J1 h1 => ?_)
  rw [h1.1, h1.2.1, h1.2.2]
  refine g_st (sn := [.int ra]) rfl ?_
  refine g_pop F dL_law_618 rfl ?_
  refine g_aload_n F 2 dL_law_619 rfl rfl ?_
  refine g_aload_n F 4 dL_law_620 rfl rfl ?_
  refine g_iload F 0 dL_law_621 rfl ?_
  refine g_iconst (v := nI 1) F dL_law_623 (by decide) ?_
  refine g_iadd (v := nI (6 * c + 1)) F dL_law_624 (nI_add (6 * c) 1) ?_
  refine g_sld (v := xs (6 * c + 1)) F hX hbl hbA (vp_in_nI (n := 6 * c + 1) (by omega) (by omega)) (congrArg xs (nI_clamp (n := 6 * c + 1) (by omega))) dL_law_625 ?_
  refine u_callV0 (k := 62) (As := [.int (xs (6 * c + 1))]) (rest := []) F B (wX9_given (zl z) E hE bk (xs (6 * c + 1)) I J eb) mX9_given q1507 rfl s62 rfl rfl rfl (Nat.le_of_ble_eq_true rfl) dL_law_626 (fun r2 I2 J2 h2 => ?_)
  rw [h2.1, h2.2.1, h2.2.2]
  refine g_st (sn := [.int rb.1]) rfl ?_
  refine g_pop F dL_law_629 rfl ?_
  refine g_goto (tgt := 1604) F dL_law_630 (by decide) ?_
  refine g_sub (Ln := LV5 E b c) [0, 1, 2, 3, 4] rfl ?_
  exact hend _ _ _ Z hK.next hI2
set_option maxRecDepth 100000 in
set_option maxHeartbeats 4000000 in
theorem law_c14 {z : gZ} {E : gE} {bk b n sa c : Nat} {xs : Nat → Int32} {I : gM} {J : gN} (hE : gDist sh E) (Z : LZ z E bk b n xs sa) (hK : LK z c) (hn : 6 * c + 6 ≤ n) (hN : n ≤ 3072) (hI : InvB I) (hend : LE E bk b n sa c xs) : G z 633 (LV5 E b c) [] I J := by
  have hc : 6 * c + 6 ≤ 3072 := Nat.le_trans hn hN
  obtain ⟨F, B, hX, hbl, hbA, hrest⟩ := Z
  have Z : LZ z E bk b n xs sa := ⟨F, B, hX, hbl, hbA, hrest⟩
  refine g_aload_n F 3 dL_law_633 rfl rfl ?_
  refine g_aload_n F 4 dL_law_634 rfl rfl ?_
  refine g_iload F 0 dL_law_635 rfl ?_
  refine g_iconst (v := nI 1) F dL_law_637 (by decide) ?_
  refine g_iadd (v := nI (6 * c + 1)) F dL_law_638 (nI_add (6 * c) 1) ?_
  refine g_sld (v := xs (6 * c + 1)) F hX hbl hbA (vp_in_nI (n := 6 * c + 1) (by omega) (by omega)) (congrArg xs (nI_clamp (n := 6 * c + 1) (by omega))) dL_law_639 ?_
  obtain ⟨ra, rb, ea, eb, hI2, hab⟩ := alb_without hI (xs (6 * c + 1))
  refine u_callV0 (k := 0) (As := [.int (xs (6 * c + 1))]) (rest := []) F B (wX8_without (zl z) E hE bk (xs (6 * c + 1)) I J ea) mX8_without q1465 rfl s0 rfl rfl rfl (Nat.le_of_ble_eq_true rfl) dL_law_640 (fun r1 I1 J1 h1 => ?_)
  rw [h1.1, h1.2.1, h1.2.2]
  refine g_st (sn := [.int ra.1]) rfl ?_
  refine g_pop F dL_law_643 rfl ?_
  refine g_aload_n F 2 dL_law_644 rfl rfl ?_
  refine g_aload_n F 4 dL_law_645 rfl rfl ?_
  refine g_iload F 0 dL_law_646 rfl ?_
  refine g_iconst (v := nI 1) F dL_law_648 (by decide) ?_
  refine g_iadd (v := nI (6 * c + 1)) F dL_law_649 (nI_add (6 * c) 1) ?_
  refine g_sld (v := xs (6 * c + 1)) F hX hbl hbA (vp_in_nI (n := 6 * c + 1) (by omega) (by omega)) (congrArg xs (nI_clamp (n := 6 * c + 1) (by omega))) dL_law_650 ?_
  refine u_callV0 (k := 62) (As := [.int (xs (6 * c + 1))]) (rest := []) F B (wX9_without (zl z) E hE bk (xs (6 * c + 1)) ra.2 J eb) mX9_without q1508 rfl s62 rfl rfl rfl (Nat.le_of_ble_eq_true rfl) dL_law_651 (fun r2 I2 J2 h2 => ?_)
  rw [h2.1, h2.2.1, h2.2.2]
  refine g_st (sn := [.int rb.1]) rfl ?_
  refine g_pop F dL_law_654 rfl ?_
  refine g_goto (tgt := 1604) F dL_law_655 (by decide) ?_
  refine g_sub (Ln := LV5 E b c) [0, 1, 2, 3, 4] rfl ?_
  exact hend _ _ _ Z hK.next hI2
set_option maxRecDepth 100000 in
set_option maxHeartbeats 4000000 in
theorem law_c15 {z : gZ} {E : gE} {bk b n sa c : Nat} {xs : Nat → Int32} {I : gM} {J : gN} (hE : gDist sh E) (Z : LZ z E bk b n xs sa) (hK : LK z c) (hn : 6 * c + 6 ≤ n) (hN : n ≤ 3072) (hI : InvB I) (hend : LE E bk b n sa c xs) : G z 658 (LV5 E b c) [] I J := by
  have hc : 6 * c + 6 ≤ 3072 := Nat.le_trans hn hN
  obtain ⟨F, B, hX, hbl, hbA, hrest⟩ := Z
  have Z : LZ z E bk b n xs sa := ⟨F, B, hX, hbl, hbA, hrest⟩
  refine g_aload_n F 3 dL_law_658 rfl rfl ?_
  refine g_aload_n F 4 dL_law_659 rfl rfl ?_
  refine g_iload F 0 dL_law_660 rfl ?_
  refine g_iconst (v := nI 1) F dL_law_662 (by decide) ?_
  refine g_iadd (v := nI (6 * c + 1)) F dL_law_663 (nI_add (6 * c) 1) ?_
  refine g_sld (v := xs (6 * c + 1)) F hX hbl hbA (vp_in_nI (n := 6 * c + 1) (by omega) (by omega)) (congrArg xs (nI_clamp (n := 6 * c + 1) (by omega))) dL_law_664 ?_
  obtain ⟨ra, rb, ea, eb, hI2, hab⟩ := alb_projected hI (xs (6 * c + 1))
  refine u_callV0 (k := 0) (As := [.int (xs (6 * c + 1))]) (rest := []) F B (wX8_projected (zl z) E hE bk (xs (6 * c + 1)) I J ea) mX8_projected q1466 rfl s0 rfl rfl rfl (Nat.le_of_ble_eq_true rfl) dL_law_665 (fun r1 I1 J1 h1 => ?_)
  rw [h1.1, h1.2.1, h1.2.2]
  refine g_st (sn := [.int ra.1]) rfl ?_
  refine g_pop F dL_law_668 rfl ?_
  refine g_aload_n F 2 dL_law_669 rfl rfl ?_
  refine g_aload_n F 4 dL_law_670 rfl rfl ?_
  refine g_iload F 0 dL_law_671 rfl ?_
  refine g_iconst (v := nI 1) F dL_law_673 (by decide) ?_
  refine g_iadd (v := nI (6 * c + 1)) F dL_law_674 (nI_add (6 * c) 1) ?_
  refine g_sld (v := xs (6 * c + 1)) F hX hbl hbA (vp_in_nI (n := 6 * c + 1) (by omega) (by omega)) (congrArg xs (nI_clamp (n := 6 * c + 1) (by omega))) dL_law_675 ?_
  refine u_callV0 (k := 62) (As := [.int (xs (6 * c + 1))]) (rest := []) F B (wX9_projected (zl z) E hE bk (xs (6 * c + 1)) ra.2 J eb) mX9_projected q1509 rfl s62 rfl rfl rfl (Nat.le_of_ble_eq_true rfl) dL_law_676 (fun r2 I2 J2 h2 => ?_)
  rw [h2.1, h2.2.1, h2.2.2]
  refine g_st (sn := [.int rb.1]) rfl ?_
  refine g_pop F dL_law_679 rfl ?_
  refine g_goto (tgt := 1604) F dL_law_680 (by decide) ?_
  refine g_sub (Ln := LV5 E b c) [0, 1, 2, 3, 4] rfl ?_
  exact hend _ _ _ Z hK.next hI2
set_option maxRecDepth 100000 in
set_option maxHeartbeats 4000000 in
theorem law_c16 {z : gZ} {E : gE} {bk b n sa c : Nat} {xs : Nat → Int32} {I : gM} {J : gN} (hE : gDist sh E) (Z : LZ z E bk b n xs sa) (hK : LK z c) (hn : 6 * c + 6 ≤ n) (hN : n ≤ 3072) (hI : InvB I) (hend : LE E bk b n sa c xs) : G z 683 (LV5 E b c) [] I J := by
  have hc : 6 * c + 6 ≤ 3072 := Nat.le_trans hn hN
  obtain ⟨F, B, hX, hbl, hbA, hrest⟩ := Z
  have Z : LZ z E bk b n xs sa := ⟨F, B, hX, hbl, hbA, hrest⟩
  refine g_aload_n F 3 dL_law_683 rfl rfl ?_
  refine g_aload_n F 4 dL_law_684 rfl rfl ?_
  refine g_iload F 0 dL_law_685 rfl ?_
  refine g_iconst (v := nI 1) F dL_law_687 (by decide) ?_
  refine g_iadd (v := nI (6 * c + 1)) F dL_law_688 (nI_add (6 * c) 1) ?_
  refine g_sld (v := xs (6 * c + 1)) F hX hbl hbA (vp_in_nI (n := 6 * c + 1) (by omega) (by omega)) (congrArg xs (nI_clamp (n := 6 * c + 1) (by omega))) dL_law_689 ?_
  refine g_aload_n F 4 dL_law_690 rfl rfl ?_
  refine g_iload F 0 dL_law_691 rfl ?_
  refine g_iconst (v := nI 2) F dL_law_693 (by decide) ?_
  refine g_iadd (v := nI (6 * c + 2)) F dL_law_694 (nI_add (6 * c) 2) ?_
  refine g_sld (v := xs (6 * c + 2)) F hX hbl hbA (vp_in_nI (n := 6 * c + 2) (by omega) (by omega)) (congrArg xs (nI_clamp (n := 6 * c + 2) (by omega))) dL_law_695 ?_
  obtain ⟨ra, rb, ea, eb, hI2, hab⟩ := alb_times hI (xs (6 * c + 1)) (xs (6 * c + 2))
  refine u_callV0 (k := 0) (As := [.int (xs (6 * c + 1)), .int (xs (6 * c + 2))]) (rest := []) F B (wX8_times (zl z) E hE bk (xs (6 * c + 1)) (xs (6 * c + 2)) I J ea) mX8_times q1467 rfl s0 rfl rfl rfl (Nat.le_of_ble_eq_true rfl) dL_law_696 (fun r1 I1 J1 h1 => ?_)
  rw [h1.1, h1.2.1, h1.2.2]
  refine g_st (sn := [.int ra.1]) rfl ?_
  refine g_pop F dL_law_699 rfl ?_
  refine g_aload_n F 2 dL_law_700 rfl rfl ?_
  refine g_aload_n F 4 dL_law_701 rfl rfl ?_
  refine g_iload F 0 dL_law_702 rfl ?_
  refine g_iconst (v := nI 1) F dL_law_704 (by decide) ?_
  refine g_iadd (v := nI (6 * c + 1)) F dL_law_705 (nI_add (6 * c) 1) ?_
  refine g_sld (v := xs (6 * c + 1)) F hX hbl hbA (vp_in_nI (n := 6 * c + 1) (by omega) (by omega)) (congrArg xs (nI_clamp (n := 6 * c + 1) (by omega))) dL_law_706 ?_
  refine g_aload_n F 4 dL_law_707 rfl rfl ?_
  refine g_iload F 0 dL_law_708 rfl ?_
  refine g_iconst (v := nI 2) F dL_law_710 (by decide) ?_
  refine g_iadd (v := nI (6 * c + 2)) F dL_law_711 (nI_add (6 * c) 2) ?_
  refine g_sld (v := xs (6 * c + 2)) F hX hbl hbA (vp_in_nI (n := 6 * c + 2) (by omega) (by omega)) (congrArg xs (nI_clamp (n := 6 * c + 2) (by omega))) dL_law_712 ?_
  refine u_callV0 (k := 62) (As := [.int (xs (6 * c + 1)), .int (xs (6 * c + 2))]) (rest := []) F B (wX9_times (zl z) E hE bk (xs (6 * c + 1)) (xs (6 * c + 2)) ra.2 J eb) mX9_times q1510 rfl s62 rfl rfl rfl (Nat.le_of_ble_eq_true rfl) dL_law_713 (fun r2 I2 J2 h2 => ?_)
  rw [h2.1, h2.2.1, h2.2.2]
  refine g_st (sn := [.int rb.1]) rfl ?_
  refine g_pop F dL_law_716 rfl ?_
  refine g_goto (tgt := 1604) F dL_law_717 (by decide) ?_
  refine g_sub (Ln := LV5 E b c) [0, 1, 2, 3, 4] rfl ?_
  exact hend _ _ _ Z hK.next hI2
set_option maxRecDepth 100000 in
set_option maxHeartbeats 4000000 in
theorem law_c17 {z : gZ} {E : gE} {bk b n sa c : Nat} {xs : Nat → Int32} {I : gM} {J : gN} (hE : gDist sh E) (Z : LZ z E bk b n xs sa) (hK : LK z c) (hn : 6 * c + 6 ≤ n) (hN : n ≤ 3072) (hI : InvB I) (hend : LE E bk b n sa c xs) : G z 720 (LV5 E b c) [] I J := by
  have hc : 6 * c + 6 ≤ 3072 := Nat.le_trans hn hN
  obtain ⟨F, B, hX, hbl, hbA, hrest⟩ := Z
  have Z : LZ z E bk b n xs sa := ⟨F, B, hX, hbl, hbA, hrest⟩
  refine g_aload_n F 3 dL_law_720 rfl rfl ?_
  refine g_aload_n F 4 dL_law_721 rfl rfl ?_
  refine g_iload F 0 dL_law_722 rfl ?_
  refine g_iconst (v := nI 1) F dL_law_724 (by decide) ?_
  refine g_iadd (v := nI (6 * c + 1)) F dL_law_725 (nI_add (6 * c) 1) ?_
  refine g_sld (v := xs (6 * c + 1)) F hX hbl hbA (vp_in_nI (n := 6 * c + 1) (by omega) (by omega)) (congrArg xs (nI_clamp (n := 6 * c + 1) (by omega))) dL_law_726 ?_
  refine g_aload_n F 4 dL_law_727 rfl rfl ?_
  refine g_iload F 0 dL_law_728 rfl ?_
  refine g_iconst (v := nI 2) F dL_law_730 (by decide) ?_
  refine g_iadd (v := nI (6 * c + 2)) F dL_law_731 (nI_add (6 * c) 2) ?_
  refine g_sld (v := xs (6 * c + 2)) F hX hbl hbA (vp_in_nI (n := 6 * c + 2) (by omega) (by omega)) (congrArg xs (nI_clamp (n := 6 * c + 2) (by omega))) dL_law_732 ?_
  obtain ⟨ra, rb, ea, eb, hI2, hab⟩ := alb_distinct hI (xs (6 * c + 1)) (xs (6 * c + 2))
  refine u_callV0 (k := 0) (As := [.int (xs (6 * c + 1)), .int (xs (6 * c + 2))]) (rest := []) F B (wX8_distinct (zl z) E hE bk (xs (6 * c + 1)) (xs (6 * c + 2)) I J ea) mX8_distinct q1468 rfl s0 rfl rfl rfl (Nat.le_of_ble_eq_true rfl) dL_law_733 (fun r1 I1 J1 h1 => ?_)
  rw [h1.1, h1.2.1, h1.2.2]
  refine g_st (sn := [.int ra.1]) rfl ?_
  refine g_pop F dL_law_736 rfl ?_
  refine g_aload_n F 2 dL_law_737 rfl rfl ?_
  refine g_aload_n F 4 dL_law_738 rfl rfl ?_
  refine g_iload F 0 dL_law_739 rfl ?_
  refine g_iconst (v := nI 1) F dL_law_741 (by decide) ?_
  refine g_iadd (v := nI (6 * c + 1)) F dL_law_742 (nI_add (6 * c) 1) ?_
  refine g_sld (v := xs (6 * c + 1)) F hX hbl hbA (vp_in_nI (n := 6 * c + 1) (by omega) (by omega)) (congrArg xs (nI_clamp (n := 6 * c + 1) (by omega))) dL_law_743 ?_
  refine g_aload_n F 4 dL_law_744 rfl rfl ?_
  refine g_iload F 0 dL_law_745 rfl ?_
  refine g_iconst (v := nI 2) F dL_law_747 (by decide) ?_
  refine g_iadd (v := nI (6 * c + 2)) F dL_law_748 (nI_add (6 * c) 2) ?_
  refine g_sld (v := xs (6 * c + 2)) F hX hbl hbA (vp_in_nI (n := 6 * c + 2) (by omega) (by omega)) (congrArg xs (nI_clamp (n := 6 * c + 2) (by omega))) dL_law_749 ?_
  refine u_callV0 (k := 62) (As := [.int (xs (6 * c + 1)), .int (xs (6 * c + 2))]) (rest := []) F B (wX9_distinct (zl z) E hE bk (xs (6 * c + 1)) (xs (6 * c + 2)) ra.2 J eb) mX9_distinct q1511 rfl s62 rfl rfl rfl (Nat.le_of_ble_eq_true rfl) dL_law_750 (fun r2 I2 J2 h2 => ?_)
  rw [h2.1, h2.2.1, h2.2.2]
  refine g_st (sn := [.int rb.1]) rfl ?_
  refine g_pop F dL_law_753 rfl ?_
  refine g_goto (tgt := 1604) F dL_law_754 (by decide) ?_
  refine g_sub (Ln := LV5 E b c) [0, 1, 2, 3, 4] rfl ?_
  exact hend _ _ _ Z hK.next hI2
set_option maxRecDepth 100000 in
set_option maxHeartbeats 4000000 in
theorem law_c18 {z : gZ} {E : gE} {bk b n sa c : Nat} {xs : Nat → Int32} {I : gM} {J : gN} (hE : gDist sh E) (Z : LZ z E bk b n xs sa) (hK : LK z c) (hn : 6 * c + 6 ≤ n) (hN : n ≤ 3072) (hI : InvB I) (hend : LE E bk b n sa c xs) : G z 757 (LV5 E b c) [] I J := by
  have hc : 6 * c + 6 ≤ 3072 := Nat.le_trans hn hN
  obtain ⟨F, B, hX, hbl, hbA, hrest⟩ := Z
  have Z : LZ z E bk b n xs sa := ⟨F, B, hX, hbl, hbA, hrest⟩
  refine g_aload_n F 3 dL_law_757 rfl rfl ?_
  refine g_aload_n F 4 dL_law_758 rfl rfl ?_
  refine g_iload F 0 dL_law_759 rfl ?_
  refine g_iconst (v := nI 1) F dL_law_761 (by decide) ?_
  refine g_iadd (v := nI (6 * c + 1)) F dL_law_762 (nI_add (6 * c) 1) ?_
  refine g_sld (v := xs (6 * c + 1)) F hX hbl hbA (vp_in_nI (n := 6 * c + 1) (by omega) (by omega)) (congrArg xs (nI_clamp (n := 6 * c + 1) (by omega))) dL_law_763 ?_
  refine g_aload_n F 4 dL_law_764 rfl rfl ?_
  refine g_iload F 0 dL_law_765 rfl ?_
  refine g_iconst (v := nI 2) F dL_law_767 (by decide) ?_
  refine g_iadd (v := nI (6 * c + 2)) F dL_law_768 (nI_add (6 * c) 2) ?_
  refine g_sld (v := xs (6 * c + 2)) F hX hbl hbA (vp_in_nI (n := 6 * c + 2) (by omega) (by omega)) (congrArg xs (nI_clamp (n := 6 * c + 2) (by omega))) dL_law_769 ?_
  obtain ⟨ra, rb, ea, eb, hI2, hab⟩ := alb_tells hI (xs (6 * c + 1)) (xs (6 * c + 2))
  refine u_callV0 (k := 0) (As := [.int (xs (6 * c + 1)), .int (xs (6 * c + 2))]) (rest := []) F B (wX8_tells (zl z) E hE bk (xs (6 * c + 1)) (xs (6 * c + 2)) I J ea) mX8_tells q1469 rfl s0 rfl rfl rfl (Nat.le_of_ble_eq_true rfl) dL_law_770 (fun r1 I1 J1 h1 => ?_)
  rw [h1.1, h1.2.1, h1.2.2]
  refine g_st (sn := [.int ra.1]) rfl ?_
  refine g_pop F dL_law_773 rfl ?_
  refine g_aload_n F 2 dL_law_774 rfl rfl ?_
  refine g_aload_n F 4 dL_law_775 rfl rfl ?_
  refine g_iload F 0 dL_law_776 rfl ?_
  refine g_iconst (v := nI 1) F dL_law_778 (by decide) ?_
  refine g_iadd (v := nI (6 * c + 1)) F dL_law_779 (nI_add (6 * c) 1) ?_
  refine g_sld (v := xs (6 * c + 1)) F hX hbl hbA (vp_in_nI (n := 6 * c + 1) (by omega) (by omega)) (congrArg xs (nI_clamp (n := 6 * c + 1) (by omega))) dL_law_780 ?_
  refine g_aload_n F 4 dL_law_781 rfl rfl ?_
  refine g_iload F 0 dL_law_782 rfl ?_
  refine g_iconst (v := nI 2) F dL_law_784 (by decide) ?_
  refine g_iadd (v := nI (6 * c + 2)) F dL_law_785 (nI_add (6 * c) 2) ?_
  refine g_sld (v := xs (6 * c + 2)) F hX hbl hbA (vp_in_nI (n := 6 * c + 2) (by omega) (by omega)) (congrArg xs (nI_clamp (n := 6 * c + 2) (by omega))) dL_law_786 ?_
  refine u_callV0 (k := 62) (As := [.int (xs (6 * c + 1)), .int (xs (6 * c + 2))]) (rest := []) F B (wX9_tells (zl z) E hE bk (xs (6 * c + 1)) (xs (6 * c + 2)) ra.2 J eb) mX9_tells q1512 rfl s62 rfl rfl rfl (Nat.le_of_ble_eq_true rfl) dL_law_787 (fun r2 I2 J2 h2 => ?_)
  rw [h2.1, h2.2.1, h2.2.2]
  refine g_st (sn := [.int rb.1]) rfl ?_
  refine g_pop F dL_law_790 rfl ?_
  refine g_goto (tgt := 1604) F dL_law_791 (by decide) ?_
  refine g_sub (Ln := LV5 E b c) [0, 1, 2, 3, 4] rfl ?_
  exact hend _ _ _ Z hK.next hI2
set_option maxRecDepth 100000 in
set_option maxHeartbeats 4000000 in
theorem law_c19 {z : gZ} {E : gE} {bk b n sa c : Nat} {xs : Nat → Int32} {I : gM} {J : gN} (hE : gDist sh E) (Z : LZ z E bk b n xs sa) (hK : LK z c) (hn : 6 * c + 6 ≤ n) (hN : n ≤ 3072) (hI : InvB I) (hend : LE E bk b n sa c xs) : G z 794 (LV5 E b c) [] I J := by
  have hc : 6 * c + 6 ≤ 3072 := Nat.le_trans hn hN
  obtain ⟨F, B, hX, hbl, hbA, hrest⟩ := Z
  have Z : LZ z E bk b n xs sa := ⟨F, B, hX, hbl, hbA, hrest⟩
  refine g_aload_n F 3 dL_law_794 rfl rfl ?_
  refine g_aload_n F 4 dL_law_795 rfl rfl ?_
  refine g_iload F 0 dL_law_796 rfl ?_
  refine g_iconst (v := nI 1) F dL_law_798 (by decide) ?_
  refine g_iadd (v := nI (6 * c + 1)) F dL_law_799 (nI_add (6 * c) 1) ?_
  refine g_sld (v := xs (6 * c + 1)) F hX hbl hbA (vp_in_nI (n := 6 * c + 1) (by omega) (by omega)) (congrArg xs (nI_clamp (n := 6 * c + 1) (by omega))) dL_law_800 ?_
  refine g_aload_n F 4 dL_law_801 rfl rfl ?_
  refine g_iload F 0 dL_law_802 rfl ?_
  refine g_iconst (v := nI 2) F dL_law_804 (by decide) ?_
  refine g_iadd (v := nI (6 * c + 2)) F dL_law_805 (nI_add (6 * c) 2) ?_
  refine g_sld (v := xs (6 * c + 2)) F hX hbl hbA (vp_in_nI (n := 6 * c + 2) (by omega) (by omega)) (congrArg xs (nI_clamp (n := 6 * c + 2) (by omega))) dL_law_806 ?_
  refine g_aload_n F 4 dL_law_807 rfl rfl ?_
  refine g_iload F 0 dL_law_808 rfl ?_
  refine g_iconst (v := nI 3) F dL_law_810 (by decide) ?_
  refine g_iadd (v := nI (6 * c + 3)) F dL_law_811 (nI_add (6 * c) 3) ?_
  refine g_sld (v := xs (6 * c + 3)) F hX hbl hbA (vp_in_nI (n := 6 * c + 3) (by omega) (by omega)) (congrArg xs (nI_clamp (n := 6 * c + 3) (by omega))) dL_law_812 ?_
  refine g_aload_n F 4 dL_law_813 rfl rfl ?_
  refine g_iload F 0 dL_law_814 rfl ?_
  refine g_iconst (v := nI 4) F dL_law_816 (by decide) ?_
  refine g_iadd (v := nI (6 * c + 4)) F dL_law_817 (nI_add (6 * c) 4) ?_
  refine g_sld (v := xs (6 * c + 4)) F hX hbl hbA (vp_in_nI (n := 6 * c + 4) (by omega) (by omega)) (congrArg xs (nI_clamp (n := 6 * c + 4) (by omega))) dL_law_818 ?_
  obtain ⟨ra, rb, ea, eb, hI2, hab⟩ := alb_behind hI (xs (6 * c + 1)) (xs (6 * c + 2)) (xs (6 * c + 3)) (xs (6 * c + 4))
  refine u_callV0 (k := 0) (As := [.int (xs (6 * c + 1)), .int (xs (6 * c + 2)), .int (xs (6 * c + 3)), .int (xs (6 * c + 4))]) (rest := []) F B (wX8_behind (zl z) E hE bk (xs (6 * c + 1)) (xs (6 * c + 2)) (xs (6 * c + 3)) (xs (6 * c + 4)) I J ea) mX8_behind q1470 rfl s0 rfl rfl rfl (Nat.le_of_ble_eq_true rfl) dL_law_819 (fun r1 I1 J1 h1 => ?_)
  rw [h1.1, h1.2.1, h1.2.2]
  refine g_st (sn := [.int ra]) rfl ?_
  refine g_pop F dL_law_822 rfl ?_
  refine g_aload_n F 2 dL_law_823 rfl rfl ?_
  refine g_aload_n F 4 dL_law_824 rfl rfl ?_
  refine g_iload F 0 dL_law_825 rfl ?_
  refine g_iconst (v := nI 1) F dL_law_827 (by decide) ?_
  refine g_iadd (v := nI (6 * c + 1)) F dL_law_828 (nI_add (6 * c) 1) ?_
  refine g_sld (v := xs (6 * c + 1)) F hX hbl hbA (vp_in_nI (n := 6 * c + 1) (by omega) (by omega)) (congrArg xs (nI_clamp (n := 6 * c + 1) (by omega))) dL_law_829 ?_
  refine g_aload_n F 4 dL_law_830 rfl rfl ?_
  refine g_iload F 0 dL_law_831 rfl ?_
  refine g_iconst (v := nI 2) F dL_law_833 (by decide) ?_
  refine g_iadd (v := nI (6 * c + 2)) F dL_law_834 (nI_add (6 * c) 2) ?_
  refine g_sld (v := xs (6 * c + 2)) F hX hbl hbA (vp_in_nI (n := 6 * c + 2) (by omega) (by omega)) (congrArg xs (nI_clamp (n := 6 * c + 2) (by omega))) dL_law_835 ?_
  refine g_aload_n F 4 dL_law_836 rfl rfl ?_
  refine g_iload F 0 dL_law_837 rfl ?_
  refine g_iconst (v := nI 3) F dL_law_839 (by decide) ?_
  refine g_iadd (v := nI (6 * c + 3)) F dL_law_840 (nI_add (6 * c) 3) ?_
  refine g_sld (v := xs (6 * c + 3)) F hX hbl hbA (vp_in_nI (n := 6 * c + 3) (by omega) (by omega)) (congrArg xs (nI_clamp (n := 6 * c + 3) (by omega))) dL_law_841 ?_
  refine g_aload_n F 4 dL_law_842 rfl rfl ?_
  refine g_iload F 0 dL_law_843 rfl ?_
  refine g_iconst (v := nI 4) F dL_law_845 (by decide) ?_
  refine g_iadd (v := nI (6 * c + 4)) F dL_law_846 (nI_add (6 * c) 4) ?_
  refine g_sld (v := xs (6 * c + 4)) F hX hbl hbA (vp_in_nI (n := 6 * c + 4) (by omega) (by omega)) (congrArg xs (nI_clamp (n := 6 * c + 4) (by omega))) dL_law_847 ?_
  refine u_callV0 (k := 62) (As := [.int (xs (6 * c + 1)), .int (xs (6 * c + 2)), .int (xs (6 * c + 3)), .int (xs (6 * c + 4))]) (rest := []) F B (wX9_behind (zl z) E hE bk (xs (6 * c + 1)) (xs (6 * c + 2)) (xs (6 * c + 3)) (xs (6 * c + 4)) I J eb) mX9_behind q1513 rfl s62 rfl rfl rfl (Nat.le_of_ble_eq_true rfl) dL_law_848 (fun r2 I2 J2 h2 => ?_)
  rw [h2.1, h2.2.1, h2.2.2]
  refine g_st (sn := [.int rb.1]) rfl ?_
  refine g_pop F dL_law_851 rfl ?_
  refine g_goto (tgt := 1604) F dL_law_852 (by decide) ?_
  refine g_sub (Ln := LV5 E b c) [0, 1, 2, 3, 4] rfl ?_
  exact hend _ _ _ Z hK.next hI2
set_option maxRecDepth 100000 in
set_option maxHeartbeats 4000000 in
theorem law_c20 {z : gZ} {E : gE} {bk b n sa c : Nat} {xs : Nat → Int32} {I : gM} {J : gN} (hE : gDist sh E) (Z : LZ z E bk b n xs sa) (hK : LK z c) (hn : 6 * c + 6 ≤ n) (hN : n ≤ 3072) (hI : InvB I) (hend : LE E bk b n sa c xs) : G z 855 (LV5 E b c) [] I J := by
  have hc : 6 * c + 6 ≤ 3072 := Nat.le_trans hn hN
  obtain ⟨F, B, hX, hbl, hbA, hrest⟩ := Z
  have Z : LZ z E bk b n xs sa := ⟨F, B, hX, hbl, hbA, hrest⟩
  refine g_aload_n F 3 dL_law_855 rfl rfl ?_
  refine g_aload_n F 4 dL_law_856 rfl rfl ?_
  refine g_iload F 0 dL_law_857 rfl ?_
  refine g_iconst (v := nI 1) F dL_law_859 (by decide) ?_
  refine g_iadd (v := nI (6 * c + 1)) F dL_law_860 (nI_add (6 * c) 1) ?_
  refine g_sld (v := xs (6 * c + 1)) F hX hbl hbA (vp_in_nI (n := 6 * c + 1) (by omega) (by omega)) (congrArg xs (nI_clamp (n := 6 * c + 1) (by omega))) dL_law_861 ?_
  refine g_aload_n F 4 dL_law_862 rfl rfl ?_
  refine g_iload F 0 dL_law_863 rfl ?_
  refine g_iconst (v := nI 2) F dL_law_865 (by decide) ?_
  refine g_iadd (v := nI (6 * c + 2)) F dL_law_866 (nI_add (6 * c) 2) ?_
  refine g_sld (v := xs (6 * c + 2)) F hX hbl hbA (vp_in_nI (n := 6 * c + 2) (by omega) (by omega)) (congrArg xs (nI_clamp (n := 6 * c + 2) (by omega))) dL_law_867 ?_
  refine g_aload_n F 4 dL_law_868 rfl rfl ?_
  refine g_iload F 0 dL_law_869 rfl ?_
  refine g_iconst (v := nI 3) F dL_law_871 (by decide) ?_
  refine g_iadd (v := nI (6 * c + 3)) F dL_law_872 (nI_add (6 * c) 3) ?_
  refine g_sld (v := xs (6 * c + 3)) F hX hbl hbA (vp_in_nI (n := 6 * c + 3) (by omega) (by omega)) (congrArg xs (nI_clamp (n := 6 * c + 3) (by omega))) dL_law_873 ?_
  refine g_aload_n F 4 dL_law_874 rfl rfl ?_
  refine g_iload F 0 dL_law_875 rfl ?_
  refine g_iconst (v := nI 4) F dL_law_877 (by decide) ?_
  refine g_iadd (v := nI (6 * c + 4)) F dL_law_878 (nI_add (6 * c) 4) ?_
  refine g_sld (v := xs (6 * c + 4)) F hX hbl hbA (vp_in_nI (n := 6 * c + 4) (by omega) (by omega)) (congrArg xs (nI_clamp (n := 6 * c + 4) (by omega))) dL_law_879 ?_
  obtain ⟨ra, rb, ea, eb, hI2, hab⟩ := alb_has hI (xs (6 * c + 1)) (xs (6 * c + 2)) (xs (6 * c + 3)) (xs (6 * c + 4))
  refine u_callV0 (k := 0) (As := [.int (xs (6 * c + 1)), .int (xs (6 * c + 2)), .int (xs (6 * c + 3)), .int (xs (6 * c + 4))]) (rest := []) F B (wX8_has (zl z) E hE bk (xs (6 * c + 1)) (xs (6 * c + 2)) (xs (6 * c + 3)) (xs (6 * c + 4)) I J ea) mX8_has q1471 rfl s0 rfl rfl rfl (Nat.le_of_ble_eq_true rfl) dL_law_880 (fun r1 I1 J1 h1 => ?_)
  rw [h1.1, h1.2.1, h1.2.2]
  refine g_st (sn := [.int ra]) rfl ?_
  refine g_pop F dL_law_883 rfl ?_
  refine g_aload_n F 2 dL_law_884 rfl rfl ?_
  refine g_aload_n F 4 dL_law_885 rfl rfl ?_
  refine g_iload F 0 dL_law_886 rfl ?_
  refine g_iconst (v := nI 1) F dL_law_888 (by decide) ?_
  refine g_iadd (v := nI (6 * c + 1)) F dL_law_889 (nI_add (6 * c) 1) ?_
  refine g_sld (v := xs (6 * c + 1)) F hX hbl hbA (vp_in_nI (n := 6 * c + 1) (by omega) (by omega)) (congrArg xs (nI_clamp (n := 6 * c + 1) (by omega))) dL_law_890 ?_
  refine g_aload_n F 4 dL_law_891 rfl rfl ?_
  refine g_iload F 0 dL_law_892 rfl ?_
  refine g_iconst (v := nI 2) F dL_law_894 (by decide) ?_
  refine g_iadd (v := nI (6 * c + 2)) F dL_law_895 (nI_add (6 * c) 2) ?_
  refine g_sld (v := xs (6 * c + 2)) F hX hbl hbA (vp_in_nI (n := 6 * c + 2) (by omega) (by omega)) (congrArg xs (nI_clamp (n := 6 * c + 2) (by omega))) dL_law_896 ?_
  refine g_aload_n F 4 dL_law_897 rfl rfl ?_
  refine g_iload F 0 dL_law_898 rfl ?_
  refine g_iconst (v := nI 3) F dL_law_900 (by decide) ?_
  refine g_iadd (v := nI (6 * c + 3)) F dL_law_901 (nI_add (6 * c) 3) ?_
  refine g_sld (v := xs (6 * c + 3)) F hX hbl hbA (vp_in_nI (n := 6 * c + 3) (by omega) (by omega)) (congrArg xs (nI_clamp (n := 6 * c + 3) (by omega))) dL_law_902 ?_
  refine g_aload_n F 4 dL_law_903 rfl rfl ?_
  refine g_iload F 0 dL_law_904 rfl ?_
  refine g_iconst (v := nI 4) F dL_law_906 (by decide) ?_
  refine g_iadd (v := nI (6 * c + 4)) F dL_law_907 (nI_add (6 * c) 4) ?_
  refine g_sld (v := xs (6 * c + 4)) F hX hbl hbA (vp_in_nI (n := 6 * c + 4) (by omega) (by omega)) (congrArg xs (nI_clamp (n := 6 * c + 4) (by omega))) dL_law_908 ?_
  refine u_callV0 (k := 62) (As := [.int (xs (6 * c + 1)), .int (xs (6 * c + 2)), .int (xs (6 * c + 3)), .int (xs (6 * c + 4))]) (rest := []) F B (wX9_has_ (zl z) E hE bk (xs (6 * c + 1)) (xs (6 * c + 2)) (xs (6 * c + 3)) (xs (6 * c + 4)) I J eb) mX9_has_ q1514 rfl s62 rfl rfl rfl (Nat.le_of_ble_eq_true rfl) dL_law_909 (fun r2 I2 J2 h2 => ?_)
  rw [h2.1, h2.2.1, h2.2.2]
  refine g_st (sn := [.int rb.1]) rfl ?_
  refine g_pop F dL_law_912 rfl ?_
  refine g_goto (tgt := 1604) F dL_law_913 (by decide) ?_
  refine g_sub (Ln := LV5 E b c) [0, 1, 2, 3, 4] rfl ?_
  exact hend _ _ _ Z hK.next hI2
set_option maxRecDepth 100000 in
set_option maxHeartbeats 4000000 in
theorem law_c21 {z : gZ} {E : gE} {bk b n sa c : Nat} {xs : Nat → Int32} {I : gM} {J : gN} (hE : gDist sh E) (Z : LZ z E bk b n xs sa) (hK : LK z c) (hn : 6 * c + 6 ≤ n) (hN : n ≤ 3072) (hI : InvB I) (hend : LE E bk b n sa c xs) : G z 916 (LV5 E b c) [] I J := by
  have hc : 6 * c + 6 ≤ 3072 := Nat.le_trans hn hN
  obtain ⟨F, B, hX, hbl, hbA, hrest⟩ := Z
  have Z : LZ z E bk b n xs sa := ⟨F, B, hX, hbl, hbA, hrest⟩
  refine g_aload_n F 3 dL_law_916 rfl rfl ?_
  refine g_aload_n F 4 dL_law_917 rfl rfl ?_
  refine g_iload F 0 dL_law_918 rfl ?_
  refine g_iconst (v := nI 1) F dL_law_920 (by decide) ?_
  refine g_iadd (v := nI (6 * c + 1)) F dL_law_921 (nI_add (6 * c) 1) ?_
  refine g_sld (v := xs (6 * c + 1)) F hX hbl hbA (vp_in_nI (n := 6 * c + 1) (by omega) (by omega)) (congrArg xs (nI_clamp (n := 6 * c + 1) (by omega))) dL_law_922 ?_
  obtain ⟨ra, rb, ea, eb, hI2, hab⟩ := alb_mean hI (xs (6 * c + 1))
  refine u_callV0 (k := 0) (As := [.int (xs (6 * c + 1))]) (rest := []) F B (wX8_mean (zl z) E hE bk (xs (6 * c + 1)) I J ea) mX8_mean q1472 rfl s0 rfl rfl rfl (Nat.le_of_ble_eq_true rfl) dL_law_923 (fun r1 I1 J1 h1 => ?_)
  rw [h1.1, h1.2.1, h1.2.2]
  refine g_st (sn := [.long ra]) rfl ?_
  refine g_pop2 F dL_law_926 rfl ?_
  refine g_aload_n F 2 dL_law_927 rfl rfl ?_
  refine g_aload_n F 4 dL_law_928 rfl rfl ?_
  refine g_iload F 0 dL_law_929 rfl ?_
  refine g_iconst (v := nI 1) F dL_law_931 (by decide) ?_
  refine g_iadd (v := nI (6 * c + 1)) F dL_law_932 (nI_add (6 * c) 1) ?_
  refine g_sld (v := xs (6 * c + 1)) F hX hbl hbA (vp_in_nI (n := 6 * c + 1) (by omega) (by omega)) (congrArg xs (nI_clamp (n := 6 * c + 1) (by omega))) dL_law_933 ?_
  refine u_callV0 (k := 62) (As := [.int (xs (6 * c + 1))]) (rest := []) F B (wX9_mean (zl z) E hE bk (xs (6 * c + 1)) I J eb) mX9_mean q1515 rfl s62 rfl rfl rfl (Nat.le_of_ble_eq_true rfl) dL_law_934 (fun r2 I2 J2 h2 => ?_)
  rw [h2.1, h2.2.1, h2.2.2]
  refine g_st (sn := [.long rb.1]) rfl ?_
  refine g_pop2 F dL_law_937 rfl ?_
  refine g_goto (tgt := 1604) F dL_law_938 (by decide) ?_
  refine g_sub (Ln := LV5 E b c) [0, 1, 2, 3, 4] rfl ?_
  exact hend _ _ _ Z hK.next hI2
set_option maxRecDepth 100000 in
set_option maxHeartbeats 4000000 in
theorem law_c22 {z : gZ} {E : gE} {bk b n sa c : Nat} {xs : Nat → Int32} {I : gM} {J : gN} (hE : gDist sh E) (Z : LZ z E bk b n xs sa) (hK : LK z c) (hn : 6 * c + 6 ≤ n) (hN : n ≤ 3072) (hI : InvB I) (hend : LE E bk b n sa c xs) : G z 941 (LV5 E b c) [] I J := by
  have hc : 6 * c + 6 ≤ 3072 := Nat.le_trans hn hN
  obtain ⟨F, B, hX, hbl, hbA, hrest⟩ := Z
  have Z : LZ z E bk b n xs sa := ⟨F, B, hX, hbl, hbA, hrest⟩
  refine g_aload_n F 3 dL_law_941 rfl rfl ?_
  refine g_aload_n F 4 dL_law_942 rfl rfl ?_
  refine g_iload F 0 dL_law_943 rfl ?_
  refine g_iconst (v := nI 1) F dL_law_945 (by decide) ?_
  refine g_iadd (v := nI (6 * c + 1)) F dL_law_946 (nI_add (6 * c) 1) ?_
  refine g_sld (v := xs (6 * c + 1)) F hX hbl hbA (vp_in_nI (n := 6 * c + 1) (by omega) (by omega)) (congrArg xs (nI_clamp (n := 6 * c + 1) (by omega))) dL_law_947 ?_
  refine g_aload_n F 4 dL_law_948 rfl rfl ?_
  refine g_iload F 0 dL_law_949 rfl ?_
  refine g_iconst (v := nI 2) F dL_law_951 (by decide) ?_
  refine g_iadd (v := nI (6 * c + 2)) F dL_law_952 (nI_add (6 * c) 2) ?_
  refine g_sld (v := xs (6 * c + 2)) F hX hbl hbA (vp_in_nI (n := 6 * c + 2) (by omega) (by omega)) (congrArg xs (nI_clamp (n := 6 * c + 2) (by omega))) dL_law_953 ?_
  obtain ⟨ra, rb, ea, eb, hI2, hab⟩ := alb_meanAs hI (xs (6 * c + 1)) (xs (6 * c + 2))
  refine u_callV0 (k := 0) (As := [.int (xs (6 * c + 1)), .int (xs (6 * c + 2))]) (rest := []) F B (wX8_meanAs (zl z) E hE bk (xs (6 * c + 1)) (xs (6 * c + 2)) I J ea) mX8_meanAs q1473 rfl s0 rfl rfl rfl (Nat.le_of_ble_eq_true rfl) dL_law_954 (fun r1 I1 J1 h1 => ?_)
  rw [h1.1, h1.2.1, h1.2.2]
  refine g_st (sn := [.int ra]) rfl ?_
  refine g_pop F dL_law_957 rfl ?_
  refine g_aload_n F 2 dL_law_958 rfl rfl ?_
  refine g_aload_n F 4 dL_law_959 rfl rfl ?_
  refine g_iload F 0 dL_law_960 rfl ?_
  refine g_iconst (v := nI 1) F dL_law_962 (by decide) ?_
  refine g_iadd (v := nI (6 * c + 1)) F dL_law_963 (nI_add (6 * c) 1) ?_
  refine g_sld (v := xs (6 * c + 1)) F hX hbl hbA (vp_in_nI (n := 6 * c + 1) (by omega) (by omega)) (congrArg xs (nI_clamp (n := 6 * c + 1) (by omega))) dL_law_964 ?_
  refine g_aload_n F 4 dL_law_965 rfl rfl ?_
  refine g_iload F 0 dL_law_966 rfl ?_
  refine g_iconst (v := nI 2) F dL_law_968 (by decide) ?_
  refine g_iadd (v := nI (6 * c + 2)) F dL_law_969 (nI_add (6 * c) 2) ?_
  refine g_sld (v := xs (6 * c + 2)) F hX hbl hbA (vp_in_nI (n := 6 * c + 2) (by omega) (by omega)) (congrArg xs (nI_clamp (n := 6 * c + 2) (by omega))) dL_law_970 ?_
  refine u_callV0 (k := 62) (As := [.int (xs (6 * c + 1)), .int (xs (6 * c + 2))]) (rest := []) F B (wX9_meanAs (zl z) E hE bk (xs (6 * c + 1)) (xs (6 * c + 2)) I J eb) mX9_meanAs q1516 rfl s62 rfl rfl rfl (Nat.le_of_ble_eq_true rfl) dL_law_971 (fun r2 I2 J2 h2 => ?_)
  rw [h2.1, h2.2.1, h2.2.2]
  refine g_st (sn := [.int rb.1]) rfl ?_
  refine g_pop F dL_law_974 rfl ?_
  refine g_goto (tgt := 1604) F dL_law_975 (by decide) ?_
  refine g_sub (Ln := LV5 E b c) [0, 1, 2, 3, 4] rfl ?_
  exact hend _ _ _ Z hK.next hI2
set_option maxRecDepth 100000 in
set_option maxHeartbeats 4000000 in
theorem law_c23 {z : gZ} {E : gE} {bk b n sa c : Nat} {xs : Nat → Int32} {I : gM} {J : gN} (hE : gDist sh E) (Z : LZ z E bk b n xs sa) (hK : LK z c) (hn : 6 * c + 6 ≤ n) (hN : n ≤ 3072) (hI : InvB I) (hend : LE E bk b n sa c xs) : G z 978 (LV5 E b c) [] I J := by
  have hc : 6 * c + 6 ≤ 3072 := Nat.le_trans hn hN
  obtain ⟨F, B, hX, hbl, hbA, hrest⟩ := Z
  have Z : LZ z E bk b n xs sa := ⟨F, B, hX, hbl, hbA, hrest⟩
  refine g_aload_n F 3 dL_law_978 rfl rfl ?_
  refine g_aload_n F 4 dL_law_979 rfl rfl ?_
  refine g_iload F 0 dL_law_980 rfl ?_
  refine g_iconst (v := nI 1) F dL_law_982 (by decide) ?_
  refine g_iadd (v := nI (6 * c + 1)) F dL_law_983 (nI_add (6 * c) 1) ?_
  refine g_sld (v := xs (6 * c + 1)) F hX hbl hbA (vp_in_nI (n := 6 * c + 1) (by omega) (by omega)) (congrArg xs (nI_clamp (n := 6 * c + 1) (by omega))) dL_law_984 ?_
  obtain ⟨ra, rb, ea, eb, hI2, hab⟩ := alb_spread hI (xs (6 * c + 1))
  refine u_callV0 (k := 0) (As := [.int (xs (6 * c + 1))]) (rest := []) F B (wX8_spread (zl z) E hE bk (xs (6 * c + 1)) I J ea) mX8_spread q1474 rfl s0 rfl rfl rfl (Nat.le_of_ble_eq_true rfl) dL_law_985 (fun r1 I1 J1 h1 => ?_)
  rw [h1.1, h1.2.1, h1.2.2]
  refine g_st (sn := [.long ra]) rfl ?_
  refine g_pop2 F dL_law_988 rfl ?_
  refine g_aload_n F 2 dL_law_989 rfl rfl ?_
  refine g_aload_n F 4 dL_law_990 rfl rfl ?_
  refine g_iload F 0 dL_law_991 rfl ?_
  refine g_iconst (v := nI 1) F dL_law_993 (by decide) ?_
  refine g_iadd (v := nI (6 * c + 1)) F dL_law_994 (nI_add (6 * c) 1) ?_
  refine g_sld (v := xs (6 * c + 1)) F hX hbl hbA (vp_in_nI (n := 6 * c + 1) (by omega) (by omega)) (congrArg xs (nI_clamp (n := 6 * c + 1) (by omega))) dL_law_995 ?_
  refine u_callV0 (k := 62) (As := [.int (xs (6 * c + 1))]) (rest := []) F B (wX9_spread (zl z) E hE bk (xs (6 * c + 1)) I J eb) mX9_spread q1517 rfl s62 rfl rfl rfl (Nat.le_of_ble_eq_true rfl) dL_law_996 (fun r2 I2 J2 h2 => ?_)
  rw [h2.1, h2.2.1, h2.2.2]
  refine g_st (sn := [.long rb.1]) rfl ?_
  refine g_pop2 F dL_law_999 rfl ?_
  refine g_goto (tgt := 1604) F dL_law_1000 (by decide) ?_
  refine g_sub (Ln := LV5 E b c) [0, 1, 2, 3, 4] rfl ?_
  exact hend _ _ _ Z hK.next hI2
set_option maxRecDepth 100000 in
set_option maxHeartbeats 4000000 in
theorem law_c24 {z : gZ} {E : gE} {bk b n sa c : Nat} {xs : Nat → Int32} {I : gM} {J : gN} (hE : gDist sh E) (Z : LZ z E bk b n xs sa) (hK : LK z c) (hn : 6 * c + 6 ≤ n) (hN : n ≤ 3072) (hI : InvB I) (hend : LE E bk b n sa c xs) : G z 1003 (LV5 E b c) [] I J := by
  have hc : 6 * c + 6 ≤ 3072 := Nat.le_trans hn hN
  obtain ⟨F, B, hX, hbl, hbA, hrest⟩ := Z
  have Z : LZ z E bk b n xs sa := ⟨F, B, hX, hbl, hbA, hrest⟩
  refine g_aload_n F 3 dL_law_1003 rfl rfl ?_
  refine g_aload_n F 4 dL_law_1004 rfl rfl ?_
  refine g_iload F 0 dL_law_1005 rfl ?_
  refine g_iconst (v := nI 1) F dL_law_1007 (by decide) ?_
  refine g_iadd (v := nI (6 * c + 1)) F dL_law_1008 (nI_add (6 * c) 1) ?_
  refine g_sld (v := xs (6 * c + 1)) F hX hbl hbA (vp_in_nI (n := 6 * c + 1) (by omega) (by omega)) (congrArg xs (nI_clamp (n := 6 * c + 1) (by omega))) dL_law_1009 ?_
  obtain ⟨ra, rb, ea, eb, hI2, hab⟩ := alb_skew hI (xs (6 * c + 1))
  refine u_callV0 (k := 0) (As := [.int (xs (6 * c + 1))]) (rest := []) F B (wX8_skew (zl z) E hE bk (xs (6 * c + 1)) I J ea) mX8_skew q1475 rfl s0 rfl rfl rfl (Nat.le_of_ble_eq_true rfl) dL_law_1010 (fun r1 I1 J1 h1 => ?_)
  rw [h1.1, h1.2.1, h1.2.2]
  refine g_st (sn := [.int ra.1]) rfl ?_
  refine g_pop F dL_law_1013 rfl ?_
  refine g_aload_n F 2 dL_law_1014 rfl rfl ?_
  refine g_aload_n F 4 dL_law_1015 rfl rfl ?_
  refine g_iload F 0 dL_law_1016 rfl ?_
  refine g_iconst (v := nI 1) F dL_law_1018 (by decide) ?_
  refine g_iadd (v := nI (6 * c + 1)) F dL_law_1019 (nI_add (6 * c) 1) ?_
  refine g_sld (v := xs (6 * c + 1)) F hX hbl hbA (vp_in_nI (n := 6 * c + 1) (by omega) (by omega)) (congrArg xs (nI_clamp (n := 6 * c + 1) (by omega))) dL_law_1020 ?_
  refine u_callV0 (k := 62) (As := [.int (xs (6 * c + 1))]) (rest := []) F B (wX9_skew (zl z) E hE bk (xs (6 * c + 1)) ra.2 J eb) mX9_skew q1518 rfl s62 rfl rfl rfl (Nat.le_of_ble_eq_true rfl) dL_law_1021 (fun r2 I2 J2 h2 => ?_)
  rw [h2.1, h2.2.1, h2.2.2]
  refine g_st (sn := [.int rb.1]) rfl ?_
  refine g_pop F dL_law_1024 rfl ?_
  refine g_goto (tgt := 1604) F dL_law_1025 (by decide) ?_
  refine g_sub (Ln := LV5 E b c) [0, 1, 2, 3, 4] rfl ?_
  exact hend _ _ _ Z hK.next hI2
set_option maxRecDepth 100000 in
set_option maxHeartbeats 4000000 in
theorem law_c25 {z : gZ} {E : gE} {bk b n sa c : Nat} {xs : Nat → Int32} {I : gM} {J : gN} (hE : gDist sh E) (Z : LZ z E bk b n xs sa) (hK : LK z c) (hn : 6 * c + 6 ≤ n) (hN : n ≤ 3072) (hI : InvB I) (hend : LE E bk b n sa c xs) : G z 1028 (LV5 E b c) [] I J := by
  have hc : 6 * c + 6 ≤ 3072 := Nat.le_trans hn hN
  obtain ⟨F, B, hX, hbl, hbA, hrest⟩ := Z
  have Z : LZ z E bk b n xs sa := ⟨F, B, hX, hbl, hbA, hrest⟩
  refine g_aload_n F 3 dL_law_1028 rfl rfl ?_
  refine g_aload_n F 4 dL_law_1029 rfl rfl ?_
  refine g_iload F 0 dL_law_1030 rfl ?_
  refine g_iconst (v := nI 1) F dL_law_1032 (by decide) ?_
  refine g_iadd (v := nI (6 * c + 1)) F dL_law_1033 (nI_add (6 * c) 1) ?_
  refine g_sld (v := xs (6 * c + 1)) F hX hbl hbA (vp_in_nI (n := 6 * c + 1) (by omega) (by omega)) (congrArg xs (nI_clamp (n := 6 * c + 1) (by omega))) dL_law_1034 ?_
  refine g_aload_n F 4 dL_law_1035 rfl rfl ?_
  refine g_iload F 0 dL_law_1036 rfl ?_
  refine g_iconst (v := nI 2) F dL_law_1038 (by decide) ?_
  refine g_iadd (v := nI (6 * c + 2)) F dL_law_1039 (nI_add (6 * c) 2) ?_
  refine g_sld (v := xs (6 * c + 2)) F hX hbl hbA (vp_in_nI (n := 6 * c + 2) (by omega) (by omega)) (congrArg xs (nI_clamp (n := 6 * c + 2) (by omega))) dL_law_1040 ?_
  refine g_aload_n F 4 dL_law_1041 rfl rfl ?_
  refine g_iload F 0 dL_law_1042 rfl ?_
  refine g_iconst (v := nI 3) F dL_law_1044 (by decide) ?_
  refine g_iadd (v := nI (6 * c + 3)) F dL_law_1045 (nI_add (6 * c) 3) ?_
  refine g_sld (v := xs (6 * c + 3)) F hX hbl hbA (vp_in_nI (n := 6 * c + 3) (by omega) (by omega)) (congrArg xs (nI_clamp (n := 6 * c + 3) (by omega))) dL_law_1046 ?_
  refine g_aload_n F 4 dL_law_1047 rfl rfl ?_
  refine g_iload F 0 dL_law_1048 rfl ?_
  refine g_iconst (v := nI 4) F dL_law_1050 (by decide) ?_
  refine g_iadd (v := nI (6 * c + 4)) F dL_law_1051 (nI_add (6 * c) 4) ?_
  refine g_sld (v := xs (6 * c + 4)) F hX hbl hbA (vp_in_nI (n := 6 * c + 4) (by omega) (by omega)) (congrArg xs (nI_clamp (n := 6 * c + 4) (by omega))) dL_law_1052 ?_
  obtain ⟨ra, rb, ea, eb, hI2, hab⟩ := alb_put hI (xs (6 * c + 1)) (xs (6 * c + 2)) (xs (6 * c + 3)) (xs (6 * c + 4))
  refine u_callV0 (k := 0) (As := [.int (xs (6 * c + 1)), .int (xs (6 * c + 2)), .int (xs (6 * c + 3)), .int (xs (6 * c + 4))]) (rest := []) F B (wX8_put (zl z) E hE bk (xs (6 * c + 1)) (xs (6 * c + 2)) (xs (6 * c + 3)) (xs (6 * c + 4)) I J ea) mX8_put q1476 rfl s0 rfl rfl rfl (Nat.le_of_ble_eq_true rfl) dL_law_1053 (fun r1 I1 J1 h1 => ?_)
  rw [h1.1, h1.2.1, h1.2.2]
  refine g_st (sn := [.int ra.1]) rfl ?_
  refine g_pop F dL_law_1056 rfl ?_
  refine g_aload_n F 2 dL_law_1057 rfl rfl ?_
  refine g_aload_n F 4 dL_law_1058 rfl rfl ?_
  refine g_iload F 0 dL_law_1059 rfl ?_
  refine g_iconst (v := nI 1) F dL_law_1061 (by decide) ?_
  refine g_iadd (v := nI (6 * c + 1)) F dL_law_1062 (nI_add (6 * c) 1) ?_
  refine g_sld (v := xs (6 * c + 1)) F hX hbl hbA (vp_in_nI (n := 6 * c + 1) (by omega) (by omega)) (congrArg xs (nI_clamp (n := 6 * c + 1) (by omega))) dL_law_1063 ?_
  refine g_aload_n F 4 dL_law_1064 rfl rfl ?_
  refine g_iload F 0 dL_law_1065 rfl ?_
  refine g_iconst (v := nI 2) F dL_law_1067 (by decide) ?_
  refine g_iadd (v := nI (6 * c + 2)) F dL_law_1068 (nI_add (6 * c) 2) ?_
  refine g_sld (v := xs (6 * c + 2)) F hX hbl hbA (vp_in_nI (n := 6 * c + 2) (by omega) (by omega)) (congrArg xs (nI_clamp (n := 6 * c + 2) (by omega))) dL_law_1069 ?_
  refine g_aload_n F 4 dL_law_1070 rfl rfl ?_
  refine g_iload F 0 dL_law_1071 rfl ?_
  refine g_iconst (v := nI 3) F dL_law_1073 (by decide) ?_
  refine g_iadd (v := nI (6 * c + 3)) F dL_law_1074 (nI_add (6 * c) 3) ?_
  refine g_sld (v := xs (6 * c + 3)) F hX hbl hbA (vp_in_nI (n := 6 * c + 3) (by omega) (by omega)) (congrArg xs (nI_clamp (n := 6 * c + 3) (by omega))) dL_law_1075 ?_
  refine g_aload_n F 4 dL_law_1076 rfl rfl ?_
  refine g_iload F 0 dL_law_1077 rfl ?_
  refine g_iconst (v := nI 4) F dL_law_1079 (by decide) ?_
  refine g_iadd (v := nI (6 * c + 4)) F dL_law_1080 (nI_add (6 * c) 4) ?_
  refine g_sld (v := xs (6 * c + 4)) F hX hbl hbA (vp_in_nI (n := 6 * c + 4) (by omega) (by omega)) (congrArg xs (nI_clamp (n := 6 * c + 4) (by omega))) dL_law_1081 ?_
  refine u_callV0 (k := 62) (As := [.int (xs (6 * c + 1)), .int (xs (6 * c + 2)), .int (xs (6 * c + 3)), .int (xs (6 * c + 4))]) (rest := []) F B (wX9_put (zl z) E hE bk (xs (6 * c + 1)) (xs (6 * c + 2)) (xs (6 * c + 3)) (xs (6 * c + 4)) ra.2 J eb) mX9_put q1492 rfl s62 rfl rfl rfl (Nat.le_of_ble_eq_true rfl) dL_law_1082 (fun r2 I2 J2 h2 => ?_)
  rw [h2.1, h2.2.1, h2.2.2]
  refine g_st (sn := [.int rb.1]) rfl ?_
  refine g_pop F dL_law_1085 rfl ?_
  refine g_goto (tgt := 1604) F dL_law_1086 (by decide) ?_
  refine g_sub (Ln := LV5 E b c) [0, 1, 2, 3, 4] rfl ?_
  exact hend _ _ _ Z hK.next hI2
set_option maxRecDepth 100000 in
set_option maxHeartbeats 4000000 in
theorem law_c26 {z : gZ} {E : gE} {bk b n sa c : Nat} {xs : Nat → Int32} {I : gM} {J : gN} (hE : gDist sh E) (Z : LZ z E bk b n xs sa) (hK : LK z c) (hn : 6 * c + 6 ≤ n) (hN : n ≤ 3072) (hI : InvB I) (hend : LE E bk b n sa c xs) : G z 1089 (LV5 E b c) [] I J := by
  have hc : 6 * c + 6 ≤ 3072 := Nat.le_trans hn hN
  obtain ⟨F, B, hX, hbl, hbA, hrest⟩ := Z
  have Z : LZ z E bk b n xs sa := ⟨F, B, hX, hbl, hbA, hrest⟩
  refine g_aload_n F 3 dL_law_1089 rfl rfl ?_
  refine g_aload_n F 4 dL_law_1090 rfl rfl ?_
  refine g_iload F 0 dL_law_1091 rfl ?_
  refine g_iconst (v := nI 1) F dL_law_1093 (by decide) ?_
  refine g_iadd (v := nI (6 * c + 1)) F dL_law_1094 (nI_add (6 * c) 1) ?_
  refine g_sld (v := xs (6 * c + 1)) F hX hbl hbA (vp_in_nI (n := 6 * c + 1) (by omega) (by omega)) (congrArg xs (nI_clamp (n := 6 * c + 1) (by omega))) dL_law_1095 ?_
  refine g_aload_n F 4 dL_law_1096 rfl rfl ?_
  refine g_iload F 0 dL_law_1097 rfl ?_
  refine g_iconst (v := nI 2) F dL_law_1099 (by decide) ?_
  refine g_iadd (v := nI (6 * c + 2)) F dL_law_1100 (nI_add (6 * c) 2) ?_
  refine g_sld (v := xs (6 * c + 2)) F hX hbl hbA (vp_in_nI (n := 6 * c + 2) (by omega) (by omega)) (congrArg xs (nI_clamp (n := 6 * c + 2) (by omega))) dL_law_1101 ?_
  refine g_aload_n F 4 dL_law_1102 rfl rfl ?_
  refine g_iload F 0 dL_law_1103 rfl ?_
  refine g_iconst (v := nI 3) F dL_law_1105 (by decide) ?_
  refine g_iadd (v := nI (6 * c + 3)) F dL_law_1106 (nI_add (6 * c) 3) ?_
  refine g_sld (v := xs (6 * c + 3)) F hX hbl hbA (vp_in_nI (n := 6 * c + 3) (by omega) (by omega)) (congrArg xs (nI_clamp (n := 6 * c + 3) (by omega))) dL_law_1107 ?_
  refine g_aload_n F 4 dL_law_1108 rfl rfl ?_
  refine g_iload F 0 dL_law_1109 rfl ?_
  refine g_iconst (v := nI 4) F dL_law_1111 (by decide) ?_
  refine g_iadd (v := nI (6 * c + 4)) F dL_law_1112 (nI_add (6 * c) 4) ?_
  refine g_sld (v := xs (6 * c + 4)) F hX hbl hbA (vp_in_nI (n := 6 * c + 4) (by omega) (by omega)) (congrArg xs (nI_clamp (n := 6 * c + 4) (by omega))) dL_law_1113 ?_
  obtain ⟨ra, rb, ea, eb, hI2, hab⟩ := alb_take hI (xs (6 * c + 1)) (xs (6 * c + 2)) (xs (6 * c + 3)) (xs (6 * c + 4))
  refine u_callV0 (k := 0) (As := [.int (xs (6 * c + 1)), .int (xs (6 * c + 2)), .int (xs (6 * c + 3)), .int (xs (6 * c + 4))]) (rest := []) F B (wX8_take (zl z) E hE bk (xs (6 * c + 1)) (xs (6 * c + 2)) (xs (6 * c + 3)) (xs (6 * c + 4)) I J ea) mX8_take q1477 rfl s0 rfl rfl rfl (Nat.le_of_ble_eq_true rfl) dL_law_1114 (fun r1 I1 J1 h1 => ?_)
  rw [h1.1, h1.2.1, h1.2.2]
  refine g_st (sn := [.int ra.1]) rfl ?_
  refine g_pop F dL_law_1117 rfl ?_
  refine g_aload_n F 2 dL_law_1118 rfl rfl ?_
  refine g_aload_n F 4 dL_law_1119 rfl rfl ?_
  refine g_iload F 0 dL_law_1120 rfl ?_
  refine g_iconst (v := nI 1) F dL_law_1122 (by decide) ?_
  refine g_iadd (v := nI (6 * c + 1)) F dL_law_1123 (nI_add (6 * c) 1) ?_
  refine g_sld (v := xs (6 * c + 1)) F hX hbl hbA (vp_in_nI (n := 6 * c + 1) (by omega) (by omega)) (congrArg xs (nI_clamp (n := 6 * c + 1) (by omega))) dL_law_1124 ?_
  refine g_aload_n F 4 dL_law_1125 rfl rfl ?_
  refine g_iload F 0 dL_law_1126 rfl ?_
  refine g_iconst (v := nI 2) F dL_law_1128 (by decide) ?_
  refine g_iadd (v := nI (6 * c + 2)) F dL_law_1129 (nI_add (6 * c) 2) ?_
  refine g_sld (v := xs (6 * c + 2)) F hX hbl hbA (vp_in_nI (n := 6 * c + 2) (by omega) (by omega)) (congrArg xs (nI_clamp (n := 6 * c + 2) (by omega))) dL_law_1130 ?_
  refine g_aload_n F 4 dL_law_1131 rfl rfl ?_
  refine g_iload F 0 dL_law_1132 rfl ?_
  refine g_iconst (v := nI 3) F dL_law_1134 (by decide) ?_
  refine g_iadd (v := nI (6 * c + 3)) F dL_law_1135 (nI_add (6 * c) 3) ?_
  refine g_sld (v := xs (6 * c + 3)) F hX hbl hbA (vp_in_nI (n := 6 * c + 3) (by omega) (by omega)) (congrArg xs (nI_clamp (n := 6 * c + 3) (by omega))) dL_law_1136 ?_
  refine g_aload_n F 4 dL_law_1137 rfl rfl ?_
  refine g_iload F 0 dL_law_1138 rfl ?_
  refine g_iconst (v := nI 4) F dL_law_1140 (by decide) ?_
  refine g_iadd (v := nI (6 * c + 4)) F dL_law_1141 (nI_add (6 * c) 4) ?_
  refine g_sld (v := xs (6 * c + 4)) F hX hbl hbA (vp_in_nI (n := 6 * c + 4) (by omega) (by omega)) (congrArg xs (nI_clamp (n := 6 * c + 4) (by omega))) dL_law_1142 ?_
  refine u_callV0 (k := 62) (As := [.int (xs (6 * c + 1)), .int (xs (6 * c + 2)), .int (xs (6 * c + 3)), .int (xs (6 * c + 4))]) (rest := []) F B (wX9_take (zl z) E hE bk (xs (6 * c + 1)) (xs (6 * c + 2)) (xs (6 * c + 3)) (xs (6 * c + 4)) ra.2 J eb) mX9_take q1493 rfl s62 rfl rfl rfl (Nat.le_of_ble_eq_true rfl) dL_law_1143 (fun r2 I2 J2 h2 => ?_)
  rw [h2.1, h2.2.1, h2.2.2]
  refine g_st (sn := [.int rb.1]) rfl ?_
  refine g_pop F dL_law_1146 rfl ?_
  refine g_goto (tgt := 1604) F dL_law_1147 (by decide) ?_
  refine g_sub (Ln := LV5 E b c) [0, 1, 2, 3, 4] rfl ?_
  exact hend _ _ _ Z hK.next hI2
set_option maxRecDepth 100000 in
set_option maxHeartbeats 4000000 in
theorem law_c27 {z : gZ} {E : gE} {bk b n sa c : Nat} {xs : Nat → Int32} {I : gM} {J : gN} (hE : gDist sh E) (Z : LZ z E bk b n xs sa) (hK : LK z c) (hn : 6 * c + 6 ≤ n) (hN : n ≤ 3072) (hI : InvB I) (hend : LE E bk b n sa c xs) : G z 1150 (LV5 E b c) [] I J := by
  have hc : 6 * c + 6 ≤ 3072 := Nat.le_trans hn hN
  obtain ⟨F, B, hX, hbl, hbA, hrest⟩ := Z
  have Z : LZ z E bk b n xs sa := ⟨F, B, hX, hbl, hbA, hrest⟩
  refine g_aload_n F 3 dL_law_1150 rfl rfl ?_
  refine g_aload_n F 4 dL_law_1151 rfl rfl ?_
  refine g_iload F 0 dL_law_1152 rfl ?_
  refine g_iconst (v := nI 1) F dL_law_1154 (by decide) ?_
  refine g_iadd (v := nI (6 * c + 1)) F dL_law_1155 (nI_add (6 * c) 1) ?_
  refine g_sld (v := xs (6 * c + 1)) F hX hbl hbA (vp_in_nI (n := 6 * c + 1) (by omega) (by omega)) (congrArg xs (nI_clamp (n := 6 * c + 1) (by omega))) dL_law_1156 ?_
  obtain ⟨ra, rb, ea, eb, hI2, hab⟩ := alb_use hI (xs (6 * c + 1))
  refine u_callV0 (k := 0) (As := [.int (xs (6 * c + 1))]) (rest := []) F B (wX8_use (zl z) E hE bk (xs (6 * c + 1)) I J ea) mX8_use q1478 rfl s0 rfl rfl rfl (Nat.le_of_ble_eq_true rfl) dL_law_1157 (fun r1 I1 J1 h1 => ?_)
  rw [h1.1, h1.2.1, h1.2.2]
  refine g_st (sn := [.int ra.1]) rfl ?_
  refine g_pop F dL_law_1160 rfl ?_
  refine g_aload_n F 2 dL_law_1161 rfl rfl ?_
  refine g_aload_n F 4 dL_law_1162 rfl rfl ?_
  refine g_iload F 0 dL_law_1163 rfl ?_
  refine g_iconst (v := nI 1) F dL_law_1165 (by decide) ?_
  refine g_iadd (v := nI (6 * c + 1)) F dL_law_1166 (nI_add (6 * c) 1) ?_
  refine g_sld (v := xs (6 * c + 1)) F hX hbl hbA (vp_in_nI (n := 6 * c + 1) (by omega) (by omega)) (congrArg xs (nI_clamp (n := 6 * c + 1) (by omega))) dL_law_1167 ?_
  refine u_callV0 (k := 62) (As := [.int (xs (6 * c + 1))]) (rest := []) F B (wX9_use (zl z) E hE bk (xs (6 * c + 1)) ra.2 J eb) mX9_use q1494 rfl s62 rfl rfl rfl (Nat.le_of_ble_eq_true rfl) dL_law_1168 (fun r2 I2 J2 h2 => ?_)
  rw [h2.1, h2.2.1, h2.2.2]
  refine g_st (sn := [.int rb.1]) rfl ?_
  refine g_pop F dL_law_1171 rfl ?_
  refine g_goto (tgt := 1604) F dL_law_1172 (by decide) ?_
  refine g_sub (Ln := LV5 E b c) [0, 1, 2, 3, 4] rfl ?_
  exact hend _ _ _ Z hK.next hI2
set_option maxRecDepth 100000 in
set_option maxHeartbeats 4000000 in
theorem law_c28 {z : gZ} {E : gE} {bk b n sa c : Nat} {xs : Nat → Int32} {I : gM} {J : gN} (hE : gDist sh E) (Z : LZ z E bk b n xs sa) (hK : LK z c) (hn : 6 * c + 6 ≤ n) (hN : n ≤ 3072) (hI : InvB I) (hend : LE E bk b n sa c xs) : G z 1175 (LV5 E b c) [] I J := by
  have hc : 6 * c + 6 ≤ 3072 := Nat.le_trans hn hN
  obtain ⟨F, B, hX, hbl, hbA, hrest⟩ := Z
  have Z : LZ z E bk b n xs sa := ⟨F, B, hX, hbl, hbA, hrest⟩
  refine g_aload_n F 3 dL_law_1175 rfl rfl ?_
  refine g_aload_n F 4 dL_law_1176 rfl rfl ?_
  refine g_iload F 0 dL_law_1177 rfl ?_
  refine g_iconst (v := nI 1) F dL_law_1179 (by decide) ?_
  refine g_iadd (v := nI (6 * c + 1)) F dL_law_1180 (nI_add (6 * c) 1) ?_
  refine g_sld (v := xs (6 * c + 1)) F hX hbl hbA (vp_in_nI (n := 6 * c + 1) (by omega) (by omega)) (congrArg xs (nI_clamp (n := 6 * c + 1) (by omega))) dL_law_1181 ?_
  obtain ⟨ra, rb, ea, eb, hI2, hab⟩ := alb_order hI (xs (6 * c + 1))
  refine u_callV0 (k := 0) (As := [.int (xs (6 * c + 1))]) (rest := []) F B (wX8_order (zl z) E hE bk (xs (6 * c + 1)) I J ea) mX8_order q1479 rfl s0 rfl rfl rfl (Nat.le_of_ble_eq_true rfl) dL_law_1182 (fun r1 I1 J1 h1 => ?_)
  rw [h1.1, h1.2.1, h1.2.2]
  refine g_st (sn := [.int ra.1]) rfl ?_
  refine g_pop F dL_law_1185 rfl ?_
  refine g_aload_n F 2 dL_law_1186 rfl rfl ?_
  refine g_aload_n F 4 dL_law_1187 rfl rfl ?_
  refine g_iload F 0 dL_law_1188 rfl ?_
  refine g_iconst (v := nI 1) F dL_law_1190 (by decide) ?_
  refine g_iadd (v := nI (6 * c + 1)) F dL_law_1191 (nI_add (6 * c) 1) ?_
  refine g_sld (v := xs (6 * c + 1)) F hX hbl hbA (vp_in_nI (n := 6 * c + 1) (by omega) (by omega)) (congrArg xs (nI_clamp (n := 6 * c + 1) (by omega))) dL_law_1192 ?_
  refine u_callV0 (k := 62) (As := [.int (xs (6 * c + 1))]) (rest := []) F B (wX9_order (zl z) E hE bk (xs (6 * c + 1)) ra.2 J eb) mX9_order q1495 rfl s62 rfl rfl rfl (Nat.le_of_ble_eq_true rfl) dL_law_1193 (fun r2 I2 J2 h2 => ?_)
  rw [h2.1, h2.2.1, h2.2.2]
  refine g_st (sn := [.int rb.1]) rfl ?_
  refine g_pop F dL_law_1196 rfl ?_
  refine g_goto (tgt := 1604) F dL_law_1197 (by decide) ?_
  refine g_sub (Ln := LV5 E b c) [0, 1, 2, 3, 4] rfl ?_
  exact hend _ _ _ Z hK.next hI2
set_option maxRecDepth 100000 in
set_option maxHeartbeats 4000000 in
theorem law_c29 {z : gZ} {E : gE} {bk b n sa c : Nat} {xs : Nat → Int32} {I : gM} {J : gN} (hE : gDist sh E) (Z : LZ z E bk b n xs sa) (hK : LK z c) (hn : 6 * c + 6 ≤ n) (hN : n ≤ 3072) (hI : InvB I) (hend : LE E bk b n sa c xs) : G z 1200 (LV5 E b c) [] I J := by
  have hc : 6 * c + 6 ≤ 3072 := Nat.le_trans hn hN
  obtain ⟨F, B, hX, hbl, hbA, hrest⟩ := Z
  have Z : LZ z E bk b n xs sa := ⟨F, B, hX, hbl, hbA, hrest⟩
  refine g_aload_n F 3 dL_law_1200 rfl rfl ?_
  refine g_aload_n F 4 dL_law_1201 rfl rfl ?_
  refine g_iload F 0 dL_law_1202 rfl ?_
  refine g_iconst (v := nI 1) F dL_law_1204 (by decide) ?_
  refine g_iadd (v := nI (6 * c + 1)) F dL_law_1205 (nI_add (6 * c) 1) ?_
  refine g_sld (v := xs (6 * c + 1)) F hX hbl hbA (vp_in_nI (n := 6 * c + 1) (by omega) (by omega)) (congrArg xs (nI_clamp (n := 6 * c + 1) (by omega))) dL_law_1206 ?_
  refine g_aload_n F 4 dL_law_1207 rfl rfl ?_
  refine g_iload F 0 dL_law_1208 rfl ?_
  refine g_iconst (v := nI 2) F dL_law_1210 (by decide) ?_
  refine g_iadd (v := nI (6 * c + 2)) F dL_law_1211 (nI_add (6 * c) 2) ?_
  refine g_sld (v := xs (6 * c + 2)) F hX hbl hbA (vp_in_nI (n := 6 * c + 2) (by omega) (by omega)) (congrArg xs (nI_clamp (n := 6 * c + 2) (by omega))) dL_law_1212 ?_
  refine g_i2l (v := ((xs (6 * c + 2))).toInt64) F dL_law_1213 rfl ?_
  refine g_bipush (v := 32) F dL_law_1214 (by decide) ?_
  refine g_lshl (v := (((xs (6 * c + 2))).toInt64 <<< (((32) : Int32).toInt64 &&& 63))) F dL_law_1216 rfl ?_
  refine g_aload_n F 4 dL_law_1217 rfl rfl ?_
  refine g_iload F 0 dL_law_1218 rfl ?_
  refine g_iconst (v := nI 3) F dL_law_1220 (by decide) ?_
  refine g_iadd (v := nI (6 * c + 3)) F dL_law_1221 (nI_add (6 * c) 3) ?_
  refine g_sld (v := xs (6 * c + 3)) F hX hbl hbA (vp_in_nI (n := 6 * c + 3) (by omega) (by omega)) (congrArg xs (nI_clamp (n := 6 * c + 3) (by omega))) dL_law_1222 ?_
  refine g_i2l (v := ((xs (6 * c + 3))).toInt64) F dL_law_1223 rfl ?_
  refine g_ldc2_w F dL_law_1224 q1527 ?_
  refine g_land (v := (((xs (6 * c + 3))).toInt64 &&& (4294967295 : Int64))) F dL_law_1227 rfl ?_
  refine g_lor (v := ((((xs (6 * c + 2))).toInt64 <<< (((32) : Int32).toInt64 &&& 63)) ||| (((xs (6 * c + 3))).toInt64 &&& (4294967295 : Int64)))) F dL_law_1228 rfl ?_
  obtain ⟨ra, rb, ea, eb, hI2, hab⟩ := alb_ways hI (xs (6 * c + 1)) ((((xs (6 * c + 2))).toInt64 <<< (((32) : Int32).toInt64 &&& 63)) ||| (((xs (6 * c + 3))).toInt64 &&& (4294967295 : Int64))) J
  refine u_callV0 (k := 0) (As := [.int (xs (6 * c + 1)), .long ((((xs (6 * c + 2))).toInt64 <<< (((32) : Int32).toInt64 &&& 63)) ||| (((xs (6 * c + 3))).toInt64 &&& (4294967295 : Int64)))]) (rest := []) F B (wX8_ways (zl z) E hE bk (xs (6 * c + 1)) ((((xs (6 * c + 2))).toInt64 <<< (((32) : Int32).toInt64 &&& 63)) ||| (((xs (6 * c + 3))).toInt64 &&& (4294967295 : Int64))) I J ea) mX8_ways q1480 rfl s0 rfl rfl rfl (Nat.le_of_ble_eq_true rfl) dL_law_1229 (fun r1 I1 J1 h1 => ?_)
  rw [h1.1, h1.2.1, h1.2.2]
  refine g_st (sn := [.int ra.1]) rfl ?_
  refine g_pop F dL_law_1232 rfl ?_
  refine g_aload_n F 2 dL_law_1233 rfl rfl ?_
  refine g_aload_n F 4 dL_law_1234 rfl rfl ?_
  refine g_iload F 0 dL_law_1235 rfl ?_
  refine g_iconst (v := nI 1) F dL_law_1237 (by decide) ?_
  refine g_iadd (v := nI (6 * c + 1)) F dL_law_1238 (nI_add (6 * c) 1) ?_
  refine g_sld (v := xs (6 * c + 1)) F hX hbl hbA (vp_in_nI (n := 6 * c + 1) (by omega) (by omega)) (congrArg xs (nI_clamp (n := 6 * c + 1) (by omega))) dL_law_1239 ?_
  refine g_aload_n F 4 dL_law_1240 rfl rfl ?_
  refine g_iload F 0 dL_law_1241 rfl ?_
  refine g_iconst (v := nI 2) F dL_law_1243 (by decide) ?_
  refine g_iadd (v := nI (6 * c + 2)) F dL_law_1244 (nI_add (6 * c) 2) ?_
  refine g_sld (v := xs (6 * c + 2)) F hX hbl hbA (vp_in_nI (n := 6 * c + 2) (by omega) (by omega)) (congrArg xs (nI_clamp (n := 6 * c + 2) (by omega))) dL_law_1245 ?_
  refine g_i2l (v := ((xs (6 * c + 2))).toInt64) F dL_law_1246 rfl ?_
  refine g_bipush (v := 32) F dL_law_1247 (by decide) ?_
  refine g_lshl (v := (((xs (6 * c + 2))).toInt64 <<< (((32) : Int32).toInt64 &&& 63))) F dL_law_1249 rfl ?_
  refine g_aload_n F 4 dL_law_1250 rfl rfl ?_
  refine g_iload F 0 dL_law_1251 rfl ?_
  refine g_iconst (v := nI 3) F dL_law_1253 (by decide) ?_
  refine g_iadd (v := nI (6 * c + 3)) F dL_law_1254 (nI_add (6 * c) 3) ?_
  refine g_sld (v := xs (6 * c + 3)) F hX hbl hbA (vp_in_nI (n := 6 * c + 3) (by omega) (by omega)) (congrArg xs (nI_clamp (n := 6 * c + 3) (by omega))) dL_law_1255 ?_
  refine g_i2l (v := ((xs (6 * c + 3))).toInt64) F dL_law_1256 rfl ?_
  refine g_ldc2_w F dL_law_1257 q1527 ?_
  refine g_land (v := (((xs (6 * c + 3))).toInt64 &&& (4294967295 : Int64))) F dL_law_1260 rfl ?_
  refine g_lor (v := ((((xs (6 * c + 2))).toInt64 <<< (((32) : Int32).toInt64 &&& 63)) ||| (((xs (6 * c + 3))).toInt64 &&& (4294967295 : Int64)))) F dL_law_1261 rfl ?_
  refine u_callV0 (k := 62) (As := [.int (xs (6 * c + 1)), .long ((((xs (6 * c + 2))).toInt64 <<< (((32) : Int32).toInt64 &&& 63)) ||| (((xs (6 * c + 3))).toInt64 &&& (4294967295 : Int64)))]) (rest := []) F B (wX9_ways (zl z) E hE bk (xs (6 * c + 1)) ((((xs (6 * c + 2))).toInt64 <<< (((32) : Int32).toInt64 &&& 63)) ||| (((xs (6 * c + 3))).toInt64 &&& (4294967295 : Int64))) ra.2.1 ra.2.2 eb) mX9_ways q1496 rfl s62 rfl rfl rfl (Nat.le_of_ble_eq_true rfl) dL_law_1262 (fun r2 I2 J2 h2 => ?_)
  rw [h2.1, h2.2.1, h2.2.2]
  refine g_st (sn := [.int rb.1]) rfl ?_
  refine g_pop F dL_law_1265 rfl ?_
  refine g_goto (tgt := 1604) F dL_law_1266 (by decide) ?_
  refine g_sub (Ln := LV5 E b c) [0, 1, 2, 3, 4] rfl ?_
  exact hend _ _ _ Z hK.next hI2
set_option maxRecDepth 100000 in
set_option maxHeartbeats 4000000 in
theorem law_c30 {z : gZ} {E : gE} {bk b n sa c : Nat} {xs : Nat → Int32} {I : gM} {J : gN} (hE : gDist sh E) (Z : LZ z E bk b n xs sa) (hK : LK z c) (hn : 6 * c + 6 ≤ n) (hN : n ≤ 3072) (hI : InvB I) (hend : LE E bk b n sa c xs) : G z 1269 (LV5 E b c) [] I J := by
  have hc : 6 * c + 6 ≤ 3072 := Nat.le_trans hn hN
  obtain ⟨F, B, hX, hbl, hbA, hrest⟩ := Z
  have Z : LZ z E bk b n xs sa := ⟨F, B, hX, hbl, hbA, hrest⟩
  refine g_aload_n F 3 dL_law_1269 rfl rfl ?_
  refine g_aload_n F 4 dL_law_1270 rfl rfl ?_
  refine g_iload F 0 dL_law_1271 rfl ?_
  refine g_iconst (v := nI 1) F dL_law_1273 (by decide) ?_
  refine g_iadd (v := nI (6 * c + 1)) F dL_law_1274 (nI_add (6 * c) 1) ?_
  refine g_sld (v := xs (6 * c + 1)) F hX hbl hbA (vp_in_nI (n := 6 * c + 1) (by omega) (by omega)) (congrArg xs (nI_clamp (n := 6 * c + 1) (by omega))) dL_law_1275 ?_
  obtain ⟨ra, rb, ea, eb, hI2, hab⟩ := alb_status hI (xs (6 * c + 1))
  refine u_callV0 (k := 0) (As := [.int (xs (6 * c + 1))]) (rest := []) F B (wX8_status (zl z) E hE bk (xs (6 * c + 1)) I J ea) mX8_status q1481 rfl s0 rfl rfl rfl (Nat.le_of_ble_eq_true rfl) dL_law_1276 (fun r1 I1 J1 h1 => ?_)
  rw [h1.1, h1.2.1, h1.2.2]
  refine g_st (sn := [.int ra]) rfl ?_
  refine g_pop F dL_law_1279 rfl ?_
  refine g_aload_n F 2 dL_law_1280 rfl rfl ?_
  refine g_aload_n F 4 dL_law_1281 rfl rfl ?_
  refine g_iload F 0 dL_law_1282 rfl ?_
  refine g_iconst (v := nI 1) F dL_law_1284 (by decide) ?_
  refine g_iadd (v := nI (6 * c + 1)) F dL_law_1285 (nI_add (6 * c) 1) ?_
  refine g_sld (v := xs (6 * c + 1)) F hX hbl hbA (vp_in_nI (n := 6 * c + 1) (by omega) (by omega)) (congrArg xs (nI_clamp (n := 6 * c + 1) (by omega))) dL_law_1286 ?_
  refine u_callV0 (k := 62) (As := [.int (xs (6 * c + 1))]) (rest := []) F B (wX9_status (zl z) E hE bk (xs (6 * c + 1)) I J eb) mX9_status q1497 rfl s62 rfl rfl rfl (Nat.le_of_ble_eq_true rfl) dL_law_1287 (fun r2 I2 J2 h2 => ?_)
  rw [h2.1, h2.2.1, h2.2.2]
  refine g_st (sn := [.int rb]) rfl ?_
  refine g_pop F dL_law_1290 rfl ?_
  refine g_goto (tgt := 1604) F dL_law_1291 (by decide) ?_
  refine g_sub (Ln := LV5 E b c) [0, 1, 2, 3, 4] rfl ?_
  exact hend _ _ _ Z hK.next hI2
set_option maxRecDepth 100000 in
set_option maxHeartbeats 4000000 in
theorem law_c31 {z : gZ} {E : gE} {bk b n sa c : Nat} {xs : Nat → Int32} {I : gM} {J : gN} (hE : gDist sh E) (Z : LZ z E bk b n xs sa) (hK : LK z c) (hn : 6 * c + 6 ≤ n) (hN : n ≤ 3072) (hI : InvB I) (hend : LE E bk b n sa c xs) : G z 1294 (LV5 E b c) [] I J := by
  have hc : 6 * c + 6 ≤ 3072 := Nat.le_trans hn hN
  obtain ⟨F, B, hX, hbl, hbA, hrest⟩ := Z
  have Z : LZ z E bk b n xs sa := ⟨F, B, hX, hbl, hbA, hrest⟩
  refine g_aload_n F 3 dL_law_1294 rfl rfl ?_
  obtain ⟨ra, rb, ea, eb, hI2, hab⟩ := alb_undo hI
  refine u_callV0 (k := 0) (As := []) (rest := []) F B (wX8_undo (zl z) E hE bk I J ea) mX8_undo q1482 rfl s0 rfl rfl rfl (Nat.le_of_ble_eq_true rfl) dL_law_1295 (fun r1 I1 J1 h1 => ?_)
  rw [h1.1, h1.2.1, h1.2.2]
  refine g_st (sn := [.int ra.1]) rfl ?_
  refine g_pop F dL_law_1298 rfl ?_
  refine g_aload_n F 2 dL_law_1299 rfl rfl ?_
  refine u_callV0 (k := 62) (As := []) (rest := []) F B (wX9_undo (zl z) E hE bk ra.2 J eb) mX9_undo q1498 rfl s62 rfl rfl rfl (Nat.le_of_ble_eq_true rfl) dL_law_1300 (fun r2 I2 J2 h2 => ?_)
  rw [h2.1, h2.2.1, h2.2.2]
  refine g_st (sn := [.int rb.1]) rfl ?_
  refine g_pop F dL_law_1303 rfl ?_
  refine g_goto (tgt := 1604) F dL_law_1304 (by decide) ?_
  refine g_sub (Ln := LV5 E b c) [0, 1, 2, 3, 4] rfl ?_
  exact hend _ _ _ Z hK.next hI2
set_option maxRecDepth 100000 in
set_option maxHeartbeats 4000000 in
theorem law_c32 {z : gZ} {E : gE} {bk b n sa c : Nat} {xs : Nat → Int32} {I : gM} {J : gN} (hE : gDist sh E) (Z : LZ z E bk b n xs sa) (hK : LK z c) (hn : 6 * c + 6 ≤ n) (hN : n ≤ 3072) (hI : InvB I) (hend : LE E bk b n sa c xs) : G z 1307 (LV5 E b c) [] I J := by
  have hc : 6 * c + 6 ≤ 3072 := Nat.le_trans hn hN
  obtain ⟨F, B, hX, hbl, hbA, hrest⟩ := Z
  have Z : LZ z E bk b n xs sa := ⟨F, B, hX, hbl, hbA, hrest⟩
  refine g_aload_n F 3 dL_law_1307 rfl rfl ?_
  refine g_aload_n F 4 dL_law_1308 rfl rfl ?_
  refine g_iload F 0 dL_law_1309 rfl ?_
  refine g_iconst (v := nI 1) F dL_law_1311 (by decide) ?_
  refine g_iadd (v := nI (6 * c + 1)) F dL_law_1312 (nI_add (6 * c) 1) ?_
  refine g_sld (v := xs (6 * c + 1)) F hX hbl hbA (vp_in_nI (n := 6 * c + 1) (by omega) (by omega)) (congrArg xs (nI_clamp (n := 6 * c + 1) (by omega))) dL_law_1313 ?_
  refine g_aload_n F 4 dL_law_1314 rfl rfl ?_
  refine g_iload F 0 dL_law_1315 rfl ?_
  refine g_iconst (v := nI 2) F dL_law_1317 (by decide) ?_
  refine g_iadd (v := nI (6 * c + 2)) F dL_law_1318 (nI_add (6 * c) 2) ?_
  refine g_sld (v := xs (6 * c + 2)) F hX hbl hbA (vp_in_nI (n := 6 * c + 2) (by omega) (by omega)) (congrArg xs (nI_clamp (n := 6 * c + 2) (by omega))) dL_law_1319 ?_
  obtain ⟨ra, rb, ea, eb, hI2, hab⟩ := alb_log hI (xs (6 * c + 1)) (xs (6 * c + 2))
  refine u_callV0 (k := 0) (As := [.int (xs (6 * c + 1)), .int (xs (6 * c + 2))]) (rest := []) F B (wX8_log (zl z) E hE bk (xs (6 * c + 1)) (xs (6 * c + 2)) I J ea) mX8_log q1483 rfl s0 rfl rfl rfl (Nat.le_of_ble_eq_true rfl) dL_law_1320 (fun r1 I1 J1 h1 => ?_)
  rw [h1.1, h1.2.1, h1.2.2]
  refine g_st (sn := [.int ra]) rfl ?_
  refine g_pop F dL_law_1323 rfl ?_
  refine g_aload_n F 2 dL_law_1324 rfl rfl ?_
  refine g_aload_n F 4 dL_law_1325 rfl rfl ?_
  refine g_iload F 0 dL_law_1326 rfl ?_
  refine g_iconst (v := nI 1) F dL_law_1328 (by decide) ?_
  refine g_iadd (v := nI (6 * c + 1)) F dL_law_1329 (nI_add (6 * c) 1) ?_
  refine g_sld (v := xs (6 * c + 1)) F hX hbl hbA (vp_in_nI (n := 6 * c + 1) (by omega) (by omega)) (congrArg xs (nI_clamp (n := 6 * c + 1) (by omega))) dL_law_1330 ?_
  refine g_aload_n F 4 dL_law_1331 rfl rfl ?_
  refine g_iload F 0 dL_law_1332 rfl ?_
  refine g_iconst (v := nI 2) F dL_law_1334 (by decide) ?_
  refine g_iadd (v := nI (6 * c + 2)) F dL_law_1335 (nI_add (6 * c) 2) ?_
  refine g_sld (v := xs (6 * c + 2)) F hX hbl hbA (vp_in_nI (n := 6 * c + 2) (by omega) (by omega)) (congrArg xs (nI_clamp (n := 6 * c + 2) (by omega))) dL_law_1336 ?_
  refine u_callV0 (k := 62) (As := [.int (xs (6 * c + 1)), .int (xs (6 * c + 2))]) (rest := []) F B (wX9_log (zl z) E hE bk (xs (6 * c + 1)) (xs (6 * c + 2)) I J eb) mX9_log q1499 rfl s62 rfl rfl rfl (Nat.le_of_ble_eq_true rfl) dL_law_1337 (fun r2 I2 J2 h2 => ?_)
  rw [h2.1, h2.2.1, h2.2.2]
  refine g_st (sn := [.int rb]) rfl ?_
  refine g_pop F dL_law_1340 rfl ?_
  refine g_goto (tgt := 1604) F dL_law_1341 (by decide) ?_
  refine g_sub (Ln := LV5 E b c) [0, 1, 2, 3, 4] rfl ?_
  exact hend _ _ _ Z hK.next hI2
set_option maxRecDepth 100000 in
set_option maxHeartbeats 4000000 in
theorem law_c33 {z : gZ} {E : gE} {bk b n sa c : Nat} {xs : Nat → Int32} {I : gM} {J : gN} (hE : gDist sh E) (Z : LZ z E bk b n xs sa) (hK : LK z c) (hn : 6 * c + 6 ≤ n) (hN : n ≤ 3072) (hI : InvB I) (hend : LE E bk b n sa c xs) : G z 1344 (LV5 E b c) [] I J := by
  have hc : 6 * c + 6 ≤ 3072 := Nat.le_trans hn hN
  obtain ⟨F, B, hX, hbl, hbA, hrest⟩ := Z
  have Z : LZ z E bk b n xs sa := ⟨F, B, hX, hbl, hbA, hrest⟩
  refine g_aload_n F 3 dL_law_1344 rfl rfl ?_
  refine g_aload_n F 4 dL_law_1345 rfl rfl ?_
  refine g_iload F 0 dL_law_1346 rfl ?_
  refine g_iconst (v := nI 1) F dL_law_1348 (by decide) ?_
  refine g_iadd (v := nI (6 * c + 1)) F dL_law_1349 (nI_add (6 * c) 1) ?_
  refine g_sld (v := xs (6 * c + 1)) F hX hbl hbA (vp_in_nI (n := 6 * c + 1) (by omega) (by omega)) (congrArg xs (nI_clamp (n := 6 * c + 1) (by omega))) dL_law_1350 ?_
  refine g_aload_n F 4 dL_law_1351 rfl rfl ?_
  refine g_iload F 0 dL_law_1352 rfl ?_
  refine g_iconst (v := nI 2) F dL_law_1354 (by decide) ?_
  refine g_iadd (v := nI (6 * c + 2)) F dL_law_1355 (nI_add (6 * c) 2) ?_
  refine g_sld (v := xs (6 * c + 2)) F hX hbl hbA (vp_in_nI (n := 6 * c + 2) (by omega) (by omega)) (congrArg xs (nI_clamp (n := 6 * c + 2) (by omega))) dL_law_1356 ?_
  refine g_aload_n F 4 dL_law_1357 rfl rfl ?_
  refine g_iload F 0 dL_law_1358 rfl ?_
  refine g_iconst (v := nI 3) F dL_law_1360 (by decide) ?_
  refine g_iadd (v := nI (6 * c + 3)) F dL_law_1361 (nI_add (6 * c) 3) ?_
  refine g_sld (v := xs (6 * c + 3)) F hX hbl hbA (vp_in_nI (n := 6 * c + 3) (by omega) (by omega)) (congrArg xs (nI_clamp (n := 6 * c + 3) (by omega))) dL_law_1362 ?_
  refine g_aload_n F 4 dL_law_1363 rfl rfl ?_
  refine g_iload F 0 dL_law_1364 rfl ?_
  refine g_iconst (v := nI 4) F dL_law_1366 (by decide) ?_
  refine g_iadd (v := nI (6 * c + 4)) F dL_law_1367 (nI_add (6 * c) 4) ?_
  refine g_sld (v := xs (6 * c + 4)) F hX hbl hbA (vp_in_nI (n := 6 * c + 4) (by omega) (by omega)) (congrArg xs (nI_clamp (n := 6 * c + 4) (by omega))) dL_law_1368 ?_
  refine g_aload_n F 4 dL_law_1369 rfl rfl ?_
  refine g_iload F 0 dL_law_1370 rfl ?_
  refine g_iconst (v := nI 5) F dL_law_1372 (by decide) ?_
  refine g_iadd (v := nI (6 * c + 5)) F dL_law_1373 (nI_add (6 * c) 5) ?_
  refine g_sld (v := xs (6 * c + 5)) F hX hbl hbA (vp_in_nI (n := 6 * c + 5) (by omega) (by omega)) (congrArg xs (nI_clamp (n := 6 * c + 5) (by omega))) dL_law_1374 ?_
  obtain ⟨ra, rb, ea, eb, hI2, hab⟩ := alb_would hI (xs (6 * c + 1)) (xs (6 * c + 2)) (xs (6 * c + 3)) (xs (6 * c + 4)) (xs (6 * c + 5))
  refine u_callV0 (k := 0) (As := [.int (xs (6 * c + 1)), .int (xs (6 * c + 2)), .int (xs (6 * c + 3)), .int (xs (6 * c + 4)), .int (xs (6 * c + 5))]) (rest := []) F B (wX8_would (zl z) E hE bk (xs (6 * c + 1)) (xs (6 * c + 2)) (xs (6 * c + 3)) (xs (6 * c + 4)) (xs (6 * c + 5)) I J ea) mX8_would q1484 rfl s0 rfl rfl rfl (Nat.le_of_ble_eq_true rfl) dL_law_1375 (fun r1 I1 J1 h1 => ?_)
  rw [h1.1, h1.2.1, h1.2.2]
  refine g_st (sn := [.int ra.1]) rfl ?_
  refine g_pop F dL_law_1378 rfl ?_
  refine g_aload_n F 2 dL_law_1379 rfl rfl ?_
  refine g_aload_n F 4 dL_law_1380 rfl rfl ?_
  refine g_iload F 0 dL_law_1381 rfl ?_
  refine g_iconst (v := nI 1) F dL_law_1383 (by decide) ?_
  refine g_iadd (v := nI (6 * c + 1)) F dL_law_1384 (nI_add (6 * c) 1) ?_
  refine g_sld (v := xs (6 * c + 1)) F hX hbl hbA (vp_in_nI (n := 6 * c + 1) (by omega) (by omega)) (congrArg xs (nI_clamp (n := 6 * c + 1) (by omega))) dL_law_1385 ?_
  refine g_aload_n F 4 dL_law_1386 rfl rfl ?_
  refine g_iload F 0 dL_law_1387 rfl ?_
  refine g_iconst (v := nI 2) F dL_law_1389 (by decide) ?_
  refine g_iadd (v := nI (6 * c + 2)) F dL_law_1390 (nI_add (6 * c) 2) ?_
  refine g_sld (v := xs (6 * c + 2)) F hX hbl hbA (vp_in_nI (n := 6 * c + 2) (by omega) (by omega)) (congrArg xs (nI_clamp (n := 6 * c + 2) (by omega))) dL_law_1391 ?_
  refine g_aload_n F 4 dL_law_1392 rfl rfl ?_
  refine g_iload F 0 dL_law_1393 rfl ?_
  refine g_iconst (v := nI 3) F dL_law_1395 (by decide) ?_
  refine g_iadd (v := nI (6 * c + 3)) F dL_law_1396 (nI_add (6 * c) 3) ?_
  refine g_sld (v := xs (6 * c + 3)) F hX hbl hbA (vp_in_nI (n := 6 * c + 3) (by omega) (by omega)) (congrArg xs (nI_clamp (n := 6 * c + 3) (by omega))) dL_law_1397 ?_
  refine g_aload_n F 4 dL_law_1398 rfl rfl ?_
  refine g_iload F 0 dL_law_1399 rfl ?_
  refine g_iconst (v := nI 4) F dL_law_1401 (by decide) ?_
  refine g_iadd (v := nI (6 * c + 4)) F dL_law_1402 (nI_add (6 * c) 4) ?_
  refine g_sld (v := xs (6 * c + 4)) F hX hbl hbA (vp_in_nI (n := 6 * c + 4) (by omega) (by omega)) (congrArg xs (nI_clamp (n := 6 * c + 4) (by omega))) dL_law_1403 ?_
  refine g_aload_n F 4 dL_law_1404 rfl rfl ?_
  refine g_iload F 0 dL_law_1405 rfl ?_
  refine g_iconst (v := nI 5) F dL_law_1407 (by decide) ?_
  refine g_iadd (v := nI (6 * c + 5)) F dL_law_1408 (nI_add (6 * c) 5) ?_
  refine g_sld (v := xs (6 * c + 5)) F hX hbl hbA (vp_in_nI (n := 6 * c + 5) (by omega) (by omega)) (congrArg xs (nI_clamp (n := 6 * c + 5) (by omega))) dL_law_1409 ?_
  refine u_callV0 (k := 62) (As := [.int (xs (6 * c + 1)), .int (xs (6 * c + 2)), .int (xs (6 * c + 3)), .int (xs (6 * c + 4)), .int (xs (6 * c + 5))]) (rest := []) F B (wX9_would (zl z) E hE bk (xs (6 * c + 1)) (xs (6 * c + 2)) (xs (6 * c + 3)) (xs (6 * c + 4)) (xs (6 * c + 5)) ra.2 J eb) mX9_would q1519 rfl s62 rfl rfl rfl (Nat.le_of_ble_eq_true rfl) dL_law_1410 (fun r2 I2 J2 h2 => ?_)
  rw [h2.1, h2.2.1, h2.2.2]
  refine g_st (sn := [.int rb.1]) rfl ?_
  refine g_pop F dL_law_1413 rfl ?_
  refine g_goto (tgt := 1604) F dL_law_1414 (by decide) ?_
  refine g_sub (Ln := LV5 E b c) [0, 1, 2, 3, 4] rfl ?_
  exact hend _ _ _ Z hK.next hI2
set_option maxRecDepth 100000 in
set_option maxHeartbeats 4000000 in
theorem law_c34 {z : gZ} {E : gE} {bk b n sa c : Nat} {xs : Nat → Int32} {I : gM} {J : gN} (hE : gDist sh E) (Z : LZ z E bk b n xs sa) (hK : LK z c) (hn : 6 * c + 6 ≤ n) (hN : n ≤ 3072) (hI : InvB I) (hend : LE E bk b n sa c xs) : G z 1417 (LV5 E b c) [] I J := by
  have hc : 6 * c + 6 ≤ 3072 := Nat.le_trans hn hN
  obtain ⟨F, B, hX, hbl, hbA, hrest⟩ := Z
  have Z : LZ z E bk b n xs sa := ⟨F, B, hX, hbl, hbA, hrest⟩
  refine g_aload_n F 3 dL_law_1417 rfl rfl ?_
  refine g_aload_n F 4 dL_law_1418 rfl rfl ?_
  refine g_iload F 0 dL_law_1419 rfl ?_
  refine g_iconst (v := nI 1) F dL_law_1421 (by decide) ?_
  refine g_iadd (v := nI (6 * c + 1)) F dL_law_1422 (nI_add (6 * c) 1) ?_
  refine g_sld (v := xs (6 * c + 1)) F hX hbl hbA (vp_in_nI (n := 6 * c + 1) (by omega) (by omega)) (congrArg xs (nI_clamp (n := 6 * c + 1) (by omega))) dL_law_1423 ?_
  refine g_aload_n F 4 dL_law_1424 rfl rfl ?_
  refine g_iload F 0 dL_law_1425 rfl ?_
  refine g_iconst (v := nI 2) F dL_law_1427 (by decide) ?_
  refine g_iadd (v := nI (6 * c + 2)) F dL_law_1428 (nI_add (6 * c) 2) ?_
  refine g_sld (v := xs (6 * c + 2)) F hX hbl hbA (vp_in_nI (n := 6 * c + 2) (by omega) (by omega)) (congrArg xs (nI_clamp (n := 6 * c + 2) (by omega))) dL_law_1429 ?_
  refine g_aload_n F 4 dL_law_1430 rfl rfl ?_
  refine g_iload F 0 dL_law_1431 rfl ?_
  refine g_iconst (v := nI 3) F dL_law_1433 (by decide) ?_
  refine g_iadd (v := nI (6 * c + 3)) F dL_law_1434 (nI_add (6 * c) 3) ?_
  refine g_sld (v := xs (6 * c + 3)) F hX hbl hbA (vp_in_nI (n := 6 * c + 3) (by omega) (by omega)) (congrArg xs (nI_clamp (n := 6 * c + 3) (by omega))) dL_law_1435 ?_
  obtain ⟨ra, rb, ea, eb, hI2, hab⟩ := alb_step hI (xs (6 * c + 1)) (xs (6 * c + 2)) (xs (6 * c + 3))
  refine u_callV0 (k := 0) (As := [.int (xs (6 * c + 1)), .int (xs (6 * c + 2)), .int (xs (6 * c + 3))]) (rest := []) F B (wX8_step (zl z) E hE bk (xs (6 * c + 1)) (xs (6 * c + 2)) (xs (6 * c + 3)) I J ea) mX8_step q1485 rfl s0 rfl rfl rfl (Nat.le_of_ble_eq_true rfl) dL_law_1436 (fun r1 I1 J1 h1 => ?_)
  rw [h1.1, h1.2.1, h1.2.2]
  refine g_st (sn := [.int ra]) rfl ?_
  refine g_pop F dL_law_1439 rfl ?_
  refine g_aload_n F 2 dL_law_1440 rfl rfl ?_
  refine g_aload_n F 4 dL_law_1441 rfl rfl ?_
  refine g_iload F 0 dL_law_1442 rfl ?_
  refine g_iconst (v := nI 1) F dL_law_1444 (by decide) ?_
  refine g_iadd (v := nI (6 * c + 1)) F dL_law_1445 (nI_add (6 * c) 1) ?_
  refine g_sld (v := xs (6 * c + 1)) F hX hbl hbA (vp_in_nI (n := 6 * c + 1) (by omega) (by omega)) (congrArg xs (nI_clamp (n := 6 * c + 1) (by omega))) dL_law_1446 ?_
  refine g_aload_n F 4 dL_law_1447 rfl rfl ?_
  refine g_iload F 0 dL_law_1448 rfl ?_
  refine g_iconst (v := nI 2) F dL_law_1450 (by decide) ?_
  refine g_iadd (v := nI (6 * c + 2)) F dL_law_1451 (nI_add (6 * c) 2) ?_
  refine g_sld (v := xs (6 * c + 2)) F hX hbl hbA (vp_in_nI (n := 6 * c + 2) (by omega) (by omega)) (congrArg xs (nI_clamp (n := 6 * c + 2) (by omega))) dL_law_1452 ?_
  refine g_aload_n F 4 dL_law_1453 rfl rfl ?_
  refine g_iload F 0 dL_law_1454 rfl ?_
  refine g_iconst (v := nI 3) F dL_law_1456 (by decide) ?_
  refine g_iadd (v := nI (6 * c + 3)) F dL_law_1457 (nI_add (6 * c) 3) ?_
  refine g_sld (v := xs (6 * c + 3)) F hX hbl hbA (vp_in_nI (n := 6 * c + 3) (by omega) (by omega)) (congrArg xs (nI_clamp (n := 6 * c + 3) (by omega))) dL_law_1458 ?_
  refine u_callV0 (k := 62) (As := [.int (xs (6 * c + 1)), .int (xs (6 * c + 2)), .int (xs (6 * c + 3))]) (rest := []) F B (wX9_step (zl z) E hE bk (xs (6 * c + 1)) (xs (6 * c + 2)) (xs (6 * c + 3)) I J eb) mX9_step q1520 rfl s62 rfl rfl rfl (Nat.le_of_ble_eq_true rfl) dL_law_1459 (fun r2 I2 J2 h2 => ?_)
  rw [h2.1, h2.2.1, h2.2.2]
  refine g_st (sn := [.int rb]) rfl ?_
  refine g_pop F dL_law_1462 rfl ?_
  refine g_goto (tgt := 1604) F dL_law_1463 (by decide) ?_
  refine g_sub (Ln := LV5 E b c) [0, 1, 2, 3, 4] rfl ?_
  exact hend _ _ _ Z hK.next hI2
set_option maxRecDepth 100000 in
set_option maxHeartbeats 4000000 in
theorem law_c35 {z : gZ} {E : gE} {bk b n sa c : Nat} {xs : Nat → Int32} {I : gM} {J : gN} (hE : gDist sh E) (Z : LZ z E bk b n xs sa) (hK : LK z c) (hn : 6 * c + 6 ≤ n) (hN : n ≤ 3072) (hI : InvB I) (hend : LE E bk b n sa c xs) : G z 1466 (LV5 E b c) [] I J := by
  have hc : 6 * c + 6 ≤ 3072 := Nat.le_trans hn hN
  obtain ⟨F, B, hX, hbl, hbA, hrest⟩ := Z
  have Z : LZ z E bk b n xs sa := ⟨F, B, hX, hbl, hbA, hrest⟩
  refine g_aload_n F 3 dL_law_1466 rfl rfl ?_
  refine g_aload_n F 4 dL_law_1467 rfl rfl ?_
  refine g_iload F 0 dL_law_1468 rfl ?_
  refine g_iconst (v := nI 1) F dL_law_1470 (by decide) ?_
  refine g_iadd (v := nI (6 * c + 1)) F dL_law_1471 (nI_add (6 * c) 1) ?_
  refine g_sld (v := xs (6 * c + 1)) F hX hbl hbA (vp_in_nI (n := 6 * c + 1) (by omega) (by omega)) (congrArg xs (nI_clamp (n := 6 * c + 1) (by omega))) dL_law_1472 ?_
  refine g_aload_n F 4 dL_law_1473 rfl rfl ?_
  refine g_iload F 0 dL_law_1474 rfl ?_
  refine g_iconst (v := nI 2) F dL_law_1476 (by decide) ?_
  refine g_iadd (v := nI (6 * c + 2)) F dL_law_1477 (nI_add (6 * c) 2) ?_
  refine g_sld (v := xs (6 * c + 2)) F hX hbl hbA (vp_in_nI (n := 6 * c + 2) (by omega) (by omega)) (congrArg xs (nI_clamp (n := 6 * c + 2) (by omega))) dL_law_1478 ?_
  obtain ⟨ra, rb, ea, eb, hI2, hab⟩ := alb_run hI (xs (6 * c + 1)) (xs (6 * c + 2))
  refine u_callV0 (k := 0) (As := [.int (xs (6 * c + 1)), .int (xs (6 * c + 2))]) (rest := []) F B (wX8_run (zl z) E hE bk (xs (6 * c + 1)) (xs (6 * c + 2)) I J ea) mX8_run q1486 rfl s0 rfl rfl rfl (Nat.le_of_ble_eq_true rfl) dL_law_1479 (fun r1 I1 J1 h1 => ?_)
  rw [h1.1, h1.2.1, h1.2.2]
  refine g_st (sn := [.int ra.1]) rfl ?_
  refine g_pop F dL_law_1482 rfl ?_
  refine g_aload_n F 2 dL_law_1483 rfl rfl ?_
  refine g_aload_n F 4 dL_law_1484 rfl rfl ?_
  refine g_iload F 0 dL_law_1485 rfl ?_
  refine g_iconst (v := nI 1) F dL_law_1487 (by decide) ?_
  refine g_iadd (v := nI (6 * c + 1)) F dL_law_1488 (nI_add (6 * c) 1) ?_
  refine g_sld (v := xs (6 * c + 1)) F hX hbl hbA (vp_in_nI (n := 6 * c + 1) (by omega) (by omega)) (congrArg xs (nI_clamp (n := 6 * c + 1) (by omega))) dL_law_1489 ?_
  refine g_aload_n F 4 dL_law_1490 rfl rfl ?_
  refine g_iload F 0 dL_law_1491 rfl ?_
  refine g_iconst (v := nI 2) F dL_law_1493 (by decide) ?_
  refine g_iadd (v := nI (6 * c + 2)) F dL_law_1494 (nI_add (6 * c) 2) ?_
  refine g_sld (v := xs (6 * c + 2)) F hX hbl hbA (vp_in_nI (n := 6 * c + 2) (by omega) (by omega)) (congrArg xs (nI_clamp (n := 6 * c + 2) (by omega))) dL_law_1495 ?_
  refine u_callV0 (k := 62) (As := [.int (xs (6 * c + 1)), .int (xs (6 * c + 2))]) (rest := []) F B (wX9_run (zl z) E hE bk (xs (6 * c + 1)) (xs (6 * c + 2)) ra.2 J eb) mX9_run q1521 rfl s62 rfl rfl rfl (Nat.le_of_ble_eq_true rfl) dL_law_1496 (fun r2 I2 J2 h2 => ?_)
  rw [h2.1, h2.2.1, h2.2.2]
  refine g_st (sn := [.int rb.1]) rfl ?_
  refine g_pop F dL_law_1499 rfl ?_
  refine g_goto (tgt := 1604) F dL_law_1500 (by decide) ?_
  refine g_sub (Ln := LV5 E b c) [0, 1, 2, 3, 4] rfl ?_
  exact hend _ _ _ Z hK.next hI2
set_option maxRecDepth 100000 in
set_option maxHeartbeats 4000000 in
theorem law_c36 {z : gZ} {E : gE} {bk b n sa c : Nat} {xs : Nat → Int32} {I : gM} {J : gN} (hE : gDist sh E) (Z : LZ z E bk b n xs sa) (hK : LK z c) (hn : 6 * c + 6 ≤ n) (hN : n ≤ 3072) (hI : InvB I) (hend : LE E bk b n sa c xs) : G z 1503 (LV5 E b c) [] I J := by
  have hc : 6 * c + 6 ≤ 3072 := Nat.le_trans hn hN
  obtain ⟨F, B, hX, hbl, hbA, hrest⟩ := Z
  have Z : LZ z E bk b n xs sa := ⟨F, B, hX, hbl, hbA, hrest⟩
  refine g_aload_n F 3 dL_law_1503 rfl rfl ?_
  refine g_aload_n F 4 dL_law_1504 rfl rfl ?_
  refine g_iload F 0 dL_law_1505 rfl ?_
  refine g_iconst (v := nI 1) F dL_law_1507 (by decide) ?_
  refine g_iadd (v := nI (6 * c + 1)) F dL_law_1508 (nI_add (6 * c) 1) ?_
  refine g_sld (v := xs (6 * c + 1)) F hX hbl hbA (vp_in_nI (n := 6 * c + 1) (by omega) (by omega)) (congrArg xs (nI_clamp (n := 6 * c + 1) (by omega))) dL_law_1509 ?_
  obtain ⟨ra, rb, ea, eb, hI2, hab⟩ := alb_perform hI (xs (6 * c + 1))
  refine u_callV0 (k := 0) (As := [.int (xs (6 * c + 1))]) (rest := []) F B (wX8_perform (zl z) E hE bk (xs (6 * c + 1)) I J ea) mX8_perform q1487 rfl s0 rfl rfl rfl (Nat.le_of_ble_eq_true rfl) dL_law_1510 (fun r1 I1 J1 h1 => ?_)
  rw [h1.1, h1.2.1, h1.2.2]
  refine g_st (sn := [.int ra.1]) rfl ?_
  refine g_pop F dL_law_1513 rfl ?_
  refine g_aload_n F 2 dL_law_1514 rfl rfl ?_
  refine g_aload_n F 4 dL_law_1515 rfl rfl ?_
  refine g_iload F 0 dL_law_1516 rfl ?_
  refine g_iconst (v := nI 1) F dL_law_1518 (by decide) ?_
  refine g_iadd (v := nI (6 * c + 1)) F dL_law_1519 (nI_add (6 * c) 1) ?_
  refine g_sld (v := xs (6 * c + 1)) F hX hbl hbA (vp_in_nI (n := 6 * c + 1) (by omega) (by omega)) (congrArg xs (nI_clamp (n := 6 * c + 1) (by omega))) dL_law_1520 ?_
  refine u_callV0 (k := 62) (As := [.int (xs (6 * c + 1))]) (rest := []) F B (wX9_perform (zl z) E hE bk (xs (6 * c + 1)) ra.2 J eb) mX9_perform q1522 rfl s62 rfl rfl rfl (Nat.le_of_ble_eq_true rfl) dL_law_1521 (fun r2 I2 J2 h2 => ?_)
  rw [h2.1, h2.2.1, h2.2.2]
  refine g_st (sn := [.int rb.1]) rfl ?_
  refine g_pop F dL_law_1524 rfl ?_
  refine g_goto (tgt := 1604) F dL_law_1525 (by decide) ?_
  refine g_sub (Ln := LV5 E b c) [0, 1, 2, 3, 4] rfl ?_
  exact hend _ _ _ Z hK.next hI2
set_option maxRecDepth 100000 in
set_option maxHeartbeats 4000000 in
theorem law_c37 {z : gZ} {E : gE} {bk b n sa c : Nat} {xs : Nat → Int32} {I : gM} {J : gN} (hE : gDist sh E) (Z : LZ z E bk b n xs sa) (hK : LK z c) (hn : 6 * c + 6 ≤ n) (hN : n ≤ 3072) (hI : InvB I) (hend : LE E bk b n sa c xs) : G z 1528 (LV5 E b c) [] I J := by
  have hc : 6 * c + 6 ≤ 3072 := Nat.le_trans hn hN
  obtain ⟨F, B, hX, hbl, hbA, hrest⟩ := Z
  have Z : LZ z E bk b n xs sa := ⟨F, B, hX, hbl, hbA, hrest⟩
  refine g_aload_n F 3 dL_law_1528 rfl rfl ?_
  refine g_aload_n F 4 dL_law_1529 rfl rfl ?_
  refine g_iload F 0 dL_law_1530 rfl ?_
  refine g_iconst (v := nI 1) F dL_law_1532 (by decide) ?_
  refine g_iadd (v := nI (6 * c + 1)) F dL_law_1533 (nI_add (6 * c) 1) ?_
  refine g_sld (v := xs (6 * c + 1)) F hX hbl hbA (vp_in_nI (n := 6 * c + 1) (by omega) (by omega)) (congrArg xs (nI_clamp (n := 6 * c + 1) (by omega))) dL_law_1534 ?_
  obtain ⟨ra, rb, ea, eb, hI2, hab⟩ := alb_most hI (xs (6 * c + 1))
  refine u_callV0 (k := 0) (As := [.int (xs (6 * c + 1))]) (rest := []) F B (wX8_most (zl z) E hE bk (xs (6 * c + 1)) I J ea) mX8_most q1488 rfl s0 rfl rfl rfl (Nat.le_of_ble_eq_true rfl) dL_law_1535 (fun r1 I1 J1 h1 => ?_)
  rw [h1.1, h1.2.1, h1.2.2]
  refine g_st (sn := [.int ra.1]) rfl ?_
  refine g_pop F dL_law_1538 rfl ?_
  refine g_aload_n F 2 dL_law_1539 rfl rfl ?_
  refine g_aload_n F 4 dL_law_1540 rfl rfl ?_
  refine g_iload F 0 dL_law_1541 rfl ?_
  refine g_iconst (v := nI 1) F dL_law_1543 (by decide) ?_
  refine g_iadd (v := nI (6 * c + 1)) F dL_law_1544 (nI_add (6 * c) 1) ?_
  refine g_sld (v := xs (6 * c + 1)) F hX hbl hbA (vp_in_nI (n := 6 * c + 1) (by omega) (by omega)) (congrArg xs (nI_clamp (n := 6 * c + 1) (by omega))) dL_law_1545 ?_
  refine u_callV0 (k := 62) (As := [.int (xs (6 * c + 1))]) (rest := []) F B (wX9_most (zl z) E hE bk (xs (6 * c + 1)) ra.2 J eb) mX9_most q1523 rfl s62 rfl rfl rfl (Nat.le_of_ble_eq_true rfl) dL_law_1546 (fun r2 I2 J2 h2 => ?_)
  rw [h2.1, h2.2.1, h2.2.2]
  refine g_st (sn := [.int rb.1]) rfl ?_
  refine g_pop F dL_law_1549 rfl ?_
  refine g_goto (tgt := 1604) F dL_law_1550 (by decide) ?_
  refine g_sub (Ln := LV5 E b c) [0, 1, 2, 3, 4] rfl ?_
  exact hend _ _ _ Z hK.next hI2
set_option maxRecDepth 100000 in
set_option maxHeartbeats 4000000 in
theorem law_c38 {z : gZ} {E : gE} {bk b n sa c : Nat} {xs : Nat → Int32} {I : gM} {J : gN} (hE : gDist sh E) (Z : LZ z E bk b n xs sa) (hK : LK z c) (hn : 6 * c + 6 ≤ n) (hN : n ≤ 3072) (hI : InvB I) (hend : LE E bk b n sa c xs) : G z 1553 (LV5 E b c) [] I J := by
  have hc : 6 * c + 6 ≤ 3072 := Nat.le_trans hn hN
  obtain ⟨F, B, hX, hbl, hbA, hrest⟩ := Z
  have Z : LZ z E bk b n xs sa := ⟨F, B, hX, hbl, hbA, hrest⟩
  refine g_aload_n F 3 dL_law_1553 rfl rfl ?_
  obtain ⟨ra, rb, ea, eb, hI2, hab⟩ := alb_image hI
  refine u_callV0 (k := 0) (As := []) (rest := []) F B (wX8_image (zl z) E hE bk I J ea) mX8_image q1489 rfl s0 rfl rfl rfl (Nat.le_of_ble_eq_true rfl) dL_law_1554 (fun r1 I1 J1 h1 => ?_)
  rw [h1.1, h1.2.1, h1.2.2]
  refine g_st (sn := [.int ra.1]) rfl ?_
  refine g_pop F dL_law_1557 rfl ?_
  refine g_aload_n F 2 dL_law_1558 rfl rfl ?_
  refine u_callV0 (k := 62) (As := []) (rest := []) F B (wX9_image (zl z) E hE bk ra.2 J eb) mX9_image q1524 rfl s62 rfl rfl rfl (Nat.le_of_ble_eq_true rfl) dL_law_1559 (fun r2 I2 J2 h2 => ?_)
  rw [h2.1, h2.2.1, h2.2.2]
  refine g_st (sn := [.int rb.1]) rfl ?_
  refine g_pop F dL_law_1562 rfl ?_
  refine g_goto (tgt := 1604) F dL_law_1563 (by decide) ?_
  refine g_sub (Ln := LV5 E b c) [0, 1, 2, 3, 4] rfl ?_
  exact hend _ _ _ Z hK.next hI2
set_option maxRecDepth 100000 in
set_option maxHeartbeats 4000000 in
theorem law_c39 {z : gZ} {E : gE} {bk b n sa c : Nat} {xs : Nat → Int32} {I : gM} {J : gN} (hE : gDist sh E) (Z : LZ z E bk b n xs sa) (hK : LK z c) (hn : 6 * c + 6 ≤ n) (hN : n ≤ 3072) (hI : InvB I) (hend : LE E bk b n sa c xs) : G z 1566 (LV5 E b c) [] I J := by
  have hc : 6 * c + 6 ≤ 3072 := Nat.le_trans hn hN
  obtain ⟨F, B, hX, hbl, hbA, hrest⟩ := Z
  have Z : LZ z E bk b n xs sa := ⟨F, B, hX, hbl, hbA, hrest⟩
  refine g_aload_n F 3 dL_law_1566 rfl rfl ?_
  obtain ⟨ra, rb, ea, eb, hI2, hab⟩ := alb_back hI
  refine u_callV0 (k := 0) (As := []) (rest := []) F B (wX8_back (zl z) E hE bk I J ea) mX8_back q1490 rfl s0 rfl rfl rfl (Nat.le_of_ble_eq_true rfl) dL_law_1567 (fun r1 I1 J1 h1 => ?_)
  rw [h1.1, h1.2.1, h1.2.2]
  refine g_st (sn := [.int ra.1]) rfl ?_
  refine g_aload_n F 2 dL_law_1570 rfl rfl ?_
  refine u_callV0 (k := 62) (As := []) (rest := [.int ra.1]) F B (wX9_back (zl z) E hE bk ra.2 J eb) mX9_back q1525 rfl s62 rfl rfl rfl (Nat.le_of_ble_eq_true rfl) dL_law_1571 (fun r2 I2 J2 h2 => ?_)
  rw [h2.1, h2.2.1, h2.2.2]
  refine g_st (sn := [.int rb.1, .int ra.1]) rfl ?_
  refine g_icmp_eq (tgt := 1604) F dL_law_1574 (by decide) (fun _ => ?_) (fun h => absurd hab h)
  refine g_sub (Ln := LV5 E b c) [0, 1, 2, 3, 4] rfl ?_
  exact hend _ _ _ Z hK.next hI2
set_option maxRecDepth 100000 in
set_option maxHeartbeats 4000000 in
theorem law_c40 {z : gZ} {E : gE} {bk b n sa c : Nat} {xs : Nat → Int32} {I : gM} {J : gN} (hE : gDist sh E) (Z : LZ z E bk b n xs sa) (hK : LK z c) (hn : 6 * c + 6 ≤ n) (hN : n ≤ 3072) (hI : InvB I) (hend : LE E bk b n sa c xs) : G z 1579 (LV5 E b c) [] I J := by
  have hc : 6 * c + 6 ≤ 3072 := Nat.le_trans hn hN
  obtain ⟨F, B, hX, hbl, hbA, hrest⟩ := Z
  have Z : LZ z E bk b n xs sa := ⟨F, B, hX, hbl, hbA, hrest⟩
  refine g_aload_n F 3 dL_law_1579 rfl rfl ?_
  refine g_aload_n F 4 dL_law_1580 rfl rfl ?_
  refine g_iload F 0 dL_law_1581 rfl ?_
  refine g_iconst (v := nI 1) F dL_law_1583 (by decide) ?_
  refine g_iadd (v := nI (6 * c + 1)) F dL_law_1584 (nI_add (6 * c) 1) ?_
  refine g_sld (v := xs (6 * c + 1)) F hX hbl hbA (vp_in_nI (n := 6 * c + 1) (by omega) (by omega)) (congrArg xs (nI_clamp (n := 6 * c + 1) (by omega))) dL_law_1585 ?_
  obtain ⟨ra, rb, ea, eb, hI2, hab⟩ := alb_count hI (xs (6 * c + 1))
  refine u_callV0 (k := 0) (As := [.int (xs (6 * c + 1))]) (rest := []) F B (wX8_count (zl z) E hE bk (xs (6 * c + 1)) I J ea) mX8_count q1491 rfl s0 rfl rfl rfl (Nat.le_of_ble_eq_true rfl) dL_law_1586 (fun r1 I1 J1 h1 => ?_)
  rw [h1.1, h1.2.1, h1.2.2]
  refine g_st (sn := [.int ra]) rfl ?_
  refine g_pop F dL_law_1589 rfl ?_
  refine g_aload_n F 2 dL_law_1590 rfl rfl ?_
  refine g_aload_n F 4 dL_law_1591 rfl rfl ?_
  refine g_iload F 0 dL_law_1592 rfl ?_
  refine g_iconst (v := nI 1) F dL_law_1594 (by decide) ?_
  refine g_iadd (v := nI (6 * c + 1)) F dL_law_1595 (nI_add (6 * c) 1) ?_
  refine g_sld (v := xs (6 * c + 1)) F hX hbl hbA (vp_in_nI (n := 6 * c + 1) (by omega) (by omega)) (congrArg xs (nI_clamp (n := 6 * c + 1) (by omega))) dL_law_1596 ?_
  refine u_callV0 (k := 62) (As := [.int (xs (6 * c + 1))]) (rest := []) F B (wX9_count (zl z) E hE bk (xs (6 * c + 1)) I J eb) mX9_count q1526 rfl s62 rfl rfl rfl (Nat.le_of_ble_eq_true rfl) dL_law_1597 (fun r2 I2 J2 h2 => ?_)
  rw [h2.1, h2.2.1, h2.2.2]
  refine g_st (sn := [.int rb]) rfl ?_
  refine g_pop F dL_law_1600 rfl ?_
  refine g_goto (tgt := 1604) F dL_law_1601 (by decide) ?_
  refine g_sub (Ln := LV5 E b c) [0, 1, 2, 3, 4] rfl ?_
  exact hend _ _ _ Z hK.next hI2
set_option maxRecDepth 100000 in
set_option maxHeartbeats 4000000 in
theorem law_sw {z : gZ} {E : gE} {bk b n sa c : Nat} {xs : Nat → Int32} {x : Int32} {I : gM} {J : gN} (hE : gDist sh E) (Z : LZ z E bk b n xs sa) (hK : LK z c) (hn : 6 * c + 6 ≤ n) (hN : n ≤ 3072) (hI : InvB I) (hend : LE E bk b n sa c xs) : G z 40 (LV5 E b c) [.int x] I J := by
  have F := Z.1
  by_cases hr : 0 ≤ x.toInt ∧ x.toInt ≤ 40
  · obtain ⟨n, hn1⟩ := Int.eq_ofNat_of_zero_le hr.1
    have hn2 : n < 41 := by omega
    match n, hn1, hn2 with
    | 0, hn1, _ =>
      refine g_tableIn (tgt := 220) F dL_law_40 (by rw [hn1]; decide) (by rw [hn1]; decide) (by rw [hn1]; rfl) (by decide) ?_
      exact law_c0 hE Z hK hn hN hI hend
    | 1, hn1, _ =>
      refine g_tableIn (tgt := 293) F dL_law_40 (by rw [hn1]; decide) (by rw [hn1]; decide) (by rw [hn1]; rfl) (by decide) ?_
      exact law_c1 hE Z hK hn hN hI hend
    | 2, hn1, _ =>
      refine g_tableIn (tgt := 318) F dL_law_40 (by rw [hn1]; decide) (by rw [hn1]; decide) (by rw [hn1]; rfl) (by decide) ?_
      exact law_c2 hE Z hK hn hN hI hend
    | 3, hn1, _ =>
      refine g_tableIn (tgt := 343) F dL_law_40 (by rw [hn1]; decide) (by rw [hn1]; decide) (by rw [hn1]; rfl) (by decide) ?_
      exact law_c3 hE Z hK hn hN hI hend
    | 4, hn1, _ =>
      refine g_tableIn (tgt := 368) F dL_law_40 (by rw [hn1]; decide) (by rw [hn1]; decide) (by rw [hn1]; rfl) (by decide) ?_
      exact law_c4 hE Z hK hn hN hI hend
    | 5, hn1, _ =>
      refine g_tableIn (tgt := 393) F dL_law_40 (by rw [hn1]; decide) (by rw [hn1]; decide) (by rw [hn1]; rfl) (by decide) ?_
      exact law_c5 hE Z hK hn hN hI hend
    | 6, hn1, _ =>
      refine g_tableIn (tgt := 433) F dL_law_40 (by rw [hn1]; decide) (by rw [hn1]; decide) (by rw [hn1]; rfl) (by decide) ?_
      exact law_c6 hE Z hK hn hN hI hend
    | 7, hn1, _ =>
      refine g_tableIn (tgt := 482) F dL_law_40 (by rw [hn1]; decide) (by rw [hn1]; decide) (by rw [hn1]; rfl) (by decide) ?_
      exact law_c7 hE Z hK hn hN hI hend
    | 8, hn1, _ =>
      refine g_tableIn (tgt := 495) F dL_law_40 (by rw [hn1]; decide) (by rw [hn1]; decide) (by rw [hn1]; rfl) (by decide) ?_
      exact law_c8 hE Z hK hn hN hI hend
    | 9, hn1, _ =>
      refine g_tableIn (tgt := 532) F dL_law_40 (by rw [hn1]; decide) (by rw [hn1]; decide) (by rw [hn1]; rfl) (by decide) ?_
      exact law_c9 hE Z hK hn hN hI hend
    | 10, hn1, _ =>
      refine g_tableIn (tgt := 545) F dL_law_40 (by rw [hn1]; decide) (by rw [hn1]; decide) (by rw [hn1]; rfl) (by decide) ?_
      exact law_c10 hE Z hK hn hN hI hend
    | 11, hn1, _ =>
      refine g_tableIn (tgt := 570) F dL_law_40 (by rw [hn1]; decide) (by rw [hn1]; decide) (by rw [hn1]; rfl) (by decide) ?_
      exact law_c11 hE Z hK hn hN hI hend
    | 12, hn1, _ =>
      refine g_tableIn (tgt := 595) F dL_law_40 (by rw [hn1]; decide) (by rw [hn1]; decide) (by rw [hn1]; rfl) (by decide) ?_
      exact law_c12 hE Z hK hn hN hI hend
    | 13, hn1, _ =>
      refine g_tableIn (tgt := 608) F dL_law_40 (by rw [hn1]; decide) (by rw [hn1]; decide) (by rw [hn1]; rfl) (by decide) ?_
      exact law_c13 hE Z hK hn hN hI hend
    | 14, hn1, _ =>
      refine g_tableIn (tgt := 633) F dL_law_40 (by rw [hn1]; decide) (by rw [hn1]; decide) (by rw [hn1]; rfl) (by decide) ?_
      exact law_c14 hE Z hK hn hN hI hend
    | 15, hn1, _ =>
      refine g_tableIn (tgt := 658) F dL_law_40 (by rw [hn1]; decide) (by rw [hn1]; decide) (by rw [hn1]; rfl) (by decide) ?_
      exact law_c15 hE Z hK hn hN hI hend
    | 16, hn1, _ =>
      refine g_tableIn (tgt := 683) F dL_law_40 (by rw [hn1]; decide) (by rw [hn1]; decide) (by rw [hn1]; rfl) (by decide) ?_
      exact law_c16 hE Z hK hn hN hI hend
    | 17, hn1, _ =>
      refine g_tableIn (tgt := 720) F dL_law_40 (by rw [hn1]; decide) (by rw [hn1]; decide) (by rw [hn1]; rfl) (by decide) ?_
      exact law_c17 hE Z hK hn hN hI hend
    | 18, hn1, _ =>
      refine g_tableIn (tgt := 757) F dL_law_40 (by rw [hn1]; decide) (by rw [hn1]; decide) (by rw [hn1]; rfl) (by decide) ?_
      exact law_c18 hE Z hK hn hN hI hend
    | 19, hn1, _ =>
      refine g_tableIn (tgt := 794) F dL_law_40 (by rw [hn1]; decide) (by rw [hn1]; decide) (by rw [hn1]; rfl) (by decide) ?_
      exact law_c19 hE Z hK hn hN hI hend
    | 20, hn1, _ =>
      refine g_tableIn (tgt := 855) F dL_law_40 (by rw [hn1]; decide) (by rw [hn1]; decide) (by rw [hn1]; rfl) (by decide) ?_
      exact law_c20 hE Z hK hn hN hI hend
    | 21, hn1, _ =>
      refine g_tableIn (tgt := 916) F dL_law_40 (by rw [hn1]; decide) (by rw [hn1]; decide) (by rw [hn1]; rfl) (by decide) ?_
      exact law_c21 hE Z hK hn hN hI hend
    | 22, hn1, _ =>
      refine g_tableIn (tgt := 941) F dL_law_40 (by rw [hn1]; decide) (by rw [hn1]; decide) (by rw [hn1]; rfl) (by decide) ?_
      exact law_c22 hE Z hK hn hN hI hend
    | 23, hn1, _ =>
      refine g_tableIn (tgt := 978) F dL_law_40 (by rw [hn1]; decide) (by rw [hn1]; decide) (by rw [hn1]; rfl) (by decide) ?_
      exact law_c23 hE Z hK hn hN hI hend
    | 24, hn1, _ =>
      refine g_tableIn (tgt := 1003) F dL_law_40 (by rw [hn1]; decide) (by rw [hn1]; decide) (by rw [hn1]; rfl) (by decide) ?_
      exact law_c24 hE Z hK hn hN hI hend
    | 25, hn1, _ =>
      refine g_tableIn (tgt := 1028) F dL_law_40 (by rw [hn1]; decide) (by rw [hn1]; decide) (by rw [hn1]; rfl) (by decide) ?_
      exact law_c25 hE Z hK hn hN hI hend
    | 26, hn1, _ =>
      refine g_tableIn (tgt := 1089) F dL_law_40 (by rw [hn1]; decide) (by rw [hn1]; decide) (by rw [hn1]; rfl) (by decide) ?_
      exact law_c26 hE Z hK hn hN hI hend
    | 27, hn1, _ =>
      refine g_tableIn (tgt := 1150) F dL_law_40 (by rw [hn1]; decide) (by rw [hn1]; decide) (by rw [hn1]; rfl) (by decide) ?_
      exact law_c27 hE Z hK hn hN hI hend
    | 28, hn1, _ =>
      refine g_tableIn (tgt := 1175) F dL_law_40 (by rw [hn1]; decide) (by rw [hn1]; decide) (by rw [hn1]; rfl) (by decide) ?_
      exact law_c28 hE Z hK hn hN hI hend
    | 29, hn1, _ =>
      refine g_tableIn (tgt := 1200) F dL_law_40 (by rw [hn1]; decide) (by rw [hn1]; decide) (by rw [hn1]; rfl) (by decide) ?_
      exact law_c29 hE Z hK hn hN hI hend
    | 30, hn1, _ =>
      refine g_tableIn (tgt := 1269) F dL_law_40 (by rw [hn1]; decide) (by rw [hn1]; decide) (by rw [hn1]; rfl) (by decide) ?_
      exact law_c30 hE Z hK hn hN hI hend
    | 31, hn1, _ =>
      refine g_tableIn (tgt := 1294) F dL_law_40 (by rw [hn1]; decide) (by rw [hn1]; decide) (by rw [hn1]; rfl) (by decide) ?_
      exact law_c31 hE Z hK hn hN hI hend
    | 32, hn1, _ =>
      refine g_tableIn (tgt := 1307) F dL_law_40 (by rw [hn1]; decide) (by rw [hn1]; decide) (by rw [hn1]; rfl) (by decide) ?_
      exact law_c32 hE Z hK hn hN hI hend
    | 33, hn1, _ =>
      refine g_tableIn (tgt := 1344) F dL_law_40 (by rw [hn1]; decide) (by rw [hn1]; decide) (by rw [hn1]; rfl) (by decide) ?_
      exact law_c33 hE Z hK hn hN hI hend
    | 34, hn1, _ =>
      refine g_tableIn (tgt := 1417) F dL_law_40 (by rw [hn1]; decide) (by rw [hn1]; decide) (by rw [hn1]; rfl) (by decide) ?_
      exact law_c34 hE Z hK hn hN hI hend
    | 35, hn1, _ =>
      refine g_tableIn (tgt := 1466) F dL_law_40 (by rw [hn1]; decide) (by rw [hn1]; decide) (by rw [hn1]; rfl) (by decide) ?_
      exact law_c35 hE Z hK hn hN hI hend
    | 36, hn1, _ =>
      refine g_tableIn (tgt := 1503) F dL_law_40 (by rw [hn1]; decide) (by rw [hn1]; decide) (by rw [hn1]; rfl) (by decide) ?_
      exact law_c36 hE Z hK hn hN hI hend
    | 37, hn1, _ =>
      refine g_tableIn (tgt := 1528) F dL_law_40 (by rw [hn1]; decide) (by rw [hn1]; decide) (by rw [hn1]; rfl) (by decide) ?_
      exact law_c37 hE Z hK hn hN hI hend
    | 38, hn1, _ =>
      refine g_tableIn (tgt := 1553) F dL_law_40 (by rw [hn1]; decide) (by rw [hn1]; decide) (by rw [hn1]; rfl) (by decide) ?_
      exact law_c38 hE Z hK hn hN hI hend
    | 39, hn1, _ =>
      refine g_tableIn (tgt := 1566) F dL_law_40 (by rw [hn1]; decide) (by rw [hn1]; decide) (by rw [hn1]; rfl) (by decide) ?_
      exact law_c39 hE Z hK hn hN hI hend
    | 40, hn1, _ =>
      refine g_tableIn (tgt := 1579) F dL_law_40 (by rw [hn1]; decide) (by rw [hn1]; decide) (by rw [hn1]; rfl) (by decide) ?_
      exact law_c40 hE Z hK hn hN hI hend
    | n + 41, _, h => exact absurd h (by omega)
  · refine g_tableOut (tgt := 1604) F dL_law_40 (by omega) (by decide) ?_
    exact hend _ _ _ Z hK.next hI
/-- the law's loop -/
theorem law_loop {E : gE} {bk b n sa : Nat} {xs : Nat → Int32} (hE : gDist sh E) (hN : n ≤ 3072) : ∀ (k c : Nat) (z : gZ) (I : gM) (J : gN), n - 6 * c = k → 6 * c ≤ 3072 → LZ z E bk b n xs sa → LK z c → InvB I → G z 23 (LV5 E b c) [] I J := by
  intro k
  induction k using Nat.strongRecOn with
  | _ k ih =>
    intro c z I J hk hc Z hK hI
    obtain ⟨F, B, hX, hbl, hbA, hrest⟩ := Z
    have Z : LZ z E bk b n xs sa := ⟨F, B, hX, hbl, hbA, hrest⟩
    have e6 : (nI n - 6).toInt = (n : Int) - 6 := tS (tnI (by omega)) (by decide) (by omega) (by omega)
    refine g_iload F 0 dL_law_23 rfl ?_
    refine g_aload_n F 4 dL_law_25 rfl rfl ?_
    refine g_slen F hX hbl hbA dL_law_26 ?_
    refine g_bipush (v := 6) F dL_law_27 (by decide) ?_
    refine g_isub (v := nI n - 6) F dL_law_29 rfl ?_
    refine g_icmp_gt (tgt := 1610) F dL_law_30 (by decide) (fun _ => ?_) (fun h => ?_)
    · have h1 := hK.1
      have h2 := hK.2
      exact law_fin Z ⟨by omega, by omega⟩
    · have hn : 6 * c + 6 ≤ n := by
        have := mt (iLT (a := nI n - 6) (b := nI (6 * c)) e6 (tnI (by omega))).mpr h
        omega
      refine g_aload_n F 4 dL_law_33 rfl rfl ?_
      refine g_iload F 0 dL_law_34 rfl ?_
      refine g_sld (v := xs (6 * c)) F hX hbl hbA (vp_in_nI (n := 6 * c) (by omega) (by omega)) (congrArg xs (nI_clamp (n := 6 * c) (by omega))) dL_law_36 ?_
      refine g_bipush (v := 63) F dL_law_37 (by decide) ?_
      refine g_iand (v := xs (6 * c) &&& 63) F dL_law_39 rfl ?_
      refine law_sw hE Z hK hn hN hI (fun z I J Z hK hI => ?_)
      have F := Z.1
      refine g_iinc (v := nI (6 * (c + 1))) (Ln := LV5 E b (c + 1)) F 0 dL_law_1604 rfl (nI_add (6 * c) 6) (by decide) rfl ?_
      refine g_goto (tgt := 23) F dL_law_1607 (by decide) ?_
      exact ih (n - 6 * (c + 1)) (by omega) (c + 1) z I J rfl (by omega) Z hK hI
