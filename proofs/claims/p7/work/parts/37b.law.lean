section LROWS
variable {z : gZ} {S : List gS} {E : gE} {own : String} {cc : ByteArray} {rm : Room} {nL pc : Nat} {L : List (Nat × Value)} {st : List Value} {I : gM} {J : gN}
theorem g_sld (F : Fx z S E own cc rm nL) {b n : Nat} {xs : Nat → Int32} {i v : Int32} (hX : va_X b n xs (zs z) (zs z).heap) (hbl : b < (zs z).heap.size) (hbA : ¬ zA z b) (hin : vp_in i n) (hv : xs i.toNatClampNeg = v) (hd : decode cc pc = .ok (.iaload, 1)) (K : G z (pc + 1) L (.int v :: st) I J) : G z pc L (.int i :: .ref b :: st) I J := by
  obtain ⟨hx, hb, hml, hown, hts, hK, hD, hk0, rfl, rfl, rfl, rfl⟩ := F
  intro H locs ls hP hS hl
  exact va_sld hx hb hX hbl hbA hS hin hd (by rw [hv]; exact K H locs ls hP hS hl)
theorem g_slen (F : Fx z S E own cc rm nL) {b n : Nat} {xs : Nat → Int32} (hX : va_X b n xs (zs z) (zs z).heap) (hbl : b < (zs z).heap.size) (hbA : ¬ zA z b) (hd : decode cc pc = .ok (.arraylength, 1)) (K : G z (pc + 1) L (.int (nI n) :: st) I J) : G z pc L (.ref b :: st) I J := by
  obtain ⟨hx, hb, hml, hown, hts, hK, hD, hk0, rfl, rfl, rfl, rfl⟩ := F
  intro H locs ls hP hS hl
  exact va_slen hx hb hX hbl hbA hS hd (K H locs ls hP hS hl)
theorem g_lcmpE (F : Fx z S E own cc rm nL) {x y : Int64} (he : x = y) (hd : decode cc pc = .ok (.lcmp, 1)) (K : G z (pc + 1) L (.int 0 :: st) I J) : G z pc L (.long y :: .long x :: st) I J := by
  obtain ⟨hx, hb, hml, hown, hts, hK, hD, hk0, rfl, rfl, rfl, rfl⟩ := F
  subst he
  intro H locs ls hP hS hl
  have e : lg_cmp x x = 0 := by
    have h1 : ¬ x < x := Int64.lt_irrefl
    simp [lg_cmp, h1]
  exact W.lcmp hx hb hd (by rw [e]; exact K H locs ls hP hS hl)
theorem g_pop2 (F : Fx z S E own cc rm nL) {a : Value} (hd : decode cc pc = .ok (.pop2, 1)) (ha : a.category = 2) (K : G z (pc + 1) L (st) I J) : G z pc L (a :: st) I J := by
  obtain ⟨hx, hb, hml, hown, hts, hK, hD, hk0, rfl, rfl, rfl, rfl⟩ := F
  intro H locs ls hP hS hl
  exact lv_pop2_2 hx hb hd ha (K H locs ls hP hS hl)
end LROWS
/-- the machine's place with more cells made -/
abbrev zUp (z : gZ) (k n : Nat) : gZ := (z.1, (zk z + k, zn z + n, zQ z), z.2.2)
theorem Fx.up {z : gZ} {S : List gS} {E : gE} {own : String} {cc : ByteArray} {rm : Room} {nL : Nat} (F : Fx z S E own cc rm nL) {k n : Nat} (h : zk z + k ≤ rm.cells ∧ zn z + n ≤ rm.slots) : Fx (zUp z k n) S E own cc rm nL := by
  obtain ⟨hx, hb, hml, hown, hts, hK, hD, hk0, h1, h2, h3, h4⟩ := F
  exact ⟨hx, hb, hml, hown, hts, hK, hD, h, h1, h2, h3, h4⟩
/-- where the law stands between two calls -/
def LZ (z : gZ) (E : gE) (bk b n : Nat) (xs : Nat → Int32) (sa : Nat) : Prop := Fx z sh E RL cL_law room_1 7 ∧ bZ z bk ∧ va_X b n xs (zs z) (zs z).heap ∧ b < (zs z).heap.size ∧ ¬ zA z b ∧ (zl z).stackTraces = false ∧ jx_X (zA z) sa (zs z).heap (zs z) ∧ za z = #[Value.ref b] ∧ zQ z = lw_Z (zb z) #[Value.ref b] (zs z) ∧ (zh z).sig.returnType = ret ∧ (zh z).locks = false ∧ ∀ q, zA z q → (zs z).heap.size ≤ q
/-- behind c calls: so many cells at most -/
def LK (z : gZ) (c : Nat) : Prop := zk z ≤ 91 + c ∧ zn z ≤ 163462 + 6 * c
theorem LK.next {z : gZ} {c : Nat} (h : LK z c) : LK z (c + 1) := ⟨by have := h.1; omega, by have := h.2; omega⟩
theorem LK.up {z : gZ} {c : Nat} (h : LK z c) : LK (zUp z 1 6) (c + 1) := ⟨by have := h.1; show zk z + 1 ≤ _; omega, by have := h.2; show zn z + 6 ≤ _; omega⟩
theorem LK.room {z : gZ} {c : Nat} (h : LK z c) (hc : 6 * c + 6 ≤ 3072) : zk z + 1 ≤ room_1.cells ∧ zn z + 6 ≤ room_1.slots := by
  have h1 := h.1
  have h2 := h.2
  show zk z + 1 ≤ 601024 ∧ zn z + 6 ≤ 7293034
  omega
theorem LZ.up {z : gZ} {E : gE} {bk b n sa : Nat} {xs : Nat → Int32} (h : LZ z E bk b n xs sa) (hk : zk z + 1 ≤ room_1.cells ∧ zn z + 6 ≤ room_1.slots) : LZ (zUp z 1 6) E bk b n xs sa := ⟨h.1.up hk, h.2⟩
abbrev LV5 (E : gE) (b c : Nat) : List (Nat × Value) := [(4, .int (nI (6 * c))), (3, .ref (E.2.1 90)), (2, .ref (E.2.1 62)), (1, .ref (E.2.1 0)), (0, .ref b)]
/-- what is wanted behind a call -/
abbrev LE (E : gE) (bk b n sa c : Nat) (xs : Nat → Int32) : Prop := ∀ (z : gZ) (I : gM) (J : gN), LZ z E bk b n xs sa → LK z (c + 1) → InvA2 I → G z 1632 (LV5 E b c) [] I J
theorem g_tab {z : gZ} {E : gE} {bk b n sa pc : Nat} {xs : Nat → Int32} {L : List (Nat × Value)} {rest : List Value} {a1 a2 : Int32} {I : gM} {J : gN} {y : Option Int32} (Z : LZ z E bk b n xs sa) (hE : gDist sh E) (hy : fT8 a1 a2 I = some y) (hW : (rest.map fun v => v.category).sum ≤ 8) (hk : zk z + 1 ≤ room_1.cells ∧ zn z + 6 ≤ room_1.slots)
    (hd : decode cL_law pc = .ok (.invokestatic 42, 3)) (K : G (zUp z 1 6) (pc + 3) L (.int (jr y) :: rest) I (jJ J y)) : G z pc L ((jx_avL E a1 a2).reverse ++ rest) I J := by
  obtain ⟨⟨hx, hb, hml, hown, hts, hK, hD, hk0, hL, hR, hS0, hE0⟩, B, _, _, _, hfl, hX, _⟩ := Z
  have hAA : ∀ q, gA sh E q → zA z q := g_AA (S := sh) (E := E) hD
  have hcw : Cond.codeWith yL_table cL_table 5 (some .int) jx_hh ∈ gw := (gw_t4 154 rfl rfl)
  have hm : Cond.static yL_table ∈ gw ∧ Cond.initialized RL ∈ gw ∧ Cond.methodLink RL 42 yL_table ∈ gw := ⟨q765, q0, q764⟩
  intro H locs ls hP hS hl
  rw [hS0, hE0] at hP
  unfold gW
  rw [hR]
  have hXH : jx_X (gA sh E) sa H (zs z) := (hX.kept hS.2.1).narrow hAA
  have hB : bX (gA sh E) bk H (zs z) := (bX.kept B hS.1 hS.2.1).narrow hAA
  have cw : vx_CSW room_1 (zs z) (za z) RL 42 yL_table cL_table 5 (some .int) jx_hh jx_wsL ({ frames := 8, cells := 1, slots := 6, locals := 512 } : Room) 1 6 4 :=
    ⟨⟨rfl, rfl, Nat.le_of_ble_eq_true rfl, Nat.le_of_ble_eq_true rfl, pay_in hts (gw_good0 hcw), List.mem_cons_self⟩, hts _ hcw, hts _ hm.2.1, ⟨by decide, by decide⟩, fun sig h => by
      have e : (parseMethodDescriptor yL_table.desc).map (fun d => d.parameters.length) = some 4 := by decide +kernel
      rw [h] at e
      exact (Option.some.inj e).symm, hts _ hm.2.2, hts _ hm.1⟩
  refine vx_calli (vx_runSX (As := jx_avL E a1 a2) (rest := rest) ⟨hx, hb, hml.trans hL.symm, hown, hts⟩ (kL_table (zl z) hfl E hE bk sa a1 a2 I J hy) cw ⟨jx_blind, fun U hU hW => ⟨rfl, by rw [hU]; exact hP, va_K.moved hW.alike hK, by rw [hU]; exact jx_X.warm hW hXH, by rw [hU]; exact bX.same hW.alike hB⟩⟩ rfl rfl hl.1 rfl (g_room hW) hd hk) hS (fun q _ h => hAA q h) (fun q h => hAA q h) (fun q _ h => h.elim) (fun C ce q9 u t H1 locs1 ht hvm hpx hBX hz hk hS1 hce hcv hcl => hpx.elim) (fun r u t H1 locs1 ht hvm hpost hB1 hz hk hS1 => ?_)
  have hpost : r = jr y := hpost
  subst hpost
  have hB1 : va_P E.1 vwCl (g_w sh E I (jJ J y)) t.heap := hB1
  rw [ht] at hB1
  have K2 := K H1 locs1 ls (by rw [show zS (zUp z 1 6) = sh from hS0, show zE (zUp z 1 6) = E from hE0]; exact hB1) hS1 hl
  unfold gW at K2
  rw [show zR (zUp z 1 6) = room_1 from hR] at K2
  exact K2
theorem law_fin {z : gZ} {E : gE} {bk b n sa : Nat} {xs : Nat → Int32} {Lc : List (Nat × Value)} {I : gM} {J : gN} (Z : LZ z E bk b n xs sa) (hk : zk z ≤ 601024 ∧ zn z ≤ 7293034) : G z 1638 Lc [] I J := by
  obtain ⟨F, B, _, _, _, _, _, hza, hzQ, hret, hlk, hzA⟩ := Z
  refine g_iconst (v := 1) F dL_law_1638 (by decide) ?_
  obtain ⟨hx, hb, hml, hown, hts, hK, hD, hk0, hL, hR, hS0, hE0⟩ := F
  intro H locs ls hP hS hl
  unfold gW
  rw [hza, hzQ, hR]
  refine va_forget (fun q hq => hzA _ (hS.2.2 q hq)) ?_
  refine W.widen (k := 601024) (n := 7293034) hk.1 hk.2 ?_
  refine W.base ?_
  exact lw_ret (Drawn.sameBut.refl (zs z).drawn lw_cs) hx hb hret hlk dL_law_1639
set_option maxRecDepth 100000 in
set_option maxHeartbeats 4000000 in
theorem law_c0 {z : gZ} {E : gE} {bk b n sa c : Nat} {xs : Nat → Int32} {I : gM} {J : gN} (hE : gDist sh E) (Z : LZ z E bk b n xs sa) (hK : LK z c) (hn : 6 * c + 6 ≤ n) (hN : n ≤ 3072) (hI : InvA2 I) (hend : LE E bk b n sa c xs) : G z 220 (LV5 E b c) [] I J := by
  have hc : 6 * c + 6 ≤ 3072 := Nat.le_trans hn hN
  obtain ⟨F, B, hX, hbl, hbA, hrest⟩ := Z
  have Z : LZ z E bk b n xs sa := ⟨F, B, hX, hbl, hbA, hrest⟩
  refine g_aload_n F 3 dL_law_220 rfl rfl ?_
  refine g_aload_n F 4 dL_law_221 rfl rfl ?_
  refine g_iload F 0 dL_law_222 rfl ?_
  refine g_iconst (v := nI 1) F dL_law_224 (by decide) ?_
  refine g_iadd (v := nI (6 * c + 1)) F dL_law_225 (nI_add (6 * c) 1) ?_
  refine g_sld (v := xs (6 * c + 1)) F hX hbl hbA (vp_in_nI (n := 6 * c + 1) (by omega) (by omega)) (congrArg xs (nI_clamp (n := 6 * c + 1) (by omega))) dL_law_226 ?_
  refine g_aload_n F 4 dL_law_227 rfl rfl ?_
  refine g_iload F 0 dL_law_228 rfl ?_
  refine g_iconst (v := nI 2) F dL_law_230 (by decide) ?_
  refine g_iadd (v := nI (6 * c + 2)) F dL_law_231 (nI_add (6 * c) 2) ?_
  refine g_sld (v := xs (6 * c + 2)) F hX hbl hbA (vp_in_nI (n := 6 * c + 2) (by omega) (by omega)) (congrArg xs (nI_clamp (n := 6 * c + 2) (by omega))) dL_law_232 ?_
  refine g_aload_n F 4 dL_law_233 rfl rfl ?_
  refine g_iload F 0 dL_law_234 rfl ?_
  refine g_iconst (v := nI 3) F dL_law_236 (by decide) ?_
  refine g_iadd (v := nI (6 * c + 3)) F dL_law_237 (nI_add (6 * c) 3) ?_
  refine g_sld (v := xs (6 * c + 3)) F hX hbl hbA (vp_in_nI (n := 6 * c + 3) (by omega) (by omega)) (congrArg xs (nI_clamp (n := 6 * c + 3) (by omega))) dL_law_238 ?_
  refine g_aload_n F 4 dL_law_239 rfl rfl ?_
  refine g_iload F 0 dL_law_240 rfl ?_
  refine g_iconst (v := nI 4) F dL_law_242 (by decide) ?_
  refine g_iadd (v := nI (6 * c + 4)) F dL_law_243 (nI_add (6 * c) 4) ?_
  refine g_sld (v := xs (6 * c + 4)) F hX hbl hbA (vp_in_nI (n := 6 * c + 4) (by omega) (by omega)) (congrArg xs (nI_clamp (n := 6 * c + 4) (by omega))) dL_law_244 ?_
  refine g_aload_n F 4 dL_law_245 rfl rfl ?_
  refine g_iload F 0 dL_law_246 rfl ?_
  refine g_iconst (v := nI 5) F dL_law_248 (by decide) ?_
  refine g_iadd (v := nI (6 * c + 5)) F dL_law_249 (nI_add (6 * c) 5) ?_
  refine g_sld (v := xs (6 * c + 5)) F hX hbl hbA (vp_in_nI (n := 6 * c + 5) (by omega) (by omega)) (congrArg xs (nI_clamp (n := 6 * c + 5) (by omega))) dL_law_250 ?_
  obtain ⟨ra, rb, ea, eb, hI2, hab⟩ := al2_feed hI (xs (6 * c + 1)) (xs (6 * c + 2)) (xs (6 * c + 3)) (xs (6 * c + 4)) (xs (6 * c + 5))
  refine u_callV0 (k := 0) (As := [.int (xs (6 * c + 1)), .int (xs (6 * c + 2)), .int (xs (6 * c + 3)), .int (xs (6 * c + 4)), .int (xs (6 * c + 5))]) (rest := []) F B (wX8_feed (zl z) E hE bk (xs (6 * c + 1)) (xs (6 * c + 2)) (xs (6 * c + 3)) (xs (6 * c + 4)) (xs (6 * c + 5)) I J ea) mX8_feed q203 rfl s0 rfl rfl rfl (Nat.le_of_ble_eq_true rfl) dL_law_251 (fun r1 I1 J1 h1 => ?_)
  rw [h1.1, h1.2.1, h1.2.2]
  refine g_st (sn := [.int ra.1]) rfl ?_
  refine g_pop F dL_law_254 rfl ?_
  refine g_aload_n F 2 dL_law_255 rfl rfl ?_
  refine g_aload_n F 4 dL_law_256 rfl rfl ?_
  refine g_iload F 0 dL_law_257 rfl ?_
  refine g_iconst (v := nI 1) F dL_law_259 (by decide) ?_
  refine g_iadd (v := nI (6 * c + 1)) F dL_law_260 (nI_add (6 * c) 1) ?_
  refine g_sld (v := xs (6 * c + 1)) F hX hbl hbA (vp_in_nI (n := 6 * c + 1) (by omega) (by omega)) (congrArg xs (nI_clamp (n := 6 * c + 1) (by omega))) dL_law_261 ?_
  refine g_aload_n F 4 dL_law_262 rfl rfl ?_
  refine g_iload F 0 dL_law_263 rfl ?_
  refine g_iconst (v := nI 2) F dL_law_265 (by decide) ?_
  refine g_iadd (v := nI (6 * c + 2)) F dL_law_266 (nI_add (6 * c) 2) ?_
  refine g_sld (v := xs (6 * c + 2)) F hX hbl hbA (vp_in_nI (n := 6 * c + 2) (by omega) (by omega)) (congrArg xs (nI_clamp (n := 6 * c + 2) (by omega))) dL_law_267 ?_
  refine g_aload_n F 4 dL_law_268 rfl rfl ?_
  refine g_iload F 0 dL_law_269 rfl ?_
  refine g_iconst (v := nI 3) F dL_law_271 (by decide) ?_
  refine g_iadd (v := nI (6 * c + 3)) F dL_law_272 (nI_add (6 * c) 3) ?_
  refine g_sld (v := xs (6 * c + 3)) F hX hbl hbA (vp_in_nI (n := 6 * c + 3) (by omega) (by omega)) (congrArg xs (nI_clamp (n := 6 * c + 3) (by omega))) dL_law_273 ?_
  refine g_aload_n F 4 dL_law_274 rfl rfl ?_
  refine g_iload F 0 dL_law_275 rfl ?_
  refine g_iconst (v := nI 4) F dL_law_277 (by decide) ?_
  refine g_iadd (v := nI (6 * c + 4)) F dL_law_278 (nI_add (6 * c) 4) ?_
  refine g_sld (v := xs (6 * c + 4)) F hX hbl hbA (vp_in_nI (n := 6 * c + 4) (by omega) (by omega)) (congrArg xs (nI_clamp (n := 6 * c + 4) (by omega))) dL_law_279 ?_
  refine g_aload_n F 4 dL_law_280 rfl rfl ?_
  refine g_iload F 0 dL_law_281 rfl ?_
  refine g_iconst (v := nI 5) F dL_law_283 (by decide) ?_
  refine g_iadd (v := nI (6 * c + 5)) F dL_law_284 (nI_add (6 * c) 5) ?_
  refine g_sld (v := xs (6 * c + 5)) F hX hbl hbA (vp_in_nI (n := 6 * c + 5) (by omega) (by omega)) (congrArg xs (nI_clamp (n := 6 * c + 5) (by omega))) dL_law_285 ?_
  refine u_callV0 (k := 62) (As := [.int (xs (6 * c + 1)), .int (xs (6 * c + 2)), .int (xs (6 * c + 3)), .int (xs (6 * c + 4)), .int (xs (6 * c + 5))]) (rest := []) F B (wX9_feed (zl z) E hE bk (xs (6 * c + 1)) (xs (6 * c + 2)) (xs (6 * c + 3)) (xs (6 * c + 4)) (xs (6 * c + 5)) ra.2 J eb) mX9_feed q912 rfl s62 rfl rfl rfl (Nat.le_of_ble_eq_true rfl) dL_law_286 (fun r2 I2 J2 h2 => ?_)
  rw [h2.1, h2.2.1, h2.2.2]
  refine g_st (sn := [.int rb.1]) rfl ?_
  refine g_pop F dL_law_289 rfl ?_
  refine g_goto (tgt := 1632) F dL_law_290 (by decide) ?_
  refine g_sub (Ln := LV5 E b c) [0, 1, 2, 3, 4] rfl ?_
  exact hend _ _ _ Z hK.next hI2
set_option maxRecDepth 100000 in
set_option maxHeartbeats 4000000 in
theorem law_c1 {z : gZ} {E : gE} {bk b n sa c : Nat} {xs : Nat → Int32} {I : gM} {J : gN} (hE : gDist sh E) (Z : LZ z E bk b n xs sa) (hK : LK z c) (hn : 6 * c + 6 ≤ n) (hN : n ≤ 3072) (hI : InvA2 I) (hend : LE E bk b n sa c xs) : G z 293 (LV5 E b c) [] I J := by
  have hc : 6 * c + 6 ≤ 3072 := Nat.le_trans hn hN
  obtain ⟨F, B, hX, hbl, hbA, hrest⟩ := Z
  have Z : LZ z E bk b n xs sa := ⟨F, B, hX, hbl, hbA, hrest⟩
  refine g_aload_n F 3 dL_law_293 rfl rfl ?_
  refine g_aload_n F 4 dL_law_294 rfl rfl ?_
  refine g_iload F 0 dL_law_295 rfl ?_
  refine g_iconst (v := nI 1) F dL_law_297 (by decide) ?_
  refine g_iadd (v := nI (6 * c + 1)) F dL_law_298 (nI_add (6 * c) 1) ?_
  refine g_sld (v := xs (6 * c + 1)) F hX hbl hbA (vp_in_nI (n := 6 * c + 1) (by omega) (by omega)) (congrArg xs (nI_clamp (n := 6 * c + 1) (by omega))) dL_law_299 ?_
  obtain ⟨ra, rb, ea, eb, hI2, hab⟩ := al2_end hI (xs (6 * c + 1))
  refine u_callV0 (k := 0) (As := [.int (xs (6 * c + 1))]) (rest := []) F B (wX8_end (zl z) E hE bk (xs (6 * c + 1)) I J ea) mX8_end q214 rfl s0 rfl rfl rfl (Nat.le_of_ble_eq_true rfl) dL_law_300 (fun r1 I1 J1 h1 => ?_)
  rw [h1.1, h1.2.1, h1.2.2]
  refine g_st (sn := [.int ra.1]) rfl ?_
  refine g_pop F dL_law_303 rfl ?_
  refine g_aload_n F 2 dL_law_304 rfl rfl ?_
  refine g_aload_n F 4 dL_law_305 rfl rfl ?_
  refine g_iload F 0 dL_law_306 rfl ?_
  refine g_iconst (v := nI 1) F dL_law_308 (by decide) ?_
  refine g_iadd (v := nI (6 * c + 1)) F dL_law_309 (nI_add (6 * c) 1) ?_
  refine g_sld (v := xs (6 * c + 1)) F hX hbl hbA (vp_in_nI (n := 6 * c + 1) (by omega) (by omega)) (congrArg xs (nI_clamp (n := 6 * c + 1) (by omega))) dL_law_310 ?_
  refine u_callV0 (k := 62) (As := [.int (xs (6 * c + 1))]) (rest := []) F B (wX9_end (zl z) E hE bk (xs (6 * c + 1)) ra.2 J eb) mX9_end q919 rfl s62 rfl rfl rfl (Nat.le_of_ble_eq_true rfl) dL_law_311 (fun r2 I2 J2 h2 => ?_)
  rw [h2.1, h2.2.1, h2.2.2]
  refine g_st (sn := [.int rb.1]) rfl ?_
  refine g_pop F dL_law_314 rfl ?_
  refine g_goto (tgt := 1632) F dL_law_315 (by decide) ?_
  refine g_sub (Ln := LV5 E b c) [0, 1, 2, 3, 4] rfl ?_
  exact hend _ _ _ Z hK.next hI2
set_option maxRecDepth 100000 in
set_option maxHeartbeats 4000000 in
theorem law_c2 {z : gZ} {E : gE} {bk b n sa c : Nat} {xs : Nat → Int32} {I : gM} {J : gN} (hE : gDist sh E) (Z : LZ z E bk b n xs sa) (hK : LK z c) (hn : 6 * c + 6 ≤ n) (hN : n ≤ 3072) (hI : InvA2 I) (hend : LE E bk b n sa c xs) : G z 318 (LV5 E b c) [] I J := by
  have hc : 6 * c + 6 ≤ 3072 := Nat.le_trans hn hN
  obtain ⟨F, B, hX, hbl, hbA, hrest⟩ := Z
  have Z : LZ z E bk b n xs sa := ⟨F, B, hX, hbl, hbA, hrest⟩
  refine g_aload_n F 3 dL_law_318 rfl rfl ?_
  refine g_aload_n F 4 dL_law_319 rfl rfl ?_
  refine g_iload F 0 dL_law_320 rfl ?_
  refine g_iconst (v := nI 1) F dL_law_322 (by decide) ?_
  refine g_iadd (v := nI (6 * c + 1)) F dL_law_323 (nI_add (6 * c) 1) ?_
  refine g_sld (v := xs (6 * c + 1)) F hX hbl hbA (vp_in_nI (n := 6 * c + 1) (by omega) (by omega)) (congrArg xs (nI_clamp (n := 6 * c + 1) (by omega))) dL_law_324 ?_
  obtain ⟨ra, rb, ea, eb, hI2⟩ := al2_fault hI (xs (6 * c + 1))
  refine u_callV0 (k := 0) (As := [.int (xs (6 * c + 1))]) (rest := []) F B (wX8_fault (zl z) E hE bk (xs (6 * c + 1)) I J ea) mX8_fault q218 rfl s0 rfl rfl rfl (Nat.le_of_ble_eq_true rfl) dL_law_325 (fun r1 I1 J1 h1 => ?_)
  rw [h1.1, h1.2.1, h1.2.2]
  refine g_st (sn := [.int ra.1]) rfl ?_
  refine g_pop F dL_law_328 rfl ?_
  refine g_aload_n F 2 dL_law_329 rfl rfl ?_
  refine g_aload_n F 4 dL_law_330 rfl rfl ?_
  refine g_iload F 0 dL_law_331 rfl ?_
  refine g_iconst (v := nI 1) F dL_law_333 (by decide) ?_
  refine g_iadd (v := nI (6 * c + 1)) F dL_law_334 (nI_add (6 * c) 1) ?_
  refine g_sld (v := xs (6 * c + 1)) F hX hbl hbA (vp_in_nI (n := 6 * c + 1) (by omega) (by omega)) (congrArg xs (nI_clamp (n := 6 * c + 1) (by omega))) dL_law_335 ?_
  refine u_callV0 (k := 62) (As := [.int (xs (6 * c + 1))]) (rest := []) F B (wX9_fault (zl z) E hE bk (xs (6 * c + 1)) ra.2 J eb) mX9_fault q926 rfl s62 rfl rfl rfl (Nat.le_of_ble_eq_true rfl) dL_law_336 (fun r2 I2 J2 h2 => ?_)
  rw [h2.1, h2.2.1, h2.2.2]
  refine g_st (sn := [.int rb.1]) rfl ?_
  refine g_pop F dL_law_339 rfl ?_
  refine g_goto (tgt := 1632) F dL_law_340 (by decide) ?_
  refine g_sub (Ln := LV5 E b c) [0, 1, 2, 3, 4] rfl ?_
  exact hend _ _ _ Z hK.next hI2
set_option maxRecDepth 100000 in
set_option maxHeartbeats 4000000 in
theorem law_c3 {z : gZ} {E : gE} {bk b n sa c : Nat} {xs : Nat → Int32} {I : gM} {J : gN} (hE : gDist sh E) (Z : LZ z E bk b n xs sa) (hK : LK z c) (hn : 6 * c + 6 ≤ n) (hN : n ≤ 3072) (hI : InvA2 I) (hend : LE E bk b n sa c xs) : G z 343 (LV5 E b c) [] I J := by
  have hc : 6 * c + 6 ≤ 3072 := Nat.le_trans hn hN
  obtain ⟨F, B, hX, hbl, hbA, hrest⟩ := Z
  have Z : LZ z E bk b n xs sa := ⟨F, B, hX, hbl, hbA, hrest⟩
  refine g_aload_n F 3 dL_law_343 rfl rfl ?_
  refine g_aload_n F 4 dL_law_344 rfl rfl ?_
  refine g_iload F 0 dL_law_345 rfl ?_
  refine g_iconst (v := nI 1) F dL_law_347 (by decide) ?_
  refine g_iadd (v := nI (6 * c + 1)) F dL_law_348 (nI_add (6 * c) 1) ?_
  refine g_sld (v := xs (6 * c + 1)) F hX hbl hbA (vp_in_nI (n := 6 * c + 1) (by omega) (by omega)) (congrArg xs (nI_clamp (n := 6 * c + 1) (by omega))) dL_law_349 ?_
  obtain ⟨ra, rb, ea, eb, hI2, hab⟩ := al2_text hI (xs (6 * c + 1))
  refine u_callV0 (k := 0) (As := [.int (xs (6 * c + 1))]) (rest := []) F B (wX8_text (zl z) E hE bk (xs (6 * c + 1)) I J ea) mX8_text q307 rfl s0 rfl rfl rfl (Nat.le_of_ble_eq_true rfl) dL_law_350 (fun r1 I1 J1 h1 => ?_)
  rw [h1.1, h1.2.1, h1.2.2]
  refine g_st (sn := [.int ra.1]) rfl ?_
  refine g_pop F dL_law_353 rfl ?_
  refine g_aload_n F 2 dL_law_354 rfl rfl ?_
  refine g_aload_n F 4 dL_law_355 rfl rfl ?_
  refine g_iload F 0 dL_law_356 rfl ?_
  refine g_iconst (v := nI 1) F dL_law_358 (by decide) ?_
  refine g_iadd (v := nI (6 * c + 1)) F dL_law_359 (nI_add (6 * c) 1) ?_
  refine g_sld (v := xs (6 * c + 1)) F hX hbl hbA (vp_in_nI (n := 6 * c + 1) (by omega) (by omega)) (congrArg xs (nI_clamp (n := 6 * c + 1) (by omega))) dL_law_360 ?_
  refine u_callV0 (k := 62) (As := [.int (xs (6 * c + 1))]) (rest := []) F B (wX9_text (zl z) E hE bk (xs (6 * c + 1)) ra.2 J eb) mX9_text q981 rfl s62 rfl rfl rfl (Nat.le_of_ble_eq_true rfl) dL_law_361 (fun r2 I2 J2 h2 => ?_)
  rw [h2.1, h2.2.1, h2.2.2]
  refine g_st (sn := [.int rb.1]) rfl ?_
  refine g_pop F dL_law_364 rfl ?_
  refine g_goto (tgt := 1632) F dL_law_365 (by decide) ?_
  refine g_sub (Ln := LV5 E b c) [0, 1, 2, 3, 4] rfl ?_
  exact hend _ _ _ Z hK.next hI2
set_option maxRecDepth 100000 in
set_option maxHeartbeats 4000000 in
theorem law_c4 {z : gZ} {E : gE} {bk b n sa c : Nat} {xs : Nat → Int32} {I : gM} {J : gN} (hE : gDist sh E) (Z : LZ z E bk b n xs sa) (hK : LK z c) (hn : 6 * c + 6 ≤ n) (hN : n ≤ 3072) (hI : InvA2 I) (hend : LE E bk b n sa c xs) : G z 368 (LV5 E b c) [] I J := by
  have hc : 6 * c + 6 ≤ 3072 := Nat.le_trans hn hN
  obtain ⟨F, B, hX, hbl, hbA, hrest⟩ := Z
  have Z : LZ z E bk b n xs sa := ⟨F, B, hX, hbl, hbA, hrest⟩
  refine g_aload_n F 3 dL_law_368 rfl rfl ?_
  refine g_aload_n F 4 dL_law_369 rfl rfl ?_
  refine g_iload F 0 dL_law_370 rfl ?_
  refine g_iconst (v := nI 1) F dL_law_372 (by decide) ?_
  refine g_iadd (v := nI (6 * c + 1)) F dL_law_373 (nI_add (6 * c) 1) ?_
  refine g_sld (v := xs (6 * c + 1)) F hX hbl hbA (vp_in_nI (n := 6 * c + 1) (by omega) (by omega)) (congrArg xs (nI_clamp (n := 6 * c + 1) (by omega))) dL_law_374 ?_
  obtain ⟨ra, rb, ea, eb, hI2, hab⟩ := al2_rule hI (xs (6 * c + 1))
  refine u_callV0 (k := 0) (As := [.int (xs (6 * c + 1))]) (rest := []) F B (wX8_rule (zl z) E hE bk (xs (6 * c + 1)) I J ea) mX8_rule q399 rfl s0 rfl rfl rfl (Nat.le_of_ble_eq_true rfl) dL_law_375 (fun r1 I1 J1 h1 => ?_)
  rw [h1.1, h1.2.1, h1.2.2]
  refine g_st (sn := [.int ra]) rfl ?_
  refine g_pop F dL_law_378 rfl ?_
  refine g_aload_n F 2 dL_law_379 rfl rfl ?_
  refine g_aload_n F 4 dL_law_380 rfl rfl ?_
  refine g_iload F 0 dL_law_381 rfl ?_
  refine g_iconst (v := nI 1) F dL_law_383 (by decide) ?_
  refine g_iadd (v := nI (6 * c + 1)) F dL_law_384 (nI_add (6 * c) 1) ?_
  refine g_sld (v := xs (6 * c + 1)) F hX hbl hbA (vp_in_nI (n := 6 * c + 1) (by omega) (by omega)) (congrArg xs (nI_clamp (n := 6 * c + 1) (by omega))) dL_law_385 ?_
  refine u_callV0 (k := 62) (As := [.int (xs (6 * c + 1))]) (rest := []) F B (wX9_rule (zl z) E hE bk (xs (6 * c + 1)) I J eb) mX9_rule q1144 rfl s62 rfl rfl rfl (Nat.le_of_ble_eq_true rfl) dL_law_386 (fun r2 I2 J2 h2 => ?_)
  rw [h2.1, h2.2.1, h2.2.2]
  refine g_st (sn := [.int rb]) rfl ?_
  refine g_pop F dL_law_389 rfl ?_
  refine g_goto (tgt := 1632) F dL_law_390 (by decide) ?_
  refine g_sub (Ln := LV5 E b c) [0, 1, 2, 3, 4] rfl ?_
  exact hend _ _ _ Z hK.next hI2
set_option maxRecDepth 100000 in
set_option maxHeartbeats 4000000 in
theorem law_c5 {z : gZ} {E : gE} {bk b n sa c : Nat} {xs : Nat → Int32} {I : gM} {J : gN} (hE : gDist sh E) (Z : LZ z E bk b n xs sa) (hK : LK z c) (hn : 6 * c + 6 ≤ n) (hN : n ≤ 3072) (hI : InvA2 I) (hend : LE E bk b n sa c xs) : G z 393 (LV5 E b c) [] I J := by
  have hc : 6 * c + 6 ≤ 3072 := Nat.le_trans hn hN
  obtain ⟨F, B, hX, hbl, hbA, hrest⟩ := Z
  have Z : LZ z E bk b n xs sa := ⟨F, B, hX, hbl, hbA, hrest⟩
  refine g_aload_n F 3 dL_law_393 rfl rfl ?_
  refine g_aload_n F 4 dL_law_394 rfl rfl ?_
  refine g_iload F 0 dL_law_395 rfl ?_
  refine g_iconst (v := nI 1) F dL_law_397 (by decide) ?_
  refine g_iadd (v := nI (6 * c + 1)) F dL_law_398 (nI_add (6 * c) 1) ?_
  refine g_sld (v := xs (6 * c + 1)) F hX hbl hbA (vp_in_nI (n := 6 * c + 1) (by omega) (by omega)) (congrArg xs (nI_clamp (n := 6 * c + 1) (by omega))) dL_law_399 ?_
  refine g_aload_n F 4 dL_law_400 rfl rfl ?_
  refine g_iload F 0 dL_law_401 rfl ?_
  refine g_iconst (v := nI 2) F dL_law_403 (by decide) ?_
  refine g_iadd (v := nI (6 * c + 2)) F dL_law_404 (nI_add (6 * c) 2) ?_
  refine g_sld (v := xs (6 * c + 2)) F hX hbl hbA (vp_in_nI (n := 6 * c + 2) (by omega) (by omega)) (congrArg xs (nI_clamp (n := 6 * c + 2) (by omega))) dL_law_405 ?_
  refine g_aload_n F 1 dL_law_406 rfl rfl ?_
  obtain ⟨y, rb, ey, eb, hI2, eth, hval⟩ := al2_tableE hI (xs (6 * c + 1)) (xs (6 * c + 2))
  refine g_tab (a1 := (xs (6 * c + 1))) (a2 := (xs (6 * c + 2))) (rest := []) Z hE ey (Nat.le_of_ble_eq_true rfl) (hK.room hc) dL_law_407 ?_
  have F := F.up (hK.room hc)
  have B : bZ (zUp z 1 6) bk := B
  refine g_istore (Ln := [(5, .int (jr y)), (4, .int (nI (6 * c))), (3, .ref (E.2.1 90)), (2, .ref (E.2.1 62)), (1, .ref (E.2.1 0)), (0, .ref b)]) F dL_law_410 (by decide) rfl ?_
  refine g_aload_n F 3 dL_law_412 rfl rfl ?_
  refine g_aload_n F 5 dL_law_413 rfl rfl ?_
  refine g_iload F 1 dL_law_414 rfl ?_
  refine g_iconst (v := nI 1) F dL_law_416 (by decide) ?_
  refine g_iadd (v := nI (6 * c + 1)) F dL_law_417 (nI_add (6 * c) 1) ?_
  refine g_sld (v := xs (6 * c + 1)) F hX hbl hbA (vp_in_nI (n := 6 * c + 1) (by omega) (by omega)) (congrArg xs (nI_clamp (n := 6 * c + 1) (by omega))) dL_law_418 ?_
  refine g_aload_n F 5 dL_law_419 rfl rfl ?_
  refine g_iload F 1 dL_law_420 rfl ?_
  refine g_iconst (v := nI 2) F dL_law_422 (by decide) ?_
  refine g_iadd (v := nI (6 * c + 2)) F dL_law_423 (nI_add (6 * c) 2) ?_
  refine g_sld (v := xs (6 * c + 2)) F hX hbl hbA (vp_in_nI (n := 6 * c + 2) (by omega) (by omega)) (congrArg xs (nI_clamp (n := 6 * c + 2) (by omega))) dL_law_424 ?_
  refine u_callV0 (k := 62) (As := [.int (xs (6 * c + 1)), .int (xs (6 * c + 2))]) (rest := []) F B (wX9_table (zl (zUp z 1 6)) E hE bk (xs (6 * c + 1)) (xs (6 * c + 2)) I (jJ J y) eb) mX9_table q1151 rfl s62 rfl rfl rfl (Nat.le_of_ble_eq_true rfl) dL_law_425 (fun r1 I1 J1 h1 => ?_)
  rw [h1.1, h1.2.1, h1.2.2]
  refine g_st (sn := [.int rb.1]) rfl ?_
  refine g_istore (Ln := [(6, .int rb.1), (5, .int (jr y)), (4, .int (nI (6 * c))), (3, .ref (E.2.1 90)), (2, .ref (E.2.1 62)), (1, .ref (E.2.1 0)), (0, .ref b)]) F dL_law_428 (by decide) rfl ?_
  refine g_aload_n F 4 dL_law_430 rfl rfl ?_
  have et : fX9_thrown rb.2 = some (jr y) := congrArg some eth
  refine u_callV0 (k := 62) (As := []) (rest := []) F B (wX9_thrown (zl (zUp z 1 6)) E hE bk rb.2 (jJ J y) et) mX9_thrown q908 rfl s62 rfl rfl rfl (Nat.le_of_ble_eq_true rfl) dL_law_431 (fun r2 I2 J2 h2 => ?_)
  rw [h2.1, h2.2.1, h2.2.2]
  refine g_st (sn := [.int (jr y)]) rfl ?_
  refine g_iload F 1 dL_law_434 rfl ?_
  refine g_icmp_eq (tgt := 441) F dL_law_436 (by decide) (fun _ => ?_) (fun h => absurd rfl h)
  have hfin : ∀ J1, G (zUp z 1 6) 458 [(6, .int rb.1), (5, .int (jr y)), (4, .int (nI (6 * c))), (3, .ref (E.2.1 90)), (2, .ref (E.2.1 62)), (1, .ref (E.2.1 0)), (0, .ref b)] [] rb.2 J1 := fun J1 => by
    refine g_goto (tgt := 1632) F dL_law_458 (by decide) ?_
    refine g_sub (Ln := LV5 E b c) [2, 3, 4, 5, 6] rfl ?_
    exact hend _ _ _ (Z.up (hK.room hc)) hK.up hI2
  rcases y with _ | v
  · refine g_iload F 1 dL_law_441 rfl ?_
    exact g_if_ne (tgt := 458) F dL_law_443 (by decide) (fun _ => hfin _) (fun h => absurd h (by decide))
  · refine g_iload F 1 dL_law_441 rfl ?_
    refine g_if_ne (tgt := 458) F dL_law_443 (by decide) (fun h => absurd rfl h) (fun _ => ?_)
    refine g_aload_n F 3 dL_law_446 rfl rfl ?_
    refine g_iconst (v := 0) F dL_law_447 (by decide) ?_
    refine g_lald F (k := 90) (n := 1) (v := v.toInt64) 0 rfl rfl (by decide) (by decide) g_up_self dL_law_448 ?_
    refine g_iload F 0 dL_law_449 rfl ?_
    refine g_i2l (v := v.toInt64) F dL_law_451 (congrArg Int32.toInt64 (hval v rfl)) ?_
    refine g_lcmpE F rfl dL_law_452 ?_
    exact g_if_eq (tgt := 458) F dL_law_453 (by decide) (fun _ => hfin _) (fun h => absurd rfl h)
set_option maxRecDepth 100000 in
set_option maxHeartbeats 4000000 in
theorem law_c6 {z : gZ} {E : gE} {bk b n sa c : Nat} {xs : Nat → Int32} {I : gM} {J : gN} (hE : gDist sh E) (Z : LZ z E bk b n xs sa) (hK : LK z c) (hn : 6 * c + 6 ≤ n) (hN : n ≤ 3072) (hI : InvA2 I) (hend : LE E bk b n sa c xs) : G z 461 (LV5 E b c) [] I J := by
  have hc : 6 * c + 6 ≤ 3072 := Nat.le_trans hn hN
  obtain ⟨F, B, hX, hbl, hbA, hrest⟩ := Z
  have Z : LZ z E bk b n xs sa := ⟨F, B, hX, hbl, hbA, hrest⟩
  refine g_aload_n F 3 dL_law_461 rfl rfl ?_
  refine g_aload_n F 4 dL_law_462 rfl rfl ?_
  refine g_iload F 0 dL_law_463 rfl ?_
  refine g_iconst (v := nI 1) F dL_law_465 (by decide) ?_
  refine g_iadd (v := nI (6 * c + 1)) F dL_law_466 (nI_add (6 * c) 1) ?_
  refine g_sld (v := xs (6 * c + 1)) F hX hbl hbA (vp_in_nI (n := 6 * c + 1) (by omega) (by omega)) (congrArg xs (nI_clamp (n := 6 * c + 1) (by omega))) dL_law_467 ?_
  refine g_aload_n F 4 dL_law_468 rfl rfl ?_
  refine g_iload F 0 dL_law_469 rfl ?_
  refine g_iconst (v := nI 2) F dL_law_471 (by decide) ?_
  refine g_iadd (v := nI (6 * c + 2)) F dL_law_472 (nI_add (6 * c) 2) ?_
  refine g_sld (v := xs (6 * c + 2)) F hX hbl hbA (vp_in_nI (n := 6 * c + 2) (by omega) (by omega)) (congrArg xs (nI_clamp (n := 6 * c + 2) (by omega))) dL_law_473 ?_
  refine g_aload_n F 4 dL_law_474 rfl rfl ?_
  refine g_iload F 0 dL_law_475 rfl ?_
  refine g_iconst (v := nI 3) F dL_law_477 (by decide) ?_
  refine g_iadd (v := nI (6 * c + 3)) F dL_law_478 (nI_add (6 * c) 3) ?_
  refine g_sld (v := xs (6 * c + 3)) F hX hbl hbA (vp_in_nI (n := 6 * c + 3) (by omega) (by omega)) (congrArg xs (nI_clamp (n := 6 * c + 3) (by omega))) dL_law_479 ?_
  obtain ⟨ra, rb, ea, eb, hI2, hab⟩ := al2_cell hI (xs (6 * c + 1)) (xs (6 * c + 2)) (xs (6 * c + 3))
  refine u_callV0 (k := 0) (As := [.int (xs (6 * c + 1)), .int (xs (6 * c + 2)), .int (xs (6 * c + 3))]) (rest := []) F B (wX8_cell (zl z) E hE bk (xs (6 * c + 1)) (xs (6 * c + 2)) (xs (6 * c + 3)) I J ea) mX8_cell q408 rfl s0 rfl rfl rfl (Nat.le_of_ble_eq_true rfl) dL_law_480 (fun r1 I1 J1 h1 => ?_)
  rw [h1.1, h1.2.1, h1.2.2]
  refine g_st (sn := [.int ra]) rfl ?_
  refine g_pop F dL_law_483 rfl ?_
  refine g_aload_n F 2 dL_law_484 rfl rfl ?_
  refine g_aload_n F 4 dL_law_485 rfl rfl ?_
  refine g_iload F 0 dL_law_486 rfl ?_
  refine g_iconst (v := nI 1) F dL_law_488 (by decide) ?_
  refine g_iadd (v := nI (6 * c + 1)) F dL_law_489 (nI_add (6 * c) 1) ?_
  refine g_sld (v := xs (6 * c + 1)) F hX hbl hbA (vp_in_nI (n := 6 * c + 1) (by omega) (by omega)) (congrArg xs (nI_clamp (n := 6 * c + 1) (by omega))) dL_law_490 ?_
  refine g_aload_n F 4 dL_law_491 rfl rfl ?_
  refine g_iload F 0 dL_law_492 rfl ?_
  refine g_iconst (v := nI 2) F dL_law_494 (by decide) ?_
  refine g_iadd (v := nI (6 * c + 2)) F dL_law_495 (nI_add (6 * c) 2) ?_
  refine g_sld (v := xs (6 * c + 2)) F hX hbl hbA (vp_in_nI (n := 6 * c + 2) (by omega) (by omega)) (congrArg xs (nI_clamp (n := 6 * c + 2) (by omega))) dL_law_496 ?_
  refine g_aload_n F 4 dL_law_497 rfl rfl ?_
  refine g_iload F 0 dL_law_498 rfl ?_
  refine g_iconst (v := nI 3) F dL_law_500 (by decide) ?_
  refine g_iadd (v := nI (6 * c + 3)) F dL_law_501 (nI_add (6 * c) 3) ?_
  refine g_sld (v := xs (6 * c + 3)) F hX hbl hbA (vp_in_nI (n := 6 * c + 3) (by omega) (by omega)) (congrArg xs (nI_clamp (n := 6 * c + 3) (by omega))) dL_law_502 ?_
  refine u_callV0 (k := 62) (As := [.int (xs (6 * c + 1)), .int (xs (6 * c + 2)), .int (xs (6 * c + 3))]) (rest := []) F B (wX9_cell (zl z) E hE bk (xs (6 * c + 1)) (xs (6 * c + 2)) (xs (6 * c + 3)) I J eb) mX9_cell q1155 rfl s62 rfl rfl rfl (Nat.le_of_ble_eq_true rfl) dL_law_503 (fun r2 I2 J2 h2 => ?_)
  rw [h2.1, h2.2.1, h2.2.2]
  refine g_st (sn := [.int rb]) rfl ?_
  refine g_pop F dL_law_506 rfl ?_
  refine g_goto (tgt := 1632) F dL_law_507 (by decide) ?_
  refine g_sub (Ln := LV5 E b c) [0, 1, 2, 3, 4] rfl ?_
  exact hend _ _ _ Z hK.next hI2
set_option maxRecDepth 100000 in
set_option maxHeartbeats 4000000 in
theorem law_c7 {z : gZ} {E : gE} {bk b n sa c : Nat} {xs : Nat → Int32} {I : gM} {J : gN} (hE : gDist sh E) (Z : LZ z E bk b n xs sa) (hK : LK z c) (hn : 6 * c + 6 ≤ n) (hN : n ≤ 3072) (hI : InvA2 I) (hend : LE E bk b n sa c xs) : G z 510 (LV5 E b c) [] I J := by
  have hc : 6 * c + 6 ≤ 3072 := Nat.le_trans hn hN
  obtain ⟨F, B, hX, hbl, hbA, hrest⟩ := Z
  have Z : LZ z E bk b n xs sa := ⟨F, B, hX, hbl, hbA, hrest⟩
  refine g_aload_n F 3 dL_law_510 rfl rfl ?_
  obtain ⟨ra, rb, ea, eb, hI2⟩ := al2_rows hI
  refine u_callV0 (k := 0) (As := []) (rest := []) F B (wX8_rows (zl z) E hE bk I J ea) mX8_rows q414 rfl s0 rfl rfl rfl (Nat.le_of_ble_eq_true rfl) dL_law_511 (fun r1 I1 J1 h1 => ?_)
  rw [h1.1, h1.2.1, h1.2.2]
  refine g_st (sn := [.int ra]) rfl ?_
  refine g_pop F dL_law_514 rfl ?_
  refine g_aload_n F 2 dL_law_515 rfl rfl ?_
  refine u_callV0 (k := 62) (As := []) (rest := []) F B (wX9_rows (zl z) E hE bk I J eb) mX9_rows q1159 rfl s62 rfl rfl rfl (Nat.le_of_ble_eq_true rfl) dL_law_516 (fun r2 I2 J2 h2 => ?_)
  rw [h2.1, h2.2.1, h2.2.2]
  refine g_st (sn := [.int rb.1]) rfl ?_
  refine g_pop F dL_law_519 rfl ?_
  refine g_goto (tgt := 1632) F dL_law_520 (by decide) ?_
  refine g_sub (Ln := LV5 E b c) [0, 1, 2, 3, 4] rfl ?_
  exact hend _ _ _ Z hK.next hI2
set_option maxRecDepth 100000 in
set_option maxHeartbeats 4000000 in
theorem law_c8 {z : gZ} {E : gE} {bk b n sa c : Nat} {xs : Nat → Int32} {I : gM} {J : gN} (hE : gDist sh E) (Z : LZ z E bk b n xs sa) (hK : LK z c) (hn : 6 * c + 6 ≤ n) (hN : n ≤ 3072) (hI : InvA2 I) (hend : LE E bk b n sa c xs) : G z 523 (LV5 E b c) [] I J := by
  have hc : 6 * c + 6 ≤ 3072 := Nat.le_trans hn hN
  obtain ⟨F, B, hX, hbl, hbA, hrest⟩ := Z
  have Z : LZ z E bk b n xs sa := ⟨F, B, hX, hbl, hbA, hrest⟩
  refine g_aload_n F 3 dL_law_523 rfl rfl ?_
  refine g_aload_n F 4 dL_law_524 rfl rfl ?_
  refine g_iload F 0 dL_law_525 rfl ?_
  refine g_iconst (v := nI 1) F dL_law_527 (by decide) ?_
  refine g_iadd (v := nI (6 * c + 1)) F dL_law_528 (nI_add (6 * c) 1) ?_
  refine g_sld (v := xs (6 * c + 1)) F hX hbl hbA (vp_in_nI (n := 6 * c + 1) (by omega) (by omega)) (congrArg xs (nI_clamp (n := 6 * c + 1) (by omega))) dL_law_529 ?_
  refine g_aload_n F 4 dL_law_530 rfl rfl ?_
  refine g_iload F 0 dL_law_531 rfl ?_
  refine g_iconst (v := nI 2) F dL_law_533 (by decide) ?_
  refine g_iadd (v := nI (6 * c + 2)) F dL_law_534 (nI_add (6 * c) 2) ?_
  refine g_sld (v := xs (6 * c + 2)) F hX hbl hbA (vp_in_nI (n := 6 * c + 2) (by omega) (by omega)) (congrArg xs (nI_clamp (n := 6 * c + 2) (by omega))) dL_law_535 ?_
  obtain ⟨ra, rb, ea, eb, hI2⟩ := al2_row hI (xs (6 * c + 1)) (xs (6 * c + 2))
  refine u_callV0 (k := 0) (As := [.int (xs (6 * c + 1)), .int (xs (6 * c + 2))]) (rest := []) F B (wX8_row (zl z) E hE bk (xs (6 * c + 1)) (xs (6 * c + 2)) I J ea) mX8_row q418 rfl s0 rfl rfl rfl (Nat.le_of_ble_eq_true rfl) dL_law_536 (fun r1 I1 J1 h1 => ?_)
  rw [h1.1, h1.2.1, h1.2.2]
  refine g_st (sn := [.int ra]) rfl ?_
  refine g_pop F dL_law_539 rfl ?_
  refine g_aload_n F 2 dL_law_540 rfl rfl ?_
  refine g_aload_n F 4 dL_law_541 rfl rfl ?_
  refine g_iload F 0 dL_law_542 rfl ?_
  refine g_iconst (v := nI 1) F dL_law_544 (by decide) ?_
  refine g_iadd (v := nI (6 * c + 1)) F dL_law_545 (nI_add (6 * c) 1) ?_
  refine g_sld (v := xs (6 * c + 1)) F hX hbl hbA (vp_in_nI (n := 6 * c + 1) (by omega) (by omega)) (congrArg xs (nI_clamp (n := 6 * c + 1) (by omega))) dL_law_546 ?_
  refine g_aload_n F 4 dL_law_547 rfl rfl ?_
  refine g_iload F 0 dL_law_548 rfl ?_
  refine g_iconst (v := nI 2) F dL_law_550 (by decide) ?_
  refine g_iadd (v := nI (6 * c + 2)) F dL_law_551 (nI_add (6 * c) 2) ?_
  refine g_sld (v := xs (6 * c + 2)) F hX hbl hbA (vp_in_nI (n := 6 * c + 2) (by omega) (by omega)) (congrArg xs (nI_clamp (n := 6 * c + 2) (by omega))) dL_law_552 ?_
  refine u_callV0 (k := 62) (As := [.int (xs (6 * c + 1)), .int (xs (6 * c + 2))]) (rest := []) F B (wX9_row (zl z) E hE bk (xs (6 * c + 1)) (xs (6 * c + 2)) I J eb) mX9_row q1163 rfl s62 rfl rfl rfl (Nat.le_of_ble_eq_true rfl) dL_law_553 (fun r2 I2 J2 h2 => ?_)
  rw [h2.1, h2.2.1, h2.2.2]
  refine g_st (sn := [.int rb.1]) rfl ?_
  refine g_pop F dL_law_556 rfl ?_
  refine g_goto (tgt := 1632) F dL_law_557 (by decide) ?_
  refine g_sub (Ln := LV5 E b c) [0, 1, 2, 3, 4] rfl ?_
  exact hend _ _ _ Z hK.next hI2
set_option maxRecDepth 100000 in
set_option maxHeartbeats 4000000 in
theorem law_c9 {z : gZ} {E : gE} {bk b n sa c : Nat} {xs : Nat → Int32} {I : gM} {J : gN} (hE : gDist sh E) (Z : LZ z E bk b n xs sa) (hK : LK z c) (hn : 6 * c + 6 ≤ n) (hN : n ≤ 3072) (hI : InvA2 I) (hend : LE E bk b n sa c xs) : G z 560 (LV5 E b c) [] I J := by
  have hc : 6 * c + 6 ≤ 3072 := Nat.le_trans hn hN
  obtain ⟨F, B, hX, hbl, hbA, hrest⟩ := Z
  have Z : LZ z E bk b n xs sa := ⟨F, B, hX, hbl, hbA, hrest⟩
  refine g_aload_n F 3 dL_law_560 rfl rfl ?_
  obtain ⟨ra, rb, ea, eb, hI2⟩ := al2_leaps hI
  refine u_callV0 (k := 0) (As := []) (rest := []) F B (wX8_leaps (zl z) E hE bk I J ea) mX8_leaps q433 rfl s0 rfl rfl rfl (Nat.le_of_ble_eq_true rfl) dL_law_561 (fun r1 I1 J1 h1 => ?_)
  rw [h1.1, h1.2.1, h1.2.2]
  refine g_st (sn := [.int ra]) rfl ?_
  refine g_pop F dL_law_564 rfl ?_
  refine g_aload_n F 2 dL_law_565 rfl rfl ?_
  refine u_callV0 (k := 62) (As := []) (rest := []) F B (wX9_leaps_ (zl z) E hE bk I J eb) mX9_leaps_ q1173 rfl s62 rfl rfl rfl (Nat.le_of_ble_eq_true rfl) dL_law_566 (fun r2 I2 J2 h2 => ?_)
  rw [h2.1, h2.2.1, h2.2.2]
  refine g_st (sn := [.int rb.1]) rfl ?_
  refine g_pop F dL_law_569 rfl ?_
  refine g_goto (tgt := 1632) F dL_law_570 (by decide) ?_
  refine g_sub (Ln := LV5 E b c) [0, 1, 2, 3, 4] rfl ?_
  exact hend _ _ _ Z hK.next hI2
set_option maxRecDepth 100000 in
set_option maxHeartbeats 4000000 in
theorem law_c10 {z : gZ} {E : gE} {bk b n sa c : Nat} {xs : Nat → Int32} {I : gM} {J : gN} (hE : gDist sh E) (Z : LZ z E bk b n xs sa) (hK : LK z c) (hn : 6 * c + 6 ≤ n) (hN : n ≤ 3072) (hI : InvA2 I) (hend : LE E bk b n sa c xs) : G z 573 (LV5 E b c) [] I J := by
  have hc : 6 * c + 6 ≤ 3072 := Nat.le_trans hn hN
  obtain ⟨F, B, hX, hbl, hbA, hrest⟩ := Z
  have Z : LZ z E bk b n xs sa := ⟨F, B, hX, hbl, hbA, hrest⟩
  refine g_aload_n F 3 dL_law_573 rfl rfl ?_
  refine g_aload_n F 4 dL_law_574 rfl rfl ?_
  refine g_iload F 0 dL_law_575 rfl ?_
  refine g_iconst (v := nI 1) F dL_law_577 (by decide) ?_
  refine g_iadd (v := nI (6 * c + 1)) F dL_law_578 (nI_add (6 * c) 1) ?_
  refine g_sld (v := xs (6 * c + 1)) F hX hbl hbA (vp_in_nI (n := 6 * c + 1) (by omega) (by omega)) (congrArg xs (nI_clamp (n := 6 * c + 1) (by omega))) dL_law_579 ?_
  obtain ⟨ra, rb, ea, eb, hI2⟩ := al2_beginnings hI (xs (6 * c + 1))
  refine u_callV0 (k := 0) (As := [.int (xs (6 * c + 1))]) (rest := []) F B (wX8_beginnings (zl z) E hE bk (xs (6 * c + 1)) I J ea) mX8_beginnings q437 rfl s0 rfl rfl rfl (Nat.le_of_ble_eq_true rfl) dL_law_580 (fun r1 I1 J1 h1 => ?_)
  rw [h1.1, h1.2.1, h1.2.2]
  refine g_st (sn := [.int ra]) rfl ?_
  refine g_pop F dL_law_583 rfl ?_
  refine g_aload_n F 2 dL_law_584 rfl rfl ?_
  refine g_aload_n F 4 dL_law_585 rfl rfl ?_
  refine g_iload F 0 dL_law_586 rfl ?_
  refine g_iconst (v := nI 1) F dL_law_588 (by decide) ?_
  refine g_iadd (v := nI (6 * c + 1)) F dL_law_589 (nI_add (6 * c) 1) ?_
  refine g_sld (v := xs (6 * c + 1)) F hX hbl hbA (vp_in_nI (n := 6 * c + 1) (by omega) (by omega)) (congrArg xs (nI_clamp (n := 6 * c + 1) (by omega))) dL_law_590 ?_
  refine u_callV0 (k := 62) (As := [.int (xs (6 * c + 1))]) (rest := []) F B (wX9_beginnings (zl z) E hE bk (xs (6 * c + 1)) I J eb) mX9_beginnings q1177 rfl s62 rfl rfl rfl (Nat.le_of_ble_eq_true rfl) dL_law_591 (fun r2 I2 J2 h2 => ?_)
  rw [h2.1, h2.2.1, h2.2.2]
  refine g_st (sn := [.int rb.1]) rfl ?_
  refine g_pop F dL_law_594 rfl ?_
  refine g_goto (tgt := 1632) F dL_law_595 (by decide) ?_
  refine g_sub (Ln := LV5 E b c) [0, 1, 2, 3, 4] rfl ?_
  exact hend _ _ _ Z hK.next hI2
set_option maxRecDepth 100000 in
set_option maxHeartbeats 4000000 in
theorem law_c11 {z : gZ} {E : gE} {bk b n sa c : Nat} {xs : Nat → Int32} {I : gM} {J : gN} (hE : gDist sh E) (Z : LZ z E bk b n xs sa) (hK : LK z c) (hn : 6 * c + 6 ≤ n) (hN : n ≤ 3072) (hI : InvA2 I) (hend : LE E bk b n sa c xs) : G z 598 (LV5 E b c) [] I J := by
  have hc : 6 * c + 6 ≤ 3072 := Nat.le_trans hn hN
  obtain ⟨F, B, hX, hbl, hbA, hrest⟩ := Z
  have Z : LZ z E bk b n xs sa := ⟨F, B, hX, hbl, hbA, hrest⟩
  refine g_aload_n F 3 dL_law_598 rfl rfl ?_
  refine g_aload_n F 4 dL_law_599 rfl rfl ?_
  refine g_iload F 0 dL_law_600 rfl ?_
  refine g_iconst (v := nI 1) F dL_law_602 (by decide) ?_
  refine g_iadd (v := nI (6 * c + 1)) F dL_law_603 (nI_add (6 * c) 1) ?_
  refine g_sld (v := xs (6 * c + 1)) F hX hbl hbA (vp_in_nI (n := 6 * c + 1) (by omega) (by omega)) (congrArg xs (nI_clamp (n := 6 * c + 1) (by omega))) dL_law_604 ?_
  obtain ⟨ra, rb, ea, eb, hI2⟩ := al2_best hI (xs (6 * c + 1))
  refine u_callV0 (k := 0) (As := [.int (xs (6 * c + 1))]) (rest := []) F B (wX8_best (zl z) E hE bk (xs (6 * c + 1)) I J ea) mX8_best q441 rfl s0 rfl rfl rfl (Nat.le_of_ble_eq_true rfl) dL_law_605 (fun r1 I1 J1 h1 => ?_)
  rw [h1.1, h1.2.1, h1.2.2]
  refine g_st (sn := [.int ra.1]) rfl ?_
  refine g_pop F dL_law_608 rfl ?_
  refine g_aload_n F 2 dL_law_609 rfl rfl ?_
  refine g_aload_n F 4 dL_law_610 rfl rfl ?_
  refine g_iload F 0 dL_law_611 rfl ?_
  refine g_iconst (v := nI 1) F dL_law_613 (by decide) ?_
  refine g_iadd (v := nI (6 * c + 1)) F dL_law_614 (nI_add (6 * c) 1) ?_
  refine g_sld (v := xs (6 * c + 1)) F hX hbl hbA (vp_in_nI (n := 6 * c + 1) (by omega) (by omega)) (congrArg xs (nI_clamp (n := 6 * c + 1) (by omega))) dL_law_615 ?_
  refine u_callV0 (k := 62) (As := [.int (xs (6 * c + 1))]) (rest := []) F B (wX9_best (zl z) E hE bk (xs (6 * c + 1)) ra.2 J eb) mX9_best q1181 rfl s62 rfl rfl rfl (Nat.le_of_ble_eq_true rfl) dL_law_616 (fun r2 I2 J2 h2 => ?_)
  rw [h2.1, h2.2.1, h2.2.2]
  refine g_st (sn := [.int rb.1]) rfl ?_
  refine g_pop F dL_law_619 rfl ?_
  refine g_goto (tgt := 1632) F dL_law_620 (by decide) ?_
  refine g_sub (Ln := LV5 E b c) [0, 1, 2, 3, 4] rfl ?_
  exact hend _ _ _ Z hK.next hI2
set_option maxRecDepth 100000 in
set_option maxHeartbeats 4000000 in
theorem law_c12 {z : gZ} {E : gE} {bk b n sa c : Nat} {xs : Nat → Int32} {I : gM} {J : gN} (hE : gDist sh E) (Z : LZ z E bk b n xs sa) (hK : LK z c) (hn : 6 * c + 6 ≤ n) (hN : n ≤ 3072) (hI : InvA2 I) (hend : LE E bk b n sa c xs) : G z 623 (LV5 E b c) [] I J := by
  have hc : 6 * c + 6 ≤ 3072 := Nat.le_trans hn hN
  obtain ⟨F, B, hX, hbl, hbA, hrest⟩ := Z
  have Z : LZ z E bk b n xs sa := ⟨F, B, hX, hbl, hbA, hrest⟩
  refine g_aload_n F 3 dL_law_623 rfl rfl ?_
  obtain ⟨ra, rb, ea, eb, hI2, hab⟩ := al2_plain hI
  refine u_callV0 (k := 0) (As := []) (rest := []) F B (wX8_plain (zl z) E hE bk I J ea) mX8_plain q450 rfl s0 rfl rfl rfl (Nat.le_of_ble_eq_true rfl) dL_law_624 (fun r1 I1 J1 h1 => ?_)
  rw [h1.1, h1.2.1, h1.2.2]
  refine g_st (sn := [.int ra]) rfl ?_
  refine g_pop F dL_law_627 rfl ?_
  refine g_aload_n F 2 dL_law_628 rfl rfl ?_
  refine u_callV0 (k := 62) (As := []) (rest := []) F B (wX9_plain (zl z) E hE bk I J eb) mX9_plain q1188 rfl s62 rfl rfl rfl (Nat.le_of_ble_eq_true rfl) dL_law_629 (fun r2 I2 J2 h2 => ?_)
  rw [h2.1, h2.2.1, h2.2.2]
  refine g_st (sn := [.int rb]) rfl ?_
  refine g_pop F dL_law_632 rfl ?_
  refine g_goto (tgt := 1632) F dL_law_633 (by decide) ?_
  refine g_sub (Ln := LV5 E b c) [0, 1, 2, 3, 4] rfl ?_
  exact hend _ _ _ Z hK.next hI2
set_option maxRecDepth 100000 in
set_option maxHeartbeats 4000000 in
theorem law_c13 {z : gZ} {E : gE} {bk b n sa c : Nat} {xs : Nat → Int32} {I : gM} {J : gN} (hE : gDist sh E) (Z : LZ z E bk b n xs sa) (hK : LK z c) (hn : 6 * c + 6 ≤ n) (hN : n ≤ 3072) (hI : InvA2 I) (hend : LE E bk b n sa c xs) : G z 636 (LV5 E b c) [] I J := by
  have hc : 6 * c + 6 ≤ 3072 := Nat.le_trans hn hN
  obtain ⟨F, B, hX, hbl, hbA, hrest⟩ := Z
  have Z : LZ z E bk b n xs sa := ⟨F, B, hX, hbl, hbA, hrest⟩
  refine g_aload_n F 3 dL_law_636 rfl rfl ?_
  refine g_aload_n F 4 dL_law_637 rfl rfl ?_
  refine g_iload F 0 dL_law_638 rfl ?_
  refine g_iconst (v := nI 1) F dL_law_640 (by decide) ?_
  refine g_iadd (v := nI (6 * c + 1)) F dL_law_641 (nI_add (6 * c) 1) ?_
  refine g_sld (v := xs (6 * c + 1)) F hX hbl hbA (vp_in_nI (n := 6 * c + 1) (by omega) (by omega)) (congrArg xs (nI_clamp (n := 6 * c + 1) (by omega))) dL_law_642 ?_
  obtain ⟨ra, rb, ea, eb, hI2⟩ := al2_given hI (xs (6 * c + 1))
  refine u_callV0 (k := 0) (As := [.int (xs (6 * c + 1))]) (rest := []) F B (wX8_given (zl z) E hE bk (xs (6 * c + 1)) I J ea) mX8_given q455 rfl s0 rfl rfl rfl (Nat.le_of_ble_eq_true rfl) dL_law_643 (fun r1 I1 J1 h1 => ?_)
  rw [h1.1, h1.2.1, h1.2.2]
  refine g_st (sn := [.int ra]) rfl ?_
  refine g_pop F dL_law_646 rfl ?_
  refine g_aload_n F 2 dL_law_647 rfl rfl ?_
  refine g_aload_n F 4 dL_law_648 rfl rfl ?_
  refine g_iload F 0 dL_law_649 rfl ?_
  refine g_iconst (v := nI 1) F dL_law_651 (by decide) ?_
  refine g_iadd (v := nI (6 * c + 1)) F dL_law_652 (nI_add (6 * c) 1) ?_
  refine g_sld (v := xs (6 * c + 1)) F hX hbl hbA (vp_in_nI (n := 6 * c + 1) (by omega) (by omega)) (congrArg xs (nI_clamp (n := 6 * c + 1) (by omega))) dL_law_653 ?_
  refine u_callV0 (k := 62) (As := [.int (xs (6 * c + 1))]) (rest := []) F B (wX9_given (zl z) E hE bk (xs (6 * c + 1)) I J eb) mX9_given q1192 rfl s62 rfl rfl rfl (Nat.le_of_ble_eq_true rfl) dL_law_654 (fun r2 I2 J2 h2 => ?_)
  rw [h2.1, h2.2.1, h2.2.2]
  refine g_st (sn := [.int rb.1]) rfl ?_
  refine g_pop F dL_law_657 rfl ?_
  refine g_goto (tgt := 1632) F dL_law_658 (by decide) ?_
  refine g_sub (Ln := LV5 E b c) [0, 1, 2, 3, 4] rfl ?_
  exact hend _ _ _ Z hK.next hI2
set_option maxRecDepth 100000 in
set_option maxHeartbeats 4000000 in
theorem law_c14 {z : gZ} {E : gE} {bk b n sa c : Nat} {xs : Nat → Int32} {I : gM} {J : gN} (hE : gDist sh E) (Z : LZ z E bk b n xs sa) (hK : LK z c) (hn : 6 * c + 6 ≤ n) (hN : n ≤ 3072) (hI : InvA2 I) (hend : LE E bk b n sa c xs) : G z 661 (LV5 E b c) [] I J := by
  have hc : 6 * c + 6 ≤ 3072 := Nat.le_trans hn hN
  obtain ⟨F, B, hX, hbl, hbA, hrest⟩ := Z
  have Z : LZ z E bk b n xs sa := ⟨F, B, hX, hbl, hbA, hrest⟩
  refine g_aload_n F 3 dL_law_661 rfl rfl ?_
  refine g_aload_n F 4 dL_law_662 rfl rfl ?_
  refine g_iload F 0 dL_law_663 rfl ?_
  refine g_iconst (v := nI 1) F dL_law_665 (by decide) ?_
  refine g_iadd (v := nI (6 * c + 1)) F dL_law_666 (nI_add (6 * c) 1) ?_
  refine g_sld (v := xs (6 * c + 1)) F hX hbl hbA (vp_in_nI (n := 6 * c + 1) (by omega) (by omega)) (congrArg xs (nI_clamp (n := 6 * c + 1) (by omega))) dL_law_667 ?_
  obtain ⟨ra, rb, ea, eb, hI2⟩ := al2_without hI (xs (6 * c + 1))
  refine u_callV0 (k := 0) (As := [.int (xs (6 * c + 1))]) (rest := []) F B (wX8_without (zl z) E hE bk (xs (6 * c + 1)) I J ea) mX8_without q470 rfl s0 rfl rfl rfl (Nat.le_of_ble_eq_true rfl) dL_law_668 (fun r1 I1 J1 h1 => ?_)
  rw [h1.1, h1.2.1, h1.2.2]
  refine g_st (sn := [.int ra.1]) rfl ?_
  refine g_pop F dL_law_671 rfl ?_
  refine g_aload_n F 2 dL_law_672 rfl rfl ?_
  refine g_aload_n F 4 dL_law_673 rfl rfl ?_
  refine g_iload F 0 dL_law_674 rfl ?_
  refine g_iconst (v := nI 1) F dL_law_676 (by decide) ?_
  refine g_iadd (v := nI (6 * c + 1)) F dL_law_677 (nI_add (6 * c) 1) ?_
  refine g_sld (v := xs (6 * c + 1)) F hX hbl hbA (vp_in_nI (n := 6 * c + 1) (by omega) (by omega)) (congrArg xs (nI_clamp (n := 6 * c + 1) (by omega))) dL_law_678 ?_
  refine u_callV0 (k := 62) (As := [.int (xs (6 * c + 1))]) (rest := []) F B (wX9_without (zl z) E hE bk (xs (6 * c + 1)) ra.2 J eb) mX9_without q1202 rfl s62 rfl rfl rfl (Nat.le_of_ble_eq_true rfl) dL_law_679 (fun r2 I2 J2 h2 => ?_)
  rw [h2.1, h2.2.1, h2.2.2]
  refine g_st (sn := [.int rb.1]) rfl ?_
  refine g_pop F dL_law_682 rfl ?_
  refine g_goto (tgt := 1632) F dL_law_683 (by decide) ?_
  refine g_sub (Ln := LV5 E b c) [0, 1, 2, 3, 4] rfl ?_
  exact hend _ _ _ Z hK.next hI2
set_option maxRecDepth 100000 in
set_option maxHeartbeats 4000000 in
theorem law_c15 {z : gZ} {E : gE} {bk b n sa c : Nat} {xs : Nat → Int32} {I : gM} {J : gN} (hE : gDist sh E) (Z : LZ z E bk b n xs sa) (hK : LK z c) (hn : 6 * c + 6 ≤ n) (hN : n ≤ 3072) (hI : InvA2 I) (hend : LE E bk b n sa c xs) : G z 686 (LV5 E b c) [] I J := by
  have hc : 6 * c + 6 ≤ 3072 := Nat.le_trans hn hN
  obtain ⟨F, B, hX, hbl, hbA, hrest⟩ := Z
  have Z : LZ z E bk b n xs sa := ⟨F, B, hX, hbl, hbA, hrest⟩
  refine g_aload_n F 3 dL_law_686 rfl rfl ?_
  refine g_aload_n F 4 dL_law_687 rfl rfl ?_
  refine g_iload F 0 dL_law_688 rfl ?_
  refine g_iconst (v := nI 1) F dL_law_690 (by decide) ?_
  refine g_iadd (v := nI (6 * c + 1)) F dL_law_691 (nI_add (6 * c) 1) ?_
  refine g_sld (v := xs (6 * c + 1)) F hX hbl hbA (vp_in_nI (n := 6 * c + 1) (by omega) (by omega)) (congrArg xs (nI_clamp (n := 6 * c + 1) (by omega))) dL_law_692 ?_
  obtain ⟨ra, rb, ea, eb, hI2⟩ := al2_projected hI (xs (6 * c + 1))
  refine u_callV0 (k := 0) (As := [.int (xs (6 * c + 1))]) (rest := []) F B (wX8_projected (zl z) E hE bk (xs (6 * c + 1)) I J ea) mX8_projected q474 rfl s0 rfl rfl rfl (Nat.le_of_ble_eq_true rfl) dL_law_693 (fun r1 I1 J1 h1 => ?_)
  rw [h1.1, h1.2.1, h1.2.2]
  refine g_st (sn := [.int ra.1]) rfl ?_
  refine g_pop F dL_law_696 rfl ?_
  refine g_aload_n F 2 dL_law_697 rfl rfl ?_
  refine g_aload_n F 4 dL_law_698 rfl rfl ?_
  refine g_iload F 0 dL_law_699 rfl ?_
  refine g_iconst (v := nI 1) F dL_law_701 (by decide) ?_
  refine g_iadd (v := nI (6 * c + 1)) F dL_law_702 (nI_add (6 * c) 1) ?_
  refine g_sld (v := xs (6 * c + 1)) F hX hbl hbA (vp_in_nI (n := 6 * c + 1) (by omega) (by omega)) (congrArg xs (nI_clamp (n := 6 * c + 1) (by omega))) dL_law_703 ?_
  refine u_callV0 (k := 62) (As := [.int (xs (6 * c + 1))]) (rest := []) F B (wX9_projected (zl z) E hE bk (xs (6 * c + 1)) ra.2 J eb) mX9_projected q1206 rfl s62 rfl rfl rfl (Nat.le_of_ble_eq_true rfl) dL_law_704 (fun r2 I2 J2 h2 => ?_)
  rw [h2.1, h2.2.1, h2.2.2]
  refine g_st (sn := [.int rb.1]) rfl ?_
  refine g_pop F dL_law_707 rfl ?_
  refine g_goto (tgt := 1632) F dL_law_708 (by decide) ?_
  refine g_sub (Ln := LV5 E b c) [0, 1, 2, 3, 4] rfl ?_
  exact hend _ _ _ Z hK.next hI2
set_option maxRecDepth 100000 in
set_option maxHeartbeats 4000000 in
theorem law_c16 {z : gZ} {E : gE} {bk b n sa c : Nat} {xs : Nat → Int32} {I : gM} {J : gN} (hE : gDist sh E) (Z : LZ z E bk b n xs sa) (hK : LK z c) (hn : 6 * c + 6 ≤ n) (hN : n ≤ 3072) (hI : InvA2 I) (hend : LE E bk b n sa c xs) : G z 711 (LV5 E b c) [] I J := by
  have hc : 6 * c + 6 ≤ 3072 := Nat.le_trans hn hN
  obtain ⟨F, B, hX, hbl, hbA, hrest⟩ := Z
  have Z : LZ z E bk b n xs sa := ⟨F, B, hX, hbl, hbA, hrest⟩
  refine g_aload_n F 3 dL_law_711 rfl rfl ?_
  refine g_aload_n F 4 dL_law_712 rfl rfl ?_
  refine g_iload F 0 dL_law_713 rfl ?_
  refine g_iconst (v := nI 1) F dL_law_715 (by decide) ?_
  refine g_iadd (v := nI (6 * c + 1)) F dL_law_716 (nI_add (6 * c) 1) ?_
  refine g_sld (v := xs (6 * c + 1)) F hX hbl hbA (vp_in_nI (n := 6 * c + 1) (by omega) (by omega)) (congrArg xs (nI_clamp (n := 6 * c + 1) (by omega))) dL_law_717 ?_
  refine g_aload_n F 4 dL_law_718 rfl rfl ?_
  refine g_iload F 0 dL_law_719 rfl ?_
  refine g_iconst (v := nI 2) F dL_law_721 (by decide) ?_
  refine g_iadd (v := nI (6 * c + 2)) F dL_law_722 (nI_add (6 * c) 2) ?_
  refine g_sld (v := xs (6 * c + 2)) F hX hbl hbA (vp_in_nI (n := 6 * c + 2) (by omega) (by omega)) (congrArg xs (nI_clamp (n := 6 * c + 2) (by omega))) dL_law_723 ?_
  obtain ⟨ra, rb, ea, eb, hI2⟩ := al2_times hI (xs (6 * c + 1)) (xs (6 * c + 2))
  refine u_callV0 (k := 0) (As := [.int (xs (6 * c + 1)), .int (xs (6 * c + 2))]) (rest := []) F B (wX8_times (zl z) E hE bk (xs (6 * c + 1)) (xs (6 * c + 2)) I J ea) mX8_times q486 rfl s0 rfl rfl rfl (Nat.le_of_ble_eq_true rfl) dL_law_724 (fun r1 I1 J1 h1 => ?_)
  rw [h1.1, h1.2.1, h1.2.2]
  refine g_st (sn := [.int ra.1]) rfl ?_
  refine g_pop F dL_law_727 rfl ?_
  refine g_aload_n F 2 dL_law_728 rfl rfl ?_
  refine g_aload_n F 4 dL_law_729 rfl rfl ?_
  refine g_iload F 0 dL_law_730 rfl ?_
  refine g_iconst (v := nI 1) F dL_law_732 (by decide) ?_
  refine g_iadd (v := nI (6 * c + 1)) F dL_law_733 (nI_add (6 * c) 1) ?_
  refine g_sld (v := xs (6 * c + 1)) F hX hbl hbA (vp_in_nI (n := 6 * c + 1) (by omega) (by omega)) (congrArg xs (nI_clamp (n := 6 * c + 1) (by omega))) dL_law_734 ?_
  refine g_aload_n F 4 dL_law_735 rfl rfl ?_
  refine g_iload F 0 dL_law_736 rfl ?_
  refine g_iconst (v := nI 2) F dL_law_738 (by decide) ?_
  refine g_iadd (v := nI (6 * c + 2)) F dL_law_739 (nI_add (6 * c) 2) ?_
  refine g_sld (v := xs (6 * c + 2)) F hX hbl hbA (vp_in_nI (n := 6 * c + 2) (by omega) (by omega)) (congrArg xs (nI_clamp (n := 6 * c + 2) (by omega))) dL_law_740 ?_
  refine u_callV0 (k := 62) (As := [.int (xs (6 * c + 1)), .int (xs (6 * c + 2))]) (rest := []) F B (wX9_times (zl z) E hE bk (xs (6 * c + 1)) (xs (6 * c + 2)) ra.2 J eb) mX9_times q1213 rfl s62 rfl rfl rfl (Nat.le_of_ble_eq_true rfl) dL_law_741 (fun r2 I2 J2 h2 => ?_)
  rw [h2.1, h2.2.1, h2.2.2]
  refine g_st (sn := [.int rb.1]) rfl ?_
  refine g_pop F dL_law_744 rfl ?_
  refine g_goto (tgt := 1632) F dL_law_745 (by decide) ?_
  refine g_sub (Ln := LV5 E b c) [0, 1, 2, 3, 4] rfl ?_
  exact hend _ _ _ Z hK.next hI2
set_option maxRecDepth 100000 in
set_option maxHeartbeats 4000000 in
theorem law_c17 {z : gZ} {E : gE} {bk b n sa c : Nat} {xs : Nat → Int32} {I : gM} {J : gN} (hE : gDist sh E) (Z : LZ z E bk b n xs sa) (hK : LK z c) (hn : 6 * c + 6 ≤ n) (hN : n ≤ 3072) (hI : InvA2 I) (hend : LE E bk b n sa c xs) : G z 748 (LV5 E b c) [] I J := by
  have hc : 6 * c + 6 ≤ 3072 := Nat.le_trans hn hN
  obtain ⟨F, B, hX, hbl, hbA, hrest⟩ := Z
  have Z : LZ z E bk b n xs sa := ⟨F, B, hX, hbl, hbA, hrest⟩
  refine g_aload_n F 3 dL_law_748 rfl rfl ?_
  refine g_aload_n F 4 dL_law_749 rfl rfl ?_
  refine g_iload F 0 dL_law_750 rfl ?_
  refine g_iconst (v := nI 1) F dL_law_752 (by decide) ?_
  refine g_iadd (v := nI (6 * c + 1)) F dL_law_753 (nI_add (6 * c) 1) ?_
  refine g_sld (v := xs (6 * c + 1)) F hX hbl hbA (vp_in_nI (n := 6 * c + 1) (by omega) (by omega)) (congrArg xs (nI_clamp (n := 6 * c + 1) (by omega))) dL_law_754 ?_
  refine g_aload_n F 4 dL_law_755 rfl rfl ?_
  refine g_iload F 0 dL_law_756 rfl ?_
  refine g_iconst (v := nI 2) F dL_law_758 (by decide) ?_
  refine g_iadd (v := nI (6 * c + 2)) F dL_law_759 (nI_add (6 * c) 2) ?_
  refine g_sld (v := xs (6 * c + 2)) F hX hbl hbA (vp_in_nI (n := 6 * c + 2) (by omega) (by omega)) (congrArg xs (nI_clamp (n := 6 * c + 2) (by omega))) dL_law_760 ?_
  obtain ⟨ra, rb, ea, eb, hI2⟩ := al2_distinct hI (xs (6 * c + 1)) (xs (6 * c + 2))
  refine u_callV0 (k := 0) (As := [.int (xs (6 * c + 1)), .int (xs (6 * c + 2))]) (rest := []) F B (wX8_distinct (zl z) E hE bk (xs (6 * c + 1)) (xs (6 * c + 2)) I J ea) mX8_distinct q496 rfl s0 rfl rfl rfl (Nat.le_of_ble_eq_true rfl) dL_law_761 (fun r1 I1 J1 h1 => ?_)
  rw [h1.1, h1.2.1, h1.2.2]
  refine g_st (sn := [.int ra.1]) rfl ?_
  refine g_pop F dL_law_764 rfl ?_
  refine g_aload_n F 2 dL_law_765 rfl rfl ?_
  refine g_aload_n F 4 dL_law_766 rfl rfl ?_
  refine g_iload F 0 dL_law_767 rfl ?_
  refine g_iconst (v := nI 1) F dL_law_769 (by decide) ?_
  refine g_iadd (v := nI (6 * c + 1)) F dL_law_770 (nI_add (6 * c) 1) ?_
  refine g_sld (v := xs (6 * c + 1)) F hX hbl hbA (vp_in_nI (n := 6 * c + 1) (by omega) (by omega)) (congrArg xs (nI_clamp (n := 6 * c + 1) (by omega))) dL_law_771 ?_
  refine g_aload_n F 4 dL_law_772 rfl rfl ?_
  refine g_iload F 0 dL_law_773 rfl ?_
  refine g_iconst (v := nI 2) F dL_law_775 (by decide) ?_
  refine g_iadd (v := nI (6 * c + 2)) F dL_law_776 (nI_add (6 * c) 2) ?_
  refine g_sld (v := xs (6 * c + 2)) F hX hbl hbA (vp_in_nI (n := 6 * c + 2) (by omega) (by omega)) (congrArg xs (nI_clamp (n := 6 * c + 2) (by omega))) dL_law_777 ?_
  refine u_callV0 (k := 62) (As := [.int (xs (6 * c + 1)), .int (xs (6 * c + 2))]) (rest := []) F B (wX9_distinct (zl z) E hE bk (xs (6 * c + 1)) (xs (6 * c + 2)) ra.2 J eb) mX9_distinct q1217 rfl s62 rfl rfl rfl (Nat.le_of_ble_eq_true rfl) dL_law_778 (fun r2 I2 J2 h2 => ?_)
  rw [h2.1, h2.2.1, h2.2.2]
  refine g_st (sn := [.int rb.1]) rfl ?_
  refine g_pop F dL_law_781 rfl ?_
  refine g_goto (tgt := 1632) F dL_law_782 (by decide) ?_
  refine g_sub (Ln := LV5 E b c) [0, 1, 2, 3, 4] rfl ?_
  exact hend _ _ _ Z hK.next hI2
set_option maxRecDepth 100000 in
set_option maxHeartbeats 4000000 in
theorem law_c18 {z : gZ} {E : gE} {bk b n sa c : Nat} {xs : Nat → Int32} {I : gM} {J : gN} (hE : gDist sh E) (Z : LZ z E bk b n xs sa) (hK : LK z c) (hn : 6 * c + 6 ≤ n) (hN : n ≤ 3072) (hI : InvA2 I) (hend : LE E bk b n sa c xs) : G z 785 (LV5 E b c) [] I J := by
  have hc : 6 * c + 6 ≤ 3072 := Nat.le_trans hn hN
  obtain ⟨F, B, hX, hbl, hbA, hrest⟩ := Z
  have Z : LZ z E bk b n xs sa := ⟨F, B, hX, hbl, hbA, hrest⟩
  refine g_aload_n F 3 dL_law_785 rfl rfl ?_
  refine g_aload_n F 4 dL_law_786 rfl rfl ?_
  refine g_iload F 0 dL_law_787 rfl ?_
  refine g_iconst (v := nI 1) F dL_law_789 (by decide) ?_
  refine g_iadd (v := nI (6 * c + 1)) F dL_law_790 (nI_add (6 * c) 1) ?_
  refine g_sld (v := xs (6 * c + 1)) F hX hbl hbA (vp_in_nI (n := 6 * c + 1) (by omega) (by omega)) (congrArg xs (nI_clamp (n := 6 * c + 1) (by omega))) dL_law_791 ?_
  refine g_aload_n F 4 dL_law_792 rfl rfl ?_
  refine g_iload F 0 dL_law_793 rfl ?_
  refine g_iconst (v := nI 2) F dL_law_795 (by decide) ?_
  refine g_iadd (v := nI (6 * c + 2)) F dL_law_796 (nI_add (6 * c) 2) ?_
  refine g_sld (v := xs (6 * c + 2)) F hX hbl hbA (vp_in_nI (n := 6 * c + 2) (by omega) (by omega)) (congrArg xs (nI_clamp (n := 6 * c + 2) (by omega))) dL_law_797 ?_
  obtain ⟨ra, rb, ea, eb, hI2⟩ := al2_tells hI (xs (6 * c + 1)) (xs (6 * c + 2))
  refine u_callV0 (k := 0) (As := [.int (xs (6 * c + 1)), .int (xs (6 * c + 2))]) (rest := []) F B (wX8_tells (zl z) E hE bk (xs (6 * c + 1)) (xs (6 * c + 2)) I J ea) mX8_tells q516 rfl s0 rfl rfl rfl (Nat.le_of_ble_eq_true rfl) dL_law_798 (fun r1 I1 J1 h1 => ?_)
  rw [h1.1, h1.2.1, h1.2.2]
  refine g_st (sn := [.int ra.1]) rfl ?_
  refine g_pop F dL_law_801 rfl ?_
  refine g_aload_n F 2 dL_law_802 rfl rfl ?_
  refine g_aload_n F 4 dL_law_803 rfl rfl ?_
  refine g_iload F 0 dL_law_804 rfl ?_
  refine g_iconst (v := nI 1) F dL_law_806 (by decide) ?_
  refine g_iadd (v := nI (6 * c + 1)) F dL_law_807 (nI_add (6 * c) 1) ?_
  refine g_sld (v := xs (6 * c + 1)) F hX hbl hbA (vp_in_nI (n := 6 * c + 1) (by omega) (by omega)) (congrArg xs (nI_clamp (n := 6 * c + 1) (by omega))) dL_law_808 ?_
  refine g_aload_n F 4 dL_law_809 rfl rfl ?_
  refine g_iload F 0 dL_law_810 rfl ?_
  refine g_iconst (v := nI 2) F dL_law_812 (by decide) ?_
  refine g_iadd (v := nI (6 * c + 2)) F dL_law_813 (nI_add (6 * c) 2) ?_
  refine g_sld (v := xs (6 * c + 2)) F hX hbl hbA (vp_in_nI (n := 6 * c + 2) (by omega) (by omega)) (congrArg xs (nI_clamp (n := 6 * c + 2) (by omega))) dL_law_814 ?_
  refine u_callV0 (k := 62) (As := [.int (xs (6 * c + 1)), .int (xs (6 * c + 2))]) (rest := []) F B (wX9_tells (zl z) E hE bk (xs (6 * c + 1)) (xs (6 * c + 2)) ra.2 J eb) mX9_tells q1224 rfl s62 rfl rfl rfl (Nat.le_of_ble_eq_true rfl) dL_law_815 (fun r2 I2 J2 h2 => ?_)
  rw [h2.1, h2.2.1, h2.2.2]
  refine g_st (sn := [.int rb.1]) rfl ?_
  refine g_pop F dL_law_818 rfl ?_
  refine g_goto (tgt := 1632) F dL_law_819 (by decide) ?_
  refine g_sub (Ln := LV5 E b c) [0, 1, 2, 3, 4] rfl ?_
  exact hend _ _ _ Z hK.next hI2
set_option maxRecDepth 100000 in
set_option maxHeartbeats 4000000 in
theorem law_c19 {z : gZ} {E : gE} {bk b n sa c : Nat} {xs : Nat → Int32} {I : gM} {J : gN} (hE : gDist sh E) (Z : LZ z E bk b n xs sa) (hK : LK z c) (hn : 6 * c + 6 ≤ n) (hN : n ≤ 3072) (hI : InvA2 I) (hend : LE E bk b n sa c xs) : G z 822 (LV5 E b c) [] I J := by
  have hc : 6 * c + 6 ≤ 3072 := Nat.le_trans hn hN
  obtain ⟨F, B, hX, hbl, hbA, hrest⟩ := Z
  have Z : LZ z E bk b n xs sa := ⟨F, B, hX, hbl, hbA, hrest⟩
  refine g_aload_n F 3 dL_law_822 rfl rfl ?_
  refine g_aload_n F 4 dL_law_823 rfl rfl ?_
  refine g_iload F 0 dL_law_824 rfl ?_
  refine g_iconst (v := nI 1) F dL_law_826 (by decide) ?_
  refine g_iadd (v := nI (6 * c + 1)) F dL_law_827 (nI_add (6 * c) 1) ?_
  refine g_sld (v := xs (6 * c + 1)) F hX hbl hbA (vp_in_nI (n := 6 * c + 1) (by omega) (by omega)) (congrArg xs (nI_clamp (n := 6 * c + 1) (by omega))) dL_law_828 ?_
  refine g_aload_n F 4 dL_law_829 rfl rfl ?_
  refine g_iload F 0 dL_law_830 rfl ?_
  refine g_iconst (v := nI 2) F dL_law_832 (by decide) ?_
  refine g_iadd (v := nI (6 * c + 2)) F dL_law_833 (nI_add (6 * c) 2) ?_
  refine g_sld (v := xs (6 * c + 2)) F hX hbl hbA (vp_in_nI (n := 6 * c + 2) (by omega) (by omega)) (congrArg xs (nI_clamp (n := 6 * c + 2) (by omega))) dL_law_834 ?_
  refine g_aload_n F 4 dL_law_835 rfl rfl ?_
  refine g_iload F 0 dL_law_836 rfl ?_
  refine g_iconst (v := nI 3) F dL_law_838 (by decide) ?_
  refine g_iadd (v := nI (6 * c + 3)) F dL_law_839 (nI_add (6 * c) 3) ?_
  refine g_sld (v := xs (6 * c + 3)) F hX hbl hbA (vp_in_nI (n := 6 * c + 3) (by omega) (by omega)) (congrArg xs (nI_clamp (n := 6 * c + 3) (by omega))) dL_law_840 ?_
  refine g_aload_n F 4 dL_law_841 rfl rfl ?_
  refine g_iload F 0 dL_law_842 rfl ?_
  refine g_iconst (v := nI 4) F dL_law_844 (by decide) ?_
  refine g_iadd (v := nI (6 * c + 4)) F dL_law_845 (nI_add (6 * c) 4) ?_
  refine g_sld (v := xs (6 * c + 4)) F hX hbl hbA (vp_in_nI (n := 6 * c + 4) (by omega) (by omega)) (congrArg xs (nI_clamp (n := 6 * c + 4) (by omega))) dL_law_846 ?_
  obtain ⟨ra, rb, ea, eb, hI2⟩ := al2_behind hI (xs (6 * c + 1)) (xs (6 * c + 2)) (xs (6 * c + 3)) (xs (6 * c + 4))
  refine u_callV0 (k := 0) (As := [.int (xs (6 * c + 1)), .int (xs (6 * c + 2)), .int (xs (6 * c + 3)), .int (xs (6 * c + 4))]) (rest := []) F B (wX8_behind (zl z) E hE bk (xs (6 * c + 1)) (xs (6 * c + 2)) (xs (6 * c + 3)) (xs (6 * c + 4)) I J ea) mX8_behind q524 rfl s0 rfl rfl rfl (Nat.le_of_ble_eq_true rfl) dL_law_847 (fun r1 I1 J1 h1 => ?_)
  rw [h1.1, h1.2.1, h1.2.2]
  refine g_st (sn := [.int ra]) rfl ?_
  refine g_pop F dL_law_850 rfl ?_
  refine g_aload_n F 2 dL_law_851 rfl rfl ?_
  refine g_aload_n F 4 dL_law_852 rfl rfl ?_
  refine g_iload F 0 dL_law_853 rfl ?_
  refine g_iconst (v := nI 1) F dL_law_855 (by decide) ?_
  refine g_iadd (v := nI (6 * c + 1)) F dL_law_856 (nI_add (6 * c) 1) ?_
  refine g_sld (v := xs (6 * c + 1)) F hX hbl hbA (vp_in_nI (n := 6 * c + 1) (by omega) (by omega)) (congrArg xs (nI_clamp (n := 6 * c + 1) (by omega))) dL_law_857 ?_
  refine g_aload_n F 4 dL_law_858 rfl rfl ?_
  refine g_iload F 0 dL_law_859 rfl ?_
  refine g_iconst (v := nI 2) F dL_law_861 (by decide) ?_
  refine g_iadd (v := nI (6 * c + 2)) F dL_law_862 (nI_add (6 * c) 2) ?_
  refine g_sld (v := xs (6 * c + 2)) F hX hbl hbA (vp_in_nI (n := 6 * c + 2) (by omega) (by omega)) (congrArg xs (nI_clamp (n := 6 * c + 2) (by omega))) dL_law_863 ?_
  refine g_aload_n F 4 dL_law_864 rfl rfl ?_
  refine g_iload F 0 dL_law_865 rfl ?_
  refine g_iconst (v := nI 3) F dL_law_867 (by decide) ?_
  refine g_iadd (v := nI (6 * c + 3)) F dL_law_868 (nI_add (6 * c) 3) ?_
  refine g_sld (v := xs (6 * c + 3)) F hX hbl hbA (vp_in_nI (n := 6 * c + 3) (by omega) (by omega)) (congrArg xs (nI_clamp (n := 6 * c + 3) (by omega))) dL_law_869 ?_
  refine g_aload_n F 4 dL_law_870 rfl rfl ?_
  refine g_iload F 0 dL_law_871 rfl ?_
  refine g_iconst (v := nI 4) F dL_law_873 (by decide) ?_
  refine g_iadd (v := nI (6 * c + 4)) F dL_law_874 (nI_add (6 * c) 4) ?_
  refine g_sld (v := xs (6 * c + 4)) F hX hbl hbA (vp_in_nI (n := 6 * c + 4) (by omega) (by omega)) (congrArg xs (nI_clamp (n := 6 * c + 4) (by omega))) dL_law_875 ?_
  refine u_callV0 (k := 62) (As := [.int (xs (6 * c + 1)), .int (xs (6 * c + 2)), .int (xs (6 * c + 3)), .int (xs (6 * c + 4))]) (rest := []) F B (wX9_behind (zl z) E hE bk (xs (6 * c + 1)) (xs (6 * c + 2)) (xs (6 * c + 3)) (xs (6 * c + 4)) I J eb) mX9_behind q1231 rfl s62 rfl rfl rfl (Nat.le_of_ble_eq_true rfl) dL_law_876 (fun r2 I2 J2 h2 => ?_)
  rw [h2.1, h2.2.1, h2.2.2]
  refine g_st (sn := [.int rb.1]) rfl ?_
  refine g_pop F dL_law_879 rfl ?_
  refine g_goto (tgt := 1632) F dL_law_880 (by decide) ?_
  refine g_sub (Ln := LV5 E b c) [0, 1, 2, 3, 4] rfl ?_
  exact hend _ _ _ Z hK.next hI2
set_option maxRecDepth 100000 in
set_option maxHeartbeats 4000000 in
theorem law_c20 {z : gZ} {E : gE} {bk b n sa c : Nat} {xs : Nat → Int32} {I : gM} {J : gN} (hE : gDist sh E) (Z : LZ z E bk b n xs sa) (hK : LK z c) (hn : 6 * c + 6 ≤ n) (hN : n ≤ 3072) (hI : InvA2 I) (hend : LE E bk b n sa c xs) : G z 883 (LV5 E b c) [] I J := by
  have hc : 6 * c + 6 ≤ 3072 := Nat.le_trans hn hN
  obtain ⟨F, B, hX, hbl, hbA, hrest⟩ := Z
  have Z : LZ z E bk b n xs sa := ⟨F, B, hX, hbl, hbA, hrest⟩
  refine g_aload_n F 3 dL_law_883 rfl rfl ?_
  refine g_aload_n F 4 dL_law_884 rfl rfl ?_
  refine g_iload F 0 dL_law_885 rfl ?_
  refine g_iconst (v := nI 1) F dL_law_887 (by decide) ?_
  refine g_iadd (v := nI (6 * c + 1)) F dL_law_888 (nI_add (6 * c) 1) ?_
  refine g_sld (v := xs (6 * c + 1)) F hX hbl hbA (vp_in_nI (n := 6 * c + 1) (by omega) (by omega)) (congrArg xs (nI_clamp (n := 6 * c + 1) (by omega))) dL_law_889 ?_
  refine g_aload_n F 4 dL_law_890 rfl rfl ?_
  refine g_iload F 0 dL_law_891 rfl ?_
  refine g_iconst (v := nI 2) F dL_law_893 (by decide) ?_
  refine g_iadd (v := nI (6 * c + 2)) F dL_law_894 (nI_add (6 * c) 2) ?_
  refine g_sld (v := xs (6 * c + 2)) F hX hbl hbA (vp_in_nI (n := 6 * c + 2) (by omega) (by omega)) (congrArg xs (nI_clamp (n := 6 * c + 2) (by omega))) dL_law_895 ?_
  refine g_aload_n F 4 dL_law_896 rfl rfl ?_
  refine g_iload F 0 dL_law_897 rfl ?_
  refine g_iconst (v := nI 3) F dL_law_899 (by decide) ?_
  refine g_iadd (v := nI (6 * c + 3)) F dL_law_900 (nI_add (6 * c) 3) ?_
  refine g_sld (v := xs (6 * c + 3)) F hX hbl hbA (vp_in_nI (n := 6 * c + 3) (by omega) (by omega)) (congrArg xs (nI_clamp (n := 6 * c + 3) (by omega))) dL_law_901 ?_
  refine g_aload_n F 4 dL_law_902 rfl rfl ?_
  refine g_iload F 0 dL_law_903 rfl ?_
  refine g_iconst (v := nI 4) F dL_law_905 (by decide) ?_
  refine g_iadd (v := nI (6 * c + 4)) F dL_law_906 (nI_add (6 * c) 4) ?_
  refine g_sld (v := xs (6 * c + 4)) F hX hbl hbA (vp_in_nI (n := 6 * c + 4) (by omega) (by omega)) (congrArg xs (nI_clamp (n := 6 * c + 4) (by omega))) dL_law_907 ?_
  obtain ⟨ra, rb, ea, eb, hI2⟩ := al2_has hI (xs (6 * c + 1)) (xs (6 * c + 2)) (xs (6 * c + 3)) (xs (6 * c + 4))
  refine u_callV0 (k := 0) (As := [.int (xs (6 * c + 1)), .int (xs (6 * c + 2)), .int (xs (6 * c + 3)), .int (xs (6 * c + 4))]) (rest := []) F B (wX8_has (zl z) E hE bk (xs (6 * c + 1)) (xs (6 * c + 2)) (xs (6 * c + 3)) (xs (6 * c + 4)) I J ea) mX8_has q533 rfl s0 rfl rfl rfl (Nat.le_of_ble_eq_true rfl) dL_law_908 (fun r1 I1 J1 h1 => ?_)
  rw [h1.1, h1.2.1, h1.2.2]
  refine g_st (sn := [.int ra]) rfl ?_
  refine g_pop F dL_law_911 rfl ?_
  refine g_aload_n F 2 dL_law_912 rfl rfl ?_
  refine g_aload_n F 4 dL_law_913 rfl rfl ?_
  refine g_iload F 0 dL_law_914 rfl ?_
  refine g_iconst (v := nI 1) F dL_law_916 (by decide) ?_
  refine g_iadd (v := nI (6 * c + 1)) F dL_law_917 (nI_add (6 * c) 1) ?_
  refine g_sld (v := xs (6 * c + 1)) F hX hbl hbA (vp_in_nI (n := 6 * c + 1) (by omega) (by omega)) (congrArg xs (nI_clamp (n := 6 * c + 1) (by omega))) dL_law_918 ?_
  refine g_aload_n F 4 dL_law_919 rfl rfl ?_
  refine g_iload F 0 dL_law_920 rfl ?_
  refine g_iconst (v := nI 2) F dL_law_922 (by decide) ?_
  refine g_iadd (v := nI (6 * c + 2)) F dL_law_923 (nI_add (6 * c) 2) ?_
  refine g_sld (v := xs (6 * c + 2)) F hX hbl hbA (vp_in_nI (n := 6 * c + 2) (by omega) (by omega)) (congrArg xs (nI_clamp (n := 6 * c + 2) (by omega))) dL_law_924 ?_
  refine g_aload_n F 4 dL_law_925 rfl rfl ?_
  refine g_iload F 0 dL_law_926 rfl ?_
  refine g_iconst (v := nI 3) F dL_law_928 (by decide) ?_
  refine g_iadd (v := nI (6 * c + 3)) F dL_law_929 (nI_add (6 * c) 3) ?_
  refine g_sld (v := xs (6 * c + 3)) F hX hbl hbA (vp_in_nI (n := 6 * c + 3) (by omega) (by omega)) (congrArg xs (nI_clamp (n := 6 * c + 3) (by omega))) dL_law_930 ?_
  refine g_aload_n F 4 dL_law_931 rfl rfl ?_
  refine g_iload F 0 dL_law_932 rfl ?_
  refine g_iconst (v := nI 4) F dL_law_934 (by decide) ?_
  refine g_iadd (v := nI (6 * c + 4)) F dL_law_935 (nI_add (6 * c) 4) ?_
  refine g_sld (v := xs (6 * c + 4)) F hX hbl hbA (vp_in_nI (n := 6 * c + 4) (by omega) (by omega)) (congrArg xs (nI_clamp (n := 6 * c + 4) (by omega))) dL_law_936 ?_
  refine u_callV0 (k := 62) (As := [.int (xs (6 * c + 1)), .int (xs (6 * c + 2)), .int (xs (6 * c + 3)), .int (xs (6 * c + 4))]) (rest := []) F B (wX9_has_ (zl z) E hE bk (xs (6 * c + 1)) (xs (6 * c + 2)) (xs (6 * c + 3)) (xs (6 * c + 4)) I J eb) mX9_has_ q1241 rfl s62 rfl rfl rfl (Nat.le_of_ble_eq_true rfl) dL_law_937 (fun r2 I2 J2 h2 => ?_)
  rw [h2.1, h2.2.1, h2.2.2]
  refine g_st (sn := [.int rb.1]) rfl ?_
  refine g_pop F dL_law_940 rfl ?_
  refine g_goto (tgt := 1632) F dL_law_941 (by decide) ?_
  refine g_sub (Ln := LV5 E b c) [0, 1, 2, 3, 4] rfl ?_
  exact hend _ _ _ Z hK.next hI2
set_option maxRecDepth 100000 in
set_option maxHeartbeats 4000000 in
theorem law_c21 {z : gZ} {E : gE} {bk b n sa c : Nat} {xs : Nat → Int32} {I : gM} {J : gN} (hE : gDist sh E) (Z : LZ z E bk b n xs sa) (hK : LK z c) (hn : 6 * c + 6 ≤ n) (hN : n ≤ 3072) (hI : InvA2 I) (hend : LE E bk b n sa c xs) : G z 944 (LV5 E b c) [] I J := by
  have hc : 6 * c + 6 ≤ 3072 := Nat.le_trans hn hN
  obtain ⟨F, B, hX, hbl, hbA, hrest⟩ := Z
  have Z : LZ z E bk b n xs sa := ⟨F, B, hX, hbl, hbA, hrest⟩
  refine g_aload_n F 3 dL_law_944 rfl rfl ?_
  refine g_aload_n F 4 dL_law_945 rfl rfl ?_
  refine g_iload F 0 dL_law_946 rfl ?_
  refine g_iconst (v := nI 1) F dL_law_948 (by decide) ?_
  refine g_iadd (v := nI (6 * c + 1)) F dL_law_949 (nI_add (6 * c) 1) ?_
  refine g_sld (v := xs (6 * c + 1)) F hX hbl hbA (vp_in_nI (n := 6 * c + 1) (by omega) (by omega)) (congrArg xs (nI_clamp (n := 6 * c + 1) (by omega))) dL_law_950 ?_
  obtain ⟨ra, rb, ea, eb, hI2⟩ := al2_mean hI (xs (6 * c + 1))
  refine u_callV0 (k := 0) (As := [.int (xs (6 * c + 1))]) (rest := []) F B (wX8_mean (zl z) E hE bk (xs (6 * c + 1)) I J ea) mX8_mean q537 rfl s0 rfl rfl rfl (Nat.le_of_ble_eq_true rfl) dL_law_951 (fun r1 I1 J1 h1 => ?_)
  rw [h1.1, h1.2.1, h1.2.2]
  refine g_st (sn := [.long ra]) rfl ?_
  refine g_pop2 F dL_law_954 rfl ?_
  refine g_aload_n F 2 dL_law_955 rfl rfl ?_
  refine g_aload_n F 4 dL_law_956 rfl rfl ?_
  refine g_iload F 0 dL_law_957 rfl ?_
  refine g_iconst (v := nI 1) F dL_law_959 (by decide) ?_
  refine g_iadd (v := nI (6 * c + 1)) F dL_law_960 (nI_add (6 * c) 1) ?_
  refine g_sld (v := xs (6 * c + 1)) F hX hbl hbA (vp_in_nI (n := 6 * c + 1) (by omega) (by omega)) (congrArg xs (nI_clamp (n := 6 * c + 1) (by omega))) dL_law_961 ?_
  refine u_callV0 (k := 62) (As := [.int (xs (6 * c + 1))]) (rest := []) F B (wX9_mean (zl z) E hE bk (xs (6 * c + 1)) I J eb) mX9_mean q1245 rfl s62 rfl rfl rfl (Nat.le_of_ble_eq_true rfl) dL_law_962 (fun r2 I2 J2 h2 => ?_)
  rw [h2.1, h2.2.1, h2.2.2]
  refine g_st (sn := [.long rb.1]) rfl ?_
  refine g_pop2 F dL_law_965 rfl ?_
  refine g_goto (tgt := 1632) F dL_law_966 (by decide) ?_
  refine g_sub (Ln := LV5 E b c) [0, 1, 2, 3, 4] rfl ?_
  exact hend _ _ _ Z hK.next hI2
set_option maxRecDepth 100000 in
set_option maxHeartbeats 4000000 in
theorem law_c22 {z : gZ} {E : gE} {bk b n sa c : Nat} {xs : Nat → Int32} {I : gM} {J : gN} (hE : gDist sh E) (Z : LZ z E bk b n xs sa) (hK : LK z c) (hn : 6 * c + 6 ≤ n) (hN : n ≤ 3072) (hI : InvA2 I) (hend : LE E bk b n sa c xs) : G z 969 (LV5 E b c) [] I J := by
  have hc : 6 * c + 6 ≤ 3072 := Nat.le_trans hn hN
  obtain ⟨F, B, hX, hbl, hbA, hrest⟩ := Z
  have Z : LZ z E bk b n xs sa := ⟨F, B, hX, hbl, hbA, hrest⟩
  refine g_aload_n F 3 dL_law_969 rfl rfl ?_
  refine g_aload_n F 4 dL_law_970 rfl rfl ?_
  refine g_iload F 0 dL_law_971 rfl ?_
  refine g_iconst (v := nI 1) F dL_law_973 (by decide) ?_
  refine g_iadd (v := nI (6 * c + 1)) F dL_law_974 (nI_add (6 * c) 1) ?_
  refine g_sld (v := xs (6 * c + 1)) F hX hbl hbA (vp_in_nI (n := 6 * c + 1) (by omega) (by omega)) (congrArg xs (nI_clamp (n := 6 * c + 1) (by omega))) dL_law_975 ?_
  refine g_aload_n F 4 dL_law_976 rfl rfl ?_
  refine g_iload F 0 dL_law_977 rfl ?_
  refine g_iconst (v := nI 2) F dL_law_979 (by decide) ?_
  refine g_iadd (v := nI (6 * c + 2)) F dL_law_980 (nI_add (6 * c) 2) ?_
  refine g_sld (v := xs (6 * c + 2)) F hX hbl hbA (vp_in_nI (n := 6 * c + 2) (by omega) (by omega)) (congrArg xs (nI_clamp (n := 6 * c + 2) (by omega))) dL_law_981 ?_
  obtain ⟨ra, rb, ea, eb, hI2⟩ := al2_meanAs hI (xs (6 * c + 1)) (xs (6 * c + 2))
  refine u_callV0 (k := 0) (As := [.int (xs (6 * c + 1)), .int (xs (6 * c + 2))]) (rest := []) F B (wX8_meanAs (zl z) E hE bk (xs (6 * c + 1)) (xs (6 * c + 2)) I J ea) mX8_meanAs q551 rfl s0 rfl rfl rfl (Nat.le_of_ble_eq_true rfl) dL_law_982 (fun r1 I1 J1 h1 => ?_)
  rw [h1.1, h1.2.1, h1.2.2]
  refine g_st (sn := [.int ra]) rfl ?_
  refine g_pop F dL_law_985 rfl ?_
  refine g_aload_n F 2 dL_law_986 rfl rfl ?_
  refine g_aload_n F 4 dL_law_987 rfl rfl ?_
  refine g_iload F 0 dL_law_988 rfl ?_
  refine g_iconst (v := nI 1) F dL_law_990 (by decide) ?_
  refine g_iadd (v := nI (6 * c + 1)) F dL_law_991 (nI_add (6 * c) 1) ?_
  refine g_sld (v := xs (6 * c + 1)) F hX hbl hbA (vp_in_nI (n := 6 * c + 1) (by omega) (by omega)) (congrArg xs (nI_clamp (n := 6 * c + 1) (by omega))) dL_law_992 ?_
  refine g_aload_n F 4 dL_law_993 rfl rfl ?_
  refine g_iload F 0 dL_law_994 rfl ?_
  refine g_iconst (v := nI 2) F dL_law_996 (by decide) ?_
  refine g_iadd (v := nI (6 * c + 2)) F dL_law_997 (nI_add (6 * c) 2) ?_
  refine g_sld (v := xs (6 * c + 2)) F hX hbl hbA (vp_in_nI (n := 6 * c + 2) (by omega) (by omega)) (congrArg xs (nI_clamp (n := 6 * c + 2) (by omega))) dL_law_998 ?_
  refine u_callV0 (k := 62) (As := [.int (xs (6 * c + 1)), .int (xs (6 * c + 2))]) (rest := []) F B (wX9_meanAs (zl z) E hE bk (xs (6 * c + 1)) (xs (6 * c + 2)) I J eb) mX9_meanAs q1265 rfl s62 rfl rfl rfl (Nat.le_of_ble_eq_true rfl) dL_law_999 (fun r2 I2 J2 h2 => ?_)
  rw [h2.1, h2.2.1, h2.2.2]
  refine g_st (sn := [.int rb.1]) rfl ?_
  refine g_pop F dL_law_1002 rfl ?_
  refine g_goto (tgt := 1632) F dL_law_1003 (by decide) ?_
  refine g_sub (Ln := LV5 E b c) [0, 1, 2, 3, 4] rfl ?_
  exact hend _ _ _ Z hK.next hI2
set_option maxRecDepth 100000 in
set_option maxHeartbeats 4000000 in
theorem law_c23 {z : gZ} {E : gE} {bk b n sa c : Nat} {xs : Nat → Int32} {I : gM} {J : gN} (hE : gDist sh E) (Z : LZ z E bk b n xs sa) (hK : LK z c) (hn : 6 * c + 6 ≤ n) (hN : n ≤ 3072) (hI : InvA2 I) (hend : LE E bk b n sa c xs) : G z 1006 (LV5 E b c) [] I J := by
  have hc : 6 * c + 6 ≤ 3072 := Nat.le_trans hn hN
  obtain ⟨F, B, hX, hbl, hbA, hrest⟩ := Z
  have Z : LZ z E bk b n xs sa := ⟨F, B, hX, hbl, hbA, hrest⟩
  refine g_aload_n F 3 dL_law_1006 rfl rfl ?_
  refine g_aload_n F 4 dL_law_1007 rfl rfl ?_
  refine g_iload F 0 dL_law_1008 rfl ?_
  refine g_iconst (v := nI 1) F dL_law_1010 (by decide) ?_
  refine g_iadd (v := nI (6 * c + 1)) F dL_law_1011 (nI_add (6 * c) 1) ?_
  refine g_sld (v := xs (6 * c + 1)) F hX hbl hbA (vp_in_nI (n := 6 * c + 1) (by omega) (by omega)) (congrArg xs (nI_clamp (n := 6 * c + 1) (by omega))) dL_law_1012 ?_
  obtain ⟨ra, rb, ea, eb, hI2⟩ := al2_spread hI (xs (6 * c + 1))
  refine u_callV0 (k := 0) (As := [.int (xs (6 * c + 1))]) (rest := []) F B (wX8_spread (zl z) E hE bk (xs (6 * c + 1)) I J ea) mX8_spread q561 rfl s0 rfl rfl rfl (Nat.le_of_ble_eq_true rfl) dL_law_1013 (fun r1 I1 J1 h1 => ?_)
  rw [h1.1, h1.2.1, h1.2.2]
  refine g_st (sn := [.long ra]) rfl ?_
  refine g_pop2 F dL_law_1016 rfl ?_
  refine g_aload_n F 2 dL_law_1017 rfl rfl ?_
  refine g_aload_n F 4 dL_law_1018 rfl rfl ?_
  refine g_iload F 0 dL_law_1019 rfl ?_
  refine g_iconst (v := nI 1) F dL_law_1021 (by decide) ?_
  refine g_iadd (v := nI (6 * c + 1)) F dL_law_1022 (nI_add (6 * c) 1) ?_
  refine g_sld (v := xs (6 * c + 1)) F hX hbl hbA (vp_in_nI (n := 6 * c + 1) (by omega) (by omega)) (congrArg xs (nI_clamp (n := 6 * c + 1) (by omega))) dL_law_1023 ?_
  refine u_callV0 (k := 62) (As := [.int (xs (6 * c + 1))]) (rest := []) F B (wX9_spread (zl z) E hE bk (xs (6 * c + 1)) I J eb) mX9_spread q1278 rfl s62 rfl rfl rfl (Nat.le_of_ble_eq_true rfl) dL_law_1024 (fun r2 I2 J2 h2 => ?_)
  rw [h2.1, h2.2.1, h2.2.2]
  refine g_st (sn := [.long rb.1]) rfl ?_
  refine g_pop2 F dL_law_1027 rfl ?_
  refine g_goto (tgt := 1632) F dL_law_1028 (by decide) ?_
  refine g_sub (Ln := LV5 E b c) [0, 1, 2, 3, 4] rfl ?_
  exact hend _ _ _ Z hK.next hI2
set_option maxRecDepth 100000 in
set_option maxHeartbeats 4000000 in
theorem law_c24 {z : gZ} {E : gE} {bk b n sa c : Nat} {xs : Nat → Int32} {I : gM} {J : gN} (hE : gDist sh E) (Z : LZ z E bk b n xs sa) (hK : LK z c) (hn : 6 * c + 6 ≤ n) (hN : n ≤ 3072) (hI : InvA2 I) (hend : LE E bk b n sa c xs) : G z 1031 (LV5 E b c) [] I J := by
  have hc : 6 * c + 6 ≤ 3072 := Nat.le_trans hn hN
  obtain ⟨F, B, hX, hbl, hbA, hrest⟩ := Z
  have Z : LZ z E bk b n xs sa := ⟨F, B, hX, hbl, hbA, hrest⟩
  refine g_aload_n F 3 dL_law_1031 rfl rfl ?_
  refine g_aload_n F 4 dL_law_1032 rfl rfl ?_
  refine g_iload F 0 dL_law_1033 rfl ?_
  refine g_iconst (v := nI 1) F dL_law_1035 (by decide) ?_
  refine g_iadd (v := nI (6 * c + 1)) F dL_law_1036 (nI_add (6 * c) 1) ?_
  refine g_sld (v := xs (6 * c + 1)) F hX hbl hbA (vp_in_nI (n := 6 * c + 1) (by omega) (by omega)) (congrArg xs (nI_clamp (n := 6 * c + 1) (by omega))) dL_law_1037 ?_
  obtain ⟨ra, rb, ea, eb, hI2⟩ := al2_skew hI (xs (6 * c + 1))
  refine u_callV0 (k := 0) (As := [.int (xs (6 * c + 1))]) (rest := []) F B (wX8_skew (zl z) E hE bk (xs (6 * c + 1)) I J ea) mX8_skew q570 rfl s0 rfl rfl rfl (Nat.le_of_ble_eq_true rfl) dL_law_1038 (fun r1 I1 J1 h1 => ?_)
  rw [h1.1, h1.2.1, h1.2.2]
  refine g_st (sn := [.int ra.1]) rfl ?_
  refine g_pop F dL_law_1041 rfl ?_
  refine g_aload_n F 2 dL_law_1042 rfl rfl ?_
  refine g_aload_n F 4 dL_law_1043 rfl rfl ?_
  refine g_iload F 0 dL_law_1044 rfl ?_
  refine g_iconst (v := nI 1) F dL_law_1046 (by decide) ?_
  refine g_iadd (v := nI (6 * c + 1)) F dL_law_1047 (nI_add (6 * c) 1) ?_
  refine g_sld (v := xs (6 * c + 1)) F hX hbl hbA (vp_in_nI (n := 6 * c + 1) (by omega) (by omega)) (congrArg xs (nI_clamp (n := 6 * c + 1) (by omega))) dL_law_1048 ?_
  refine u_callV0 (k := 62) (As := [.int (xs (6 * c + 1))]) (rest := []) F B (wX9_skew (zl z) E hE bk (xs (6 * c + 1)) ra.2 J eb) mX9_skew q1282 rfl s62 rfl rfl rfl (Nat.le_of_ble_eq_true rfl) dL_law_1049 (fun r2 I2 J2 h2 => ?_)
  rw [h2.1, h2.2.1, h2.2.2]
  refine g_st (sn := [.int rb.1]) rfl ?_
  refine g_pop F dL_law_1052 rfl ?_
  refine g_goto (tgt := 1632) F dL_law_1053 (by decide) ?_
  refine g_sub (Ln := LV5 E b c) [0, 1, 2, 3, 4] rfl ?_
  exact hend _ _ _ Z hK.next hI2
set_option maxRecDepth 100000 in
set_option maxHeartbeats 4000000 in
theorem law_c25 {z : gZ} {E : gE} {bk b n sa c : Nat} {xs : Nat → Int32} {I : gM} {J : gN} (hE : gDist sh E) (Z : LZ z E bk b n xs sa) (hK : LK z c) (hn : 6 * c + 6 ≤ n) (hN : n ≤ 3072) (hI : InvA2 I) (hend : LE E bk b n sa c xs) : G z 1056 (LV5 E b c) [] I J := by
  have hc : 6 * c + 6 ≤ 3072 := Nat.le_trans hn hN
  obtain ⟨F, B, hX, hbl, hbA, hrest⟩ := Z
  have Z : LZ z E bk b n xs sa := ⟨F, B, hX, hbl, hbA, hrest⟩
  refine g_aload_n F 3 dL_law_1056 rfl rfl ?_
  refine g_aload_n F 4 dL_law_1057 rfl rfl ?_
  refine g_iload F 0 dL_law_1058 rfl ?_
  refine g_iconst (v := nI 1) F dL_law_1060 (by decide) ?_
  refine g_iadd (v := nI (6 * c + 1)) F dL_law_1061 (nI_add (6 * c) 1) ?_
  refine g_sld (v := xs (6 * c + 1)) F hX hbl hbA (vp_in_nI (n := 6 * c + 1) (by omega) (by omega)) (congrArg xs (nI_clamp (n := 6 * c + 1) (by omega))) dL_law_1062 ?_
  refine g_aload_n F 4 dL_law_1063 rfl rfl ?_
  refine g_iload F 0 dL_law_1064 rfl ?_
  refine g_iconst (v := nI 2) F dL_law_1066 (by decide) ?_
  refine g_iadd (v := nI (6 * c + 2)) F dL_law_1067 (nI_add (6 * c) 2) ?_
  refine g_sld (v := xs (6 * c + 2)) F hX hbl hbA (vp_in_nI (n := 6 * c + 2) (by omega) (by omega)) (congrArg xs (nI_clamp (n := 6 * c + 2) (by omega))) dL_law_1068 ?_
  refine g_aload_n F 4 dL_law_1069 rfl rfl ?_
  refine g_iload F 0 dL_law_1070 rfl ?_
  refine g_iconst (v := nI 3) F dL_law_1072 (by decide) ?_
  refine g_iadd (v := nI (6 * c + 3)) F dL_law_1073 (nI_add (6 * c) 3) ?_
  refine g_sld (v := xs (6 * c + 3)) F hX hbl hbA (vp_in_nI (n := 6 * c + 3) (by omega) (by omega)) (congrArg xs (nI_clamp (n := 6 * c + 3) (by omega))) dL_law_1074 ?_
  refine g_aload_n F 4 dL_law_1075 rfl rfl ?_
  refine g_iload F 0 dL_law_1076 rfl ?_
  refine g_iconst (v := nI 4) F dL_law_1078 (by decide) ?_
  refine g_iadd (v := nI (6 * c + 4)) F dL_law_1079 (nI_add (6 * c) 4) ?_
  refine g_sld (v := xs (6 * c + 4)) F hX hbl hbA (vp_in_nI (n := 6 * c + 4) (by omega) (by omega)) (congrArg xs (nI_clamp (n := 6 * c + 4) (by omega))) dL_law_1080 ?_
  obtain ⟨ra, rb, ea, eb, hI2, hab⟩ := al2_put hI (xs (6 * c + 1)) (xs (6 * c + 2)) (xs (6 * c + 3)) (xs (6 * c + 4))
  refine u_callV0 (k := 0) (As := [.int (xs (6 * c + 1)), .int (xs (6 * c + 2)), .int (xs (6 * c + 3)), .int (xs (6 * c + 4))]) (rest := []) F B (wX8_put (zl z) E hE bk (xs (6 * c + 1)) (xs (6 * c + 2)) (xs (6 * c + 3)) (xs (6 * c + 4)) I J ea) mX8_put q574 rfl s0 rfl rfl rfl (Nat.le_of_ble_eq_true rfl) dL_law_1081 (fun r1 I1 J1 h1 => ?_)
  rw [h1.1, h1.2.1, h1.2.2]
  refine g_st (sn := [.int ra.1]) rfl ?_
  refine g_pop F dL_law_1084 rfl ?_
  refine g_aload_n F 2 dL_law_1085 rfl rfl ?_
  refine g_aload_n F 4 dL_law_1086 rfl rfl ?_
  refine g_iload F 0 dL_law_1087 rfl ?_
  refine g_iconst (v := nI 1) F dL_law_1089 (by decide) ?_
  refine g_iadd (v := nI (6 * c + 1)) F dL_law_1090 (nI_add (6 * c) 1) ?_
  refine g_sld (v := xs (6 * c + 1)) F hX hbl hbA (vp_in_nI (n := 6 * c + 1) (by omega) (by omega)) (congrArg xs (nI_clamp (n := 6 * c + 1) (by omega))) dL_law_1091 ?_
  refine g_aload_n F 4 dL_law_1092 rfl rfl ?_
  refine g_iload F 0 dL_law_1093 rfl ?_
  refine g_iconst (v := nI 2) F dL_law_1095 (by decide) ?_
  refine g_iadd (v := nI (6 * c + 2)) F dL_law_1096 (nI_add (6 * c) 2) ?_
  refine g_sld (v := xs (6 * c + 2)) F hX hbl hbA (vp_in_nI (n := 6 * c + 2) (by omega) (by omega)) (congrArg xs (nI_clamp (n := 6 * c + 2) (by omega))) dL_law_1097 ?_
  refine g_aload_n F 4 dL_law_1098 rfl rfl ?_
  refine g_iload F 0 dL_law_1099 rfl ?_
  refine g_iconst (v := nI 3) F dL_law_1101 (by decide) ?_
  refine g_iadd (v := nI (6 * c + 3)) F dL_law_1102 (nI_add (6 * c) 3) ?_
  refine g_sld (v := xs (6 * c + 3)) F hX hbl hbA (vp_in_nI (n := 6 * c + 3) (by omega) (by omega)) (congrArg xs (nI_clamp (n := 6 * c + 3) (by omega))) dL_law_1103 ?_
  refine g_aload_n F 4 dL_law_1104 rfl rfl ?_
  refine g_iload F 0 dL_law_1105 rfl ?_
  refine g_iconst (v := nI 4) F dL_law_1107 (by decide) ?_
  refine g_iadd (v := nI (6 * c + 4)) F dL_law_1108 (nI_add (6 * c) 4) ?_
  refine g_sld (v := xs (6 * c + 4)) F hX hbl hbA (vp_in_nI (n := 6 * c + 4) (by omega) (by omega)) (congrArg xs (nI_clamp (n := 6 * c + 4) (by omega))) dL_law_1109 ?_
  refine u_callV0 (k := 62) (As := [.int (xs (6 * c + 1)), .int (xs (6 * c + 2)), .int (xs (6 * c + 3)), .int (xs (6 * c + 4))]) (rest := []) F B (wX9_put (zl z) E hE bk (xs (6 * c + 1)) (xs (6 * c + 2)) (xs (6 * c + 3)) (xs (6 * c + 4)) ra.2 J eb) mX9_put q1006 rfl s62 rfl rfl rfl (Nat.le_of_ble_eq_true rfl) dL_law_1110 (fun r2 I2 J2 h2 => ?_)
  rw [h2.1, h2.2.1, h2.2.2]
  refine g_st (sn := [.int rb.1]) rfl ?_
  refine g_pop F dL_law_1113 rfl ?_
  refine g_goto (tgt := 1632) F dL_law_1114 (by decide) ?_
  refine g_sub (Ln := LV5 E b c) [0, 1, 2, 3, 4] rfl ?_
  exact hend _ _ _ Z hK.next hI2
set_option maxRecDepth 100000 in
set_option maxHeartbeats 4000000 in
theorem law_c26 {z : gZ} {E : gE} {bk b n sa c : Nat} {xs : Nat → Int32} {I : gM} {J : gN} (hE : gDist sh E) (Z : LZ z E bk b n xs sa) (hK : LK z c) (hn : 6 * c + 6 ≤ n) (hN : n ≤ 3072) (hI : InvA2 I) (hend : LE E bk b n sa c xs) : G z 1117 (LV5 E b c) [] I J := by
  have hc : 6 * c + 6 ≤ 3072 := Nat.le_trans hn hN
  obtain ⟨F, B, hX, hbl, hbA, hrest⟩ := Z
  have Z : LZ z E bk b n xs sa := ⟨F, B, hX, hbl, hbA, hrest⟩
  refine g_aload_n F 3 dL_law_1117 rfl rfl ?_
  refine g_aload_n F 4 dL_law_1118 rfl rfl ?_
  refine g_iload F 0 dL_law_1119 rfl ?_
  refine g_iconst (v := nI 1) F dL_law_1121 (by decide) ?_
  refine g_iadd (v := nI (6 * c + 1)) F dL_law_1122 (nI_add (6 * c) 1) ?_
  refine g_sld (v := xs (6 * c + 1)) F hX hbl hbA (vp_in_nI (n := 6 * c + 1) (by omega) (by omega)) (congrArg xs (nI_clamp (n := 6 * c + 1) (by omega))) dL_law_1123 ?_
  refine g_aload_n F 4 dL_law_1124 rfl rfl ?_
  refine g_iload F 0 dL_law_1125 rfl ?_
  refine g_iconst (v := nI 2) F dL_law_1127 (by decide) ?_
  refine g_iadd (v := nI (6 * c + 2)) F dL_law_1128 (nI_add (6 * c) 2) ?_
  refine g_sld (v := xs (6 * c + 2)) F hX hbl hbA (vp_in_nI (n := 6 * c + 2) (by omega) (by omega)) (congrArg xs (nI_clamp (n := 6 * c + 2) (by omega))) dL_law_1129 ?_
  refine g_aload_n F 4 dL_law_1130 rfl rfl ?_
  refine g_iload F 0 dL_law_1131 rfl ?_
  refine g_iconst (v := nI 3) F dL_law_1133 (by decide) ?_
  refine g_iadd (v := nI (6 * c + 3)) F dL_law_1134 (nI_add (6 * c) 3) ?_
  refine g_sld (v := xs (6 * c + 3)) F hX hbl hbA (vp_in_nI (n := 6 * c + 3) (by omega) (by omega)) (congrArg xs (nI_clamp (n := 6 * c + 3) (by omega))) dL_law_1135 ?_
  refine g_aload_n F 4 dL_law_1136 rfl rfl ?_
  refine g_iload F 0 dL_law_1137 rfl ?_
  refine g_iconst (v := nI 4) F dL_law_1139 (by decide) ?_
  refine g_iadd (v := nI (6 * c + 4)) F dL_law_1140 (nI_add (6 * c) 4) ?_
  refine g_sld (v := xs (6 * c + 4)) F hX hbl hbA (vp_in_nI (n := 6 * c + 4) (by omega) (by omega)) (congrArg xs (nI_clamp (n := 6 * c + 4) (by omega))) dL_law_1141 ?_
  obtain ⟨ra, rb, ea, eb, hI2, hab⟩ := al2_take hI (xs (6 * c + 1)) (xs (6 * c + 2)) (xs (6 * c + 3)) (xs (6 * c + 4))
  refine u_callV0 (k := 0) (As := [.int (xs (6 * c + 1)), .int (xs (6 * c + 2)), .int (xs (6 * c + 3)), .int (xs (6 * c + 4))]) (rest := []) F B (wX8_take (zl z) E hE bk (xs (6 * c + 1)) (xs (6 * c + 2)) (xs (6 * c + 3)) (xs (6 * c + 4)) I J ea) mX8_take q616 rfl s0 rfl rfl rfl (Nat.le_of_ble_eq_true rfl) dL_law_1142 (fun r1 I1 J1 h1 => ?_)
  rw [h1.1, h1.2.1, h1.2.2]
  refine g_st (sn := [.int ra.1]) rfl ?_
  refine g_pop F dL_law_1145 rfl ?_
  refine g_aload_n F 2 dL_law_1146 rfl rfl ?_
  refine g_aload_n F 4 dL_law_1147 rfl rfl ?_
  refine g_iload F 0 dL_law_1148 rfl ?_
  refine g_iconst (v := nI 1) F dL_law_1150 (by decide) ?_
  refine g_iadd (v := nI (6 * c + 1)) F dL_law_1151 (nI_add (6 * c) 1) ?_
  refine g_sld (v := xs (6 * c + 1)) F hX hbl hbA (vp_in_nI (n := 6 * c + 1) (by omega) (by omega)) (congrArg xs (nI_clamp (n := 6 * c + 1) (by omega))) dL_law_1152 ?_
  refine g_aload_n F 4 dL_law_1153 rfl rfl ?_
  refine g_iload F 0 dL_law_1154 rfl ?_
  refine g_iconst (v := nI 2) F dL_law_1156 (by decide) ?_
  refine g_iadd (v := nI (6 * c + 2)) F dL_law_1157 (nI_add (6 * c) 2) ?_
  refine g_sld (v := xs (6 * c + 2)) F hX hbl hbA (vp_in_nI (n := 6 * c + 2) (by omega) (by omega)) (congrArg xs (nI_clamp (n := 6 * c + 2) (by omega))) dL_law_1158 ?_
  refine g_aload_n F 4 dL_law_1159 rfl rfl ?_
  refine g_iload F 0 dL_law_1160 rfl ?_
  refine g_iconst (v := nI 3) F dL_law_1162 (by decide) ?_
  refine g_iadd (v := nI (6 * c + 3)) F dL_law_1163 (nI_add (6 * c) 3) ?_
  refine g_sld (v := xs (6 * c + 3)) F hX hbl hbA (vp_in_nI (n := 6 * c + 3) (by omega) (by omega)) (congrArg xs (nI_clamp (n := 6 * c + 3) (by omega))) dL_law_1164 ?_
  refine g_aload_n F 4 dL_law_1165 rfl rfl ?_
  refine g_iload F 0 dL_law_1166 rfl ?_
  refine g_iconst (v := nI 4) F dL_law_1168 (by decide) ?_
  refine g_iadd (v := nI (6 * c + 4)) F dL_law_1169 (nI_add (6 * c) 4) ?_
  refine g_sld (v := xs (6 * c + 4)) F hX hbl hbA (vp_in_nI (n := 6 * c + 4) (by omega) (by omega)) (congrArg xs (nI_clamp (n := 6 * c + 4) (by omega))) dL_law_1170 ?_
  refine u_callV0 (k := 62) (As := [.int (xs (6 * c + 1)), .int (xs (6 * c + 2)), .int (xs (6 * c + 3)), .int (xs (6 * c + 4))]) (rest := []) F B (wX9_take (zl z) E hE bk (xs (6 * c + 1)) (xs (6 * c + 2)) (xs (6 * c + 3)) (xs (6 * c + 4)) ra.2 J eb) mX9_take q1104 rfl s62 rfl rfl rfl (Nat.le_of_ble_eq_true rfl) dL_law_1171 (fun r2 I2 J2 h2 => ?_)
  rw [h2.1, h2.2.1, h2.2.2]
  refine g_st (sn := [.int rb.1]) rfl ?_
  refine g_pop F dL_law_1174 rfl ?_
  refine g_goto (tgt := 1632) F dL_law_1175 (by decide) ?_
  refine g_sub (Ln := LV5 E b c) [0, 1, 2, 3, 4] rfl ?_
  exact hend _ _ _ Z hK.next hI2
set_option maxRecDepth 100000 in
set_option maxHeartbeats 4000000 in
theorem law_c27 {z : gZ} {E : gE} {bk b n sa c : Nat} {xs : Nat → Int32} {I : gM} {J : gN} (hE : gDist sh E) (Z : LZ z E bk b n xs sa) (hK : LK z c) (hn : 6 * c + 6 ≤ n) (hN : n ≤ 3072) (hI : InvA2 I) (hend : LE E bk b n sa c xs) : G z 1178 (LV5 E b c) [] I J := by
  have hc : 6 * c + 6 ≤ 3072 := Nat.le_trans hn hN
  obtain ⟨F, B, hX, hbl, hbA, hrest⟩ := Z
  have Z : LZ z E bk b n xs sa := ⟨F, B, hX, hbl, hbA, hrest⟩
  refine g_aload_n F 3 dL_law_1178 rfl rfl ?_
  refine g_aload_n F 4 dL_law_1179 rfl rfl ?_
  refine g_iload F 0 dL_law_1180 rfl ?_
  refine g_iconst (v := nI 1) F dL_law_1182 (by decide) ?_
  refine g_iadd (v := nI (6 * c + 1)) F dL_law_1183 (nI_add (6 * c) 1) ?_
  refine g_sld (v := xs (6 * c + 1)) F hX hbl hbA (vp_in_nI (n := 6 * c + 1) (by omega) (by omega)) (congrArg xs (nI_clamp (n := 6 * c + 1) (by omega))) dL_law_1184 ?_
  obtain ⟨ra, rb, ea, eb, hI2, hab⟩ := al2_use hI (xs (6 * c + 1))
  refine u_callV0 (k := 0) (As := [.int (xs (6 * c + 1))]) (rest := []) F B (wX8_use (zl z) E hE bk (xs (6 * c + 1)) I J ea) mX8_use q620 rfl s0 rfl rfl rfl (Nat.le_of_ble_eq_true rfl) dL_law_1185 (fun r1 I1 J1 h1 => ?_)
  rw [h1.1, h1.2.1, h1.2.2]
  refine g_st (sn := [.int ra.1]) rfl ?_
  refine g_pop F dL_law_1188 rfl ?_
  refine g_aload_n F 2 dL_law_1189 rfl rfl ?_
  refine g_aload_n F 4 dL_law_1190 rfl rfl ?_
  refine g_iload F 0 dL_law_1191 rfl ?_
  refine g_iconst (v := nI 1) F dL_law_1193 (by decide) ?_
  refine g_iadd (v := nI (6 * c + 1)) F dL_law_1194 (nI_add (6 * c) 1) ?_
  refine g_sld (v := xs (6 * c + 1)) F hX hbl hbA (vp_in_nI (n := 6 * c + 1) (by omega) (by omega)) (congrArg xs (nI_clamp (n := 6 * c + 1) (by omega))) dL_law_1195 ?_
  refine u_callV0 (k := 62) (As := [.int (xs (6 * c + 1))]) (rest := []) F B (wX9_use (zl z) E hE bk (xs (6 * c + 1)) ra.2 J eb) mX9_use q1108 rfl s62 rfl rfl rfl (Nat.le_of_ble_eq_true rfl) dL_law_1196 (fun r2 I2 J2 h2 => ?_)
  rw [h2.1, h2.2.1, h2.2.2]
  refine g_st (sn := [.int rb.1]) rfl ?_
  refine g_pop F dL_law_1199 rfl ?_
  refine g_goto (tgt := 1632) F dL_law_1200 (by decide) ?_
  refine g_sub (Ln := LV5 E b c) [0, 1, 2, 3, 4] rfl ?_
  exact hend _ _ _ Z hK.next hI2
set_option maxRecDepth 100000 in
set_option maxHeartbeats 4000000 in
theorem law_c28 {z : gZ} {E : gE} {bk b n sa c : Nat} {xs : Nat → Int32} {I : gM} {J : gN} (hE : gDist sh E) (Z : LZ z E bk b n xs sa) (hK : LK z c) (hn : 6 * c + 6 ≤ n) (hN : n ≤ 3072) (hI : InvA2 I) (hend : LE E bk b n sa c xs) : G z 1203 (LV5 E b c) [] I J := by
  have hc : 6 * c + 6 ≤ 3072 := Nat.le_trans hn hN
  obtain ⟨F, B, hX, hbl, hbA, hrest⟩ := Z
  have Z : LZ z E bk b n xs sa := ⟨F, B, hX, hbl, hbA, hrest⟩
  refine g_aload_n F 3 dL_law_1203 rfl rfl ?_
  refine g_aload_n F 4 dL_law_1204 rfl rfl ?_
  refine g_iload F 0 dL_law_1205 rfl ?_
  refine g_iconst (v := nI 1) F dL_law_1207 (by decide) ?_
  refine g_iadd (v := nI (6 * c + 1)) F dL_law_1208 (nI_add (6 * c) 1) ?_
  refine g_sld (v := xs (6 * c + 1)) F hX hbl hbA (vp_in_nI (n := 6 * c + 1) (by omega) (by omega)) (congrArg xs (nI_clamp (n := 6 * c + 1) (by omega))) dL_law_1209 ?_
  obtain ⟨ra, rb, ea, eb, hI2, hab⟩ := al2_order hI (xs (6 * c + 1))
  refine u_callV0 (k := 0) (As := [.int (xs (6 * c + 1))]) (rest := []) F B (wX8_order (zl z) E hE bk (xs (6 * c + 1)) I J ea) mX8_order q624 rfl s0 rfl rfl rfl (Nat.le_of_ble_eq_true rfl) dL_law_1210 (fun r1 I1 J1 h1 => ?_)
  rw [h1.1, h1.2.1, h1.2.2]
  refine g_st (sn := [.int ra.1]) rfl ?_
  refine g_pop F dL_law_1213 rfl ?_
  refine g_aload_n F 2 dL_law_1214 rfl rfl ?_
  refine g_aload_n F 4 dL_law_1215 rfl rfl ?_
  refine g_iload F 0 dL_law_1216 rfl ?_
  refine g_iconst (v := nI 1) F dL_law_1218 (by decide) ?_
  refine g_iadd (v := nI (6 * c + 1)) F dL_law_1219 (nI_add (6 * c) 1) ?_
  refine g_sld (v := xs (6 * c + 1)) F hX hbl hbA (vp_in_nI (n := 6 * c + 1) (by omega) (by omega)) (congrArg xs (nI_clamp (n := 6 * c + 1) (by omega))) dL_law_1220 ?_
  refine u_callV0 (k := 62) (As := [.int (xs (6 * c + 1))]) (rest := []) F B (wX9_order (zl z) E hE bk (xs (6 * c + 1)) ra.2 J eb) mX9_order q1112 rfl s62 rfl rfl rfl (Nat.le_of_ble_eq_true rfl) dL_law_1221 (fun r2 I2 J2 h2 => ?_)
  rw [h2.1, h2.2.1, h2.2.2]
  refine g_st (sn := [.int rb.1]) rfl ?_
  refine g_pop F dL_law_1224 rfl ?_
  refine g_goto (tgt := 1632) F dL_law_1225 (by decide) ?_
  refine g_sub (Ln := LV5 E b c) [0, 1, 2, 3, 4] rfl ?_
  exact hend _ _ _ Z hK.next hI2
set_option maxRecDepth 100000 in
set_option maxHeartbeats 4000000 in
theorem law_c29 {z : gZ} {E : gE} {bk b n sa c : Nat} {xs : Nat → Int32} {I : gM} {J : gN} (hE : gDist sh E) (Z : LZ z E bk b n xs sa) (hK : LK z c) (hn : 6 * c + 6 ≤ n) (hN : n ≤ 3072) (hI : InvA2 I) (hend : LE E bk b n sa c xs) : G z 1228 (LV5 E b c) [] I J := by
  have hc : 6 * c + 6 ≤ 3072 := Nat.le_trans hn hN
  obtain ⟨F, B, hX, hbl, hbA, hrest⟩ := Z
  have Z : LZ z E bk b n xs sa := ⟨F, B, hX, hbl, hbA, hrest⟩
  refine g_aload_n F 3 dL_law_1228 rfl rfl ?_
  refine g_aload_n F 4 dL_law_1229 rfl rfl ?_
  refine g_iload F 0 dL_law_1230 rfl ?_
  refine g_iconst (v := nI 1) F dL_law_1232 (by decide) ?_
  refine g_iadd (v := nI (6 * c + 1)) F dL_law_1233 (nI_add (6 * c) 1) ?_
  refine g_sld (v := xs (6 * c + 1)) F hX hbl hbA (vp_in_nI (n := 6 * c + 1) (by omega) (by omega)) (congrArg xs (nI_clamp (n := 6 * c + 1) (by omega))) dL_law_1234 ?_
  refine g_aload_n F 4 dL_law_1235 rfl rfl ?_
  refine g_iload F 0 dL_law_1236 rfl ?_
  refine g_iconst (v := nI 2) F dL_law_1238 (by decide) ?_
  refine g_iadd (v := nI (6 * c + 2)) F dL_law_1239 (nI_add (6 * c) 2) ?_
  refine g_sld (v := xs (6 * c + 2)) F hX hbl hbA (vp_in_nI (n := 6 * c + 2) (by omega) (by omega)) (congrArg xs (nI_clamp (n := 6 * c + 2) (by omega))) dL_law_1240 ?_
  refine g_i2l (v := ((xs (6 * c + 2))).toInt64) F dL_law_1241 rfl ?_
  refine g_bipush (v := 32) F dL_law_1242 (by decide) ?_
  refine g_lshl (v := (((xs (6 * c + 2))).toInt64 <<< (((32) : Int32).toInt64 &&& 63))) F dL_law_1244 rfl ?_
  refine g_aload_n F 4 dL_law_1245 rfl rfl ?_
  refine g_iload F 0 dL_law_1246 rfl ?_
  refine g_iconst (v := nI 3) F dL_law_1248 (by decide) ?_
  refine g_iadd (v := nI (6 * c + 3)) F dL_law_1249 (nI_add (6 * c) 3) ?_
  refine g_sld (v := xs (6 * c + 3)) F hX hbl hbA (vp_in_nI (n := 6 * c + 3) (by omega) (by omega)) (congrArg xs (nI_clamp (n := 6 * c + 3) (by omega))) dL_law_1250 ?_
  refine g_i2l (v := ((xs (6 * c + 3))).toInt64) F dL_law_1251 rfl ?_
  refine g_ldc2_w F dL_law_1252 q1345 ?_
  refine g_land (v := (((xs (6 * c + 3))).toInt64 &&& (4294967295 : Int64))) F dL_law_1255 rfl ?_
  refine g_lor (v := ((((xs (6 * c + 2))).toInt64 <<< (((32) : Int32).toInt64 &&& 63)) ||| (((xs (6 * c + 3))).toInt64 &&& (4294967295 : Int64)))) F dL_law_1256 rfl ?_
  obtain ⟨ra, rb, ea, eb, hI2⟩ := al2_ways hI (xs (6 * c + 1)) ((((xs (6 * c + 2))).toInt64 <<< (((32) : Int32).toInt64 &&& 63)) ||| (((xs (6 * c + 3))).toInt64 &&& (4294967295 : Int64))) J
  refine u_callV0 (k := 0) (As := [.int (xs (6 * c + 1)), .long ((((xs (6 * c + 2))).toInt64 <<< (((32) : Int32).toInt64 &&& 63)) ||| (((xs (6 * c + 3))).toInt64 &&& (4294967295 : Int64)))]) (rest := []) F B (wX8_ways (zl z) E hE bk (xs (6 * c + 1)) ((((xs (6 * c + 2))).toInt64 <<< (((32) : Int32).toInt64 &&& 63)) ||| (((xs (6 * c + 3))).toInt64 &&& (4294967295 : Int64))) I J ea) mX8_ways q628 rfl s0 rfl rfl rfl (Nat.le_of_ble_eq_true rfl) dL_law_1257 (fun r1 I1 J1 h1 => ?_)
  rw [h1.1, h1.2.1, h1.2.2]
  refine g_st (sn := [.int ra.1]) rfl ?_
  refine g_pop F dL_law_1260 rfl ?_
  refine g_aload_n F 2 dL_law_1261 rfl rfl ?_
  refine g_aload_n F 4 dL_law_1262 rfl rfl ?_
  refine g_iload F 0 dL_law_1263 rfl ?_
  refine g_iconst (v := nI 1) F dL_law_1265 (by decide) ?_
  refine g_iadd (v := nI (6 * c + 1)) F dL_law_1266 (nI_add (6 * c) 1) ?_
  refine g_sld (v := xs (6 * c + 1)) F hX hbl hbA (vp_in_nI (n := 6 * c + 1) (by omega) (by omega)) (congrArg xs (nI_clamp (n := 6 * c + 1) (by omega))) dL_law_1267 ?_
  refine g_aload_n F 4 dL_law_1268 rfl rfl ?_
  refine g_iload F 0 dL_law_1269 rfl ?_
  refine g_iconst (v := nI 2) F dL_law_1271 (by decide) ?_
  refine g_iadd (v := nI (6 * c + 2)) F dL_law_1272 (nI_add (6 * c) 2) ?_
  refine g_sld (v := xs (6 * c + 2)) F hX hbl hbA (vp_in_nI (n := 6 * c + 2) (by omega) (by omega)) (congrArg xs (nI_clamp (n := 6 * c + 2) (by omega))) dL_law_1273 ?_
  refine g_i2l (v := ((xs (6 * c + 2))).toInt64) F dL_law_1274 rfl ?_
  refine g_bipush (v := 32) F dL_law_1275 (by decide) ?_
  refine g_lshl (v := (((xs (6 * c + 2))).toInt64 <<< (((32) : Int32).toInt64 &&& 63))) F dL_law_1277 rfl ?_
  refine g_aload_n F 4 dL_law_1278 rfl rfl ?_
  refine g_iload F 0 dL_law_1279 rfl ?_
  refine g_iconst (v := nI 3) F dL_law_1281 (by decide) ?_
  refine g_iadd (v := nI (6 * c + 3)) F dL_law_1282 (nI_add (6 * c) 3) ?_
  refine g_sld (v := xs (6 * c + 3)) F hX hbl hbA (vp_in_nI (n := 6 * c + 3) (by omega) (by omega)) (congrArg xs (nI_clamp (n := 6 * c + 3) (by omega))) dL_law_1283 ?_
  refine g_i2l (v := ((xs (6 * c + 3))).toInt64) F dL_law_1284 rfl ?_
  refine g_ldc2_w F dL_law_1285 q1345 ?_
  refine g_land (v := (((xs (6 * c + 3))).toInt64 &&& (4294967295 : Int64))) F dL_law_1288 rfl ?_
  refine g_lor (v := ((((xs (6 * c + 2))).toInt64 <<< (((32) : Int32).toInt64 &&& 63)) ||| (((xs (6 * c + 3))).toInt64 &&& (4294967295 : Int64)))) F dL_law_1289 rfl ?_
  refine u_callV0 (k := 62) (As := [.int (xs (6 * c + 1)), .long ((((xs (6 * c + 2))).toInt64 <<< (((32) : Int32).toInt64 &&& 63)) ||| (((xs (6 * c + 3))).toInt64 &&& (4294967295 : Int64)))]) (rest := []) F B (wX9_ways (zl z) E hE bk (xs (6 * c + 1)) ((((xs (6 * c + 2))).toInt64 <<< (((32) : Int32).toInt64 &&& 63)) ||| (((xs (6 * c + 3))).toInt64 &&& (4294967295 : Int64))) ra.2.1 ra.2.2 eb) mX9_ways q1116 rfl s62 rfl rfl rfl (Nat.le_of_ble_eq_true rfl) dL_law_1290 (fun r2 I2 J2 h2 => ?_)
  rw [h2.1, h2.2.1, h2.2.2]
  refine g_st (sn := [.int rb.1]) rfl ?_
  refine g_pop F dL_law_1293 rfl ?_
  refine g_goto (tgt := 1632) F dL_law_1294 (by decide) ?_
  refine g_sub (Ln := LV5 E b c) [0, 1, 2, 3, 4] rfl ?_
  exact hend _ _ _ Z hK.next hI2
set_option maxRecDepth 100000 in
set_option maxHeartbeats 4000000 in
theorem law_c30 {z : gZ} {E : gE} {bk b n sa c : Nat} {xs : Nat → Int32} {I : gM} {J : gN} (hE : gDist sh E) (Z : LZ z E bk b n xs sa) (hK : LK z c) (hn : 6 * c + 6 ≤ n) (hN : n ≤ 3072) (hI : InvA2 I) (hend : LE E bk b n sa c xs) : G z 1297 (LV5 E b c) [] I J := by
  have hc : 6 * c + 6 ≤ 3072 := Nat.le_trans hn hN
  obtain ⟨F, B, hX, hbl, hbA, hrest⟩ := Z
  have Z : LZ z E bk b n xs sa := ⟨F, B, hX, hbl, hbA, hrest⟩
  refine g_aload_n F 3 dL_law_1297 rfl rfl ?_
  refine g_aload_n F 4 dL_law_1298 rfl rfl ?_
  refine g_iload F 0 dL_law_1299 rfl ?_
  refine g_iconst (v := nI 1) F dL_law_1301 (by decide) ?_
  refine g_iadd (v := nI (6 * c + 1)) F dL_law_1302 (nI_add (6 * c) 1) ?_
  refine g_sld (v := xs (6 * c + 1)) F hX hbl hbA (vp_in_nI (n := 6 * c + 1) (by omega) (by omega)) (congrArg xs (nI_clamp (n := 6 * c + 1) (by omega))) dL_law_1303 ?_
  obtain ⟨ra, rb, ea, eb, hI2, hab⟩ := al2_status hI (xs (6 * c + 1))
  refine u_callV0 (k := 0) (As := [.int (xs (6 * c + 1))]) (rest := []) F B (wX8_status (zl z) E hE bk (xs (6 * c + 1)) I J ea) mX8_status q641 rfl s0 rfl rfl rfl (Nat.le_of_ble_eq_true rfl) dL_law_1304 (fun r1 I1 J1 h1 => ?_)
  rw [h1.1, h1.2.1, h1.2.2]
  refine g_st (sn := [.int ra]) rfl ?_
  refine g_pop F dL_law_1307 rfl ?_
  refine g_aload_n F 2 dL_law_1308 rfl rfl ?_
  refine g_aload_n F 4 dL_law_1309 rfl rfl ?_
  refine g_iload F 0 dL_law_1310 rfl ?_
  refine g_iconst (v := nI 1) F dL_law_1312 (by decide) ?_
  refine g_iadd (v := nI (6 * c + 1)) F dL_law_1313 (nI_add (6 * c) 1) ?_
  refine g_sld (v := xs (6 * c + 1)) F hX hbl hbA (vp_in_nI (n := 6 * c + 1) (by omega) (by omega)) (congrArg xs (nI_clamp (n := 6 * c + 1) (by omega))) dL_law_1314 ?_
  refine u_callV0 (k := 62) (As := [.int (xs (6 * c + 1))]) (rest := []) F B (wX9_status (zl z) E hE bk (xs (6 * c + 1)) I J eb) mX9_status q1131 rfl s62 rfl rfl rfl (Nat.le_of_ble_eq_true rfl) dL_law_1315 (fun r2 I2 J2 h2 => ?_)
  rw [h2.1, h2.2.1, h2.2.2]
  refine g_st (sn := [.int rb]) rfl ?_
  refine g_pop F dL_law_1318 rfl ?_
  refine g_goto (tgt := 1632) F dL_law_1319 (by decide) ?_
  refine g_sub (Ln := LV5 E b c) [0, 1, 2, 3, 4] rfl ?_
  exact hend _ _ _ Z hK.next hI2
set_option maxRecDepth 100000 in
set_option maxHeartbeats 4000000 in
theorem law_c31 {z : gZ} {E : gE} {bk b n sa c : Nat} {xs : Nat → Int32} {I : gM} {J : gN} (hE : gDist sh E) (Z : LZ z E bk b n xs sa) (hK : LK z c) (hn : 6 * c + 6 ≤ n) (hN : n ≤ 3072) (hI : InvA2 I) (hend : LE E bk b n sa c xs) : G z 1322 (LV5 E b c) [] I J := by
  have hc : 6 * c + 6 ≤ 3072 := Nat.le_trans hn hN
  obtain ⟨F, B, hX, hbl, hbA, hrest⟩ := Z
  have Z : LZ z E bk b n xs sa := ⟨F, B, hX, hbl, hbA, hrest⟩
  refine g_aload_n F 3 dL_law_1322 rfl rfl ?_
  obtain ⟨ra, rb, ea, eb, hI2, hab⟩ := al2_undo hI
  refine u_callV0 (k := 0) (As := []) (rest := []) F B (wX8_undo (zl z) E hE bk I J ea) mX8_undo q645 rfl s0 rfl rfl rfl (Nat.le_of_ble_eq_true rfl) dL_law_1323 (fun r1 I1 J1 h1 => ?_)
  rw [h1.1, h1.2.1, h1.2.2]
  refine g_st (sn := [.int ra.1]) rfl ?_
  refine g_pop F dL_law_1326 rfl ?_
  refine g_aload_n F 2 dL_law_1327 rfl rfl ?_
  refine u_callV0 (k := 62) (As := []) (rest := []) F B (wX9_undo (zl z) E hE bk ra.2 J eb) mX9_undo q1135 rfl s62 rfl rfl rfl (Nat.le_of_ble_eq_true rfl) dL_law_1328 (fun r2 I2 J2 h2 => ?_)
  rw [h2.1, h2.2.1, h2.2.2]
  refine g_st (sn := [.int rb.1]) rfl ?_
  refine g_pop F dL_law_1331 rfl ?_
  refine g_goto (tgt := 1632) F dL_law_1332 (by decide) ?_
  refine g_sub (Ln := LV5 E b c) [0, 1, 2, 3, 4] rfl ?_
  exact hend _ _ _ Z hK.next hI2
set_option maxRecDepth 100000 in
set_option maxHeartbeats 4000000 in
theorem law_c32 {z : gZ} {E : gE} {bk b n sa c : Nat} {xs : Nat → Int32} {I : gM} {J : gN} (hE : gDist sh E) (Z : LZ z E bk b n xs sa) (hK : LK z c) (hn : 6 * c + 6 ≤ n) (hN : n ≤ 3072) (hI : InvA2 I) (hend : LE E bk b n sa c xs) : G z 1335 (LV5 E b c) [] I J := by
  have hc : 6 * c + 6 ≤ 3072 := Nat.le_trans hn hN
  obtain ⟨F, B, hX, hbl, hbA, hrest⟩ := Z
  have Z : LZ z E bk b n xs sa := ⟨F, B, hX, hbl, hbA, hrest⟩
  refine g_aload_n F 3 dL_law_1335 rfl rfl ?_
  refine g_aload_n F 4 dL_law_1336 rfl rfl ?_
  refine g_iload F 0 dL_law_1337 rfl ?_
  refine g_iconst (v := nI 1) F dL_law_1339 (by decide) ?_
  refine g_iadd (v := nI (6 * c + 1)) F dL_law_1340 (nI_add (6 * c) 1) ?_
  refine g_sld (v := xs (6 * c + 1)) F hX hbl hbA (vp_in_nI (n := 6 * c + 1) (by omega) (by omega)) (congrArg xs (nI_clamp (n := 6 * c + 1) (by omega))) dL_law_1341 ?_
  refine g_aload_n F 4 dL_law_1342 rfl rfl ?_
  refine g_iload F 0 dL_law_1343 rfl ?_
  refine g_iconst (v := nI 2) F dL_law_1345 (by decide) ?_
  refine g_iadd (v := nI (6 * c + 2)) F dL_law_1346 (nI_add (6 * c) 2) ?_
  refine g_sld (v := xs (6 * c + 2)) F hX hbl hbA (vp_in_nI (n := 6 * c + 2) (by omega) (by omega)) (congrArg xs (nI_clamp (n := 6 * c + 2) (by omega))) dL_law_1347 ?_
  obtain ⟨ra, rb, ea, eb, hI2⟩ := al2_log hI (xs (6 * c + 1)) (xs (6 * c + 2))
  refine u_callV0 (k := 0) (As := [.int (xs (6 * c + 1)), .int (xs (6 * c + 2))]) (rest := []) F B (wX8_log (zl z) E hE bk (xs (6 * c + 1)) (xs (6 * c + 2)) I J ea) mX8_log q674 rfl s0 rfl rfl rfl (Nat.le_of_ble_eq_true rfl) dL_law_1348 (fun r1 I1 J1 h1 => ?_)
  rw [h1.1, h1.2.1, h1.2.2]
  refine g_st (sn := [.int ra]) rfl ?_
  refine g_pop F dL_law_1351 rfl ?_
  refine g_aload_n F 2 dL_law_1352 rfl rfl ?_
  refine g_aload_n F 4 dL_law_1353 rfl rfl ?_
  refine g_iload F 0 dL_law_1354 rfl ?_
  refine g_iconst (v := nI 1) F dL_law_1356 (by decide) ?_
  refine g_iadd (v := nI (6 * c + 1)) F dL_law_1357 (nI_add (6 * c) 1) ?_
  refine g_sld (v := xs (6 * c + 1)) F hX hbl hbA (vp_in_nI (n := 6 * c + 1) (by omega) (by omega)) (congrArg xs (nI_clamp (n := 6 * c + 1) (by omega))) dL_law_1358 ?_
  refine g_aload_n F 4 dL_law_1359 rfl rfl ?_
  refine g_iload F 0 dL_law_1360 rfl ?_
  refine g_iconst (v := nI 2) F dL_law_1362 (by decide) ?_
  refine g_iadd (v := nI (6 * c + 2)) F dL_law_1363 (nI_add (6 * c) 2) ?_
  refine g_sld (v := xs (6 * c + 2)) F hX hbl hbA (vp_in_nI (n := 6 * c + 2) (by omega) (by omega)) (congrArg xs (nI_clamp (n := 6 * c + 2) (by omega))) dL_law_1364 ?_
  refine u_callV0 (k := 62) (As := [.int (xs (6 * c + 1)), .int (xs (6 * c + 2))]) (rest := []) F B (wX9_log (zl z) E hE bk (xs (6 * c + 1)) (xs (6 * c + 2)) I J eb) mX9_log q1139 rfl s62 rfl rfl rfl (Nat.le_of_ble_eq_true rfl) dL_law_1365 (fun r2 I2 J2 h2 => ?_)
  rw [h2.1, h2.2.1, h2.2.2]
  refine g_st (sn := [.int rb]) rfl ?_
  refine g_pop F dL_law_1368 rfl ?_
  refine g_goto (tgt := 1632) F dL_law_1369 (by decide) ?_
  refine g_sub (Ln := LV5 E b c) [0, 1, 2, 3, 4] rfl ?_
  exact hend _ _ _ Z hK.next hI2
set_option maxRecDepth 100000 in
set_option maxHeartbeats 4000000 in
theorem law_c33 {z : gZ} {E : gE} {bk b n sa c : Nat} {xs : Nat → Int32} {I : gM} {J : gN} (hE : gDist sh E) (Z : LZ z E bk b n xs sa) (hK : LK z c) (hn : 6 * c + 6 ≤ n) (hN : n ≤ 3072) (hI : InvA2 I) (hend : LE E bk b n sa c xs) : G z 1372 (LV5 E b c) [] I J := by
  have hc : 6 * c + 6 ≤ 3072 := Nat.le_trans hn hN
  obtain ⟨F, B, hX, hbl, hbA, hrest⟩ := Z
  have Z : LZ z E bk b n xs sa := ⟨F, B, hX, hbl, hbA, hrest⟩
  refine g_aload_n F 3 dL_law_1372 rfl rfl ?_
  refine g_aload_n F 4 dL_law_1373 rfl rfl ?_
  refine g_iload F 0 dL_law_1374 rfl ?_
  refine g_iconst (v := nI 1) F dL_law_1376 (by decide) ?_
  refine g_iadd (v := nI (6 * c + 1)) F dL_law_1377 (nI_add (6 * c) 1) ?_
  refine g_sld (v := xs (6 * c + 1)) F hX hbl hbA (vp_in_nI (n := 6 * c + 1) (by omega) (by omega)) (congrArg xs (nI_clamp (n := 6 * c + 1) (by omega))) dL_law_1378 ?_
  refine g_aload_n F 4 dL_law_1379 rfl rfl ?_
  refine g_iload F 0 dL_law_1380 rfl ?_
  refine g_iconst (v := nI 2) F dL_law_1382 (by decide) ?_
  refine g_iadd (v := nI (6 * c + 2)) F dL_law_1383 (nI_add (6 * c) 2) ?_
  refine g_sld (v := xs (6 * c + 2)) F hX hbl hbA (vp_in_nI (n := 6 * c + 2) (by omega) (by omega)) (congrArg xs (nI_clamp (n := 6 * c + 2) (by omega))) dL_law_1384 ?_
  refine g_aload_n F 4 dL_law_1385 rfl rfl ?_
  refine g_iload F 0 dL_law_1386 rfl ?_
  refine g_iconst (v := nI 3) F dL_law_1388 (by decide) ?_
  refine g_iadd (v := nI (6 * c + 3)) F dL_law_1389 (nI_add (6 * c) 3) ?_
  refine g_sld (v := xs (6 * c + 3)) F hX hbl hbA (vp_in_nI (n := 6 * c + 3) (by omega) (by omega)) (congrArg xs (nI_clamp (n := 6 * c + 3) (by omega))) dL_law_1390 ?_
  refine g_aload_n F 4 dL_law_1391 rfl rfl ?_
  refine g_iload F 0 dL_law_1392 rfl ?_
  refine g_iconst (v := nI 4) F dL_law_1394 (by decide) ?_
  refine g_iadd (v := nI (6 * c + 4)) F dL_law_1395 (nI_add (6 * c) 4) ?_
  refine g_sld (v := xs (6 * c + 4)) F hX hbl hbA (vp_in_nI (n := 6 * c + 4) (by omega) (by omega)) (congrArg xs (nI_clamp (n := 6 * c + 4) (by omega))) dL_law_1396 ?_
  refine g_aload_n F 4 dL_law_1397 rfl rfl ?_
  refine g_iload F 0 dL_law_1398 rfl ?_
  refine g_iconst (v := nI 5) F dL_law_1400 (by decide) ?_
  refine g_iadd (v := nI (6 * c + 5)) F dL_law_1401 (nI_add (6 * c) 5) ?_
  refine g_sld (v := xs (6 * c + 5)) F hX hbl hbA (vp_in_nI (n := 6 * c + 5) (by omega) (by omega)) (congrArg xs (nI_clamp (n := 6 * c + 5) (by omega))) dL_law_1402 ?_
  obtain ⟨ra, rb, ea, eb, hI2⟩ := al2_would hI (xs (6 * c + 1)) (xs (6 * c + 2)) (xs (6 * c + 3)) (xs (6 * c + 4)) (xs (6 * c + 5))
  refine u_callV0 (k := 0) (As := [.int (xs (6 * c + 1)), .int (xs (6 * c + 2)), .int (xs (6 * c + 3)), .int (xs (6 * c + 4)), .int (xs (6 * c + 5))]) (rest := []) F B (wX8_would (zl z) E hE bk (xs (6 * c + 1)) (xs (6 * c + 2)) (xs (6 * c + 3)) (xs (6 * c + 4)) (xs (6 * c + 5)) I J ea) mX8_would q686 rfl s0 rfl rfl rfl (Nat.le_of_ble_eq_true rfl) dL_law_1403 (fun r1 I1 J1 h1 => ?_)
  rw [h1.1, h1.2.1, h1.2.2]
  refine g_st (sn := [.int ra.1]) rfl ?_
  refine g_pop F dL_law_1406 rfl ?_
  refine g_aload_n F 2 dL_law_1407 rfl rfl ?_
  refine g_aload_n F 4 dL_law_1408 rfl rfl ?_
  refine g_iload F 0 dL_law_1409 rfl ?_
  refine g_iconst (v := nI 1) F dL_law_1411 (by decide) ?_
  refine g_iadd (v := nI (6 * c + 1)) F dL_law_1412 (nI_add (6 * c) 1) ?_
  refine g_sld (v := xs (6 * c + 1)) F hX hbl hbA (vp_in_nI (n := 6 * c + 1) (by omega) (by omega)) (congrArg xs (nI_clamp (n := 6 * c + 1) (by omega))) dL_law_1413 ?_
  refine g_aload_n F 4 dL_law_1414 rfl rfl ?_
  refine g_iload F 0 dL_law_1415 rfl ?_
  refine g_iconst (v := nI 2) F dL_law_1417 (by decide) ?_
  refine g_iadd (v := nI (6 * c + 2)) F dL_law_1418 (nI_add (6 * c) 2) ?_
  refine g_sld (v := xs (6 * c + 2)) F hX hbl hbA (vp_in_nI (n := 6 * c + 2) (by omega) (by omega)) (congrArg xs (nI_clamp (n := 6 * c + 2) (by omega))) dL_law_1419 ?_
  refine g_aload_n F 4 dL_law_1420 rfl rfl ?_
  refine g_iload F 0 dL_law_1421 rfl ?_
  refine g_iconst (v := nI 3) F dL_law_1423 (by decide) ?_
  refine g_iadd (v := nI (6 * c + 3)) F dL_law_1424 (nI_add (6 * c) 3) ?_
  refine g_sld (v := xs (6 * c + 3)) F hX hbl hbA (vp_in_nI (n := 6 * c + 3) (by omega) (by omega)) (congrArg xs (nI_clamp (n := 6 * c + 3) (by omega))) dL_law_1425 ?_
  refine g_aload_n F 4 dL_law_1426 rfl rfl ?_
  refine g_iload F 0 dL_law_1427 rfl ?_
  refine g_iconst (v := nI 4) F dL_law_1429 (by decide) ?_
  refine g_iadd (v := nI (6 * c + 4)) F dL_law_1430 (nI_add (6 * c) 4) ?_
  refine g_sld (v := xs (6 * c + 4)) F hX hbl hbA (vp_in_nI (n := 6 * c + 4) (by omega) (by omega)) (congrArg xs (nI_clamp (n := 6 * c + 4) (by omega))) dL_law_1431 ?_
  refine g_aload_n F 4 dL_law_1432 rfl rfl ?_
  refine g_iload F 0 dL_law_1433 rfl ?_
  refine g_iconst (v := nI 5) F dL_law_1435 (by decide) ?_
  refine g_iadd (v := nI (6 * c + 5)) F dL_law_1436 (nI_add (6 * c) 5) ?_
  refine g_sld (v := xs (6 * c + 5)) F hX hbl hbA (vp_in_nI (n := 6 * c + 5) (by omega) (by omega)) (congrArg xs (nI_clamp (n := 6 * c + 5) (by omega))) dL_law_1437 ?_
  refine u_callV0 (k := 62) (As := [.int (xs (6 * c + 1)), .int (xs (6 * c + 2)), .int (xs (6 * c + 3)), .int (xs (6 * c + 4)), .int (xs (6 * c + 5))]) (rest := []) F B (wX9_would (zl z) E hE bk (xs (6 * c + 1)) (xs (6 * c + 2)) (xs (6 * c + 3)) (xs (6 * c + 4)) (xs (6 * c + 5)) ra.2 J eb) mX9_would q1286 rfl s62 rfl rfl rfl (Nat.le_of_ble_eq_true rfl) dL_law_1438 (fun r2 I2 J2 h2 => ?_)
  rw [h2.1, h2.2.1, h2.2.2]
  refine g_st (sn := [.int rb.1]) rfl ?_
  refine g_pop F dL_law_1441 rfl ?_
  refine g_goto (tgt := 1632) F dL_law_1442 (by decide) ?_
  refine g_sub (Ln := LV5 E b c) [0, 1, 2, 3, 4] rfl ?_
  exact hend _ _ _ Z hK.next hI2
set_option maxRecDepth 100000 in
set_option maxHeartbeats 4000000 in
theorem law_c34 {z : gZ} {E : gE} {bk b n sa c : Nat} {xs : Nat → Int32} {I : gM} {J : gN} (hE : gDist sh E) (Z : LZ z E bk b n xs sa) (hK : LK z c) (hn : 6 * c + 6 ≤ n) (hN : n ≤ 3072) (hI : InvA2 I) (hend : LE E bk b n sa c xs) : G z 1445 (LV5 E b c) [] I J := by
  have hc : 6 * c + 6 ≤ 3072 := Nat.le_trans hn hN
  obtain ⟨F, B, hX, hbl, hbA, hrest⟩ := Z
  have Z : LZ z E bk b n xs sa := ⟨F, B, hX, hbl, hbA, hrest⟩
  refine g_aload_n F 3 dL_law_1445 rfl rfl ?_
  refine g_aload_n F 4 dL_law_1446 rfl rfl ?_
  refine g_iload F 0 dL_law_1447 rfl ?_
  refine g_iconst (v := nI 1) F dL_law_1449 (by decide) ?_
  refine g_iadd (v := nI (6 * c + 1)) F dL_law_1450 (nI_add (6 * c) 1) ?_
  refine g_sld (v := xs (6 * c + 1)) F hX hbl hbA (vp_in_nI (n := 6 * c + 1) (by omega) (by omega)) (congrArg xs (nI_clamp (n := 6 * c + 1) (by omega))) dL_law_1451 ?_
  refine g_aload_n F 4 dL_law_1452 rfl rfl ?_
  refine g_iload F 0 dL_law_1453 rfl ?_
  refine g_iconst (v := nI 2) F dL_law_1455 (by decide) ?_
  refine g_iadd (v := nI (6 * c + 2)) F dL_law_1456 (nI_add (6 * c) 2) ?_
  refine g_sld (v := xs (6 * c + 2)) F hX hbl hbA (vp_in_nI (n := 6 * c + 2) (by omega) (by omega)) (congrArg xs (nI_clamp (n := 6 * c + 2) (by omega))) dL_law_1457 ?_
  refine g_aload_n F 4 dL_law_1458 rfl rfl ?_
  refine g_iload F 0 dL_law_1459 rfl ?_
  refine g_iconst (v := nI 3) F dL_law_1461 (by decide) ?_
  refine g_iadd (v := nI (6 * c + 3)) F dL_law_1462 (nI_add (6 * c) 3) ?_
  refine g_sld (v := xs (6 * c + 3)) F hX hbl hbA (vp_in_nI (n := 6 * c + 3) (by omega) (by omega)) (congrArg xs (nI_clamp (n := 6 * c + 3) (by omega))) dL_law_1463 ?_
  obtain ⟨ra, rb, ea, eb, hI2, hab⟩ := al2_step hI (xs (6 * c + 1)) (xs (6 * c + 2)) (xs (6 * c + 3))
  refine u_callV0 (k := 0) (As := [.int (xs (6 * c + 1)), .int (xs (6 * c + 2)), .int (xs (6 * c + 3))]) (rest := []) F B (wX8_step (zl z) E hE bk (xs (6 * c + 1)) (xs (6 * c + 2)) (xs (6 * c + 3)) I J ea) mX8_step q690 rfl s0 rfl rfl rfl (Nat.le_of_ble_eq_true rfl) dL_law_1464 (fun r1 I1 J1 h1 => ?_)
  rw [h1.1, h1.2.1, h1.2.2]
  refine g_st (sn := [.int ra]) rfl ?_
  refine g_pop F dL_law_1467 rfl ?_
  refine g_aload_n F 2 dL_law_1468 rfl rfl ?_
  refine g_aload_n F 4 dL_law_1469 rfl rfl ?_
  refine g_iload F 0 dL_law_1470 rfl ?_
  refine g_iconst (v := nI 1) F dL_law_1472 (by decide) ?_
  refine g_iadd (v := nI (6 * c + 1)) F dL_law_1473 (nI_add (6 * c) 1) ?_
  refine g_sld (v := xs (6 * c + 1)) F hX hbl hbA (vp_in_nI (n := 6 * c + 1) (by omega) (by omega)) (congrArg xs (nI_clamp (n := 6 * c + 1) (by omega))) dL_law_1474 ?_
  refine g_aload_n F 4 dL_law_1475 rfl rfl ?_
  refine g_iload F 0 dL_law_1476 rfl ?_
  refine g_iconst (v := nI 2) F dL_law_1478 (by decide) ?_
  refine g_iadd (v := nI (6 * c + 2)) F dL_law_1479 (nI_add (6 * c) 2) ?_
  refine g_sld (v := xs (6 * c + 2)) F hX hbl hbA (vp_in_nI (n := 6 * c + 2) (by omega) (by omega)) (congrArg xs (nI_clamp (n := 6 * c + 2) (by omega))) dL_law_1480 ?_
  refine g_aload_n F 4 dL_law_1481 rfl rfl ?_
  refine g_iload F 0 dL_law_1482 rfl ?_
  refine g_iconst (v := nI 3) F dL_law_1484 (by decide) ?_
  refine g_iadd (v := nI (6 * c + 3)) F dL_law_1485 (nI_add (6 * c) 3) ?_
  refine g_sld (v := xs (6 * c + 3)) F hX hbl hbA (vp_in_nI (n := 6 * c + 3) (by omega) (by omega)) (congrArg xs (nI_clamp (n := 6 * c + 3) (by omega))) dL_law_1486 ?_
  refine u_callV0 (k := 62) (As := [.int (xs (6 * c + 1)), .int (xs (6 * c + 2)), .int (xs (6 * c + 3))]) (rest := []) F B (wX9_step (zl z) E hE bk (xs (6 * c + 1)) (xs (6 * c + 2)) (xs (6 * c + 3)) I J eb) mX9_step q1296 rfl s62 rfl rfl rfl (Nat.le_of_ble_eq_true rfl) dL_law_1487 (fun r2 I2 J2 h2 => ?_)
  rw [h2.1, h2.2.1, h2.2.2]
  refine g_st (sn := [.int rb]) rfl ?_
  refine g_pop F dL_law_1490 rfl ?_
  refine g_goto (tgt := 1632) F dL_law_1491 (by decide) ?_
  refine g_sub (Ln := LV5 E b c) [0, 1, 2, 3, 4] rfl ?_
  exact hend _ _ _ Z hK.next hI2
set_option maxRecDepth 100000 in
set_option maxHeartbeats 4000000 in
theorem law_c35 {z : gZ} {E : gE} {bk b n sa c : Nat} {xs : Nat → Int32} {I : gM} {J : gN} (hE : gDist sh E) (Z : LZ z E bk b n xs sa) (hK : LK z c) (hn : 6 * c + 6 ≤ n) (hN : n ≤ 3072) (hI : InvA2 I) (hend : LE E bk b n sa c xs) : G z 1494 (LV5 E b c) [] I J := by
  have hc : 6 * c + 6 ≤ 3072 := Nat.le_trans hn hN
  obtain ⟨F, B, hX, hbl, hbA, hrest⟩ := Z
  have Z : LZ z E bk b n xs sa := ⟨F, B, hX, hbl, hbA, hrest⟩
  refine g_aload_n F 3 dL_law_1494 rfl rfl ?_
  refine g_aload_n F 4 dL_law_1495 rfl rfl ?_
  refine g_iload F 0 dL_law_1496 rfl ?_
  refine g_iconst (v := nI 1) F dL_law_1498 (by decide) ?_
  refine g_iadd (v := nI (6 * c + 1)) F dL_law_1499 (nI_add (6 * c) 1) ?_
  refine g_sld (v := xs (6 * c + 1)) F hX hbl hbA (vp_in_nI (n := 6 * c + 1) (by omega) (by omega)) (congrArg xs (nI_clamp (n := 6 * c + 1) (by omega))) dL_law_1500 ?_
  refine g_aload_n F 4 dL_law_1501 rfl rfl ?_
  refine g_iload F 0 dL_law_1502 rfl ?_
  refine g_iconst (v := nI 2) F dL_law_1504 (by decide) ?_
  refine g_iadd (v := nI (6 * c + 2)) F dL_law_1505 (nI_add (6 * c) 2) ?_
  refine g_sld (v := xs (6 * c + 2)) F hX hbl hbA (vp_in_nI (n := 6 * c + 2) (by omega) (by omega)) (congrArg xs (nI_clamp (n := 6 * c + 2) (by omega))) dL_law_1506 ?_
  obtain ⟨ra, rb, ea, eb, hI2⟩ := al2_run hI (xs (6 * c + 1)) (xs (6 * c + 2))
  refine u_callV0 (k := 0) (As := [.int (xs (6 * c + 1)), .int (xs (6 * c + 2))]) (rest := []) F B (wX8_run (zl z) E hE bk (xs (6 * c + 1)) (xs (6 * c + 2)) I J ea) mX8_run q701 rfl s0 rfl rfl rfl (Nat.le_of_ble_eq_true rfl) dL_law_1507 (fun r1 I1 J1 h1 => ?_)
  rw [h1.1, h1.2.1, h1.2.2]
  refine g_st (sn := [.int ra.1]) rfl ?_
  refine g_pop F dL_law_1510 rfl ?_
  refine g_aload_n F 2 dL_law_1511 rfl rfl ?_
  refine g_aload_n F 4 dL_law_1512 rfl rfl ?_
  refine g_iload F 0 dL_law_1513 rfl ?_
  refine g_iconst (v := nI 1) F dL_law_1515 (by decide) ?_
  refine g_iadd (v := nI (6 * c + 1)) F dL_law_1516 (nI_add (6 * c) 1) ?_
  refine g_sld (v := xs (6 * c + 1)) F hX hbl hbA (vp_in_nI (n := 6 * c + 1) (by omega) (by omega)) (congrArg xs (nI_clamp (n := 6 * c + 1) (by omega))) dL_law_1517 ?_
  refine g_aload_n F 4 dL_law_1518 rfl rfl ?_
  refine g_iload F 0 dL_law_1519 rfl ?_
  refine g_iconst (v := nI 2) F dL_law_1521 (by decide) ?_
  refine g_iadd (v := nI (6 * c + 2)) F dL_law_1522 (nI_add (6 * c) 2) ?_
  refine g_sld (v := xs (6 * c + 2)) F hX hbl hbA (vp_in_nI (n := 6 * c + 2) (by omega) (by omega)) (congrArg xs (nI_clamp (n := 6 * c + 2) (by omega))) dL_law_1523 ?_
  refine u_callV0 (k := 62) (As := [.int (xs (6 * c + 1)), .int (xs (6 * c + 2))]) (rest := []) F B (wX9_run (zl z) E hE bk (xs (6 * c + 1)) (xs (6 * c + 2)) ra.2 J eb) mX9_run q1303 rfl s62 rfl rfl rfl (Nat.le_of_ble_eq_true rfl) dL_law_1524 (fun r2 I2 J2 h2 => ?_)
  rw [h2.1, h2.2.1, h2.2.2]
  refine g_st (sn := [.int rb.1]) rfl ?_
  refine g_pop F dL_law_1527 rfl ?_
  refine g_goto (tgt := 1632) F dL_law_1528 (by decide) ?_
  refine g_sub (Ln := LV5 E b c) [0, 1, 2, 3, 4] rfl ?_
  exact hend _ _ _ Z hK.next hI2
set_option maxRecDepth 100000 in
set_option maxHeartbeats 4000000 in
theorem law_c36 {z : gZ} {E : gE} {bk b n sa c : Nat} {xs : Nat → Int32} {I : gM} {J : gN} (hE : gDist sh E) (Z : LZ z E bk b n xs sa) (hK : LK z c) (hn : 6 * c + 6 ≤ n) (hN : n ≤ 3072) (hI : InvA2 I) (hend : LE E bk b n sa c xs) : G z 1531 (LV5 E b c) [] I J := by
  have hc : 6 * c + 6 ≤ 3072 := Nat.le_trans hn hN
  obtain ⟨F, B, hX, hbl, hbA, hrest⟩ := Z
  have Z : LZ z E bk b n xs sa := ⟨F, B, hX, hbl, hbA, hrest⟩
  refine g_aload_n F 3 dL_law_1531 rfl rfl ?_
  refine g_aload_n F 4 dL_law_1532 rfl rfl ?_
  refine g_iload F 0 dL_law_1533 rfl ?_
  refine g_iconst (v := nI 1) F dL_law_1535 (by decide) ?_
  refine g_iadd (v := nI (6 * c + 1)) F dL_law_1536 (nI_add (6 * c) 1) ?_
  refine g_sld (v := xs (6 * c + 1)) F hX hbl hbA (vp_in_nI (n := 6 * c + 1) (by omega) (by omega)) (congrArg xs (nI_clamp (n := 6 * c + 1) (by omega))) dL_law_1537 ?_
  obtain ⟨ra, rb, ea, eb, hI2, hab⟩ := al2_perform hI (xs (6 * c + 1))
  refine u_callV0 (k := 0) (As := [.int (xs (6 * c + 1))]) (rest := []) F B (wX8_perform (zl z) E hE bk (xs (6 * c + 1)) I J ea) mX8_perform q713 rfl s0 rfl rfl rfl (Nat.le_of_ble_eq_true rfl) dL_law_1538 (fun r1 I1 J1 h1 => ?_)
  rw [h1.1, h1.2.1, h1.2.2]
  refine g_st (sn := [.int ra.1]) rfl ?_
  refine g_pop F dL_law_1541 rfl ?_
  refine g_aload_n F 2 dL_law_1542 rfl rfl ?_
  refine g_aload_n F 4 dL_law_1543 rfl rfl ?_
  refine g_iload F 0 dL_law_1544 rfl ?_
  refine g_iconst (v := nI 1) F dL_law_1546 (by decide) ?_
  refine g_iadd (v := nI (6 * c + 1)) F dL_law_1547 (nI_add (6 * c) 1) ?_
  refine g_sld (v := xs (6 * c + 1)) F hX hbl hbA (vp_in_nI (n := 6 * c + 1) (by omega) (by omega)) (congrArg xs (nI_clamp (n := 6 * c + 1) (by omega))) dL_law_1548 ?_
  refine u_callV0 (k := 62) (As := [.int (xs (6 * c + 1))]) (rest := []) F B (wX9_perform (zl z) E hE bk (xs (6 * c + 1)) ra.2 J eb) mX9_perform q1310 rfl s62 rfl rfl rfl (Nat.le_of_ble_eq_true rfl) dL_law_1549 (fun r2 I2 J2 h2 => ?_)
  rw [h2.1, h2.2.1, h2.2.2]
  refine g_st (sn := [.int rb.1]) rfl ?_
  refine g_pop F dL_law_1552 rfl ?_
  refine g_goto (tgt := 1632) F dL_law_1553 (by decide) ?_
  refine g_sub (Ln := LV5 E b c) [0, 1, 2, 3, 4] rfl ?_
  exact hend _ _ _ Z hK.next hI2
set_option maxRecDepth 100000 in
set_option maxHeartbeats 4000000 in
theorem law_c37 {z : gZ} {E : gE} {bk b n sa c : Nat} {xs : Nat → Int32} {I : gM} {J : gN} (hE : gDist sh E) (Z : LZ z E bk b n xs sa) (hK : LK z c) (hn : 6 * c + 6 ≤ n) (hN : n ≤ 3072) (hI : InvA2 I) (hend : LE E bk b n sa c xs) : G z 1556 (LV5 E b c) [] I J := by
  have hc : 6 * c + 6 ≤ 3072 := Nat.le_trans hn hN
  obtain ⟨F, B, hX, hbl, hbA, hrest⟩ := Z
  have Z : LZ z E bk b n xs sa := ⟨F, B, hX, hbl, hbA, hrest⟩
  refine g_aload_n F 3 dL_law_1556 rfl rfl ?_
  refine g_aload_n F 4 dL_law_1557 rfl rfl ?_
  refine g_iload F 0 dL_law_1558 rfl ?_
  refine g_iconst (v := nI 1) F dL_law_1560 (by decide) ?_
  refine g_iadd (v := nI (6 * c + 1)) F dL_law_1561 (nI_add (6 * c) 1) ?_
  refine g_sld (v := xs (6 * c + 1)) F hX hbl hbA (vp_in_nI (n := 6 * c + 1) (by omega) (by omega)) (congrArg xs (nI_clamp (n := 6 * c + 1) (by omega))) dL_law_1562 ?_
  obtain ⟨ra, rb, ea, eb, hI2⟩ := al2_most hI (xs (6 * c + 1))
  refine u_callV0 (k := 0) (As := [.int (xs (6 * c + 1))]) (rest := []) F B (wX8_most (zl z) E hE bk (xs (6 * c + 1)) I J ea) mX8_most q717 rfl s0 rfl rfl rfl (Nat.le_of_ble_eq_true rfl) dL_law_1563 (fun r1 I1 J1 h1 => ?_)
  rw [h1.1, h1.2.1, h1.2.2]
  refine g_st (sn := [.int ra.1]) rfl ?_
  refine g_pop F dL_law_1566 rfl ?_
  refine g_aload_n F 2 dL_law_1567 rfl rfl ?_
  refine g_aload_n F 4 dL_law_1568 rfl rfl ?_
  refine g_iload F 0 dL_law_1569 rfl ?_
  refine g_iconst (v := nI 1) F dL_law_1571 (by decide) ?_
  refine g_iadd (v := nI (6 * c + 1)) F dL_law_1572 (nI_add (6 * c) 1) ?_
  refine g_sld (v := xs (6 * c + 1)) F hX hbl hbA (vp_in_nI (n := 6 * c + 1) (by omega) (by omega)) (congrArg xs (nI_clamp (n := 6 * c + 1) (by omega))) dL_law_1573 ?_
  refine u_callV0 (k := 62) (As := [.int (xs (6 * c + 1))]) (rest := []) F B (wX9_most (zl z) E hE bk (xs (6 * c + 1)) ra.2 J eb) mX9_most q1314 rfl s62 rfl rfl rfl (Nat.le_of_ble_eq_true rfl) dL_law_1574 (fun r2 I2 J2 h2 => ?_)
  rw [h2.1, h2.2.1, h2.2.2]
  refine g_st (sn := [.int rb.1]) rfl ?_
  refine g_pop F dL_law_1577 rfl ?_
  refine g_goto (tgt := 1632) F dL_law_1578 (by decide) ?_
  refine g_sub (Ln := LV5 E b c) [0, 1, 2, 3, 4] rfl ?_
  exact hend _ _ _ Z hK.next hI2
set_option maxRecDepth 100000 in
set_option maxHeartbeats 4000000 in
theorem law_c38 {z : gZ} {E : gE} {bk b n sa c : Nat} {xs : Nat → Int32} {I : gM} {J : gN} (hE : gDist sh E) (Z : LZ z E bk b n xs sa) (hK : LK z c) (hn : 6 * c + 6 ≤ n) (hN : n ≤ 3072) (hI : InvA2 I) (hend : LE E bk b n sa c xs) : G z 1581 (LV5 E b c) [] I J := by
  have hc : 6 * c + 6 ≤ 3072 := Nat.le_trans hn hN
  obtain ⟨F, B, hX, hbl, hbA, hrest⟩ := Z
  have Z : LZ z E bk b n xs sa := ⟨F, B, hX, hbl, hbA, hrest⟩
  refine g_aload_n F 3 dL_law_1581 rfl rfl ?_
  obtain ⟨ra, rb, ea, eb, hI2⟩ := al2_image hI
  refine u_callV0 (k := 0) (As := []) (rest := []) F B (wX8_image (zl z) E hE bk I J ea) mX8_image q747 rfl s0 rfl rfl rfl (Nat.le_of_ble_eq_true rfl) dL_law_1582 (fun r1 I1 J1 h1 => ?_)
  rw [h1.1, h1.2.1, h1.2.2]
  refine g_st (sn := [.int ra.1]) rfl ?_
  refine g_pop F dL_law_1585 rfl ?_
  refine g_aload_n F 2 dL_law_1586 rfl rfl ?_
  refine u_callV0 (k := 62) (As := []) (rest := []) F B (wX9_image (zl z) E hE bk ra.2 J eb) mX9_image q1333 rfl s62 rfl rfl rfl (Nat.le_of_ble_eq_true rfl) dL_law_1587 (fun r2 I2 J2 h2 => ?_)
  rw [h2.1, h2.2.1, h2.2.2]
  refine g_st (sn := [.int rb.1]) rfl ?_
  refine g_pop F dL_law_1590 rfl ?_
  refine g_goto (tgt := 1632) F dL_law_1591 (by decide) ?_
  refine g_sub (Ln := LV5 E b c) [0, 1, 2, 3, 4] rfl ?_
  exact hend _ _ _ Z hK.next hI2
set_option maxRecDepth 100000 in
set_option maxHeartbeats 4000000 in
theorem law_c39 {z : gZ} {E : gE} {bk b n sa c : Nat} {xs : Nat → Int32} {I : gM} {J : gN} (hE : gDist sh E) (Z : LZ z E bk b n xs sa) (hK : LK z c) (hn : 6 * c + 6 ≤ n) (hN : n ≤ 3072) (hI : InvA2 I) (hend : LE E bk b n sa c xs) : G z 1594 (LV5 E b c) [] I J := by
  have hc : 6 * c + 6 ≤ 3072 := Nat.le_trans hn hN
  obtain ⟨F, B, hX, hbl, hbA, hrest⟩ := Z
  have Z : LZ z E bk b n xs sa := ⟨F, B, hX, hbl, hbA, hrest⟩
  refine g_aload_n F 3 dL_law_1594 rfl rfl ?_
  obtain ⟨ra, rb, ea, eb, hI2⟩ := al2_back hI
  refine u_callV0 (k := 0) (As := []) (rest := []) F B (wX8_back (zl z) E hE bk I J ea) mX8_back q756 rfl s0 rfl rfl rfl (Nat.le_of_ble_eq_true rfl) dL_law_1595 (fun r1 I1 J1 h1 => ?_)
  rw [h1.1, h1.2.1, h1.2.2]
  refine g_st (sn := [.int ra.1]) rfl ?_
  refine g_pop F dL_law_1598 rfl ?_
  refine g_aload_n F 2 dL_law_1599 rfl rfl ?_
  refine u_callV0 (k := 62) (As := []) (rest := []) F B (wX9_back (zl z) E hE bk ra.2 J eb) mX9_back q1337 rfl s62 rfl rfl rfl (Nat.le_of_ble_eq_true rfl) dL_law_1600 (fun r2 I2 J2 h2 => ?_)
  rw [h2.1, h2.2.1, h2.2.2]
  refine g_st (sn := [.int rb.1]) rfl ?_
  refine g_pop F dL_law_1603 rfl ?_
  refine g_goto (tgt := 1632) F dL_law_1604 (by decide) ?_
  refine g_sub (Ln := LV5 E b c) [0, 1, 2, 3, 4] rfl ?_
  exact hend _ _ _ Z hK.next hI2
set_option maxRecDepth 100000 in
set_option maxHeartbeats 4000000 in
theorem law_c40 {z : gZ} {E : gE} {bk b n sa c : Nat} {xs : Nat → Int32} {I : gM} {J : gN} (hE : gDist sh E) (Z : LZ z E bk b n xs sa) (hK : LK z c) (hn : 6 * c + 6 ≤ n) (hN : n ≤ 3072) (hI : InvA2 I) (hend : LE E bk b n sa c xs) : G z 1607 (LV5 E b c) [] I J := by
  have hc : 6 * c + 6 ≤ 3072 := Nat.le_trans hn hN
  obtain ⟨F, B, hX, hbl, hbA, hrest⟩ := Z
  have Z : LZ z E bk b n xs sa := ⟨F, B, hX, hbl, hbA, hrest⟩
  refine g_aload_n F 3 dL_law_1607 rfl rfl ?_
  refine g_aload_n F 4 dL_law_1608 rfl rfl ?_
  refine g_iload F 0 dL_law_1609 rfl ?_
  refine g_iconst (v := nI 1) F dL_law_1611 (by decide) ?_
  refine g_iadd (v := nI (6 * c + 1)) F dL_law_1612 (nI_add (6 * c) 1) ?_
  refine g_sld (v := xs (6 * c + 1)) F hX hbl hbA (vp_in_nI (n := 6 * c + 1) (by omega) (by omega)) (congrArg xs (nI_clamp (n := 6 * c + 1) (by omega))) dL_law_1613 ?_
  obtain ⟨ra, rb, ea, eb, hI2, hab⟩ := al2_count hI (xs (6 * c + 1))
  refine u_callV0 (k := 0) (As := [.int (xs (6 * c + 1))]) (rest := []) F B (wX8_count (zl z) E hE bk (xs (6 * c + 1)) I J ea) mX8_count q760 rfl s0 rfl rfl rfl (Nat.le_of_ble_eq_true rfl) dL_law_1614 (fun r1 I1 J1 h1 => ?_)
  rw [h1.1, h1.2.1, h1.2.2]
  refine g_st (sn := [.int ra]) rfl ?_
  refine g_pop F dL_law_1617 rfl ?_
  refine g_aload_n F 2 dL_law_1618 rfl rfl ?_
  refine g_aload_n F 4 dL_law_1619 rfl rfl ?_
  refine g_iload F 0 dL_law_1620 rfl ?_
  refine g_iconst (v := nI 1) F dL_law_1622 (by decide) ?_
  refine g_iadd (v := nI (6 * c + 1)) F dL_law_1623 (nI_add (6 * c) 1) ?_
  refine g_sld (v := xs (6 * c + 1)) F hX hbl hbA (vp_in_nI (n := 6 * c + 1) (by omega) (by omega)) (congrArg xs (nI_clamp (n := 6 * c + 1) (by omega))) dL_law_1624 ?_
  refine u_callV0 (k := 62) (As := [.int (xs (6 * c + 1))]) (rest := []) F B (wX9_count (zl z) E hE bk (xs (6 * c + 1)) I J eb) mX9_count q1341 rfl s62 rfl rfl rfl (Nat.le_of_ble_eq_true rfl) dL_law_1625 (fun r2 I2 J2 h2 => ?_)
  rw [h2.1, h2.2.1, h2.2.2]
  refine g_st (sn := [.int rb]) rfl ?_
  refine g_pop F dL_law_1628 rfl ?_
  refine g_goto (tgt := 1632) F dL_law_1629 (by decide) ?_
  refine g_sub (Ln := LV5 E b c) [0, 1, 2, 3, 4] rfl ?_
  exact hend _ _ _ Z hK.next hI2
set_option maxRecDepth 100000 in
set_option maxHeartbeats 4000000 in
theorem law_sw {z : gZ} {E : gE} {bk b n sa c : Nat} {xs : Nat → Int32} {x : Int32} {I : gM} {J : gN} (hE : gDist sh E) (Z : LZ z E bk b n xs sa) (hK : LK z c) (hn : 6 * c + 6 ≤ n) (hN : n ≤ 3072) (hI : InvA2 I) (hend : LE E bk b n sa c xs) : G z 40 (LV5 E b c) [.int x] I J := by
  have F := Z.1
  by_cases hr : 0 ≤ x.toInt ∧ x.toInt ≤ 40
  · obtain ⟨n, hn1⟩ := Int.eq_ofNat_of_zero_le hr.1
    have hn2 : n < 41 := by omega
    match n, hn1, hn2 with
    | 0, hn1, _ =>
      refine g_tableIn (tgt := 220) F dL_law_40 (by rw [hn1]; decide) (by rw [hn1]; decide) (by rw [hn1]; rfl) (by decide) ?_
      exact law_c0 hE Z hK hn hN hI hend
    | 1, hn1, _ =>
      refine g_tableIn (tgt := 293) F dL_law_40 (by rw [hn1]; decide) (by rw [hn1]; decide) (by rw [hn1]; rfl) (by decide) ?_
      exact law_c1 hE Z hK hn hN hI hend
    | 2, hn1, _ =>
      refine g_tableIn (tgt := 318) F dL_law_40 (by rw [hn1]; decide) (by rw [hn1]; decide) (by rw [hn1]; rfl) (by decide) ?_
      exact law_c2 hE Z hK hn hN hI hend
    | 3, hn1, _ =>
      refine g_tableIn (tgt := 343) F dL_law_40 (by rw [hn1]; decide) (by rw [hn1]; decide) (by rw [hn1]; rfl) (by decide) ?_
      exact law_c3 hE Z hK hn hN hI hend
    | 4, hn1, _ =>
      refine g_tableIn (tgt := 368) F dL_law_40 (by rw [hn1]; decide) (by rw [hn1]; decide) (by rw [hn1]; rfl) (by decide) ?_
      exact law_c4 hE Z hK hn hN hI hend
    | 5, hn1, _ =>
      refine g_tableIn (tgt := 393) F dL_law_40 (by rw [hn1]; decide) (by rw [hn1]; decide) (by rw [hn1]; rfl) (by decide) ?_
      exact law_c5 hE Z hK hn hN hI hend
    | 6, hn1, _ =>
      refine g_tableIn (tgt := 461) F dL_law_40 (by rw [hn1]; decide) (by rw [hn1]; decide) (by rw [hn1]; rfl) (by decide) ?_
      exact law_c6 hE Z hK hn hN hI hend
    | 7, hn1, _ =>
      refine g_tableIn (tgt := 510) F dL_law_40 (by rw [hn1]; decide) (by rw [hn1]; decide) (by rw [hn1]; rfl) (by decide) ?_
      exact law_c7 hE Z hK hn hN hI hend
    | 8, hn1, _ =>
      refine g_tableIn (tgt := 523) F dL_law_40 (by rw [hn1]; decide) (by rw [hn1]; decide) (by rw [hn1]; rfl) (by decide) ?_
      exact law_c8 hE Z hK hn hN hI hend
    | 9, hn1, _ =>
      refine g_tableIn (tgt := 560) F dL_law_40 (by rw [hn1]; decide) (by rw [hn1]; decide) (by rw [hn1]; rfl) (by decide) ?_
      exact law_c9 hE Z hK hn hN hI hend
    | 10, hn1, _ =>
      refine g_tableIn (tgt := 573) F dL_law_40 (by rw [hn1]; decide) (by rw [hn1]; decide) (by rw [hn1]; rfl) (by decide) ?_
      exact law_c10 hE Z hK hn hN hI hend
    | 11, hn1, _ =>
      refine g_tableIn (tgt := 598) F dL_law_40 (by rw [hn1]; decide) (by rw [hn1]; decide) (by rw [hn1]; rfl) (by decide) ?_
      exact law_c11 hE Z hK hn hN hI hend
    | 12, hn1, _ =>
      refine g_tableIn (tgt := 623) F dL_law_40 (by rw [hn1]; decide) (by rw [hn1]; decide) (by rw [hn1]; rfl) (by decide) ?_
      exact law_c12 hE Z hK hn hN hI hend
    | 13, hn1, _ =>
      refine g_tableIn (tgt := 636) F dL_law_40 (by rw [hn1]; decide) (by rw [hn1]; decide) (by rw [hn1]; rfl) (by decide) ?_
      exact law_c13 hE Z hK hn hN hI hend
    | 14, hn1, _ =>
      refine g_tableIn (tgt := 661) F dL_law_40 (by rw [hn1]; decide) (by rw [hn1]; decide) (by rw [hn1]; rfl) (by decide) ?_
      exact law_c14 hE Z hK hn hN hI hend
    | 15, hn1, _ =>
      refine g_tableIn (tgt := 686) F dL_law_40 (by rw [hn1]; decide) (by rw [hn1]; decide) (by rw [hn1]; rfl) (by decide) ?_
      exact law_c15 hE Z hK hn hN hI hend
    | 16, hn1, _ =>
      refine g_tableIn (tgt := 711) F dL_law_40 (by rw [hn1]; decide) (by rw [hn1]; decide) (by rw [hn1]; rfl) (by decide) ?_
      exact law_c16 hE Z hK hn hN hI hend
    | 17, hn1, _ =>
      refine g_tableIn (tgt := 748) F dL_law_40 (by rw [hn1]; decide) (by rw [hn1]; decide) (by rw [hn1]; rfl) (by decide) ?_
      exact law_c17 hE Z hK hn hN hI hend
    | 18, hn1, _ =>
      refine g_tableIn (tgt := 785) F dL_law_40 (by rw [hn1]; decide) (by rw [hn1]; decide) (by rw [hn1]; rfl) (by decide) ?_
      exact law_c18 hE Z hK hn hN hI hend
    | 19, hn1, _ =>
      refine g_tableIn (tgt := 822) F dL_law_40 (by rw [hn1]; decide) (by rw [hn1]; decide) (by rw [hn1]; rfl) (by decide) ?_
      exact law_c19 hE Z hK hn hN hI hend
    | 20, hn1, _ =>
      refine g_tableIn (tgt := 883) F dL_law_40 (by rw [hn1]; decide) (by rw [hn1]; decide) (by rw [hn1]; rfl) (by decide) ?_
      exact law_c20 hE Z hK hn hN hI hend
    | 21, hn1, _ =>
      refine g_tableIn (tgt := 944) F dL_law_40 (by rw [hn1]; decide) (by rw [hn1]; decide) (by rw [hn1]; rfl) (by decide) ?_
      exact law_c21 hE Z hK hn hN hI hend
    | 22, hn1, _ =>
      refine g_tableIn (tgt := 969) F dL_law_40 (by rw [hn1]; decide) (by rw [hn1]; decide) (by rw [hn1]; rfl) (by decide) ?_
      exact law_c22 hE Z hK hn hN hI hend
    | 23, hn1, _ =>
      refine g_tableIn (tgt := 1006) F dL_law_40 (by rw [hn1]; decide) (by rw [hn1]; decide) (by rw [hn1]; rfl) (by decide) ?_
      exact law_c23 hE Z hK hn hN hI hend
    | 24, hn1, _ =>
      refine g_tableIn (tgt := 1031) F dL_law_40 (by rw [hn1]; decide) (by rw [hn1]; decide) (by rw [hn1]; rfl) (by decide) ?_
      exact law_c24 hE Z hK hn hN hI hend
    | 25, hn1, _ =>
      refine g_tableIn (tgt := 1056) F dL_law_40 (by rw [hn1]; decide) (by rw [hn1]; decide) (by rw [hn1]; rfl) (by decide) ?_
      exact law_c25 hE Z hK hn hN hI hend
    | 26, hn1, _ =>
      refine g_tableIn (tgt := 1117) F dL_law_40 (by rw [hn1]; decide) (by rw [hn1]; decide) (by rw [hn1]; rfl) (by decide) ?_
      exact law_c26 hE Z hK hn hN hI hend
    | 27, hn1, _ =>
      refine g_tableIn (tgt := 1178) F dL_law_40 (by rw [hn1]; decide) (by rw [hn1]; decide) (by rw [hn1]; rfl) (by decide) ?_
      exact law_c27 hE Z hK hn hN hI hend
    | 28, hn1, _ =>
      refine g_tableIn (tgt := 1203) F dL_law_40 (by rw [hn1]; decide) (by rw [hn1]; decide) (by rw [hn1]; rfl) (by decide) ?_
      exact law_c28 hE Z hK hn hN hI hend
    | 29, hn1, _ =>
      refine g_tableIn (tgt := 1228) F dL_law_40 (by rw [hn1]; decide) (by rw [hn1]; decide) (by rw [hn1]; rfl) (by decide) ?_
      exact law_c29 hE Z hK hn hN hI hend
    | 30, hn1, _ =>
      refine g_tableIn (tgt := 1297) F dL_law_40 (by rw [hn1]; decide) (by rw [hn1]; decide) (by rw [hn1]; rfl) (by decide) ?_
      exact law_c30 hE Z hK hn hN hI hend
    | 31, hn1, _ =>
      refine g_tableIn (tgt := 1322) F dL_law_40 (by rw [hn1]; decide) (by rw [hn1]; decide) (by rw [hn1]; rfl) (by decide) ?_
      exact law_c31 hE Z hK hn hN hI hend
    | 32, hn1, _ =>
      refine g_tableIn (tgt := 1335) F dL_law_40 (by rw [hn1]; decide) (by rw [hn1]; decide) (by rw [hn1]; rfl) (by decide) ?_
      exact law_c32 hE Z hK hn hN hI hend
    | 33, hn1, _ =>
      refine g_tableIn (tgt := 1372) F dL_law_40 (by rw [hn1]; decide) (by rw [hn1]; decide) (by rw [hn1]; rfl) (by decide) ?_
      exact law_c33 hE Z hK hn hN hI hend
    | 34, hn1, _ =>
      refine g_tableIn (tgt := 1445) F dL_law_40 (by rw [hn1]; decide) (by rw [hn1]; decide) (by rw [hn1]; rfl) (by decide) ?_
      exact law_c34 hE Z hK hn hN hI hend
    | 35, hn1, _ =>
      refine g_tableIn (tgt := 1494) F dL_law_40 (by rw [hn1]; decide) (by rw [hn1]; decide) (by rw [hn1]; rfl) (by decide) ?_
      exact law_c35 hE Z hK hn hN hI hend
    | 36, hn1, _ =>
      refine g_tableIn (tgt := 1531) F dL_law_40 (by rw [hn1]; decide) (by rw [hn1]; decide) (by rw [hn1]; rfl) (by decide) ?_
      exact law_c36 hE Z hK hn hN hI hend
    | 37, hn1, _ =>
      refine g_tableIn (tgt := 1556) F dL_law_40 (by rw [hn1]; decide) (by rw [hn1]; decide) (by rw [hn1]; rfl) (by decide) ?_
      exact law_c37 hE Z hK hn hN hI hend
    | 38, hn1, _ =>
      refine g_tableIn (tgt := 1581) F dL_law_40 (by rw [hn1]; decide) (by rw [hn1]; decide) (by rw [hn1]; rfl) (by decide) ?_
      exact law_c38 hE Z hK hn hN hI hend
    | 39, hn1, _ =>
      refine g_tableIn (tgt := 1594) F dL_law_40 (by rw [hn1]; decide) (by rw [hn1]; decide) (by rw [hn1]; rfl) (by decide) ?_
      exact law_c39 hE Z hK hn hN hI hend
    | 40, hn1, _ =>
      refine g_tableIn (tgt := 1607) F dL_law_40 (by rw [hn1]; decide) (by rw [hn1]; decide) (by rw [hn1]; rfl) (by decide) ?_
      exact law_c40 hE Z hK hn hN hI hend
    | n + 41, _, h => exact absurd h (by omega)
  · refine g_tableOut (tgt := 1632) F dL_law_40 (by omega) (by decide) ?_
    exact hend _ _ _ Z hK.next hI
/-- the law's loop -/
theorem law_loop {E : gE} {bk b n sa : Nat} {xs : Nat → Int32} (hE : gDist sh E) (hN : n ≤ 3072) : ∀ (k c : Nat) (z : gZ) (I : gM) (J : gN), n - 6 * c = k → 6 * c ≤ 3072 → LZ z E bk b n xs sa → LK z c → InvA2 I → G z 23 (LV5 E b c) [] I J := by
  intro k
  induction k using Nat.strongRecOn with
  | _ k ih =>
    intro c z I J hk hc Z hK hI
    obtain ⟨F, B, hX, hbl, hbA, hrest⟩ := Z
    have Z : LZ z E bk b n xs sa := ⟨F, B, hX, hbl, hbA, hrest⟩
    have e6 : (nI n - 6).toInt = (n : Int) - 6 := tS (tnI (by omega)) (by decide) (by omega) (by omega)
    refine g_iload F 0 dL_law_23 rfl ?_
    refine g_aload_n F 4 dL_law_25 rfl rfl ?_
    refine g_slen F hX hbl hbA dL_law_26 ?_
    refine g_bipush (v := 6) F dL_law_27 (by decide) ?_
    refine g_isub (v := nI n - 6) F dL_law_29 rfl ?_
    refine g_icmp_gt (tgt := 1638) F dL_law_30 (by decide) (fun _ => ?_) (fun h => ?_)
    · have h1 := hK.1
      have h2 := hK.2
      exact law_fin Z ⟨by omega, by omega⟩
    · have hn : 6 * c + 6 ≤ n := by
        have := mt (iLT (a := nI n - 6) (b := nI (6 * c)) e6 (tnI (by omega))).mpr h
        omega
      refine g_aload_n F 4 dL_law_33 rfl rfl ?_
      refine g_iload F 0 dL_law_34 rfl ?_
      refine g_sld (v := xs (6 * c)) F hX hbl hbA (vp_in_nI (n := 6 * c) (by omega) (by omega)) (congrArg xs (nI_clamp (n := 6 * c) (by omega))) dL_law_36 ?_
      refine g_bipush (v := 63) F dL_law_37 (by decide) ?_
      refine g_iand (v := xs (6 * c) &&& 63) F dL_law_39 rfl ?_
      refine law_sw hE Z hK hn hN hI (fun z I J Z hK hI => ?_)
      have F := Z.1
      refine g_iinc (v := nI (6 * (c + 1))) (Ln := LV5 E b (c + 1)) F 0 dL_law_1632 rfl (nI_add (6 * c) 6) (by decide) rfl ?_
      refine g_goto (tgt := 23) F dL_law_1635 (by decide) ?_
      exact ih (n - 6 * (c + 1)) (by omega) (c + 1) z I J rfl (by omega) Z hK hI
