/-! image, back, ways: the rows that both hold at their end -/
theorem find_now {I0 R0 M R : gM} {k k1 : Nat} {A : aT} (hk : k1 + 4 < k) (hM9 : MI false R0 R) (hW : WF A) (h0 : 0 < A.1.length) (hC : CT M k1 A) (hR : RT R (R 70) A) (hz : M (k + 4) 0 = 0) :
    ∃ M' R' J, fX1_findBy k k1 (M k1 2) M = some M' ∧ fX9_joinsNow R = some R' ∧ OUT k (fl4 A.2.2 (asA A)) M' R' J ∧ J ≤ 20736 ∧ Sc M' k (fl4 A.2.2 (asA A)) ∧ Sq R' (fl4 A.2.2 (asA A)) ∧ FJc k M M' := by
  obtain ⟨M', R', J, h1, h2, h3, h4, h5, h6, _, h7⟩ := find_two (I0 := I0) hk hM9 hW h0 hC hR hz hW.2.2.2.1
  refine ⟨M', R', J, by rw [hC.2.2.1]; exact h1, ?_, h3, h4, h5, h6, h7⟩
  unfold fX9_joinsNow
  rw [show (1 : Int32) = nI 1 from rfl, rI_n (by omega) (by omega), obs, hR.2.2.1, h2, obs]
theorem InvB.n {I : gM} (h : InvB I) : I 3 0 = 0 ↔ I 62 17 = 0 := by
  obtain ⟨A, hW, hC, hR⟩ := h.tab
  rw [hC.1, hR.1]
theorem post_two {R0 I' b : gM} (h : InvB b) (n : b 3 0 ≠ 0) (hM : MI false R0 I') (e : fX9_joinsNow I' = some b) : b 18 0 = b 62 26 := by
  obtain ⟨A, hW, hC, hR⟩ := h.tab
  obtain ⟨r, er, _, Mr, Gr, f1, f2⟩ := n_rowsNow hM
  rw [e] at er
  obtain rfl := Option.some.inj er
  have hRI : RT I' (I' 70) A := by
    rw [← f1 70 (by omega) (by omega) (by omega) (by omega) (by omega) (by omega) (by omega) (by omega)]
    exact hR.cong (f2 17 (by omega) (by omega) (by omega)).symm (f1 72 (by omega) (by omega) (by omega) (by omega) (by omega) (by omega) (by omega) (by omega)).symm (f1 73 (by omega) (by omega) (by omega) (by omega) (by omega) (by omega) (by omega) (by omega)).symm hW.1 hW.k12 (fun _ _ => rfl)
  have n' : 0 < A.1.length := by
    have := mt (hC.n0 hW).mpr n
    omega
  obtain ⟨R', J, ej, o, _⟩ := cur_two h hW n' hC hM hRI
  rw [e] at ej
  obtain rfl := Option.some.inj ej
  exact o.1.trans o.2.1.symm
theorem n_areT {I : gM} {r : Int32} (h : fX9_areTables I = some r) : (r = 0 ∧ (I 62 17).toInt ≤ 0) ∨ (r = 1 ∧ 0 < (I 62 17).toInt) := by
  unfold fX9_areTables at h
  rcases oi h with ⟨c, h⟩ | ⟨c, h⟩
  · rw [Int32.le_iff_toInt_le, t0i] at c
    exact Or.inl ⟨(Option.some.inj h).symm, c⟩
  · rw [Int32.le_iff_toInt_le, t0i] at c
    exact Or.inr ⟨(Option.some.inj h).symm, by omega⟩
theorem eq_image {I : gM} (h : InvB I) {a b : Int32 × gM} (e1 : fX8_image I = some a) (e2 : fX9_image a.2 = some b) (hB : InvB b.2) : a.1 = b.1 := by
  obtain ⟨A, hW, hC, hR⟩ := h.tab
  have hMa : MI true I a.2 := by
    obtain ⟨p, ep, _, hp⟩ := tfX8_image I h.1.1
    rw [e1] at ep
    obtain rfl := Option.some.inj ep
    exact hp
  have lo : ∀ q, q < 62 → b.2 q = a.2 q := fun q hq => zfX9_image _ e2 q (by omega) (by omega) (by omega) (by omega) (by omega) (by omega) (by omega) (by omega) (by omega)
  have k17 : b.2 62 17 = a.2 62 17 := xfX9_image _ e2 62 17 (by omega) (by omega) (by omega) (by omega) (by omega) (by omega) (by omega) (by omega) (by omega) (by omega) (by omega) (by omega)
  unfold fX8_image at e1
  unfold fX9_image at e2
  rw [n_areTables hW.1 (by rw [hMa.hi (by omega)]; exact hR.1), obs] at e2
  by_cases n : A.1.length = 0
  · rw [if_pos ((hC.n0 hW).mpr n)] at e1
    rw [if_pos n, if_pos rfl] at e2
    cases e1; cases e2; rfl
  · rw [if_neg (mt (hC.n0 hW).mp n)] at e1
    rw [if_neg n, if_neg (by decide)] at e2
    obtain ⟨r1, _, e1⟩ := ob e1
    obtain ⟨r2, _, e1⟩ := ob e1
    obtain ⟨I3, _, e1⟩ := ob e1
    obtain rfl := Option.some.inj e1
    obtain ⟨w, ew, w1, _, _⟩ := n_lX9_image_11 (I0 := I3) (I := I3) hMa.re
    rw [show ((0 : Int32), I3) = (nI 0, I3) from rfl, ew, obs, pU_n, obs] at e2
    have M5 : MI false I3 (g_up w 62 42 1) := w1.up (k := 62) rfl (lo := 0) (hi := 1) rfl (by decide) (by decide)
    unfold fX9_rowsNow at e2
    obtain ⟨p, ep, e2⟩ := ob e2
    obtain ⟨r, er, ep⟩ := ob ep
    obtain rfl := Option.some.inj ep
    obtain rfl := Option.some.inj e2
    have := post_two hB (fun z => n ((hC.n0 hW).mp ?_)) M5 er
    · exact (congrFun (lo 18 (by omega)) 0).symm.trans this
    · have := (hB.n).mp z
      rw [k17, hMa.hi (by omega)] at this
      exact (h.n).mpr this
theorem eq_back {I : gM} (h : InvB I) {a b : Int32 × gM} (e1 : fX8_back I = some a) (e2 : fX9_back a.2 = some b) (hB : InvB b.2) : a.1 = b.1 := by
  have hMa : MI true I a.2 := by
    obtain ⟨p, ep, _, hp⟩ := tfX8_back I h.1.1
    rw [e1] at ep
    obtain rfl := Option.some.inj ep
    exact hp
  have c1 : I 0 15 = I 62 42 := by
    obtain ⟨_, _, _, _, S, m, nx, hR⟩ := h.1
    exact hR.2.2.2.2.1.1
  have lo : ∀ q, q < 62 → b.2 q = a.2 q := fun q hq => zfX9_back _ e2 q (by omega) (by omega) (by omega) (by omega) (by omega) (by omega) (by omega) (by omega) (by omega)
  have k17 : b.2 62 17 = a.2 62 17 := xfX9_back _ e2 62 17 (by omega) (by omega) (by omega) (by omega) (by omega) (by omega) (by omega) (by omega) (by omega) (by omega) (by omega) (by omega)
  unfold fX8_back at e1
  unfold fX9_back at e2
  by_cases i0 : I 62 42 = 0
  · rw [if_pos (c1.trans i0)] at e1
    obtain rfl := Option.some.inj e1
    rw [if_pos i0] at e2
    cases e2; rfl
  · rw [if_neg (fun z => i0 (c1.symm.trans z))] at e1
    rw [if_neg (by rw [hMa.hi (by omega)]; exact i0)] at e2
    obtain ⟨r1, _, e1⟩ := ob e1
    obtain ⟨r2, _, e1⟩ := ob e1
    obtain ⟨r3, _, e1⟩ := ob e1
    obtain ⟨r4, _, e1⟩ := ob e1
    obtain rfl := Option.some.inj e1
    obtain ⟨w, ew, w1, _, _⟩ := n_lX9_back_11 (I0 := r4) (I := r4) hMa.re
    rw [show ((0 : Int32), r4) = (nI 0, r4) from rfl, ew, obs, pU_n, obs] at e2
    have M5 : MI false r4 (g_up w 62 29 0) := w1.up (k := 62) rfl (lo := 0) (hi := 40) rfl (by decide) (by decide)
    unfold fX9_rowsNow at e2
    obtain ⟨p, ep, e2⟩ := ob e2
    obtain ⟨r, er, ep⟩ := ob ep
    obtain rfl := Option.some.inj ep
    obtain rfl := Option.some.inj e2
    have := post_two hB (fun z => ?_) M5 er
    · exact (congrFun (lo 18 (by omega)) 0).symm.trans this
    · have := (hB.n).mp z
      rw [k17, hMa.hi (by omega)] at this
      exact h.2.2 i0 this
theorem eq_ways {I : gM} (h : InvB I) {v1 : Int32} {v2 : Int64} {J : gN} {a b : Int32 × gM × gN} (e1 : fX8_ways v1 v2 I J = some a) (e2 : fX9_ways v1 v2 a.2.1 a.2.2 = some b) (hB : InvB b.2.1) : a.1 = b.1 := by
  obtain ⟨A, hW, hC, hR⟩ := h.tab
  have hMa : MI true I a.2.1 := by
    obtain ⟨p, ep, _, hp⟩ := tfX8_ways v1 v2 I J h.1.1
    rw [e1] at ep
    obtain rfl := Option.some.inj ep
    exact hp
  have lo : ∀ q, q < 62 → b.2.1 q = a.2.1 q := fun q hq => zfX9_ways _ _ _ _ e2 q (by omega) (by omega) (by omega) (by omega) (by omega) (by omega) (by omega) (by omega) (by omega) (by omega)
  have k17 : b.2.1 62 17 = a.2.1 62 17 := xfX9_ways _ _ _ _ e2 62 17 (by omega) (by omega) (by omega) (by omega) (by omega) (by omega) (by omega) (by omega) (by omega) (by omega) (by omega) (by omega) (by omega)
  have en : a.2.1 62 17 = nI A.1.length := by rw [hMa.hi (by omega)]; exact hR.1
  unfold fX8_ways at e1
  unfold fX9_ways at e2
  rw [n_areTables hW.1 en, obs] at e2
  by_cases n : A.1.length = 0
  · rw [if_pos ((hC.n0 hW).mpr n)] at e1
    rw [if_pos n, if_pos rfl] at e2
    cases e1; cases e2; rfl
  · rw [if_neg (mt (hC.n0 hW).mp n)] at e1
    rw [if_neg n, if_neg (by decide)] at e2
    have t40 : (40 : Int32).toInt = 40 := by decide
    have hin := n_in v1 1 40
    rw [t1i, t40] at hin
    rcases oi e1 with ⟨c, e1⟩ | ⟨c, e1⟩
    · rw [Int32.lt_iff_toInt_lt, t1i] at c
      rcases hin with ⟨z1, z2, _⟩ | ⟨_, z⟩
      · omega
      · rw [z, obs, if_pos rfl] at e2
        cases e1; cases e2; rfl
    · rw [Int32.lt_iff_toInt_lt, t1i] at c
      rcases oi e1 with ⟨d, e1⟩ | ⟨d, e1⟩
      · rw [Int32.le_iff_toInt_le, t40] at d
        obtain ⟨J1, _, e1⟩ := ob e1
        obtain ⟨w3, _, e1⟩ := ob e1
        obtain rfl := Option.some.inj e1
        rcases hin with ⟨z1, z2, z⟩ | ⟨z, _⟩
        · rw [z, obs, if_neg (by decide)] at e2
          obtain ⟨J3, _, e2⟩ := ob e2
          obtain ⟨w, ew, w1, _, _⟩ := n_ways27 (I0 := w3.1) (I := w3.1) hMa.re (A9.hi hMa h.1.2.1) (by omega) hW.1 en J3 ⟨z1, z2⟩
          have ew : lX9_ways_27 v1 ((0 : Int32), w3.1, J3) = some w := ew
          have e2 : ((lX9_ways_27 v1 ((0 : Int32), w3.1, J3)).bind fun w5 => (fX9_rowsNow w5.1).bind fun r6 => some (r6.1, r6.2, w5.2)) = some b := e2
          rw [ew, obs] at e2
          unfold fX9_rowsNow at e2
          obtain ⟨p, ep, e2⟩ := ob e2
          obtain ⟨r, er, ep⟩ := ob ep
          obtain rfl := Option.some.inj ep
          obtain rfl := Option.some.inj e2
          have := post_two hB (fun z => n ((hC.n0 hW).mp ?_)) w1 er
          · exact (congrFun (lo 18 (by omega)) 0).symm.trans this
          · have := (hB.n).mp z
            rw [k17, hMa.hi (by omega)] at this
            exact (h.n).mpr this
        · exact absurd ⟨by omega, by omega⟩ z
      · rw [Int32.le_iff_toInt_le, t40] at d
        rcases hin with ⟨z1, z2, _⟩ | ⟨_, z⟩
        · omega
        · rw [z, obs, if_pos rfl] at e2
          cases e1; cases e2; rfl
theorem eq_log {I : gM} (h : InvB I) {v1 v2 a b : Int32} (e1 : fX8_log v1 v2 I = some a) (e2 : fX9_log v1 v2 I = some b) : a = b := by
  obtain ⟨a', b', e1', e2', _, e⟩ := all_log3 h.1 v1 v2
  rw [e1] at e1'
  rw [e2] at e2'
  cases e1'; cases e2'; exact e
/-! without -/
def clr (u t : Nat) : Nat := if u.testBit t then u - 2 ^ t else u
theorem clr_n : ∀ u, u < 16 → ∀ t, t < 4 → nI u &&& (((1 : Int32) <<< (nI t &&& 31)) ^^^ (-1)) = nI (clr u t) := by decide +kernel
theorem clr_0 : ∀ u, u < 16 → ∀ t, t < 4 → 0 < u → (clr u t = 0 ↔ u = 2 ^ t) := by decide +kernel
theorem clr_le (u t : Nat) : clr u t ≤ u := by
  unfold clr
  split
  · exact Nat.sub_le _ _
  · exact Nat.le_refl _
theorem eq_without {I : gM} (h : InvB I) {v : Int32} {a b : Int32 × gM} (e1 : fX8_without v I = some a) (e2 : fX9_without v a.2 = some b) : a.1 = b.1 := by
  obtain ⟨A, hW, hC, hR⟩ := h.tab
  have hMa : MI true I a.2 := by
    obtain ⟨p, ep, _, hp⟩ := tfX8_without v I h.1.1
    rw [e1] at ep
    obtain rfl := Option.some.inj ep
    exact hp
  have hRa := hR.hi hMa hW
  unfold fX8_without at e1
  unfold fX9_without at e2
  rcases c_isTable hW.1 hC.1 v with ⟨t, t1, rfl, z1⟩ | ⟨t1, z1⟩
  · rcases n_isTable hW.1 hRa.1 (nI t) with ⟨t', t1', _, z2⟩ | ⟨t1', z2⟩
    · have t4 : t < 4 := by have := hW.1; omega
      have u16 := hW.u
      have u0 := hW.2.2.1 (by omega)
      have p4 : 2 ^ t ≤ 2 ^ 3 := Nat.pow_le_pow_right (by decide) (by omega)
      rw [z1, obs, if_neg (by decide), hC.2.1, clr_n _ u16 _ t4] at e1
      rw [z2, obs, if_neg (by decide), show rI 331 (a.2 70) (0 : Int32) = some (a.2 70 0) from rI_n (a := 0) (by omega) (by omega), obs, obs, obs, hRa.2.1, clr_n _ u16 _ t4, one_shl _ t4] at e2
      by_cases c : A.2.1 = 2 ^ t
      · rw [if_pos (by rw [(clr_0 _ u16 _ t4 u0).mpr c]; rfl)] at e1
        rw [if_pos (by rw [c])] at e2
        cases e1; cases e2; rfl
      · have cn := mt (clr_0 _ u16 _ t4 u0).mp c
        have cle := clr_le A.2.1 t
        rw [if_neg (show ¬ nI (clr A.2.1 t) = (0 : Int32) from fun z => cn (nI_inj (b := 0) z (by omega) (by omega)))] at e1
        rw [if_neg (fun z => c (nI_inj z (by omega) (by omega)))] at e2
        generalize hcl : clr A.2.1 t = cl at *
        obtain ⟨r2, er2, C2, k2, k2'⟩ := c_copyT (k := 8) (k1 := 3) (by omega) hW hC
        rw [er2, obs, pU_n, obs] at e1
        generalize hI3 : g_up r2 8 1 (nI cl) = I3 at *
        have W' : WF (A.1, cl, A.2.2) := ⟨hW.1, by show cl < 2 ^ A.1.length; have := hW.2.1; omega, fun _ => by show 0 < cl; omega, hW.2.2.2.1, hW.2.2.2.2⟩
        have C3 : CT I3 8 (A.1, cl, A.2.2) := ⟨by rw [← hI3, g_up_ne (Or.inr (by decide))]; exact C2.1, by rw [← hI3, g_up_self], by rw [← hI3, g_up_ne (Or.inr (by decide))]; exact C2.2.2.1, fun t ht => by
          have := C2.2.2.2 t ht
          unfold CTt at this ⊢
          rw [← hI3, g_up_row (by omega), g_up_row (by omega), g_up_row (by omega), g_up_row (by omega)]
          exact this⟩
        obtain ⟨I5, e5, M5, k5, k5'⟩ : ∃ I5, wI a.2 70 331 0 (nI cl) = some I5 ∧ MI false a.2 I5 ∧ (∀ q, q ≠ 70 → I5 q = a.2 q) ∧ ∀ j, I5 70 j = if j = 0 then nI cl else a.2 70 j := by
          have tp := tTop (nI cl)
          exact ⟨_, wI_n (a := 0) (by omega) (by omega), (hMa.re (b' := false)).up (k := 70) rfl (lo := top.1) (hi := top.2) rfl tp.1 tp.2, fun q hq => g_up_row hq, fun j => gu_in⟩
        rw [e5, obs] at e2
        have R5 : RT I5 (I5 70) (A.1, cl, A.2.2) := by
          refine ⟨by rw [k5 62 (by omega)]; exact hRa.1, by rw [k5', if_pos rfl], by rw [k5', if_neg (by decide)]; exact hRa.2.2.1, fun t ht => ?_⟩
          obtain ⟨g1, g2, g3, g4⟩ := hRa.2.2.2 t ht
          refine ⟨by rw [k5 72 (by omega)]; exact g1, by rw [k5 73 (by omega)]; exact g2, by rw [k5', if_neg (by omega)]; exact g3, fun i hi c hc => by rw [k5', if_neg (by omega)]; exact g4 i hi c hc⟩
        have z33 : I3 (29 + 4) 0 = 0 := by
          rw [← hI3, g_up_row (by omega), k2 (29 + 4) (by omega)]
          exact h.2.1.2.1
        obtain ⟨M', R', J, f1, f2, o, _⟩ := find_now (I0 := I) (k := 29) (k1 := 8) (by omega) M5 W' (by show 0 < A.1.length; omega) C3 R5 z33
        rw [f1, obs] at e1
        unfold fX9_rowsNow at e2
        rw [f2, obs, obs] at e2
        obtain ⟨I7, e7, e2⟩ := ob e2
        cases e1; cases e2
        exact o.1.trans o.2.1.symm
    · exact absurd rfl (t1' t t1)
  · rcases n_isTable hW.1 hRa.1 v with ⟨t', t1', q, z2⟩ | ⟨t1', z2⟩
    · exact absurd q (t1 t' t1')
    · rw [z1, obs, if_pos rfl] at e1
      rw [z2, obs, if_pos rfl] at e2
      cases e1; cases e2; rfl
