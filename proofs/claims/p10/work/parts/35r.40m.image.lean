/-! image and back -/
theorem cp_n {I : gM} {k0 n0 k1 n1 m : Nat} (h0 : m ≤ n0) (h1 : m ≤ n1) (hm : m < 1000) : ∃ r, cpI I k0 n0 k1 n1 (nI 0) (nI 0) (nI m) = some r ∧ (∀ q, q ≠ k1 → r q = I q) ∧ ∀ j, r k1 j = if j < m then I k0 j else I k1 j := by
  have e0 : (nI 0).toInt = 0 := rfl
  have em : (nI m).toInt = m := tnI (by omega)
  unfold cpI
  rw [if_pos (by rw [e0, em]; omega)]
  refine ⟨_, rfl, fun q hq => ?_, fun j => ?_⟩
  · funext j
    show (if q = k1 then _ else I q j) = I q j
    rw [if_neg hq]
  · show (if k1 = k1 then va_cpy (I k0) (I k1) (nI 0).toInt.toNat (nI 0).toInt.toNat (nI m).toInt.toNat j else I k1 j) = _
    rw [if_pos rfl, e0, em]
    unfold va_cpy
    by_cases c : j < m
    · rw [if_pos c, if_pos ⟨Nat.zero_le _, by show j < 0 + m; omega⟩]
      exact congrArg (I k0) (show 0 + (j - 0) = j by omega)
    · rw [if_neg c, if_neg (fun z => c (by have := z.2; rw [Int.toNat_natCast] at this; omega))]
theorem L48 : (48 : Int32) = nI 48 := rfl
theorem L300 : (300 : Int32) = nI 300 := rfl
theorem c_copyT {I : gM} {k k1 : Nat} {A : aT} (hd : k1 + 4 < k ∨ k + 4 < k1) (hW : WF A) (hC : CT I k1 A) : ∃ r, fX5_copyFrom k k1 I = some r ∧ CT r k A ∧ Fk k I r := by
  unfold fX5_copyFrom
  rw [pU_n, obs, pU_n, obs, pU_n, obs]
  generalize hN : g_up (g_up (g_up I k 0 _) k 1 _) k 2 _ = N
  have Nk : ∀ q, q ≠ k → N q = I q := fun q hq => by rw [← hN, g_up_row hq, g_up_row hq, g_up_row hq]
  have N0 : N k 0 = I k1 0 := by rw [← hN, g_up_ne (Or.inr (by decide)), g_up_ne (Or.inr (by decide)), g_up_self]
  have N1 : N k 1 = I k1 1 := by rw [← hN, g_up_ne (Or.inr (by decide)), g_up_self, g_up_row (show k1 ≠ k by omega)]
  have N2 : N k 2 = I k1 2 := by rw [← hN, g_up_self, g_up_row (show k1 ≠ k by omega), g_up_row (show k1 ≠ k by omega)]
  have N3 : ∀ j, 3 ≤ j → N k j = I k j := fun j hj => by rw [← hN, g_up_ne (Or.inr (by omega)), g_up_ne (Or.inr (by omega)), g_up_ne (Or.inr (by omega))]
  clear hN
  rw [L0, L4, L12, L48]
  obtain ⟨r4, e4, f4, g4⟩ := cp_n (I := N) (k0 := k1 + 1) (n0 := 4) (k1 := k + 1) (n1 := 4) (m := 4) (by omega) (by omega) (by omega)
  rw [e4, obs]
  obtain ⟨r5, e5, f5, g5⟩ := cp_n (I := r4) (k0 := k1 + 2) (n0 := 4) (k1 := k + 2) (n1 := 4) (m := 4) (by omega) (by omega) (by omega)
  rw [e5, obs]
  obtain ⟨r6, e6, f6, g6⟩ := cp_n (I := r5) (k0 := k1 + 3) (n0 := 12) (k1 := k + 3) (n1 := 12) (m := 12) (by omega) (by omega) (by omega)
  rw [e6, obs]
  obtain ⟨r7, e7, f7, g7⟩ := cp_n (I := r6) (k0 := k1 + 4) (n0 := 48) (k1 := k + 4) (n1 := 48) (m := 48) (by omega) (by omega) (by omega)
  rw [e7, obs]
  have hn := hW.1
  have r0 : ∀ j, r7 k j = N k j := fun j => by rw [f7 k (by omega), f6 k (by omega), f5 k (by omega), f4 k (by omega)]
  have r1 : ∀ j, j < 4 → r7 (k + 1) j = I (k1 + 1) j := fun j hj => by rw [f7 _ (by omega), f6 _ (by omega), f5 _ (by omega), g4, if_pos hj, Nk _ (by omega)]
  have r2 : ∀ j, j < 4 → r7 (k + 2) j = I (k1 + 2) j := fun j hj => by rw [f7 _ (by omega), f6 _ (by omega), g5, if_pos hj, f4 _ (by omega), Nk _ (by omega)]
  have r3 : ∀ j, j < 12 → r7 (k + 3) j = I (k1 + 3) j := fun j hj => by rw [f7 _ (by omega), g6, if_pos hj, f5 _ (by omega), f4 _ (by omega), Nk _ (by omega)]
  have r4' : ∀ j, j < 48 → r7 (k + 4) j = I (k1 + 4) j := fun j hj => by rw [g7, if_pos hj, f6 _ (by omega), f5 _ (by omega), f4 _ (by omega), Nk _ (by omega)]
  refine ⟨r7, rfl, ⟨by rw [r0, N0]; exact hC.1, by rw [r0, N1]; exact hC.2.1, by rw [r0, N2]; exact hC.2.2.1, fun t ht => ?_⟩, ⟨fun q hq => ?_, fun j hj => ?_⟩⟩
  · obtain ⟨c1, c2, c3, c4⟩ := hC.2.2.2 t ht
    have w := hW.2.2.2.2 t ht
    have w1 := w.1
    have w4 := w.2.2.2.1
    exact ⟨by rw [r1 t (by omega)]; exact c1, fun c hc => by rw [r3 _ (by omega)]; exact c2 c hc, by rw [r2 t (by omega)]; exact c3, fun i hi => by rw [r4' _ (by omega)]; exact c4 i hi⟩
  · rw [f7 q (by omega), f6 q (by omega), f5 q (by omega), f4 q (by omega), Nk q (by omega)]
  · rw [r0, N3 j hj]
theorem c_copyL {I : gM} {k k1 C e : Nat} {w : Nat → Int32} (hd : k1 + 1 < k ∨ k + 1 < k1) (hC : C ≤ 3) (h : LG C I k1 e w) : ∃ r, fX2_copyFrom k k1 I = some r ∧ LG C r k e w ∧ ∀ q, q ≠ k → q ≠ k + 1 → r q = I q := by
  obtain ⟨nl, H, a1, a2, a3, a4, a5, a6, a7⟩ := h
  unfold fX2_copyFrom
  rw [L0, L300]
  obtain ⟨r4, e4, f4, g4⟩ := cp_n (I := I) (k0 := k1 + 1) (n0 := 300) (k1 := k + 1) (n1 := 300) (m := 300) (by omega) (by omega) (by omega)
  rw [e4, obs, pU_n, obs, pU_n, obs]
  refine ⟨_, rfl, ⟨nl, H, a1, a2, a3, ?_, ?_, a6, fun i hi c hc => ?_⟩, fun q h1 h2 => ?_⟩
  · rw [g_up_ne (Or.inr (by decide)), g_up_self, f4 k1 (by omega)]; exact a4
  · rw [g_up_self, g_up_row (show k1 ≠ k by omega), f4 k1 (by omega)]; exact a5
  · rw [a7 i hi c hc, g_up_row (by omega), g_up_row (by omega), g4, if_pos (by omega)]
  · rw [g_up_row h1, g_up_row h1, f4 q h2]
theorem RT.of0 {I : gM} {w : Nat → Int32} {A : aT} (h : RT I w A) (hM : MI false I I) : A.1.length ≤ 4 → A.1.length = 0 → I 62 17 = 0 := fun _ e => by rw [h.1, e]; rfl
theorem all_image {C : Nat} {I : gM} (h : InvA C I) (hC : C ≤ 3) : ∃ a b, fX8_image I = some a ∧ fX9_image a.2 = some b ∧ InvA C b.2 := by
  obtain ⟨hM, hA9, hT, hS, S, m, nx, hR⟩ := id h
  obtain ⟨⟨a1, a2, a3, a4, a5⟩, hW, ⟨b1, b2, b3⟩, hk9, ⟨c1, c2⟩, c3⟩ := hR
  have hWm := hW m (Nat.le_refl _)
  have hn4 := hWm.1
  by_cases n0 : (S m).1.length = 0
  · refine ⟨(-1, I), (-1, I), ?_, ?_, h⟩
    · unfold fX8_image
      rw [b1.1, n0, if_pos (show nI 0 = 0 from rfl)]
    · unfold fX9_image
      rw [n_areTables hn4 b2.1, obs, if_pos n0, if_pos rfl]
  obtain ⟨p, ep, _, hp⟩ := tfX8_image I hM
  obtain ⟨r1, e1, C1, k1, k1'⟩ := c_copyT (k := 13) (k1 := 3) (by omega) hWm b1
  obtain ⟨r2, e2, L2', k2⟩ := c_copyL (I := r1) (k := 46) (k1 := 44) (w := I 70) (by omega) hC (b3.cong hC (k1 44 (by omega)) (k1 45 (by omega)) (fun _ _ _ => rfl))
  have ep' : fX8_image I = some ((g_up r2 0 15 1) 18 0, g_up r2 0 15 1) := by
    unfold fX8_image
    rw [b1.1, if_neg (show ¬ nI (S m).1.length = 0 from fun q => n0 (nI_inj (b := 0) q (by omega) (by omega))), e1, obs, e2, obs, pU_n, obs]
  rw [ep] at ep'
  obtain rfl := Option.some.inj ep'
  have Ma : MI true I (g_up r2 0 15 1) := hp
  generalize hN : g_up r2 0 15 1 = N at *
  have Nk : ∀ q, q ≠ 0 → (q < 13 ∨ 17 < q) → q ≠ 46 → q ≠ 47 → N q = I q := fun q h0 h1 h2 h3 => by rw [← hN, g_up_row h0, k2 q h2 h3, k1 q (by omega)]
  have N0 : ∀ j, j ≠ 15 → N 0 j = I 0 j := fun j hj => by rw [← hN, g_up_ne (Or.inr hj), k2 0 (by decide) (by decide), k1 0 (by omega)]
  have N15 : N 0 15 = 1 := by rw [← hN, g_up_self]
  have N13 : ∀ q, 13 ≤ q → q ≤ 17 → N q = r1 q := fun q h0 h1 => by rw [← hN, g_up_row (by omega), k2 q (by omega) (by omega)]
  have N46 : ∀ q, 46 ≤ q → q ≤ 47 → N q = r2 q := fun q h0 h1 => by rw [← hN, g_up_row (by omega)]
  have hi : ∀ k, 62 ≤ k → N k = I k := fun k hk => Ma.hi hk
  have A9a : A9 N := A9.hi Ma hA9
  obtain ⟨b, eb, Mb, hAb⟩ := n_image (I0 := N) Ma.re A9a
  have hb : ∃ w : gM, (∀ a, w 89 a = if a < 331 then N 70 a else N 89 a) ∧ (∀ q, q ≠ 89 → w q = N q) ∧ (∀ q, q ≠ 62 → q ≠ 74 → q ≠ 75 → q ≠ 76 → q ≠ 77 → q ≠ 78 → q ≠ 79 → q ≠ 80 → b.2 q = w q) ∧ b.2 62 42 = 1 ∧ ∀ j, j ≠ 19 → j ≠ 26 → j ≠ 27 → j ≠ 42 → b.2 62 j = N 62 j := by
    obtain ⟨w, ew, w1, w2, w3⟩ := n_lX9_image_11 (I0 := N) (I := N) Ma.re
    have M5 : MI false N (g_up w 62 42 1) := w1.up (k := 62) rfl (lo := 0) (hi := 1) rfl (by decide) (by decide)
    obtain ⟨r, _, er, _, _, r3, r4⟩ := n_rowsNow M5
    have e : fX9_image N = some (r 62 26, r) := by
      unfold fX9_image
      rw [n_areTables (n := (S m).1.length) hn4 (by rw [hi 62 (by omega)]; exact b2.1), obs, if_neg n0, if_neg (show ¬ (1 : Int32) = 0 from n10), show ((0 : Int32), N) = (nI 0, N) from rfl, ew, obs, pU_n, obs, er, obs]
    rw [eb] at e
    obtain rfl := Option.some.inj e
    refine ⟨w, fun a => ?_, w3, fun q h0 h1 h2 h3 h4 h5 h6 h7 => ?_, ?_, fun j h1 h2 h3 h4 => ?_⟩
    · rw [w2]
      by_cases c : a < 331
      · rw [if_pos c, if_pos (by omega)]
        exact congrArg (N 70) (by omega)
      · rw [if_neg c, if_neg (by omega)]
    · dsimp only
      rw [r3 q h0 h1 h2 h3 h4 h5 h6 h7, g_up_row h0]
    · dsimp only
      rw [r4 42 (by decide) (by decide) (by decide), g_up_self]
    · dsimp only
      rw [r4 j h1 h2 h3, g_up_ne (Or.inr h4), w3 62 (by decide)]
  obtain ⟨w, w89, wk, bk, b42, b62⟩ := hb
  have bN : ∀ q, q ≠ 62 → q ≠ 89 → (q < 74 ∨ 80 < q) → b.2 q = N q := fun q h1 h2 h3 => by rw [bk q h1 (by omega) (by omega) (by omega) (by omega) (by omega) (by omega) (by omega), wk q h2]
  have bI : ∀ q, q ≠ 62 → q ≠ 89 → (q < 74 ∨ 80 < q) → q ≠ 0 → (q < 13 ∨ 17 < q) → q ≠ 46 → q ≠ 47 → b.2 q = I q := fun q h1 h2 h3 h4 h5 h6 h7 => by rw [bN q h1 h2 h3, Nk q h4 h5 h6 h7]
  have bj : ∀ j, j ≠ 19 → j ≠ 26 → j ≠ 27 → j ≠ 42 → b.2 62 j = I 62 j := fun j h1 h2 h3 h4 => by rw [b62 j h1 h2 h3 h4, hi 62 (by omega)]
  have b89 : ∀ x, x < 331 → b.2 89 x = I 70 x := fun x hx => by rw [bk 89 (by omega) (by omega) (by omega) (by omega) (by omega) (by omega) (by omega) (by omega), w89, if_pos hx, hi 70 (by omega)]
  have kC : ∀ {A : aT} {w u : Nat → Int32}, WF A → RT I w A → (∀ x, x < 150 → u x = w x) → RT b.2 u A := fun hA q e => q.cong (bj 17 (by omega) (by omega) (by omega) (by omega)) (bI 72 (by omega) (by omega) (by omega) (by omega) (by omega) (by omega) (by omega)) (bI 73 (by omega) (by omega) (by omega) (by omega) (by omega) (by omega) (by omega)) hA.1 hA.k12 e
  have b70 : b.2 70 = I 70 := bI 70 (by omega) (by omega) (by omega) (by omega) (by omega) (by omega) (by omega)
  have b81 : ∀ a, kept9 b.2 a = kept9 I a := fun a => by unfold kept9; rw [bI 81 (by omega) (by omega) (by omega) (by omega) (by omega) (by omega) (by omega)]
  have lo : ∀ q, q < 62 → b.2 q = N q := fun q hq => bN q (by omega) (by omega) (by omega)
  refine ⟨_, b, ep, eb, Ma.both Mb, hAb, ?_, ?_, S, m, nx, ⟨a1, a2, by rw [lo 48 (by omega), Nk 48 (by omega) (by omega) (by omega) (by omega)]; exact a3, by rw [lo 48 (by omega), Nk 48 (by omega) (by omega) (by omega) (by omega)]; exact a4, by rw [bj 29 (by omega) (by omega) (by omega) (by omega)]; exact a5⟩, hW, ⟨?_, ?_, ?_⟩, fun a ha => ⟨?_, ?_, ?_⟩, ⟨?_, fun _ => ⟨S m, hWm, ?_, ?_, ?_⟩⟩, fun j hj => ?_⟩
  · exact hT.keep (by rw [bI 1 (by omega) (by omega) (by omega) (by omega) (by omega) (by omega) (by omega)]) (bI 2 (by omega) (by omega) (by omega) (by omega) (by omega) (by omega) (by omega)) (bj 2 (by omega) (by omega) (by omega) (by omega)) (bI 63 (by omega) (by omega) (by omega) (by omega) (by omega) (by omega) (by omega))
  · exact hS.keep (by rw [lo 0 (by omega), N0 14 (by omega)]) (bj 12 (by omega) (by omega) (by omega) (by omega)) (fun k h1 h2 => bI k (by omega) (by omega) (by omega) (by omega) (by omega) (by omega) (by omega)) (fun _ _ => by rw [bI 68 (by omega) (by omega) (by omega) (by omega) (by omega) (by omega) (by omega)]) (fun _ _ => by rw [bI 69 (by omega) (by omega) (by omega) (by omega) (by omega) (by omega) (by omega)])
  · have q := fun k (h1 : 3 ≤ k) (h2 : k ≤ 7) => bI k (by omega) (by omega) (by omega) (by omega) (by omega) (by omega) (by omega)
    exact b1.cong (fun j _ => by rw [q 3 (by omega) (by omega)]) (q 4 (by omega) (by omega)) (q 5 (by omega) (by omega)) (q 6 (by omega) (by omega)) (q 7 (by omega) (by omega))
  · exact kC hWm b2 (fun x _ => by rw [b70])
  · rw [b70]; exact b3.cong hC (bI 44 (by omega) (by omega) (by omega) (by omega) (by omega) (by omega) (by omega)) (bI 45 (by omega) (by omega) (by omega) (by omega) (by omega) (by omega) (by omega)) (fun _ _ _ => rfl)
  · rw [b81]; exact kC (hW a (by omega)) (hk9 a ha).1 (fun _ _ => rfl)
  · rw [b81]; exact (hk9 a ha).2.1.cong hC (bI 44 (by omega) (by omega) (by omega) (by omega) (by omega) (by omega) (by omega)) (bI 45 (by omega) (by omega) (by omega) (by omega) (by omega) (by omega) (by omega)) (fun _ _ _ => rfl)
  · exact (hk9 a ha).2.2.cong (bI 49 (by omega) (by omega) (by omega) (by omega) (by omega) (by omega) (by omega))
  · rw [lo 0 (by omega), N15, b42]
  · exact C1.cong (fun j _ => by rw [lo 13 (by omega), N13 13 (by omega) (by omega)]) (by rw [lo 14 (by omega), N13 14 (by omega) (by omega)]) (by rw [lo 15 (by omega), N13 15 (by omega) (by omega)]) (by rw [lo 16 (by omega), N13 16 (by omega) (by omega)]) (by rw [lo 17 (by omega), N13 17 (by omega) (by omega)])
  · exact kC hWm b2 (fun x hx => b89 x (by omega))
  · exact L2'.cong hC (by rw [lo 46 (by omega), N46 46 (by omega) (by omega)]) (by rw [lo 47 (by omega), N46 47 (by omega) (by omega)]) (fun x _ h2 => b89 x h2)
  · rw [bI 53 (by omega) (by omega) (by omega) (by omega) (by omega) (by omega) (by omega), bI 71 (by omega) (by omega) (by omega) (by omega) (by omega) (by omega) (by omega)]; exact c3 j hj
theorem c_clearPast {I : gM} : ∃ r, fX3_clear I = some r ∧ r 48 0 = 0 ∧ r 48 2 = 0 ∧ ∀ q, q ≠ 48 → r q = I q := by
  unfold fX3_clear
  rw [pU_n, obs, pU_n, obs]
  exact ⟨_, rfl, by rw [g_up_ne (Or.inr (by decide)), g_up_self], g_up_self, fun q h => by rw [g_up_row h, g_up_row h]⟩
theorem all_back {C : Nat} {I : gM} (h : InvA C I) (hC : C ≤ 3) : ∃ a b, fX8_back I = some a ∧ fX9_back a.2 = some b ∧ InvA C b.2 := by
  obtain ⟨hM, hA9, hT, hS, S, m, nx, hR⟩ := id h
  obtain ⟨⟨a1, a2, a3, a4, a5⟩, hW, ⟨b1, b2, b3⟩, hk9, ⟨c1, c2⟩, c3⟩ := hR
  by_cases i0 : I 62 42 = 0
  · refine ⟨(-1, I), (-1, I), ?_, ?_, h⟩
    · unfold fX8_back
      rw [if_pos (c1.trans i0)]
    · unfold fX9_back
      rw [if_pos i0]
  obtain ⟨B, d1, d2, d3, d4⟩ := c2 i0
  obtain ⟨p, ep, _, hp⟩ := tfX8_back I hM
  obtain ⟨r1, e1, C1, k1, k1'⟩ := c_copyT (k := 3) (k1 := 13) (by omega) d1 d2
  obtain ⟨r2, e2, L2', k2⟩ := c_copyL (I := r1) (k := 44) (k1 := 46) (w := I 89) (by omega) hC (d4.cong hC (k1 46 (by omega)) (k1 47 (by omega)) (fun _ _ _ => rfl))
  obtain ⟨r3, e3, p0, p2, k3⟩ := c_clearPast (I := r2)
  have eE : ∃ r4, fX8_renew r3 = some r4 ∧ fX8_back I = some (r4 18 0, r4) := by
    have hu : fX8_back I = (fX8_renew r3).bind fun r4 => some (r4 18 0, r4) := by
      unfold fX8_back
      rw [if_neg (fun q => i0 (c1.symm.trans q)), e1, obs, e2, obs, e3, obs]
    cases hz : fX8_renew r3 with
    | none => rw [hu, hz] at ep; cases ep
    | some r4 => exact ⟨r4, rfl, by rw [hu, hz, obs]⟩
  obtain ⟨N, e4, eU⟩ := eE
  rw [ep] at eU
  obtain rfl := Option.some.inj eU
  have Ma : MI true I N := hp
  have g4 := c_renewK e4
  have N37 : ∀ q, 3 ≤ q → q ≤ 7 → N q = r1 q := fun q h1 h2 => by rw [g4 q (by omega), k3 q (by omega), k2 q (by omega) (by omega)]
  have N44 : ∀ q, 44 ≤ q → q ≤ 45 → N q = r2 q := fun q h1 h2 => by rw [g4 q (by omega), k3 q (by omega)]
  have N48 : N 48 = r3 48 := g4 48 (by omega)
  have Nk : ∀ q, (q < 3 ∨ 7 < q) → q ≠ 44 → q ≠ 45 → q ≠ 48 → (q ≤ 17 ∨ 29 ≤ q ∧ q ≠ 43) → N q = I q := fun q h1 h2 h3 h4 h5 => by rw [g4 q h5, k3 q h4, k2 q h2 h3, k1 q (by omega)]
  have hi : ∀ k, 62 ≤ k → N k = I k := fun k hk => Ma.hi hk
  have A9a : A9 N := A9.hi Ma hA9
  obtain ⟨b, eb, Mb, hAb⟩ := n_back (I0 := N) Ma.re A9a
  have hb : (∀ a, b.2 70 a = if a < 331 then N 89 a else N 70 a) ∧ (∀ q, q ≠ 62 → q ≠ 70 → q ≠ 74 → q ≠ 75 → q ≠ 76 → q ≠ 77 → q ≠ 78 → q ≠ 79 → q ≠ 80 → b.2 q = N q) ∧ b.2 62 29 = 0 ∧ ∀ j, j ≠ 19 → j ≠ 26 → j ≠ 27 → j ≠ 29 → b.2 62 j = N 62 j := by
    obtain ⟨w, ew, w1, w2, w3⟩ := n_lX9_back_11 (I0 := N) (I := N) Ma.re
    have M5 : MI false N (g_up w 62 29 0) := w1.up (k := 62) rfl (lo := 0) (hi := 40) rfl (by decide) (by decide)
    obtain ⟨r, _, er, _, _, r3, r4⟩ := n_rowsNow M5
    have e : fX9_back N = some (r 62 26, r) := by
      unfold fX9_back
      rw [if_neg (show ¬ N 62 42 = 0 by rw [hi 62 (by omega)]; exact i0), show ((0 : Int32), N) = (nI 0, N) from rfl, ew, obs, pU_n, obs, er, obs]
    rw [eb] at e
    obtain rfl := Option.some.inj e
    refine ⟨fun a => ?_, fun q h0 h1 h2 h3 h4 h5 h6 h7 h8 => ?_, ?_, fun j h1 h2 h3 h4 => ?_⟩
    · dsimp only
      rw [r3 70 (by decide) (by decide) (by decide) (by decide) (by decide) (by decide) (by decide) (by decide), g_up_row (by decide), w2]
      by_cases c : a < 331
      · rw [if_pos c, if_pos (by omega)]
        exact congrArg (N 89) (by omega)
      · rw [if_neg c, if_neg (by omega)]
    · dsimp only
      rw [r3 q h0 h2 h3 h4 h5 h6 h7 h8, g_up_row h0, w3 q h1]
    · dsimp only
      rw [r4 29 (by decide) (by decide) (by decide), g_up_self]
    · dsimp only
      rw [r4 j h1 h2 h3, g_up_ne (Or.inr h4), w3 62 (by decide)]
  obtain ⟨b70, bk, b29, b62⟩ := hb
  have bN : ∀ q, q ≠ 62 → q ≠ 70 → (q < 74 ∨ 80 < q) → b.2 q = N q := fun q h1 h2 h3 => bk q h1 h2 (by omega) (by omega) (by omega) (by omega) (by omega) (by omega) (by omega)
  have bI : ∀ q, q ≠ 62 → q ≠ 70 → (q < 74 ∨ 80 < q) → (q < 3 ∨ 7 < q) → q ≠ 44 → q ≠ 45 → q ≠ 48 → (q ≤ 17 ∨ 29 ≤ q ∧ q ≠ 43) → b.2 q = I q := fun q h1 h2 h3 h4 h5 h6 h7 h8 => by rw [bN q h1 h2 h3, Nk q h4 h5 h6 h7 h8]
  have bj : ∀ j, j ≠ 19 → j ≠ 26 → j ≠ 27 → j ≠ 29 → b.2 62 j = I 62 j := fun j h1 h2 h3 h4 => by rw [b62 j h1 h2 h3 h4, hi 62 (by omega)]
  have w70 : ∀ x, x < 331 → b.2 70 x = I 89 x := fun x hx => by rw [b70, if_pos hx, hi 89 (by omega)]
  have kC : ∀ {A : aT} {w u : Nat → Int32}, WF A → RT I w A → (∀ x, x < 150 → u x = w x) → RT b.2 u A := fun hA q e => q.cong (bj 17 (by omega) (by omega) (by omega) (by omega)) (bI 72 (by omega) (by omega) (by omega) (by omega) (by omega) (by omega) (by omega) (by omega)) (bI 73 (by omega) (by omega) (by omega) (by omega) (by omega) (by omega) (by omega) (by omega)) hA.1 hA.k12 e
  have b89 : b.2 89 = I 89 := bI 89 (by omega) (by omega) (by omega) (by omega) (by omega) (by omega) (by omega) (by omega)
  have lo : ∀ q, q < 62 → b.2 q = N q := fun q hq => bN q (by omega) (by omega) (by omega)
  have CB : CT b.2 13 B := d2.cong (fun j _ => by rw [bI 13 (by omega) (by omega) (by omega) (by omega) (by omega) (by omega) (by omega) (by omega)]) (bI 14 (by omega) (by omega) (by omega) (by omega) (by omega) (by omega) (by omega) (by omega)) (bI 15 (by omega) (by omega) (by omega) (by omega) (by omega) (by omega) (by omega) (by omega)) (bI 16 (by omega) (by omega) (by omega) (by omega) (by omega) (by omega) (by omega) (by omega)) (bI 17 (by omega) (by omega) (by omega) (by omega) (by omega) (by omega) (by omega) (by omega))
  refine ⟨_, b, ep, eb, Ma.both Mb, hAb, ?_, ?_, fun _ => B, 0, 0, ⟨by omega, by omega, by rw [lo 48 (by omega), N48]; exact p0, by rw [lo 48 (by omega), N48]; exact p2, b29⟩, fun _ _ => d1, ⟨?_, kC d1 d3 (fun x hx => w70 x (by omega)), ?_⟩, fun a ha => absurd ha (Nat.not_lt_zero a), ⟨?_, fun _ => ⟨B, d1, CB, by rw [b89]; exact kC d1 d3 (fun _ _ => rfl), ?_⟩⟩, fun j hj => ?_⟩
  · exact hT.keep (by rw [bI 1 (by omega) (by omega) (by omega) (by omega) (by omega) (by omega) (by omega) (by omega)]) (bI 2 (by omega) (by omega) (by omega) (by omega) (by omega) (by omega) (by omega) (by omega)) (bj 2 (by omega) (by omega) (by omega) (by omega)) (bI 63 (by omega) (by omega) (by omega) (by omega) (by omega) (by omega) (by omega) (by omega))
  · exact hS.keep (by rw [bI 0 (by omega) (by omega) (by omega) (by omega) (by omega) (by omega) (by omega) (by omega)]) (bj 12 (by omega) (by omega) (by omega) (by omega)) (fun k h1 h2 => bI k (by omega) (by omega) (by omega) (by omega) (by omega) (by omega) (by omega) (by omega)) (fun _ _ => by rw [bI 68 (by omega) (by omega) (by omega) (by omega) (by omega) (by omega) (by omega) (by omega)]) (fun _ _ => by rw [bI 69 (by omega) (by omega) (by omega) (by omega) (by omega) (by omega) (by omega) (by omega)])
  · exact C1.cong (fun j _ => by rw [lo 3 (by omega), N37 3 (by omega) (by omega)]) (by rw [lo 4 (by omega), N37 4 (by omega) (by omega)]) (by rw [lo 5 (by omega), N37 5 (by omega) (by omega)]) (by rw [lo 6 (by omega), N37 6 (by omega) (by omega)]) (by rw [lo 7 (by omega), N37 7 (by omega) (by omega)])
  · exact L2'.cong hC (by rw [lo 44 (by omega), N44 44 (by omega) (by omega)]) (by rw [lo 45 (by omega), N44 45 (by omega) (by omega)]) (fun x _ h2 => w70 x h2)
  · rw [bI 0 (by omega) (by omega) (by omega) (by omega) (by omega) (by omega) (by omega) (by omega), bj 42 (by omega) (by omega) (by omega) (by omega)]; exact c1
  · rw [b89]
    exact d4.cong hC (bI 46 (by omega) (by omega) (by omega) (by omega) (by omega) (by omega) (by omega) (by omega)) (bI 47 (by omega) (by omega) (by omega) (by omega) (by omega) (by omega) (by omega) (by omega)) (fun _ _ _ => rfl)
  · rw [bI 53 (by omega) (by omega) (by omega) (by omega) (by omega) (by omega) (by omega) (by omega), bI 71 (by omega) (by omega) (by omega) (by omega) (by omega) (by omega) (by omega) (by omega)]; exact c3 j hj
