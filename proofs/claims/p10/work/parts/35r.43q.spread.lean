/-! spread: the sum of the distances from the mean -/
def V (u : UInt64) (N : Nat) : Prop := dc u = .fin false 0 (-1074) ∨ ∃ c q, dc u = .fin false c q ∧ 4503599627370496 ≤ c ∧ c < 9007199254740992 ∧ -180 ≤ q ∧ q ≤ 0 ∧ c ≤ N * 2 ^ (-q).toNat
theorem rnd_V {X N : Nat} {e : Int} (s : Bool) (he : e ≤ 0) (h1074 : -1074 ≤ e) (h0 : X ≠ 0) (hN : X ≤ N * 2 ^ (-e).toNat) (hN2 : N < 2 ^ 40) (hl : -128 ≤ (X.log2 : Int) + e) : ∃ c q, FP.Core.roundRatio FP.Core.b64 s X 1 e = .fin s c q ∧ 4503599627370496 ≤ c ∧ c < 9007199254740992 ∧ -180 ≤ q ∧ q ≤ 0 ∧ c ≤ N * 2 ^ (-q).toNat := by
  have l1 := Nat.log2_self_le h0
  have l2 : X < 2 ^ (X.log2 + 1) := Nat.lt_log2_self
  have pe : 0 < 2 ^ (-e).toNat := Nat.two_pow_pos _
  have up : (X.log2 : Int) + e < 40 := by
    have a : X < 2 ^ (40 + (-e).toNat) := by
      rw [Nat.pow_add]
      exact Nat.lt_of_le_of_lt hN (Nat.mul_lt_mul_of_pos_right hN2 pe)
    have := (Nat.log2_lt h0).mpr a
    omega
  generalize hL : X.log2 = L at *
  have hQ : ∃ Q : Int, (L : Int) + e - 52 = Q := ⟨_, rfl⟩
  obtain ⟨Q, hQ⟩ := hQ
  have dpos : 0 < FP.Core.unitsDen 1 e Q := by
    unfold FP.Core.unitsDen
    rw [Nat.one_mul]; exact Nat.two_pow_pos _
  have m1 : 4503599627370496 ≤ FP.Core.nearest (FP.Core.unitsNum X e Q) (FP.Core.unitsDen 1 e Q) := by
    refine near_ge dpos ?_
    unfold FP.Core.unitsNum FP.Core.unitsDen
    rw [Nat.one_mul]
    rcases (by omega : Q ≤ e ∨ e ≤ Q) with z | z
    · rw [show (Q - e).toNat = 0 by omega, Nat.pow_zero, Nat.mul_one]
      have := Nat.mul_le_mul_right (2 ^ (e - Q).toNat) l1
      rw [← Nat.pow_add, show L + (e - Q).toNat = 52 by omega] at this
      exact this
    · rw [show (e - Q).toNat = 0 by omega, Nat.pow_zero, Nat.mul_one]
      rw [show L = 52 + (Q - e).toNat by omega, Nat.pow_add] at l1
      exact l1
  have m2 : FP.Core.nearest (FP.Core.unitsNum X e Q) (FP.Core.unitsDen 1 e Q) ≤ 9007199254740992 := by
    refine near_le dpos ?_
    unfold FP.Core.unitsNum FP.Core.unitsDen
    rw [Nat.one_mul]
    rcases (by omega : Q ≤ e ∨ e ≤ Q) with z | z
    · rw [show (Q - e).toNat = 0 by omega, Nat.pow_zero, Nat.mul_one]
      have := Nat.mul_le_mul_right (2 ^ (e - Q).toNat) (Nat.le_of_lt l2)
      rw [← Nat.pow_add, show L + 1 + (e - Q).toNat = 53 by omega] at this
      exact this
    · rw [show (e - Q).toNat = 0 by omega, Nat.pow_zero, Nat.mul_one]
      rw [show L + 1 = 53 + (Q - e).toNat by omega, Nat.pow_add] at l2
      exact Nat.le_of_lt l2
  have m3 : FP.Core.nearest (FP.Core.unitsNum X e Q) (FP.Core.unitsDen 1 e Q) ≤ N * 2 ^ (-Q).toNat := by
    refine near_le dpos ?_
    unfold FP.Core.unitsNum FP.Core.unitsDen
    rw [Nat.one_mul]
    rcases (by omega : Q ≤ e ∨ e ≤ Q) with z | z
    · rw [show (Q - e).toNat = 0 by omega, Nat.pow_zero, Nat.mul_one]
      have := Nat.mul_le_mul_right (2 ^ (e - Q).toNat) hN
      rw [Nat.mul_assoc, ← Nat.pow_add, show (-e).toNat + (e - Q).toNat = (-Q).toNat by omega] at this
      exact this
    · rw [show (e - Q).toNat = 0 by omega, Nat.pow_zero, Nat.mul_one, Nat.mul_assoc, ← Nat.pow_add, show (-Q).toNat + (Q - e).toNat = (-e).toNat by omega]
      exact hN
  obtain ⟨c, q, g1, g2, g3⟩ := rr_at f64 (s := s) (num := X) (den := 1) (e := e) (Q := Q) h0 (by rw [lead1 h0, hL]; show (L : Int) + e - ((53 : Int) - 1) = Q; omega) (by rw [b64_qmin]; omega) (by rw [b64_qmax]; omega) rfl (by rw [b64_tails]; exact m1) (by rw [b64_tails]; exact m2)
  generalize FP.Core.nearest (FP.Core.unitsNum X e Q) (FP.Core.unitsDen 1 e Q) = m at *
  unfold CN at g2
  rw [b64_tails] at g2 g3
  refine ⟨c, q, g1, g2.1, by omega, by omega, by omega, ?_⟩
  rcases g3 with ⟨_, rfl, rfl⟩ | ⟨z, rfl, rfl⟩
  · exact m3
  · rw [show (-Q).toNat = (-(Q + 1)).toNat + 1 by omega, Nat.pow_succ, ← Nat.mul_assoc] at m3
    omega
theorem V.rd {u : UInt64} {N : Nat} (h : V u N) : ∃ c q, dc u = .fin false c q ∧ q ≤ 0 ∧ -1074 ≤ q ∧ c ≤ N * 2 ^ (-q).toNat ∧ (c ≠ 0 → 4503599627370496 ≤ c ∧ -180 ≤ q) := by
  rcases h with h | ⟨c, q, h, h1, h2, h3, h4, h5⟩
  · exact ⟨0, -1074, h, by omega, by omega, Nat.zero_le _, fun z => absurd rfl z⟩
  · exact ⟨c, q, h, h4, by omega, h5, fun _ => ⟨h1, h3⟩⟩
theorem lg_ge {X c : Nat} {q e : Int} (hX : X ≠ 0) (h1 : 4503599627370496 ≤ c) (he : e ≤ q) (h : FP.Core.inUnits c q e ≤ X) : 52 + q ≤ (X.log2 : Int) + e := by
  unfold FP.Core.inUnits at h
  have a : 2 ^ (52 + (q - e).toNat) ≤ X := by
    rw [Nat.pow_add]
    exact Nat.le_trans (Nat.mul_le_mul_right _ h1) h
  have := (Nat.le_log2 hX).mpr a
  omega
theorem iu_le {c N : Nat} {q e : Int} (h : c ≤ N * 2 ^ (-q).toNat) (hq : q ≤ 0) (he : e ≤ q) : FP.Core.inUnits c q e ≤ N * 2 ^ (-e).toNat := by
  unfold FP.Core.inUnits
  have := Nat.mul_le_mul_right (2 ^ (q - e).toNat) h
  rw [Nat.mul_assoc, ← Nat.pow_add, show (-q).toNat + (q - e).toNat = (-e).toNat by omega] at this
  exact this
theorem V.of {D : FP.Core.Datum} {x : Nat} {N : Nat} (hx : x = FP.Core.encode FP.Core.b64 D) (h : D = .fin false 0 (-1074) ∨ ∃ c q, D = .fin false c q ∧ 4503599627370496 ≤ c ∧ c < 9007199254740992 ∧ -180 ≤ q ∧ q ≤ 0 ∧ c ≤ N * 2 ^ (-q).toNat) : gD (.ofNat x) = some (.ofNat x) ∧ V (.ofNat x) N := by
  subst hx
  rcases h with rfl | ⟨c, q, rfl, h1, h2, h3, h4, h5⟩
  · obtain ⟨a, b⟩ := ez64 false
    exact ⟨b64_g a, Or.inl ((b64_dc a).trans b)⟩
  · obtain ⟨a, b⟩ := ed64 (CN64 h1 h2 (q := q) (by omega) (by omega)) false
    exact ⟨b64_g a, Or.inr ⟨c, q, (b64_dc a).trans b, h1, h2, h3, h4, h5⟩⟩
theorem dadd_V {u v : UInt64} {N1 N2 : Nat} (h : V u N1) (h' : V v N2) (hN : N1 + N2 < 2 ^ 40) : ∃ w, gD (FP.dadd u v) = some w ∧ V w (N1 + N2) := by
  obtain ⟨c, q, e1, e2, e3, e4, e5⟩ := h.rd
  obtain ⟨d, r, f1, f2, f3, f4, f5⟩ := h'.rd
  have su : FP.Core.sumUnits false c q false d r (min q r) = ((FP.Core.inUnits c q (min q r) + FP.Core.inUnits d r (min q r) : Nat) : Int) := by
    unfold FP.Core.sumUnits
    rw [sg_f, sg_f]; omega
  have ss : FP.Core.sumSign false false ((FP.Core.inUnits c q (min q r) + FP.Core.inUnits d r (min q r) : Nat) : Int) = false := by
    unfold FP.Core.sumSign
    split
    · rfl
    · exact decide_eq_false (by omega)
  have k : FP.Core.round FP.Core.b64 (FP.Core.exactSum (dc u) (dc v)) = FP.Core.roundRatio FP.Core.b64 false (FP.Core.inUnits c q (min q r) + FP.Core.inUnits d r (min q r)) 1 (min q r) := by
    rw [e1, f1]
    show FP.Core.round FP.Core.b64 (.fin (FP.Core.sumSign false false (FP.Core.sumUnits false c q false d r (min q r))) (FP.Core.sumUnits false c q false d r (min q r)).natAbs (min q r)) = _
    rw [su, ss, Int.natAbs_natCast]
    rfl
  have b1 := iu_le e4 e2 (show min q r ≤ q by omega)
  have b2 := iu_le f4 f2 (show min q r ≤ r by omega)
  have hD : FP.Core.round FP.Core.b64 (FP.Core.exactSum (dc u) (dc v)) = .fin false 0 (-1074) ∨ ∃ c' q', FP.Core.round FP.Core.b64 (FP.Core.exactSum (dc u) (dc v)) = .fin false c' q' ∧ 4503599627370496 ≤ c' ∧ c' < 9007199254740992 ∧ -180 ≤ q' ∧ q' ≤ 0 ∧ c' ≤ (N1 + N2) * 2 ^ (-q').toNat := by
    rw [k]
    by_cases z : FP.Core.inUnits c q (min q r) + FP.Core.inUnits d r (min q r) = 0
    · left
      unfold FP.Core.roundRatio
      rw [if_pos z, b64_qmin]
    · right
      refine rnd_V false (by omega) (by omega) z (by rw [Nat.add_mul]; omega) hN ?_
      by_cases zc : c = 0
      · have zd : d ≠ 0 := fun y => z (by rw [zc, y, iu_0, iu_0])
        have := lg_ge z (f5 zd).1 (show min q r ≤ r by omega) (by omega)
        have := (f5 zd).2
        omega
      · have := lg_ge z (e5 zc).1 (show min q r ≤ q by omega) (by omega)
        have := (e5 zc).2
        omega
  obtain ⟨a, b⟩ := V.of rfl hD
  exact ⟨_, a, b⟩
/-- a number's distance from the mean, as both take it -/
theorem dsub_V {x m : UInt64} {n : Nat} (hx : isI x n) (hn : n < 128) (hm : dc m = .fin false 0 (-1074) ∨ ∃ c q, dc m = .fin false c q ∧ 4503599627370496 ≤ c ∧ c < 9007199254740992 ∧ -105 ≤ q ∧ q ≤ -44) : ∃ u, gD (FP.dsub x m) = some u ∧ (0 ≤ Op.cmpValue (FP.dcmp u FP.dconst0) .g → V u 512) ∧ (¬ 0 ≤ Op.cmpValue (FP.dcmp u FP.dconst0) .g → V (FP.dneg u) 512) := by
  obtain ⟨c, q, e1, e2, e3, e4⟩ := hx.rd
  have e5 : c ≠ 0 → 4503599627370496 ≤ c ∧ -52 ≤ q := fun z => by
    rcases hx with ⟨h0, h⟩ | ⟨c', j, h, _, h1, _, h3⟩
    · rw [h] at e1
      injection e1 with _ a b
      omega
    · rw [h] at e1
      injection e1 with _ a b
      omega
  obtain ⟨d, r, f1, f2, f3, f4, f5⟩ : ∃ d r, dc m = .fin false d r ∧ r ≤ 0 ∧ -1074 ≤ r ∧ d ≤ 512 * 2 ^ (-r).toNat ∧ (d ≠ 0 → 4503599627370496 ≤ d ∧ -105 ≤ r) := by
    rcases hm with h | ⟨d, r, h, h1, h2, h3, h4⟩
    · exact ⟨0, -1074, h, by omega, by omega, Nat.zero_le _, fun z => absurd rfl z⟩
    · refine ⟨d, r, h, by omega, by omega, ?_, fun _ => ⟨h1, h3⟩⟩
      have : 2 ^ 44 ≤ 2 ^ (-r).toNat := Nat.pow_le_pow_right (by decide) (by omega)
      omega
  have b1 : FP.Core.inUnits c q (min q r) ≤ 512 * 2 ^ (-(min q r)).toNat := by
    refine iu_le ?_ e2 (by omega)
    rw [e3]
    exact Nat.mul_le_mul_right _ (by omega)
  have b2 := iu_le f4 f2 (show min q r ≤ r by omega)
  have su : FP.Core.sumUnits false c q true d r (min q r) = (FP.Core.inUnits c q (min q r) : Int) - (FP.Core.inUnits d r (min q r) : Int) := by
    unfold FP.Core.sumUnits
    rw [sg_f, sg_t]; omega
  have k : FP.Core.round FP.Core.b64 (FP.Core.exactSum (dc x) (FP.Core.negate (dc m))) = FP.Core.roundRatio FP.Core.b64 (FP.Core.sumSign false true ((FP.Core.inUnits c q (min q r) : Int) - (FP.Core.inUnits d r (min q r) : Int))) ((FP.Core.inUnits c q (min q r) : Int) - (FP.Core.inUnits d r (min q r) : Int)).natAbs 1 (min q r) := by
    rw [e1, f1]
    show FP.Core.round FP.Core.b64 (.fin (FP.Core.sumSign false true (FP.Core.sumUnits false c q true d r (min q r))) (FP.Core.sumUnits false c q true d r (min q r)).natAbs (min q r)) = _
    rw [su]; rfl
  generalize hA : FP.Core.inUnits c q (min q r) = a at *
  generalize hB : FP.Core.inUnits d r (min q r) = b at *
  by_cases z : a = b
  · have k2 : FP.Core.round FP.Core.b64 (FP.Core.exactSum (dc x) (FP.Core.negate (dc m))) = .fin false 0 (-1074) := by
      rw [k, z, Int.sub_self]
      unfold FP.Core.roundRatio
      rw [if_pos (show Int.natAbs 0 = 0 from rfl), b64_qmin]; rfl
    obtain ⟨g1, g2⟩ := ez64 false
    rw [← k2] at g1 g2
    have dz := ((b64_dc g1).trans g2).trans k2
    have gg : gD (FP.dsub x m) = some (UInt64.ofNat (FP.Core.encode FP.Core.b64 (FP.Core.round FP.Core.b64 (FP.Core.exactSum (dc x) (FP.Core.negate (dc m)))))) := b64_g g1
    refine ⟨_, gg, fun _ => Or.inl dz, fun w => absurd ?_ w⟩
    rw [dcmp_fin dz dc_0]
    exact cv_ge.mpr (Int.le_refl _)
  · have hl : -128 ≤ ((((a : Int) - (b : Int)).natAbs.log2 : Nat) : Int) + min q r := by
      by_cases zc : c = 0
      · have a0 : a = 0 := by rw [← hA, zc, iu_0]
        have zd : d ≠ 0 := fun y => z (by rw [a0, ← hB, y, iu_0])
        have := lg_ge (X := ((a : Int) - (b : Int)).natAbs) (by omega) (f5 zd).1 (show min q r ≤ r by omega) (by rw [hB]; omega)
        have := (f5 zd).2
        omega
      · by_cases zd : d = 0
        · have b0 : b = 0 := by rw [← hB, zd, iu_0]
          have := lg_ge (X := ((a : Int) - (b : Int)).natAbs) (by omega) (e5 zc).1 (show min q r ≤ q by omega) (by rw [hA]; omega)
          have := (e5 zc).2
          omega
        · have := (e5 zc).2
          have := (f5 zd).2
          omega
    obtain ⟨c', q', g1, g2, g3, g4, g5, g6⟩ := rnd_V (FP.Core.sumSign false true ((a : Int) - (b : Int))) (X := ((a : Int) - (b : Int)).natAbs) (N := 512) (e := min q r) (by omega) (by omega) (by omega) (by omega) (by decide) hl
    generalize hs : FP.Core.sumSign false true ((a : Int) - (b : Int)) = s at *
    obtain ⟨y1, y2⟩ := ed64 (CN64 g2 g3 (q := q') (by omega) (by omega)) s
    rw [g1] at k
    rw [← k] at y1 y2
    have dz := ((b64_dc y1).trans y2).trans k
    have pos : 0 < FP.Core.inUnits c' q' (min q' (-1074)) := by
      unfold FP.Core.inUnits
      exact Nat.mul_pos (by omega) (Nat.two_pow_pos _)
    have gg : gD (FP.dsub x m) = some (UInt64.ofNat (FP.Core.encode FP.Core.b64 (FP.Core.round FP.Core.b64 (FP.Core.exactSum (dc x) (FP.Core.negate (dc m)))))) := b64_g y1
    refine ⟨_, gg, fun w => ?_, fun w => ?_⟩
    · rw [dcmp_fin dz dc_0] at w
      have w := cv_ge.mp w
      cases s with
      | false => exact Or.inr ⟨c', q', dz, g2, g3, g4, g5, g6⟩
      | true => rw [sg_t, sg_f, iu_0] at w; omega
    · rw [dcmp_fin dz dc_0] at w
      have w := mt cv_ge.mpr w
      cases s with
      | false => rw [sg_f, sg_f, iu_0] at w; omega
      | true => exact Or.inr ⟨c', q', (dc_neg _).1 _ _ _ dz, g2, g3, g4, g5, g6⟩
theorem two_spread {ls : List Nat} {M R : gM} {J l : Nat} {m : UInt64} (o : OUT 18 ls M R J) (hJ : J ≤ 20736) (hl : l < 4) (hf : ∀ j, j < J → R 80 (4 * j + l) = nI (rdg M 18 j l)) (hm : dc m = .fin false 0 (-1074) ∨ ∃ c q, dc m = .fin false c q ∧ 4503599627370496 ≤ c ∧ c < 9007199254740992 ∧ -105 ≤ q ∧ q ≤ -44) : ∃ w, lX0_spreadOf_13 18 (nI l) m M (FP.dconst0, 0) = some w ∧ lX9_spread_24 (nI l) m R (FP.dconst0, 0) = some w ∧ V w (512 * J) := by
  have key : ∀ (d j : Nat) (x : UInt64), j + d = J → V x (512 * j) → ∃ w, lX0_spreadOf_13 18 (nI l) m M (x, nI j) = some w ∧ lX9_spread_24 (nI l) m R (x, nI j) = some w ∧ V w (512 * J) := by
    intro d
    induction d with
    | zero =>
      intro j x hj hx
      have : j = J := by omega
      subst this
      refine ⟨x, ?_, ?_, hx⟩
      · unfold lX0_spreadOf_13
        refine it_r ?_
        dsimp only
        rw [if_pos (show M 18 0 ≤ nI j by rw [o.1]; exact (nI_leI (by omega) (by omega)).mpr (Nat.le_refl _))]
      · unfold lX9_spread_24
        refine it_r ?_
        dsimp only
        rw [if_pos (show R 62 26 ≤ nI j by rw [o.2.1]; exact (nI_leI (by omega) (by omega)).mpr (Nat.le_refl _))]
    | succ d ih =>
      intro j x hj hx
      obtain ⟨u, eu, h1, h2⟩ := dsub_V (i2d_I (n := rdg M 18 j l) (by have := rdg_lt M 18 j l; omega)) (rdg_lt M 18 j l) hm
      have st : ∃ t, V t 512 ∧ (if 0 ≤ Op.cmpValue (FP.dcmp u FP.dconst0) .g then t = u else t = FP.dneg u) := by
        by_cases c : 0 ≤ Op.cmpValue (FP.dcmp u FP.dconst0) .g
        · exact ⟨u, h1 c, by rw [if_pos c]⟩
        · exact ⟨FP.dneg u, h2 c, by rw [if_neg c]⟩
      obtain ⟨t, ht, et⟩ := st
      obtain ⟨y, ey, hy⟩ := dadd_V hx ht (by omega)
      obtain ⟨w, w1, w2, w3⟩ := ih (j + 1) y (by omega) (by rw [show 512 * (j + 1) = 512 * j + 512 by omega]; exact hy)
      refine ⟨w, ?_, ?_, w3⟩
      · have e : lX0_spreadOf_13 18 (nI l) m M (x, nI j) = lX0_spreadOf_13 18 (nI l) m M (y, nI (j + 1)) := by
          unfold lX0_spreadOf_13
          refine it_l ?_
          dsimp only
          rw [if_neg (show ¬ M 18 0 ≤ nI j by rw [o.1]; exact fun z => by have := (nI_leI (by omega) (by omega)).mp z; omega), c_numberAt o hJ (by omega) hl, obs, eu, obs]
          unfold bX0_spreadOf_51
          by_cases c : 0 ≤ Op.cmpValue (FP.dcmp u FP.dconst0) .g
          · rw [if_pos c] at et ⊢
            rw [← et, ey, obs, nI_1]
          · rw [if_neg c] at et ⊢
            rw [← et, ey, obs, nI_1]
        rw [e]; exact w1
      · have e : lX9_spread_24 (nI l) m R (x, nI j) = lX9_spread_24 (nI l) m R (y, nI (j + 1)) := by
          unfold lX9_spread_24
          refine it_l ?_
          dsimp only
          rw [if_neg (show ¬ R 62 26 ≤ nI j by rw [o.2.1]; exact fun z => by have := (nI_leI (by omega) (by omega)).mp z; omega), n_numberOf (by omega) hl, obs, hf j (by omega), eu, obs]
          unfold bX9_spread_62
          by_cases c : 0 ≤ Op.cmpValue (FP.dcmp u FP.dconst0) .g
          · rw [if_pos c] at et ⊢
            rw [← et, ey, obs, nI_1]
          · rw [if_neg c] at et ⊢
            rw [← et, ey, obs, nI_1]
        rw [e]; exact w2
  exact key J 0 FP.dconst0 (by omega) (Or.inl dc_0)
theorem eq_spread {I : gM} (h : InvB I) {v : Int32} {a : Int64} {b : Int64 × gM} (e1 : fX8_spread v I = some a) (e2 : fX9_spread v I = some b) : a = b.1 := by
  obtain ⟨A, hW, hC, hR⟩ := h.tab
  unfold fX8_spread at e1
  unfold fX9_spread at e2
  rcases two_has h hW hC h.mi h.1.2.1 hR v with ⟨z1, r, z2⟩ | ⟨l, hl, rfl, hb, z1, R', J, ej, o, hJ, M1, G1, A1, R1, z2⟩
  · rw [z1, obs, if_pos rfl] at e1
    rw [z2, obs, if_pos rfl] at e2
    cases e1; cases e2; rfl
  · rw [z1, obs, if_neg (by decide), o.1] at e1
    rcases z2 with ⟨hz, z2⟩ | ⟨hz, z2⟩
    · rw [if_pos (by rw [hz]; rfl)] at e1
      rw [z2, obs, if_pos rfl] at e2
      cases e1; cases e2; rfl
    · rw [if_neg (show ¬ nI J = 0 from fun z => by have := nI_inj (b := 0) z (by omega) (by omega); omega)] at e1
      rw [z2, obs, if_neg (show ¬ (1 : Int32) = 0 by decide)] at e2
      have hf := fun j hj => (d99 M1 G1 A1 hW R1 o hJ hl hb (j := j) hj).1
      obtain ⟨u, f1, f2, _, f4⟩ := two_mean o hJ hz hl hf
      obtain ⟨w, w1, w2, w3⟩ := two_spread o hJ hl hf f4
      obtain ⟨x, x1, x2⟩ := ddiv_NB (u := w) (v := FP.i2d (nI J)) (b := J) (by
        rcases w3 with w3 | ⟨c, q, g1, g2, g3, g4, g5, _⟩
        · exact Or.inl w3
        · exact Or.inr ⟨c, q, g1, g2, g3, by omega, by omega⟩) (i2d_I (by omega)) (by omega)
      unfold fX0_spreadOf at e1
      rw [f1, obs, w1, obs, o.1, if_neg (show ¬ nI J ≤ 0 from fun z => by have := (nI_leI (b := 0) (by omega) (by omega)).mp z; omega), x1, obs, obs, c_bits x2, obs] at e1
      rw [f2, obs, w2, obs] at e2
      dsimp only at e2
      rw [o.2.1, x1, obs, n_bits64 x2, obs] at e2
      cases e1; cases e2; rfl
