section P_35r_43q_spread
/-! spread: the sum of the distances from the mean -/
def V (u : UInt64) (N : Nat) : Prop := dc u = .fin false 0 (-1074) ∨ ∃ c q, dc u = .fin false c q ∧ 4503599627370496 ≤ c ∧ c < 9007199254740992 ∧ -180 ≤ q ∧ q ≤ 0 ∧ c ≤ N * 2 ^ (-q).toNat
theorem rnd_V {X N : Nat} {e : Int} (s : Bool) (he : e ≤ 0) (h1074 : -1074 ≤ e) (h0 : X ≠ 0) (hN : X ≤ N * 2 ^ (-e).toNat) (hN2 : N < 2 ^ 40) (hl : -128 ≤ (X.log2 : Int) + e) : ∃ c q, FP.Core.roundRatio FP.Core.b64 s X 1 e = .fin s c q ∧ 4503599627370496 ≤ c ∧ c < 9007199254740992 ∧ -180 ≤ q ∧ q ≤ 0 ∧ c ≤ N * 2 ^ (-q).toNat := by
  have l1 := Nat.log2_self_le h0
  have l2 : X < 2 ^ (X.log2 + 1) := Nat.lt_log2_self
  have pe : 0 < 2 ^ (-e).toNat := Nat.two_pow_pos _
  have up : (X.log2 : Int) + e < 40 := by
    have a : X < 2 ^ (40 + (-e).toNat) := by
      rw [Nat.pow_add]
      exact Nat.lt_of_le_of_lt hN (Nat.mul_lt_mul_of_pos_right hN2 pe)
    have := (Nat.log2_lt h0).mpr a
    omega
  generalize hL : X.log2 = L at *
  have hQ : ∃ Q : Int, (L : Int) + e - 52 = Q := ⟨_, rfl⟩
  obtain ⟨Q, hQ⟩ := hQ
  have dpos : 0 < FP.Core.unitsDen 1 e Q := by
    unfold FP.Core.unitsDen
    rw [Nat.one_mul]; exact Nat.two_pow_pos _
  have m1 : 4503599627370496 ≤ FP.Core.nearest (FP.Core.unitsNum X e Q) (FP.Core.unitsDen 1 e Q) := by
    refine near_ge dpos ?_
    unfold FP.Core.unitsNum FP.Core.unitsDen
    rw [Nat.one_mul]
    rcases (by omega : Q ≤ e ∨ e ≤ Q) with z | z
    · rw [show (Q - e).toNat = 0 by omega, Nat.pow_zero, Nat.mul_one]
      have := Nat.mul_le_mul_right (2 ^ (e - Q).toNat) l1
      rw [← Nat.pow_add, show L + (e - Q).toNat = 52 by omega] at this
      exact this
    · rw [show (e - Q).toNat = 0 by omega, Nat.pow_zero, Nat.mul_one]
      rw [show L = 52 + (Q - e).toNat by omega, Nat.pow_add] at l1
      exact l1
  have m2 : FP.Core.nearest (FP.Core.unitsNum X e Q) (FP.Core.unitsDen 1 e Q) ≤ 9007199254740992 := by
    refine near_le dpos ?_
    unfold FP.Core.unitsNum FP.Core.unitsDen
    rw [Nat.one_mul]
    rcases (by omega : Q ≤ e ∨ e ≤ Q) with z | z
    · rw [show (Q - e).toNat = 0 by omega, Nat.pow_zero, Nat.mul_one]
      have := Nat.mul_le_mul_right (2 ^ (e - Q).toNat) (Nat.le_of_lt l2)
      rw [← Nat.pow_add, show L + 1 + (e - Q).toNat = 53 by omega] at this
      exact this
    · rw [show (e - Q).toNat = 0 by omega, Nat.pow_zero, Nat.mul_one]
      rw [show L + 1 = 53 + (Q - e).toNat by omega, Nat.pow_add] at l2
      exact Nat.le_of_lt l2
  have m3 : FP.Core.nearest (FP.Core.unitsNum X e Q) (FP.Core.unitsDen 1 e Q) ≤ N * 2 ^ (-Q).toNat := by
    refine near_le dpos ?_
    unfold FP.Core.unitsNum FP.Core.unitsDen
    rw [Nat.one_mul]
    rcases (by omega : Q ≤ e ∨ e ≤ Q) with z | z
    · rw [show (Q - e).toNat = 0 by omega, Nat.pow_zero, Nat.mul_one]
      have := Nat.mul_le_mul_right (2 ^ (e - Q).toNat) hN
      rw [Nat.mul_assoc, ← Nat.pow_add, show (-e).toNat + (e - Q).toNat = (-Q).toNat by omega] at this
      exact this
    · rw [show (e - Q).toNat = 0 by omega, Nat.pow_zero, Nat.mul_one, Nat.mul_assoc, ← Nat.pow_add, show (-Q).toNat + (Q - e).toNat = (-e).toNat by omega]
      exact hN
  obtain ⟨c, q, g1, g2, g3⟩ := rr_at f64 (s := s) (num := X) (den := 1) (e := e) (Q := Q) h0 (by rw [lead1 h0, hL]; show (L : Int) + e - ((53 : Int) - 1) = Q; omega) (by rw [b64_qmin]; omega) (by rw [b64_qmax]; omega) rfl (by rw [b64_tails]; exact m1) (by rw [b64_tails]; exact m2)
  generalize FP.Core.nearest (FP.Core.unitsNum X e Q) (FP.Core.unitsDen 1 e Q) = m at *
  unfold CN at g2
  rw [b64_tails] at g2 g3
  refine ⟨c, q, g1, g2.1, by omega, by omega, by omega, ?_⟩
  rcases g3 with ⟨_, rfl, rfl⟩ | ⟨z, rfl, rfl⟩
  · exact m3
  · rw [show (-Q).toNat = (-(Q + 1)).toNat + 1 by omega, Nat.pow_succ, ← Nat.mul_assoc] at m3
    omega
theorem V.rd {u : UInt64} {N : Nat} (h : V u N) : ∃ c q, dc u = .fin false c q ∧ q ≤ 0 ∧ -1074 ≤ q ∧ c ≤ N * 2 ^ (-q).toNat ∧ (c ≠ 0 → 4503599627370496 ≤ c ∧ -180 ≤ q) := by
  rcases h with h | ⟨c, q, h, h1, h2, h3, h4, h5⟩
  · exact ⟨0, -1074, h, by omega, by omega, Nat.zero_le _, fun z => absurd rfl z⟩
  · exact ⟨c, q, h, h4, by omega, h5, fun _ => ⟨h1, h3⟩⟩
theorem lg_ge {X c : Nat} {q e : Int} (hX : X ≠ 0) (h1 : 4503599627370496 ≤ c) (he : e ≤ q) (h : FP.Core.inUnits c q e ≤ X) : 52 + q ≤ (X.log2 : Int) + e := by
  unfold FP.Core.inUnits at h
  have a : 2 ^ (52 + (q - e).toNat) ≤ X := by
    rw [Nat.pow_add]
    exact Nat.le_trans (Nat.mul_le_mul_right _ h1) h
  have := (Nat.le_log2 hX).mpr a
  omega
theorem iu_le {c N : Nat} {q e : Int} (h : c ≤ N * 2 ^ (-q).toNat) (hq : q ≤ 0) (he : e ≤ q) : FP.Core.inUnits c q e ≤ N * 2 ^ (-e).toNat := by
  unfold FP.Core.inUnits
  have := Nat.mul_le_mul_right (2 ^ (q - e).toNat) h
  rw [Nat.mul_assoc, ← Nat.pow_add, show (-q).toNat + (q - e).toNat = (-e).toNat by omega] at this
  exact this
theorem V.of {D : FP.Core.Datum} {x : Nat} {N : Nat} (hx : x = FP.Core.encode FP.Core.b64 D) (h : D = .fin false 0 (-1074) ∨ ∃ c q, D = .fin false c q ∧ 4503599627370496 ≤ c ∧ c < 9007199254740992 ∧ -180 ≤ q ∧ q ≤ 0 ∧ c ≤ N * 2 ^ (-q).toNat) : gD (.ofNat x) = some (.ofNat x) ∧ V (.ofNat x) N := by
  subst hx
  rcases h with rfl | ⟨c, q, rfl, h1, h2, h3, h4, h5⟩
  · obtain ⟨a, b⟩ := ez64 false
    exact ⟨b64_g a, Or.inl ((b64_dc a).trans b)⟩
  · obtain ⟨a, b⟩ := ed64 (CN64 h1 h2 (q := q) (by omega) (by omega)) false
    exact ⟨b64_g a, Or.inr ⟨c, q, (b64_dc a).trans b, h1, h2, h3, h4, h5⟩⟩
theorem dadd_V {u v : UInt64} {N1 N2 : Nat} (h : V u N1) (h' : V v N2) (hN : N1 + N2 < 2 ^ 40) : ∃ w, gD (FP.dadd u v) = some w ∧ V w (N1 + N2) := by
  obtain ⟨c, q, e1, e2, e3, e4, e5⟩ := h.rd
  obtain ⟨d, r, f1, f2, f3, f4, f5⟩ := h'.rd
  have su : FP.Core.sumUnits false c q false d r (min q r) = ((FP.Core.inUnits c q (min q r) + FP.Core.inUnits d r (min q r) : Nat) : Int) := by
    unfold FP.Core.sumUnits
    rw [sg_f, sg_f]; omega
  have ss : FP.Core.sumSign false false ((FP.Core.inUnits c q (min q r) + FP.Core.inUnits d r (min q r) : Nat) : Int) = false := by
    unfold FP.Core.sumSign
    split
    · rfl
    · exact decide_eq_false (by omega)
  have k : FP.Core.round FP.Core.b64 (FP.Core.exactSum (dc u) (dc v)) = FP.Core.roundRatio FP.Core.b64 false (FP.Core.inUnits c q (min q r) + FP.Core.inUnits d r (min q r)) 1 (min q r) := by
    rw [e1, f1]
    show FP.Core.round FP.Core.b64 (.fin (FP.Core.sumSign false false (FP.Core.sumUnits false c q false d r (min q r))) (FP.Core.sumUnits false c q false d r (min q r)).natAbs (min q r)) = _
    rw [su, ss, Int.natAbs_natCast]
    rfl
  have b1 := iu_le e4 e2 (show min q r ≤ q by omega)
  have b2 := iu_le f4 f2 (show min q r ≤ r by omega)
  have hD : FP.Core.round FP.Core.b64 (FP.Core.exactSum (dc u) (dc v)) = .fin false 0 (-1074) ∨ ∃ c' q', FP.Core.round FP.Core.b64 (FP.Core.exactSum (dc u) (dc v)) = .fin false c' q' ∧ 4503599627370496 ≤ c' ∧ c' < 9007199254740992 ∧ -180 ≤ q' ∧ q' ≤ 0 ∧ c' ≤ (N1 + N2) * 2 ^ (-q').toNat := by
    rw [k]
    by_cases z : FP.Core.inUnits c q (min q r) + FP.Core.inUnits d r (min q r) = 0
    · left
      unfold FP.Core.roundRatio
      rw [if_pos z, b64_qmin]
    · right
      refine rnd_V false (by omega) (by omega) z (by rw [Nat.add_mul]; omega) hN ?_
      by_cases zc : c = 0
      · have zd : d ≠ 0 := fun y => z (by rw [zc, y, iu_0, iu_0])
        have := lg_ge z (f5 zd).1 (show min q r ≤ r by omega) (by omega)
        have := (f5 zd).2
        omega
      · have := lg_ge z (e5 zc).1 (show min q r ≤ q by omega) (by omega)
        have := (e5 zc).2
        omega
  obtain ⟨a, b⟩ := V.of rfl hD
  exact ⟨_, a, b⟩
/-- a number's distance from the mean, as both take it -/
theorem dsub_V {x m : UInt64} {n : Nat} (hx : isI x n) (hn : n < 128) (hm : dc m = .fin false 0 (-1074) ∨ ∃ c q, dc m = .fin false c q ∧ 4503599627370496 ≤ c ∧ c < 9007199254740992 ∧ -105 ≤ q ∧ q ≤ -44) : ∃ u, gD (FP.dsub x m) = some u ∧ (0 ≤ Op.cmpValue (FP.dcmp u FP.dconst0) .g → V u 512) ∧ (¬ 0 ≤ Op.cmpValue (FP.dcmp u FP.dconst0) .g → V (FP.dneg u) 512) := by
  obtain ⟨c, q, e1, e2, e3, e4⟩ := hx.rd
  have e5 : c ≠ 0 → 4503599627370496 ≤ c ∧ -52 ≤ q := fun z => by
    rcases hx with ⟨h0, h⟩ | ⟨c', j, h, _, h1, _, h3⟩
    · rw [h] at e1
      injection e1 with _ a b
      omega
    · rw [h] at e1
      injection e1 with _ a b
      omega
  obtain ⟨d, r, f1, f2, f3, f4, f5⟩ : ∃ d r, dc m = .fin false d r ∧ r ≤ 0 ∧ -1074 ≤ r ∧ d ≤ 512 * 2 ^ (-r).toNat ∧ (d ≠ 0 → 4503599627370496 ≤ d ∧ -105 ≤ r) := by
    rcases hm with h | ⟨d, r, h, h1, h2, h3, h4⟩
    · exact ⟨0, -1074, h, by omega, by omega, Nat.zero_le _, fun z => absurd rfl z⟩
    · refine ⟨d, r, h, by omega, by omega, ?_, fun _ => ⟨h1, h3⟩⟩
      have : 2 ^ 44 ≤ 2 ^ (-r).toNat := Nat.pow_le_pow_right (by decide) (by omega)
      omega
  have b1 : FP.Core.inUnits c q (min q r) ≤ 512 * 2 ^ (-(min q r)).toNat := by
    refine iu_le ?_ e2 (by omega)
    rw [e3]
    exact Nat.mul_le_mul_right _ (by omega)
  have b2 := iu_le f4 f2 (show min q r ≤ r by omega)
  have su : FP.Core.sumUnits false c q true d r (min q r) = (FP.Core.inUnits c q (min q r) : Int) - (FP.Core.inUnits d r (min q r) : Int) := by
    unfold FP.Core.sumUnits
    rw [sg_f, sg_t]; omega
  have k : FP.Core.round FP.Core.b64 (FP.Core.exactSum (dc x) (FP.Core.negate (dc m))) = FP.Core.roundRatio FP.Core.b64 (FP.Core.sumSign false true ((FP.Core.inUnits c q (min q r) : Int) - (FP.Core.inUnits d r (min q r) : Int))) ((FP.Core.inUnits c q (min q r) : Int) - (FP.Core.inUnits d r (min q r) : Int)).natAbs 1 (min q r) := by
    rw [e1, f1]
    show FP.Core.round FP.Core.b64 (.fin (FP.Core.sumSign false true (FP.Core.sumUnits false c q true d r (min q r))) (FP.Core.sumUnits false c q true d r (min q r)).natAbs (min q r)) = _
    rw [su]; rfl
  generalize hA : FP.Core.inUnits c q (min q r) = a at *
  generalize hB : FP.Core.inUnits d r (min q r) = b at *
  by_cases z : a = b
  · have k2 : FP.Core.round FP.Core.b64 (FP.Core.exactSum (dc x) (FP.Core.negate (dc m))) = .fin false 0 (-1074) := by
      rw [k, z, Int.sub_self]
      unfold FP.Core.roundRatio
      rw [if_pos (show Int.natAbs 0 = 0 from rfl), b64_qmin]; rfl
    obtain ⟨g1, g2⟩ := ez64 false
    rw [← k2] at g1 g2
    have dz := ((b64_dc g1).trans g2).trans k2
    have gg : gD (FP.dsub x m) = some (UInt64.ofNat (FP.Core.encode FP.Core.b64 (FP.Core.round FP.Core.b64 (FP.Core.exactSum (dc x) (FP.Core.negate (dc m)))))) := b64_g g1
    refine ⟨_, gg, fun _ => Or.inl dz, fun w => absurd ?_ w⟩
    rw [dcmp_fin dz dc_0]
    exact cv_ge.mpr (Int.le_refl _)
  · have hl : -128 ≤ ((((a : Int) - (b : Int)).natAbs.log2 : Nat) : Int) + min q r := by
      by_cases zc : c = 0
      · have a0 : a = 0 := by rw [← hA, zc, iu_0]
        have zd : d ≠ 0 := fun y => z (by rw [a0, ← hB, y, iu_0])
        have := lg_ge (X := ((a : Int) - (b : Int)).natAbs) (by omega) (f5 zd).1 (show min q r ≤ r by omega) (by rw [hB]; omega)
        have := (f5 zd).2
        omega
      · by_cases zd : d = 0
        · have b0 : b = 0 := by rw [← hB, zd, iu_0]
          have := lg_ge (X := ((a : Int) - (b : Int)).natAbs) (by omega) (e5 zc).1 (show min q r ≤ q by omega) (by rw [hA]; omega)
          have := (e5 zc).2
          omega
        · have := (e5 zc).2
          have := (f5 zd).2
          omega
    obtain ⟨c', q', g1, g2, g3, g4, g5, g6⟩ := rnd_V (FP.Core.sumSign false true ((a : Int) - (b : Int))) (X := ((a : Int) - (b : Int)).natAbs) (N := 512) (e := min q r) (by omega) (by omega) (by omega) (by omega) (by decide) hl
    generalize hs : FP.Core.sumSign false true ((a : Int) - (b : Int)) = s at *
    obtain ⟨y1, y2⟩ := ed64 (CN64 g2 g3 (q := q') (by omega) (by omega)) s
    rw [g1] at k
    rw [← k] at y1 y2
    have dz := ((b64_dc y1).trans y2).trans k
    have pos : 0 < FP.Core.inUnits c' q' (min q' (-1074)) := by
      unfold FP.Core.inUnits
      exact Nat.mul_pos (by omega) (Nat.two_pow_pos _)
    have gg : gD (FP.dsub x m) = some (UInt64.ofNat (FP.Core.encode FP.Core.b64 (FP.Core.round FP.Core.b64 (FP.Core.exactSum (dc x) (FP.Core.negate (dc m)))))) := b64_g y1
    refine ⟨_, gg, fun w => ?_, fun w => ?_⟩
    · rw [dcmp_fin dz dc_0] at w
      have w := cv_ge.mp w
      cases s with
      | false => exact Or.inr ⟨c', q', dz, g2, g3, g4, g5, g6⟩
      | true => rw [sg_t, sg_f, iu_0] at w; omega
    · rw [dcmp_fin dz dc_0] at w
      have w := mt cv_ge.mpr w
      cases s with
      | false => rw [sg_f, sg_f, iu_0] at w; omega
      | true => exact Or.inr ⟨c', q', (dc_neg _).1 _ _ _ dz, g2, g3, g4, g5, g6⟩
theorem two_spread {ls : List Nat} {M R : gM} {J l : Nat} {m : UInt64} (o : OUT 18 ls M R J) (hJ : J ≤ 20736) (hl : l < 4) (hf : ∀ j, j < J → R 80 (4 * j + l) = nI (rdg M 18 j l)) (hm : dc m = .fin false 0 (-1074) ∨ ∃ c q, dc m = .fin false c q ∧ 4503599627370496 ≤ c ∧ c < 9007199254740992 ∧ -105 ≤ q ∧ q ≤ -44) : ∃ w, lX0_spreadOf_13 18 (nI l) m M (FP.dconst0, 0) = some w ∧ lX9_spread_24 (nI l) m R (FP.dconst0, 0) = some w ∧ V w (512 * J) := by
  have key : ∀ (d j : Nat) (x : UInt64), j + d = J → V x (512 * j) → ∃ w, lX0_spreadOf_13 18 (nI l) m M (x, nI j) = some w ∧ lX9_spread_24 (nI l) m R (x, nI j) = some w ∧ V w (512 * J) := by
    intro d
    induction d with
    | zero =>
      intro j x hj hx
      have : j = J := by omega
      subst this
      refine ⟨x, ?_, ?_, hx⟩
      · unfold lX0_spreadOf_13
        refine it_r ?_
        dsimp only
        rw [if_pos (show M 18 0 ≤ nI j by rw [o.1]; exact (nI_leI (by omega) (by omega)).mpr (Nat.le_refl _))]
      · unfold lX9_spread_24
        refine it_r ?_
        dsimp only
        rw [if_pos (show R 62 26 ≤ nI j by rw [o.2.1]; exact (nI_leI (by omega) (by omega)).mpr (Nat.le_refl _))]
    | succ d ih =>
      intro j x hj hx
      obtain ⟨u, eu, h1, h2⟩ := dsub_V (i2d_I (n := rdg M 18 j l) (by have := rdg_lt M 18 j l; omega)) (rdg_lt M 18 j l) hm
      have st : ∃ t, V t 512 ∧ (if 0 ≤ Op.cmpValue (FP.dcmp u FP.dconst0) .g then t = u else t = FP.dneg u) := by
        by_cases c : 0 ≤ Op.cmpValue (FP.dcmp u FP.dconst0) .g
        · exact ⟨u, h1 c, by rw [if_pos c]⟩
        · exact ⟨FP.dneg u, h2 c, by rw [if_neg c]⟩
      obtain ⟨t, ht, et⟩ := st
      obtain ⟨y, ey, hy⟩ := dadd_V hx ht (by omega)
      obtain ⟨w, w1, w2, w3⟩ := ih (j + 1) y (by omega) (by rw [show 512 * (j + 1) = 512 * j + 512 by omega]; exact hy)
      refine ⟨w, ?_, ?_, w3⟩
      · have e : lX0_spreadOf_13 18 (nI l) m M (x, nI j) = lX0_spreadOf_13 18 (nI l) m M (y, nI (j + 1)) := by
          unfold lX0_spreadOf_13
          refine it_l ?_
          dsimp only
          rw [if_neg (show ¬ M 18 0 ≤ nI j by rw [o.1]; exact fun z => by have := (nI_leI (by omega) (by omega)).mp z; omega), c_numberAt o hJ (by omega) hl, obs, eu, obs]
          unfold bX0_spreadOf_51
          by_cases c : 0 ≤ Op.cmpValue (FP.dcmp u FP.dconst0) .g
          · rw [if_pos c] at et ⊢
            rw [← et, ey, obs, nI_1]
          · rw [if_neg c] at et ⊢
            rw [← et, ey, obs, nI_1]
        rw [e]; exact w1
      · have e : lX9_spread_24 (nI l) m R (x, nI j) = lX9_spread_24 (nI l) m R (y, nI (j + 1)) := by
          unfold lX9_spread_24
          refine it_l ?_
          dsimp only
          rw [if_neg (show ¬ R 62 26 ≤ nI j by rw [o.2.1]; exact fun z => by have := (nI_leI (by omega) (by omega)).mp z; omega), n_numberOf (by omega) hl, obs, hf j (by omega), eu, obs]
          unfold bX9_spread_62
          by_cases c : 0 ≤ Op.cmpValue (FP.dcmp u FP.dconst0) .g
          · rw [if_pos c] at et ⊢
            rw [← et, ey, obs, nI_1]
          · rw [if_neg c] at et ⊢
            rw [← et, ey, obs, nI_1]
        rw [e]; exact w2
  exact key J 0 FP.dconst0 (by omega) (Or.inl dc_0)
theorem eq_spread {I : gM} (h : InvB I) {v : Int32} {a : Int64} {b : Int64 × gM} (e1 : fX8_spread v I = some a) (e2 : fX9_spread v I = some b) : a = b.1 := by
  obtain ⟨A, hW, hC, hR⟩ := h.tab
  unfold fX8_spread at e1
  unfold fX9_spread at e2
  rcases two_has h hW hC h.mi h.1.2.1 hR v with ⟨z1, r, z2⟩ | ⟨l, hl, rfl, hb, z1, R', J, ej, o, hJ, M1, G1, A1, R1, z2⟩
  · rw [z1, obs, if_pos rfl] at e1
    rw [z2, obs, if_pos rfl] at e2
    cases e1; cases e2; rfl
  · rw [z1, obs, if_neg (by decide), o.1] at e1
    rcases z2 with ⟨hz, z2⟩ | ⟨hz, z2⟩
    · rw [if_pos (by rw [hz]; rfl)] at e1
      rw [z2, obs, if_pos rfl] at e2
      cases e1; cases e2; rfl
    · rw [if_neg (show ¬ nI J = 0 from fun z => by have := nI_inj (b := 0) z (by omega) (by omega); omega)] at e1
      rw [z2, obs, if_neg (show ¬ (1 : Int32) = 0 by decide)] at e2
      have hf := fun j hj => (d99 M1 G1 A1 hW R1 o hJ hl hb (j := j) hj).1
      obtain ⟨u, f1, f2, _, f4⟩ := two_mean o hJ hz hl hf
      obtain ⟨w, w1, w2, w3⟩ := two_spread o hJ hl hf f4
      obtain ⟨x, x1, x2⟩ := ddiv_NB (u := w) (v := FP.i2d (nI J)) (b := J) (by
        rcases w3 with w3 | ⟨c, q, g1, g2, g3, g4, g5, _⟩
        · exact Or.inl w3
        · exact Or.inr ⟨c, q, g1, g2, g3, by omega, by omega⟩) (i2d_I (by omega)) (by omega)
      unfold fX0_spreadOf at e1
      rw [f1, obs, w1, obs, o.1, if_neg (show ¬ nI J ≤ 0 from fun z => by have := (nI_leI (b := 0) (by omega) (by omega)).mp z; omega), x1, obs, obs, c_bits x2, obs] at e1
      rw [f2, obs, w2, obs] at e2
      dsimp only at e2
      rw [o.2.1, x1, obs, n_bits64 x2, obs] at e2
      cases e1; cases e2; rfl
end P_35r_43q_spread
section P_35r_43r_floats
/-! meanAs, skew: floats -/
def NF (f : UInt32) : Prop := fc f = .fin false 0 (-149) ∨ ∃ c q, fc f = .fin false c q ∧ 8388608 ≤ c ∧ c < 16777216 ∧ -100 ≤ q ∧ q ≤ 90
theorem CN32 {c : Nat} {q : Int} (h1 : 8388608 ≤ c) (h2 : c < 16777216) (h3 : -149 ≤ q) (h4 : q ≤ 104) : CN FP.Core.b32 c q := by
  unfold CN
  rw [b32_tails, b32_qmin, b32_qmax]
  exact ⟨h1, by omega, h3, h4⟩
theorem ez32 : b32ok (FP.Core.encode FP.Core.b32 (.fin false 0 (-149))) ∧ FP.Core.decode FP.Core.b32 (FP.Core.encode FP.Core.b32 (.fin false 0 (-149))) = .fin false 0 (-149) := ⟨⟨by decide +kernel, by decide +kernel⟩, by decide +kernel⟩
theorem fcmp_fin {x y : UInt32} {s t : Bool} {c d : Nat} {q r : Int} (h : fc x = .fin s c q) (h' : fc y = .fin t d r) : FP.fcmp x y = some (compare (FP.Core.signed s (FP.Core.inUnits c q (min q r))) (FP.Core.signed t (FP.Core.inUnits d r (min q r)))) := by
  show FP.Core.order (fc x) (fc y) = _
  rw [h, h']; rfl
theorem d2f_e {u : UInt64} (h : dc u ≠ .nan) : FP.d2f u = UInt32.ofNat (FP.Core.encode FP.Core.b32 (FP.Core.round FP.Core.b32 (dc u))) := if_neg (fun q => h (of_decide_eq_true q))
theorem f2d_e {f : UInt32} (h : fc f ≠ .nan) : FP.f2d f = UInt64.ofNat (FP.Core.encode FP.Core.b64 (FP.Core.round FP.Core.b64 (fc f))) := if_neg (fun q => h (of_decide_eq_true q))
/-- a double that is not far from one, as a float -/
theorem d2f_NF {u : UInt64} (h : NM u) : ∃ f, gF (FP.d2f u) = some f ∧ NF f := by
  rcases h with h | ⟨c, q, h, h1, h2, h3, h4⟩
  · have k : FP.Core.round FP.Core.b32 (dc u) = .fin false 0 (-149) := by
      rw [h]
      show FP.Core.roundRatio FP.Core.b32 false 0 1 (-1074) = _
      unfold FP.Core.roundRatio
      rw [if_pos rfl, b32_qmin]
    obtain ⟨a, b⟩ := ez32
    rw [← k] at a b
    rw [d2f_e (by rw [h]; intro z; cases z)]
    exact ⟨_, b32_g a, Or.inl (((b32_fc a).trans b).trans k)⟩
  · have lc : c.log2 = 52 := lg2 (k := 52) h1 h2
    have m1 : 8388608 ≤ FP.Core.nearest (FP.Core.unitsNum c q (q + 29)) (FP.Core.unitsDen 1 q (q + 29)) := by
      unfold FP.Core.unitsNum FP.Core.unitsDen
      rw [show (q - (q + 29)).toNat = 0 by omega, show (q + 29 - q).toNat = 29 by omega]
      exact near_ge (by omega) (by omega)
    have m2 : FP.Core.nearest (FP.Core.unitsNum c q (q + 29)) (FP.Core.unitsDen 1 q (q + 29)) ≤ 16777216 := by
      unfold FP.Core.unitsNum FP.Core.unitsDen
      rw [show (q - (q + 29)).toNat = 0 by omega, show (q + 29 - q).toNat = 29 by omega]
      exact near_le (by omega) (by omega)
    obtain ⟨c', q', g1, g2, g3⟩ := rr_at f32 (s := false) (num := c) (den := 1) (e := q) (Q := q + 29) (by omega) (by rw [lead1 (by omega), lc]; show ((52 : Nat) : Int) + q - ((24 : Int) - 1) = q + 29; omega) (by rw [b32_qmin]; omega) (by rw [b32_qmax]; omega) rfl (by rw [b32_tails]; exact m1) (by rw [b32_tails]; exact m2)
    unfold CN at g2
    rw [b32_tails] at g2 g3
    have k : FP.Core.round FP.Core.b32 (dc u) = .fin false c' q' := by
      rw [h]; exact g1
    obtain ⟨a, b⟩ := ed32 (CN32 g2.1 (by omega) (q := q') (by omega) (by omega)) false
    rw [← k] at a b
    rw [d2f_e (by rw [h]; intro z; cases z)]
    exact ⟨_, b32_g a, Or.inr ⟨c', q', ((b32_fc a).trans b).trans k, g2.1, by omega, by omega, by omega⟩⟩
theorem lU_n {u : UInt64} {s : Nat} {y : Int32} (hy : (y.toInt64.toUInt64 &&& Int64.toUInt64 63) = UInt64.ofNat s) (hs : s < 64) : (lU u.toInt64 y).toBitVec.toNat = u.toNat / 2 ^ s := by
  unfold lU
  rw [hy]
  show (u >>> UInt64.ofNat s).toNat = _
  rw [UInt64.toNat_shiftRight, Nat.shiftRight_eq_div_pow]
  congr 2
  show (UInt64.ofNat s).toNat % 64 = s
  rw [UInt64.toNat_ofNat_of_lt' (show s < 2 ^ 64 by omega)]
  omega
theorem l2i_n {x : Int64} {n : Nat} (h : x.toBitVec.toNat = n) : x.toInt32 = nI n := by
  apply Int32.toBitVec_inj.mp
  apply BitVec.eq_of_toNat_eq
  show (x.toBitVec.signExtend 32).toNat = (BitVec.ofNat 32 n).toNat
  rw [BitVec.toNat_ofNat, ← h]
  have e : x.toBitVec.signExtend 32 = x.toBitVec.setWidth 32 := BitVec.signExtend_eq_setWidth_of_le _ (by decide)
  rw [e, BitVec.toNat_setWidth]
theorem f_nI {f : UInt32} {n : Nat} (h : f.toNat = n) : f.toInt32 = nI n := by
  apply Int32.toBitVec_inj.mp
  apply BitVec.eq_of_toNat_eq
  show f.toNat = (BitVec.ofNat 32 n).toNat
  rw [BitVec.toNat_ofNat, ← h]
  exact (Nat.mod_eq_of_lt (UInt32.toNat_lt f)).symm
theorem f_or {E t : Nat} (h1 : 896 < E) (h2 : E - 896 < 255) (ht : t < 8388608) : (((nI E - 1023) + 127) <<< 23) ||| nI t = nI ((E - 896) * 8388608 + t) := by
  have eE : nI E - 1023 + 127 = nI (E - 896) := by
    apply Int32.toInt_inj.mp
    have a1 : (nI E - 1023).toInt = (E : Int) - 1023 := tS (tnI (by omega)) (by decide) (by omega) (by omega)
    have a2 : (nI E - 1023 + 127).toInt = (E : Int) - 1023 + 127 := tA a1 (by decide) (by omega) (by omega)
    rw [a2, tnI (by omega)]
    omega
  rw [eE, pk_shlN 23 23 (by decide) (by omega), fa_or, Nat.mul_comm (E - 896), ← Nat.two_pow_add_eq_or_of_lt (show t < 2 ^ 23 by omega), Nat.mul_comm (2 ^ 23)]
theorem c_fbits {f : UInt32} (h : NF f) : fX0_bitsOfFloat f = some f.toInt32 := by
  unfold fX0_bitsOfFloat
  rcases h with h | ⟨c, q, h, h1, h2, h3, h4⟩
  · have e0 : f.toNat = 0 := bits032 (UInt32.toNat_lt f) h
    rw [fcmp_fin h fc_0, if_neg (fun z => by have := cv_gt.mp z; rw [sg_f, iu_0] at this; omega)]
    have : f = 0 := UInt32.toNat_inj.mp e0
    rw [this]; rfl
  · have hc8 : c - 8388608 < 8388608 := by omega
    have hz : 0 < FP.Core.inUnits c q (min q (-149)) := by
      unfold FP.Core.inUnits
      exact Nat.mul_pos (by omega) (Nat.two_pow_pos _)
    rw [fcmp_fin h fc_0, if_pos (cv_gt.mpr (by rw [sg_f, sg_f, iu_0]; omega))]
    obtain ⟨fn, u1, u2, _, _⟩ := bits32 (UInt32.toNat_lt f) h h1
    have k : FP.Core.round FP.Core.b64 (fc f) = .fin false (c * 536870912) (q - 29) := by
      rw [h]
      refine rr_exact f64 (CN64 (by omega) (by omega) (by omega) (by omega)) (by rw [b64_qmax]; omega) (Or.inl ⟨by omega, ?_⟩)
      rw [show (q - (q - 29)).toNat = 29 by omega]
    obtain ⟨a, b⟩ := ed64 (CN64 (c := c * 536870912) (q := q - 29) (by omega) (by omega) (by omega) (by omega)) false
    rw [← k] at a b
    have dz := ((b64_dc a).trans b).trans k
    have gg : gD (FP.f2d f) = some (UInt64.ofNat (FP.Core.encode FP.Core.b64 (FP.Core.round FP.Core.b64 (fc f)))) := by
      rw [f2d_e (by rw [h]; intro z; cases z)]; exact b64_g a
    generalize UInt64.ofNat (FP.Core.encode FP.Core.b64 (FP.Core.round FP.Core.b64 (fc f))) = u at *
    rw [gg, obs, c_bits (Or.inr ⟨_, _, dz, by omega, by omega, by omega, by omega⟩), obs]
    obtain ⟨un, v1, v2, _, _⟩ := u_dc dz (by omega)
    have x52 : (lU u.toInt64 52).toBitVec.toNat = (q + 1046).toNat := by
      rw [lU_n (s := 52) (by decide +kernel) (by omega), un]
      omega
    have x29 : (lU u.toInt64 29).toBitVec.toNat = (q + 1046).toNat * 8388608 + (c - 8388608) := by
      rw [lU_n (s := 29) (by decide +kernel) (by omega), un]
      omega
    have y29 : ((lU u.toInt64 29) &&& 8388607).toBitVec.toNat = c - 8388608 := by
      show ((lU u.toInt64 29).toBitVec &&& (8388607 : Int64).toBitVec).toNat = _
      rw [BitVec.toNat_and, x29, show (8388607 : Int64).toBitVec.toNat = 2 ^ 23 - 1 by decide +kernel, Nat.and_two_pow_sub_one_eq_mod]
      omega
    rw [l2i_n x52, l2i_n y29, f_nI fn]
    have hE : (q + 150).toNat = (q + 1046).toNat - 896 := by omega
    rw [hE] at u1 u2 ⊢
    generalize (q + 1046).toNat = E at *
    rw [f_or (by omega) u2 hc8]
theorem n_fbits {f : UInt32} (h : NF f) : fJxf58ca_floatToIntBits_5c35a f = some f.toInt32 := by
  have e : FP.fcmp f f = some .eq := by
    rcases h with h | ⟨c, q, h, _⟩
    · rw [fcmp_fin h h, Int.compare_eq_eq.mpr rfl]
    · rw [fcmp_fin h h, Int.compare_eq_eq.mpr rfl]
  unfold fJxf58ca_floatToIntBits_5c35a fJxf58ca_isNaN_12338
  rw [e, if_pos (show Op.cmpValue (some .eq) .l = 0 by decide), obs, if_pos rfl]
/-- a whole number as a float, a quotient of two -/
theorem i2f_F {n : Nat} (h0 : n ≠ 0) (h : n < 16777216) : ∃ c j : Nat, fc (FP.i2f (nI n)) = .fin false c (-(j : Int)) ∧ 8388608 ≤ c ∧ c < 16777216 ∧ j ≤ 23 := by
  have l := Nat.log2_self_le h0
  have l2 : n < 2 ^ (n.log2 + 1) := Nat.lt_log2_self
  have l3 : n.log2 < 24 := (Nat.log2_lt h0).mpr h
  have j2 : 8388608 ≤ n * 2 ^ (23 - n.log2) := by
    have := Nat.mul_le_mul_right (2 ^ (23 - n.log2)) l
    rw [← Nat.pow_add, show n.log2 + (23 - n.log2) = 23 by omega] at this
    exact this
  have j3 : n * 2 ^ (23 - n.log2) < 16777216 := by
    have := Nat.mul_lt_mul_of_pos_right l2 (Nat.two_pow_pos (23 - n.log2))
    rw [← Nat.pow_add, show n.log2 + 1 + (23 - n.log2) = 24 by omega] at this
    exact this
  refine ⟨_, 23 - n.log2, ?_, j2, j3, by omega⟩
  have e : FP.i2f (nI n) = UInt32.ofNat (FP.Core.encode FP.Core.b32 (FP.Core.roundRatio FP.Core.b32 false n 1 0)) := by
    show UInt32.ofNat (FP.Core.fromInt FP.Core.b32 (nI n).toInt) = _
    rw [tnI (by omega)]
    unfold FP.Core.fromInt FP.Core.ofInt FP.Core.round
    dsimp only
    rw [decide_eq_false (by omega), Int.natAbs_natCast]
  have k : FP.Core.roundRatio FP.Core.b32 false n 1 0 = .fin false (n * 2 ^ (23 - n.log2)) (-((23 - n.log2 : Nat) : Int)) := by
    refine rr_exact f32 (CN32 j2 j3 (by omega) (by omega)) (by rw [b32_qmax]; omega) (Or.inl ⟨by omega, ?_⟩)
    rw [show (0 - -((23 - n.log2 : Nat) : Int)).toNat = 23 - n.log2 by omega]
  rw [e, k]
  obtain ⟨a, b⟩ := ed32 (CN32 j2 j3 (q := -((23 - n.log2 : Nat) : Int)) (by omega) (by omega)) false
  exact (b32_fc a).trans b
theorem lead_f {a b : Nat} (ha : 8388608 ≤ a) (ha' : a < 16777216) (hb : 8388608 ≤ b) (hb' : b < 16777216) : (b ≤ a ∧ FP.Core.leading a b = 0) ∨ (a < b ∧ FP.Core.leading a b = -1) := by
  have la : a.log2 = 23 := lg2 (k := 23) ha ha'
  have lb : b.log2 = 23 := lg2 (k := 23) hb hb'
  unfold FP.Core.leading
  dsimp only
  rw [la, lb, show (((23 : Nat) : Int) - ((23 : Nat) : Int)).toNat = 0 by omega, show (-(((23 : Nat) : Int) - ((23 : Nat) : Int))).toNat = 0 by omega, Nat.pow_zero, Nat.mul_one, Nat.mul_one]
  by_cases c : b ≤ a
  · rw [if_pos c]; exact Or.inl ⟨c, by omega⟩
  · rw [if_neg c]; exact Or.inr ⟨by omega, by omega⟩
theorem fdiv_NF {a b : Nat} (ha : a ≠ 0) (ha' : a < 16777216) (hb : b ≠ 0) (hb' : b < 16777216) : ∃ f, gF (FP.fdiv (FP.i2f (nI a)) (FP.i2f (nI b))) = some f ∧ NF f := by
  obtain ⟨c, i, e1, e2, e3, e4⟩ := i2f_F ha ha'
  obtain ⟨d, j, f1, f2, f3, f4⟩ := i2f_F hb hb'
  have fin : ∀ Q : Int, ∀ e : Int, e = -(i : Int) - -(j : Int) → FP.Core.leading c d + e - 23 = Q → e - 24 ≤ Q → Q ≤ e - 23 → 8388608 ≤ FP.Core.nearest (FP.Core.unitsNum c e Q) (FP.Core.unitsDen d e Q) → FP.Core.nearest (FP.Core.unitsNum c e Q) (FP.Core.unitsDen d e Q) ≤ 16777216 → ∃ f, gF (FP.fdiv (FP.i2f (nI a)) (FP.i2f (nI b))) = some f ∧ NF f := fun Q e he h1 h2 h3 m1 m2 => by
    obtain ⟨c', q', g1, g2, g3⟩ := rr_at f32 (s := false) (num := c) (den := d) (e := e) (Q := Q) (by omega) (by show FP.Core.leading c d + e - ((24 : Int) - 1) = Q; omega) (by rw [b32_qmin]; omega) (by rw [b32_qmax]; omega) rfl (by rw [b32_tails]; exact m1) (by rw [b32_tails]; exact m2)
    unfold CN at g2
    rw [b32_tails] at g2 g3
    have k : FP.Core.quotient FP.Core.b32 (fc (FP.i2f (nI a))) (fc (FP.i2f (nI b))) = .fin false c' q' := by
      rw [e1, f1, quo_fin (by omega), ← he]
      exact g1
    obtain ⟨x, y⟩ := ed32 (CN32 g2.1 (by omega) (q := q') (by omega) (by omega)) false
    rw [← k] at x y
    exact ⟨_, b32_g x, Or.inr ⟨c', q', ((b32_fc x).trans y).trans k, g2.1, by omega, by omega, by omega⟩⟩
  generalize he : -(i : Int) - -(j : Int) = e at *
  rcases lead_f e2 e3 f2 f3 with ⟨z, l⟩ | ⟨z, l⟩
  · refine fin (e - 23) e rfl (by rw [l]; omega) (by omega) (by omega) ?_ ?_
    · unfold FP.Core.unitsNum FP.Core.unitsDen
      rw [show (e - (e - 23)).toNat = 23 by omega, show (e - 23 - e).toNat = 0 by omega]
      exact near_ge (by omega) (by omega)
    · unfold FP.Core.unitsNum FP.Core.unitsDen
      rw [show (e - (e - 23)).toNat = 23 by omega, show (e - 23 - e).toNat = 0 by omega]
      exact near_le (by omega) (by omega)
  · refine fin (e - 24) e rfl (by rw [l]; omega) (by omega) (by omega) ?_ ?_
    · unfold FP.Core.unitsNum FP.Core.unitsDen
      rw [show (e - (e - 24)).toNat = 24 by omega, show (e - 24 - e).toNat = 0 by omega]
      exact near_ge (by omega) (by omega)
    · unfold FP.Core.unitsNum FP.Core.unitsDen
      rw [show (e - (e - 24)).toNat = 24 by omega, show (e - 24 - e).toNat = 0 by omega]
      exact near_le (by omega) (by omega)
theorem eq_meanAs {I : gM} (h : InvB I) {v w : Int32} {a : Int32} {b : Int32 × gM} (e1 : fX8_meanAs v w I = some a) (e2 : fX9_meanAs v w I = some b) : a = b.1 := by
  obtain ⟨A, hW, hC, hR⟩ := h.tab
  unfold fX8_meanAs at e1
  unfold fX9_meanAs at e2
  have t1 : (1 : Int32).toInt = 1 := by decide
  have hin := n_in w 0 1
  rw [t0i, t1] at hin
  rcases two_has h hW hC h.mi h.1.2.1 hR v with ⟨z1, r, z2⟩ | ⟨l, hl, rfl, hb, z1, R', J, ej, o, hJ, M1, G1, A1, R1, z2⟩
  · rw [z1, obs, if_pos rfl] at e1
    obtain rfl := Option.some.inj e1
    rcases hin with ⟨_, _, y⟩ | ⟨_, y⟩
    · rw [y, obs, if_neg (by decide), z2, obs, if_pos rfl] at e2
      cases e2; rfl
    · rw [y, obs, if_pos rfl] at e2
      cases e2; rfl
  · rw [z1, obs, if_neg (by decide), o.1] at e1
    rcases z2 with ⟨hz, z2⟩ | ⟨hz, z2⟩
    · rw [if_pos (by rw [hz]; rfl)] at e1
      obtain rfl := Option.some.inj e1
      rcases hin with ⟨_, _, y⟩ | ⟨_, y⟩
      · rw [y, obs, if_neg (by decide), z2, obs, if_pos rfl] at e2
        cases e2; rfl
      · rw [y, obs, if_pos rfl] at e2
        cases e2; rfl
    · rw [if_neg (show ¬ nI J = 0 from fun z => by have := nI_inj (b := 0) z (by omega) (by omega); omega)] at e1
      obtain ⟨u, f1, f2, f3, _⟩ := two_mean o hJ hz hl (fun j hj => (d99 M1 G1 A1 hW R1 o hJ hl hb hj).1)
      rcases oi e1 with ⟨c, e1⟩ | ⟨c, e1⟩
      · rw [Int32.lt_iff_toInt_lt, t0i] at c
        rcases hin with ⟨_, _, _⟩ | ⟨_, y⟩
        · omega
        · rw [y, obs, if_pos rfl] at e2
          cases e1; cases e2; rfl
      · rw [Int32.lt_iff_toInt_lt, t0i] at c
        rcases oi e1 with ⟨d, e1⟩ | ⟨d, e1⟩
        · rw [Int32.le_iff_toInt_le, t1] at d
          rcases hin with ⟨_, _, y⟩ | ⟨y, _⟩
          · rw [y, obs, if_neg (by decide), z2, obs, if_neg (show ¬ (1 : Int32) = 0 by decide)] at e2
            rw [f1, obs] at e1
            rcases oi e1 with ⟨x, e1⟩ | ⟨x, e1⟩
            · obtain ⟨f, g1, g2⟩ := d2f_NF f3
              rw [if_pos x, f2, obs, g1, obs, n_fbits g2, obs] at e2
              rw [g1, obs, c_fbits g2, obs] at e1
              cases e1; cases e2; rfl
            · rw [if_neg x, f2, obs] at e2
              cases e1; cases e2; rfl
          · exact absurd ⟨by omega, by omega⟩ y
        · rw [Int32.le_iff_toInt_le, t1] at d
          rcases hin with ⟨_, _, _⟩ | ⟨_, y⟩
          · omega
          · rw [y, obs, if_pos rfl] at e2
            cases e1; cases e2; rfl
theorem cnt_pos (K : Nat → Int32) (l : Nat) : ∀ J, (∀ j, j < J → mx0 (K (4 * j + l)) < 100) → 0 < J → ∃ v, v < 100 ∧ 0 < cntJ K l v J
  | 0, _, h => absurd h (Nat.lt_irrefl 0)
  | J + 1, h, _ => ⟨mx0 (K (4 * J + l)), h J (by omega), by
    show 0 < cntJ K l _ J + (if mx0 (K (4 * J + l)) = mx0 (K (4 * J + l)) then 1 else 0)
    rw [if_pos rfl]; omega⟩
theorem eq_skew {I : gM} (h : InvB I) {v : Int32} {a b : Int32 × gM} (e1 : fX8_skew v I = some a) (e2 : fX9_skew v a.2 = some b) : a.1 = b.1 := by
  obtain ⟨A, hW, hC, hR⟩ := h.tab
  have hMa : MI true I a.2 := by
    obtain ⟨p, ep, hp, _⟩ := t_skew8 v I h.1.1
    rw [e1] at ep
    obtain rfl := Option.some.inj ep
    exact hp
  have hRa := hR.hi hMa hW
  unfold fX8_skew at e1
  unfold fX9_skew at e2
  rcases two_has h hW hC hMa.re (A9.hi hMa h.1.2.1) hRa v with ⟨z1, r, z2⟩ | ⟨l, hl, rfl, hb, z1, R', J, ej, o, hJ, M1, G1, A1, R1, z2⟩
  · rw [z1, obs, if_pos rfl] at e1
    rw [z2, obs, if_pos rfl] at e2
    cases e1; cases e2; rfl
  · rw [z1, obs, if_neg (by decide), o.1] at e1
    rcases z2 with ⟨hz, z2⟩ | ⟨hz, z2⟩
    · rw [if_pos (by rw [hz]; rfl)] at e1
      rw [z2, obs, if_pos rfl] at e2
      cases e1; cases e2; rfl
    · rw [if_neg (show ¬ nI J = 0 from fun z => by have := nI_inj (b := 0) z (by omega) (by omega); omega)] at e1
      rw [z2, obs, if_neg (show ¬ (1 : Int32) = 0 by decide)] at e2
      dsimp only at e2
      -- the reference joins the same tables anew
      obtain ⟨R2, J2, ej2, o2, hJ2, _, _, _, M2, G2, fR2, fj2⟩ := cur_two h hW (by
        rcases Nat.eq_zero_or_pos A.1.length with z | z
        · exfalso
          have e : asA A = 0 := by unfold asA; rw [z]; rfl
          rw [e, Nat.zero_testBit] at hb
          exact absurd hb (by decide)
        · exact z) hC M1 R1
      have : J2 = J := by
        have := o.1.symm.trans o2.1
        exact (nI_inj this (by omega) (by omega)).symm
      subst this
      obtain ⟨r, er, c82, _, ck⟩ := n_cnt M1 ej2 M2 G2 hJ2 o2.2.1
      obtain ⟨e, _, e3, e4⟩ := fl4_at _ hW.2.2.2.1 _ (asA_lt hW) l hl hb
      obtain ⟨r', er', t1, t2⟩ := c_tally o2 hJ2 (by omega) e3 e4 hl
      have hc : ∀ v, v < 100 → cntJ (R2 80) l v J2 < 2 ^ 31 := fun v _ => by have := cntJ_le (R2 80) l v J2; omega
      obtain ⟨q, eq, hq⟩ := c_oftenest t1 hc
      obtain ⟨g, eg, _, _, g3⟩ := n_extreme hl (c82 l hl) hc 3
      have := hq.uniq (g3 rfl)
      subst this
      rw [er', obs, eq, obs] at e1
      rw [er, obs, eg, obs] at e2
      obtain ⟨A2, R2t⟩ := cur_more (I := I) (R0 := I) hW A1 R1 fR2 fj2
      obtain ⟨x, hx, cx⟩ := cnt_pos (R2 80) l J2 (fun j hj => by
        obtain ⟨d1, d2⟩ := d99 M2 G2 A2 hW R2t o2 hJ2 hl hb hj
        rw [d1, mx0_nI (by omega)]; exact d2) hz
      rcases hq with ⟨_, q0⟩ | ⟨y, y1, rfl, y2, _⟩
      · have q0 := q0 x hx
        dsimp only at q0
        omega
      · rw [if_neg (show ¬ nI y < 0 from fun z => by have := (nI_ltI (b := 0) (by omega) (by omega)).mp z; omega), if_pos (show nI y < 100 from (nI_ltI (b := 100) (by omega) (by omega)).mpr y1), rI_n y1 (by omega), obs, t1 y y1, t2 18 (by omega), o2.1] at e1
        rw [show (100 : Int32) = nI 100 from rfl, nI_mul, nI_add, rI_n (by omega) (by omega), obs, c82 l hl y y1, ck 62 (by omega) (by omega) (by omega), o2.2.1] at e2
        have cl := cntJ_le (R2 80) l y J2
        obtain ⟨f, f1, f2⟩ := fdiv_NF (a := cntJ (R2 80) l y J2) (b := J2) y2 (by omega) (by omega) (by omega)
        rw [f1, obs, c_fbits f2, obs] at e1
        rw [f1, obs, n_fbits f2, obs] at e2
        cases e1; cases e2; rfl
end P_35r_43r_floats
section P_35r_44a_sorted
/-! the class's search finds all that fits, each once, in order -/
section SO
variable {k : Nat} {A : aT} {ls : List Nat} {qs : Nat → List Nat}
/-- numbers for the letters, of which each table used has a row -/
def SQf (A : aT) (ls : List Nat) (qs : Nat → List Nat) (F : Nat → Nat) : Prop := ∀ t, t < 4 → A.2.1.testBit t = true → ∃ j, j < (qs t).length ∧ ∀ e, e < ls.length → inB A ls t e = true → uq A ls qs t e j = F e
def OK8 (k : Nat) (M : gM) (J : Nat) : Prop := M k 0 = nI J ∧ J ≤ 20736 ∧ ∀ j, j < J → M (k + 3) j = nI (kn (M (k + 3) j)) ∧ kn (M (k + 3) j) < 268435456
/-- row i is before row j -/
def LX (M : gM) (k : Nat) (ls : List Nat) (i j : Nat) : Prop := ∃ e, e < ls.length ∧ rdg M k i (ls.getD e 0) < rdg M k j (ls.getD e 0) ∧ ∀ e', e' < e → rdg M k i (ls.getD e' 0) = rdg M k j (ls.getD e' 0)
def NW (A : aT) (ls : List Nat) (qs : Nat → List Nat) (k d : Nat) (f : Nat → Nat) (M : gM) (J J' : Nat) : Prop := (∀ j, J ≤ j → j < J' → SQf A ls qs (fun e => rdg M k j (ls.getD e 0)) ∧ ∀ e, e < d → rdg M k j (ls.getD e 0) = f e) ∧ (∀ F, SQf A ls qs F → (∀ e, e < d → F e = f e) → ∃ j, J ≤ j ∧ j < J' ∧ ∀ e, e < ls.length → rdg M k j (ls.getD e 0) = F e) ∧ ∀ i j, J ≤ i → i < j → j < J' → LX M k ls i j
theorem rdg_eq {M r : gM} {k : Nat} (h : r (k + 3) = M (k + 3)) (j l : Nat) : rdg r k j l = rdg M k j l := by unfold rdg; rw [h]
theorem rdg_at {M r : gM} {k j : Nat} (h : r (k + 3) j = M (k + 3) j) (l : Nat) : rdg r k j l = rdg M k j l := by unfold rdg; rw [h]
theorem LX.of {M r : gM} {i j : Nat} (hi : r (k + 3) i = M (k + 3) i) (hj : r (k + 3) j = M (k + 3) j) (h : LX M k ls i j) : LX r k ls i j := by
  obtain ⟨e, h1, h2, h3⟩ := h
  exact ⟨e, h1, by rw [rdg_at hi, rdg_at hj]; exact h2, fun e' he => by rw [rdg_at hi, rdg_at hj]; exact h3 e' he⟩
/-- in the loop of a depth -/
def LSo (A : aT) (ls : List Nat) (qs : Nat → List Nat) (k d : Nat) (f a b : Nat → Nat) (M0 : gM) (J c : Nat) (M : gM) (J1 : Nat) (x : Nat → Nat) : Prop :=
  FRc k d M0 M ∧ (∀ t, t < 4 → inB A ls t d = true → M (k + 10) (4 * d + t) = nI (12 * t + x t) ∧ a t ≤ x t ∧ x t < b t ∧ ∀ j, a t ≤ j → j < x t → uq A ls qs t d j < uq A ls qs t d (x t)) ∧ (∀ t, t < 4 → A.2.1.testBit t = true → inB A ls t d = false → M (k + 10) (4 * d + t) = nI (12 * t + a t)) ∧ c + (wg A ls d b x 0 + wg A ls d b x 1 + wg A ls d b x 2 + wg A ls d b x 3) ≤ 48 ∧
  OK8 k M J1 ∧ J ≤ J1 ∧ (∀ j, j < J → M (k + 3) j = M0 (k + 3) j) ∧ (∀ j, J ≤ j → j < J1 → SQf A ls qs (fun e => rdg M k j (ls.getD e 0)) ∧ ∀ e, e < d → rdg M k j (ls.getD e 0) = f e) ∧ ∀ i j, J ≤ i → i < j → j < J1 → LX M k ls i j
theorem leap_c (hW : WF A) (hs : okS ls) (hQ : QS A ls qs) {d : Nat} (hd : d < ls.length) {f a b : Nat → Nat} {M0 : gM} (SX0 : SX M0 k A ls qs) (RG0 : RG M0 k A ls qs d f a b) {t0 J c : Nat} {M : gM} {J1 : Nat} {x : Nat → Nat} (h : LSo A ls qs k d f a b M0 J c M J1 x) {t v W p : Nat} (ht : t < 4) (hi : inB A ls t d = true) (hg : uq A ls qs t d (x t) < v) (v100 : v ≤ 100) (hv : ∀ F, SQf A ls qs F → (∀ e, e < d → F e = f e) → (∃ j, J ≤ j ∧ j < J1 ∧ ∀ e, e < ls.length → rdg M k j (ls.getD e 0) = F e) ∨ (v ≤ F d ∧ ∀ s, s < 4 → inB A ls s d = true → uq A ls qs s d (x s) ≤ F d)) (hD : ∀ j, J ≤ j → j < J1 → rdg M k j (ls.getD d 0) < v) (h6 : J1 ≤ J + W * (x t0 - a t0 + p)) (hp : p = 0 ∨ (p = 1 ∧ t = t0)) :
    ∃ r, (fX1_isLeapt k (nI (4 * d + t)) (nI v) M = some (0, r) ∧ FRc k d M0 r ∧ OK8 k r J1 ∧ (∀ j, j < J → r (k + 3) j = M0 (k + 3) j) ∧ NW A ls qs k d f r J J1) ∨ (fX1_isLeapt k (nI (4 * d + t)) (nI v) M = some (1, r) ∧ ∃ x', LSo A ls qs k d f a b M0 J (c + 1) r J1 x' ∧ J1 ≤ J + W * (x' t0 - a t0) ∧ (∃ s, s < 4 ∧ inB A ls s d = true ∧ ∀ j, J ≤ j → j < J1 → rdg r k j (ls.getD d 0) < uq A ls qs s d (x' s)) ∧ ∀ F, SQf A ls qs F → (∀ e, e < d → F e = f e) → (∃ j, J ≤ j ∧ j < J1 ∧ ∀ e, e < ls.length → rdg r k j (ls.getD e 0) = F e) ∨ ∀ s, s < 4 → inB A ls s d = true → uq A ls qs s d (x' s) ≤ F d) := by
  obtain ⟨l1, l2, l3, l4, l5, l6, l7, l8, l9⟩ := h
  have u := (inB_and.mp hi).1
  have S := l1.sx SX0
  have RG1 := l1.rg RG0
  obtain ⟨r1, r2, r3, r4, r5⟩ := RG1 t ht u
  obtain ⟨x1, x2, x3, x4⟩ := l2 t ht hi
  obtain ⟨y', r, e8, p1, p2, p3, p4, p5, p6, p7, p8⟩ := c_isLeapt hW hs hQ S hd hi (show v < 1000 by omega) x1 r2 (by omega) r4
  have h4 := hs.1
  have FR : FRc k d M0 r := l1.trans ⟨fun q q1 q2 q3 q4 q5 q6 q7 => p5 q q1 q7, fun j hj => p8 j (by omega), fun j _ => by rw [p5 _ (by omega) (by omega)], fun j _ => ⟨by rw [p5 _ (by omega) (by omega)], by rw [p5 _ (by omega) (by omega)]⟩, fun j hj => by rw [p6, if_neg (by omega)]⟩
  have k3 : r (k + 3) = M (k + 3) := p5 _ (by omega) (by omega)
  have OK : OK8 k r J1 := ⟨by rw [p8 0 (by omega)]; exact l5.1, l5.2.1, fun j hj => by rw [k3]; exact l5.2.2 j hj⟩
  have keep : ∀ j, j < J → r (k + 3) j = M0 (k + 3) j := fun j hj => by rw [k3]; exact l7 j hj
  have dg : ∀ j l, rdg r k j l = rdg M k j l := rdg_eq k3
  have rows : ∀ j, J ≤ j → j < J1 → SQf A ls qs (fun e => rdg r k j (ls.getD e 0)) ∧ ∀ e, e < d → rdg r k j (ls.getD e 0) = f e := fun j h1 h2 => by
    simp only [dg]
    exact l8 j h1 h2
  have srt : ∀ i j, J ≤ i → i < j → j < J1 → LX r k ls i j := fun i j h1 h2 h3 => (l9 i j h1 h2 h3).of (by rw [k3]) (by rw [k3])
  -- a number for the letter that is not found yet has a place behind the leap
  have wit : ∀ F, SQf A ls qs F → (∀ e, e < d → F e = f e) → v ≤ F d → y' < b t ∧ uq A ls qs t d y' ≤ F d := fun F hF hf hv => by
    obtain ⟨j, j1, j2⟩ := hF t ht u
    obtain ⟨ja, jb⟩ := (r5 j j1).mpr (fun e he hb => by rw [j2 e (by omega) hb]; exact hf e he)
    have jd := j2 d hd hi
    have jy : y' ≤ j := by
      rcases Nat.lt_or_ge j y' with z | z
      · exfalso
        rcases Nat.lt_or_ge j (x t) with w | w
        · have := x4 j ja w; omega
        · have := p3 j w z; omega
      · exact z
    have := RG1.mono hW hs hQ hd hi (show a t ≤ y' by omega) jy jb
    exact ⟨by omega, by omega⟩
  refine ⟨r, ?_⟩
  by_cases c1 : y' < b t
  · rw [if_pos c1] at e8
    have pv := p4 c1
    have xy : x t < y' := by
      rcases Nat.lt_or_ge (x t) y' with w | w
      · exact w
      · have e : y' = x t := by omega
        rw [e] at pv; omega
    refine Or.inr ⟨e8, fun s => if s = t then y' else x s, ⟨FR, fun s h1 h2 => ?_, fun s h1 h2 h3 => ?_, ?_, OK, l6, keep, rows, srt⟩, ?_, ⟨t, ht, hi, fun j h1 h2 => ?_⟩, fun F hF hf => ?_⟩
    · dsimp only
      by_cases q : s = t
      · subst q
        rw [if_pos rfl, p6, if_pos rfl]
        refine ⟨rfl, by omega, c1, fun j w1 w2 => ?_⟩
        rcases Nat.lt_or_ge j (x s) with w | w
        · have := x4 j w1 w; omega
        · have := p3 j w w2; omega
      · rw [if_neg q, p6, if_neg (by omega)]
        exact l2 s h1 h2
    · have q : s ≠ t := fun q => by rw [q, hi] at h3; exact absurd h3 (by decide)
      rw [p6, if_neg (by omega)]
      exact l3 s h1 h2 h3
    · have := wg_sum (A := A) (ls := ls) (d := d) (b := b) (x := x) ht hi (y := y')
      omega
    · dsimp only
      refine Nat.le_trans h6 (Nat.add_le_add_left (Nat.mul_le_mul_left _ ?_) _)
      by_cases q : t0 = t
      · rw [if_pos q, q]; omega
      · rw [if_neg q]
        rcases hp with hp | ⟨_, hp⟩
        · omega
        · exact absurd hp.symm q
    · dsimp only
      rw [if_pos rfl, dg]
      have := hD j h1 h2
      omega
    · rcases hv F hF hf with ⟨j, j1, j2, j3⟩ | ⟨hv1, hv2⟩
      · exact Or.inl ⟨j, j1, j2, fun e he => by rw [dg]; exact j3 e he⟩
      · refine Or.inr (fun s h1 h2 => ?_)
        dsimp only
        by_cases q : s = t
        · subst q
          rw [if_pos rfl]
          exact (wit F hF hf hv1).2
        · rw [if_neg q]; exact hv2 s h1 h2
  · rw [if_neg c1] at e8
    refine Or.inl ⟨e8, FR, OK, keep, rows, fun F hF hf => ?_, srt⟩
    rcases hv F hF hf with ⟨j, j1, j2, j3⟩ | ⟨hv1, _⟩
    · exact ⟨j, j1, j2, fun e he => by rw [dg]; exact j3 e he⟩
    · exact absurd (wit F hF hf hv1).1 c1
/-- numbers ahead of a depth, of which each table that has been met has a row -/
def NEo (A : aT) (ls : List Nat) (qs : Nat → List Nat) (d : Nat) (f : Nat → Nat) : Prop := ∀ t, t < 4 → A.2.1.testBit t = true → (∃ e, e < d ∧ inB A ls t e = true) → ∃ j, j < (qs t).length ∧ ∀ e, e < d → inB A ls t e = true → uq A ls qs t e j = f e
theorem so_go (hW : WF A) (hs : okS ls) (hQ : QS A ls qs) (hcov : ∀ t, t < 4 → A.2.1.testBit t = true → ∃ e, e < ls.length ∧ inB A ls t e = true) (hD : ∀ d, d < ls.length → ∃ t, t < 4 ∧ inB A ls t d = true) : ∀ (w d : Nat), d + w + 1 = ls.length → ∀ (fc : Nat), w < fc → ∀ (M : gM) (J : Nat) (f a b : Nat → Nat), SX M k A ls qs → RG M k A ls qs d f a b → PR M k ls d f → OK8 k M J → NEo A ls qs d f → J + 12 ^ (ls.length - d) ≤ 20736 →
    ∃ M' J', fX1_search fc k (nI d) M = some M' ∧ FRc k d M M' ∧ OK8 k M' J' ∧ J ≤ J' ∧ J' ≤ J + 12 ^ (ls.length - d) ∧ (∀ j, j < J → M' (k + 3) j = M (k + 3) j) ∧ NW A ls qs k d f M' J J' := by
  have h4 := hs.1
  have hn4 := hW.1
  intro w
  induction w using Nat.strongRecOn with
  | _ w ih =>
    intro d hdw fc hfc M J f a b S RG0 P0 O0 hNE hJ
    have hd : d < ls.length := by omega
    obtain ⟨fc, rfl⟩ : ∃ z, fc = z + 1 := ⟨fc - 1, by omega⟩
    have l4 := hs.2.1 d hd
    obtain ⟨v8, r8, e8, g1, g2, g3⟩ := c_isOpened hW hs hQ S hd RG0
    have FR8 : FRc k d M r8 := ⟨fun q _ _ _ _ _ _ h => g1 q h, fun j _ => by rw [g1 k (by omega)], fun j _ => by rw [g1 _ (by omega)], fun j _ => ⟨by rw [g1 _ (by omega)], by rw [g1 _ (by omega)]⟩, fun j hj => g2 j (Or.inl hj)⟩
    have k38 : r8 (k + 3) = M (k + 3) := g1 _ (by omega)
    have O8 : OK8 k r8 J := ⟨by rw [g1 k (by omega)]; exact O0.1, O0.2.1, fun j hj => by rw [k38]; exact O0.2.2 j hj⟩
    have eSc : fX1_search (fc + 1) k (nI d) M = if v8 = 0 then some r8 else ((lX1_search_19 (fun d I => fX1_search fc k d I) k (nI d) (nI 0, r8)).bind fun w7 => Sum.elim (fun w7_0 => some w7_0) (fun w7_1 => some w7_1) w7) := by
      show fX1_searchB (fun d I => fX1_search fc k d I) k (nI d) M = _
      unfold fX1_searchB
      rw [S.1, if_neg (mt (nI_leI (by omega) (by omega)).mp (by omega)), e8, obs]; rfl
    rw [eSc]
    rcases g3 with ⟨rfl, g4, g5⟩ | ⟨rfl, t, z1, z2, z3⟩
    · rw [if_neg n10]
      -- the first table that has the letter
      have ⟨t0, t04, i0, first0⟩ : ∃ t0, t0 < 4 ∧ inB A ls t0 d = true ∧ ∀ t', t' < t0 → ¬ inB A ls t' d = true := by
        obtain ⟨t, t1, t2⟩ := hD d hd
        rcases Classical.em (inB A ls 0 d = true) with q0 | q0
        · exact ⟨0, by omega, q0, fun t' h => absurd h (Nat.not_lt_zero _)⟩
        rcases Classical.em (inB A ls 1 d = true) with q1 | q1
        · exact ⟨1, by omega, q1, fun t' h => by rw [show t' = 0 by omega]; exact q0⟩
        rcases Classical.em (inB A ls 2 d = true) with q2 | q2
        · exact ⟨2, by omega, q2, fun t' h => by
            rcases (by omega : t' = 0 ∨ t' = 1) with rfl | rfl
            · exact q0
            · exact q1⟩
        · refine ⟨3, by omega, ?_, fun t' h => ?_⟩
          · rcases (by omega : t = 0 ∨ t = 1 ∨ t = 2 ∨ t = 3) with rfl | rfl | rfl | rfl
            · exact absurd t2 q0
            · exact absurd t2 q1
            · exact absurd t2 q2
            · exact t2
          · rcases (by omega : t' = 0 ∨ t' = 1 ∨ t' = 2) with rfl | rfl | rfl
            · exact q0
            · exact q1
            · exact q2
      have b12 : ∀ t, t < 4 → inB A ls t d = true → b t ≤ 12 := fun t ht hi => by
        have := (RG0 t ht (inB_and.mp hi).1).2.2.2.1
        have := (hQ t ht (inB_and.mp hi).1).1
        omega
      have L0' : LSo A ls qs k d f a b M J 0 r8 J a := by
        refine ⟨FR8, fun t ht hi => ?_, fun t ht hu hi => ?_, ?_, O8, Nat.le_refl _, fun j _ => by rw [k38], fun j h1 h2 => by omega, fun i j h1 h2 h3 => by omega⟩
        · rw [g4 t ht, (RG0 t ht (inB_and.mp hi).1).1]
          exact ⟨rfl, Nat.le_refl _, g5 t ht hi, fun j h1 h2 => by omega⟩
        · rw [g4 t ht, (RG0 t ht hu).1]
        · have wl : ∀ t, t < 4 → wg A ls d b a t ≤ 12 := fun t ht => by
            unfold wg
            by_cases c : inB A ls t d = true
            · rw [if_pos c]
              have := b12 t ht c
              omega
            · rw [if_neg c]; omega
          have := wl 0 (by omega)
          have := wl 1 (by omega)
          have := wl 2 (by omega)
          have := wl 3 (by omega)
          omega
      -- solutions stand behind the keys
      have C0 : ∀ F, SQf A ls qs F → (∀ e, e < d → F e = f e) → (∃ j, J ≤ j ∧ j < J ∧ ∀ e, e < ls.length → rdg r8 k j (ls.getD e 0) = F e) ∨ ∀ s, s < 4 → inB A ls s d = true → uq A ls qs s d (a s) ≤ F d := fun F hF hf => Or.inr (fun s h1 h2 => by
        obtain ⟨j, j1, j2⟩ := hF s h1 (inB_and.mp h2).1
        obtain ⟨ja, jb⟩ := ((RG0 s h1 (inB_and.mp h2).1).2.2.2.2 j j1).mpr (fun e he hb => by rw [j2 e (by omega) hb]; exact hf e he)
        rw [← j2 d hd h2]
        exact RG0.mono hW hs hQ hd h2 (Nat.le_refl _) ja jb)
      obtain ⟨W, hWd⟩ : ∃ W, W = 12 ^ (ls.length - (d + 1)) := ⟨_, rfl⟩
      have W12 : 12 ^ (ls.length - d) = W * 12 := by rw [hWd, show ls.length - d = ls.length - (d + 1) + 1 by omega, Nat.pow_succ]
      have W1 : 1 ≤ W := by rw [hWd]; exact Nat.pow_pos (by decide)
      rw [W12] at hJ ⊢
      have loop : ∀ (m c : Nat) (M1 : gM) (J1 : Nat) (x : Nat → Nat), 48 - c = m → LSo A ls qs k d f a b M J c M1 J1 x → J1 ≤ J + W * (x t0 - a t0) → (∃ s, s < 4 ∧ inB A ls s d = true ∧ ∀ j, J ≤ j → j < J1 → rdg M1 k j (ls.getD d 0) < uq A ls qs s d (x s)) → (∀ F, SQf A ls qs F → (∀ e, e < d → F e = f e) → (∃ j, J ≤ j ∧ j < J1 ∧ ∀ e, e < ls.length → rdg M1 k j (ls.getD e 0) = F e) ∨ ∀ s, s < 4 → inB A ls s d = true → uq A ls qs s d (x s) ≤ F d) → ∃ M' J', (∃ w, lX1_search_19 (fun d I => fX1_search fc k d I) k (nI d) (nI c, M1) = some w ∧ (w = .inl M' ∨ w = .inr M')) ∧ FRc k d M M' ∧ OK8 k M' J' ∧ J ≤ J' ∧ J' ≤ J + W * 12 ∧ (∀ j, j < J → M' (k + 3) j = M (k + 3) j) ∧ NW A ls qs k d f M' J J' := by
        intro m
        induction m using Nat.strongRecOn with
        | _ m ihm =>
          intro c M1 J1 x hm hL h6 h7 h10
          obtain ⟨q1, q2, q3, q4, q5, q6, q7, q8, q9⟩ := id hL
          have S1 := q1.sx S
          have RG1 := q1.rg RG0
          have P1 := q1.pr P0
          have hx : AT M1 k A ls qs d x := fun t ht hi => ⟨(q2 t ht hi).1, by have := (q2 t ht hi).2.2.1; have := (RG0 t ht (inB_and.mp hi).1).2.2.2.1; omega⟩
          have hc : c < 48 := by
            have h0 : 1 ≤ wg A ls d b x t0 := by
              unfold wg
              rw [if_pos i0]
              have := (q2 t0 t04 i0).2.2.1
              omega
            rcases (by omega : t0 = 0 ∨ t0 = 1 ∨ t0 = 2 ∨ t0 = 3) with z | z | z | z <;> rw [z] at h0 <;> omega
          have hlt : 48 - (c + 1) < m := by rw [← hm]; exact Nat.sub_succ_lt_self 48 c hc
          have un : ∀ t, t < 4 → inB A ls t d = true → uq A ls qs t d (x t) ≤ 99 := fun t ht hi => uq_99 hW hQ hd hi (hx t ht hi).2
          have x0 : x t0 - a t0 < 12 := by
            have := (q2 t0 t04 i0).2.2.1
            have := b12 t0 t04 i0
            omega
          have h6' : J1 + W ≤ J + W * 12 := by
            have : W * (x t0 - a t0 + 1) ≤ W * 12 := Nat.mul_le_mul_left _ (by omega)
            rw [Nat.mul_succ] at this
            omega
          obtain ⟨g, eg, hg⟩ := c_greatestKey hW hs hQ S1 hd hx
          obtain ⟨g', rfl, gle, tg, tg4, tgi, tge⟩ : ∃ g', g = nI g' ∧ (∀ t, t < 4 → inB A ls t d = true → uq A ls qs t d (x t) ≤ g') ∧ ∃ t, t < 4 ∧ inB A ls t d = true ∧ uq A ls qs t d (x t) = g' := by
            rcases hg with ⟨_, z⟩ | z
            · rw [z t0 t04] at i0; exact absurd i0 (by decide)
            · exact z
          have g99 : g' ≤ 99 := by rw [← tge]; exact un tg tg4 tgi
          obtain ⟨mr, el, hml⟩ := c_lowestBelow hW hs hQ S1 hd hx (v := g') (by omega)
          -- behind the leap of a table
          have go : ∀ {Y : Option (gM ⊕ gM)} {bt : Int32} {r : gM} {J2 : Nat}, J2 ≤ J + W * 12 → J ≤ J2 → Y = (if bt = 0 then some (.inl r) else lX1_search_19 (fun d I => fX1_search fc k d I) k (nI d) (nI (c + 1), r)) → ((bt = 0 ∧ FRc k d M r ∧ OK8 k r J2 ∧ (∀ j, j < J → r (k + 3) j = M (k + 3) j) ∧ NW A ls qs k d f r J J2) ∨ (bt = 1 ∧ ∃ x', LSo A ls qs k d f a b M J (c + 1) r J2 x' ∧ J2 ≤ J + W * (x' t0 - a t0) ∧ (∃ s, s < 4 ∧ inB A ls s d = true ∧ ∀ j, J ≤ j → j < J2 → rdg r k j (ls.getD d 0) < uq A ls qs s d (x' s)) ∧ ∀ F, SQf A ls qs F → (∀ e, e < d → F e = f e) → (∃ j, J ≤ j ∧ j < J2 ∧ ∀ e, e < ls.length → rdg r k j (ls.getD e 0) = F e) ∨ ∀ s, s < 4 → inB A ls s d = true → uq A ls qs s d (x' s) ≤ F d)) → ∃ M' J', (∃ w, Y = some w ∧ (w = .inl M' ∨ w = .inr M')) ∧ FRc k d M M' ∧ OK8 k M' J' ∧ J ≤ J' ∧ J' ≤ J + W * 12 ∧ (∀ j, j < J → M' (k + 3) j = M (k + 3) j) ∧ NW A ls qs k d f M' J J' := by
            intro Y bt r J2 hJ2 hJJ hY h
            rcases h with ⟨rfl, h1, h2, h3, h5⟩ | ⟨rfl, x', h1, h2, h3, h5⟩
            · rw [if_pos rfl] at hY
              exact ⟨r, J2, ⟨_, hY, Or.inl rfl⟩, h1, h2, hJJ, hJ2, h3, h5⟩
            · rw [if_neg n10] at hY
              rw [hY]
              exact ihm (48 - (c + 1)) hlt (c + 1) r J2 x' rfl h1 h2 h3 h5
          by_cases c2 : mr = -1
          · subst c2
            have all : ∀ t, t < 4 → inB A ls t d = true → uq A ls qs t d (x t) = g' := fun t ht hi => by
              rcases hml with ⟨t', y1, y2, _⟩ | ⟨_, y2⟩
              · exact absurd y2.symm (nI_m1 (by omega))
              · have := y2 t ht hi
                have := gle t ht hi
                omega
            -- rows found so far are less
            have less : ∀ j, J ≤ j → j < J1 → rdg M1 k j (ls.getD d 0) < g' := fun j h1 h2 => by
              obtain ⟨s, s1, s2, s3⟩ := h7
              rw [← all s s1 s2]; exact s3 j h1 h2
            obtain ⟨P, P28, Pe, Pf, Pz⟩ := P1
            have lz : d4 (ls.getD d 0) P = 0 := Pz _ l4 (fun e he => hs.2.2 e d (by omega) hd (by omega))
            obtain ⟨P', o1, o2, o3, o4⟩ := or4 P28 l4 (show g' < 128 by omega) lz
            generalize hM5 : g_up (g_up M1 (k + 1) d (M1 (k + 1) d + 1)) (k + 4) (d + 1) (nI P') = N5
            have y5 : ∀ q, q ≠ k + 1 → q ≠ k + 4 → N5 q = M1 q := fun q y1 y2 => by rw [← hM5, g_up_row y2, g_up_row y1]
            have y4 : ∀ j, N5 (k + 4) j = if j = d + 1 then nI P' else M1 (k + 4) j := fun j => by rw [← hM5, gu_in, g_up_row (by omega)]
            have FN : FRc k d M1 N5 := ⟨fun q _ h1 _ h2 _ _ _ => y5 q h1 h2, fun j _ => by rw [y5 k (by omega) (by omega)], fun j hj => by rw [y4, if_neg (by omega)], fun j _ => ⟨by rw [y5 _ (by omega) (by omega)], by rw [y5 _ (by omega) (by omega)]⟩, fun j _ => by rw [y5 _ (by omega) (by omega)]⟩
            have S5 := FN.sx S1
            have RG5 := FN.rg RG1
            have PR5 : PR N5 k ls (d + 1) (fun e => if e = d then g' else f e) := by
              refine ⟨P', o2, by rw [y4, if_pos rfl], fun e he => ?_, fun l hl hne => ?_⟩
              · dsimp only
                rcases (by omega : e < d ∨ e = d) with z | z
                · rw [if_neg (by omega), o4 _ (hs.2.1 e (by omega)) (hs.2.2 e d (by omega) hd (by omega))]; exact Pf e z
                · rw [if_pos z, z]; exact o3
              · rw [o4 l hl (fun z => hne d (by omega) z.symm)]
                exact Pz l hl (fun e he => hne e (by omega))
            have k35 : N5 (k + 3) = M1 (k + 3) := y5 _ (by omega) (by omega)
            have O5 : OK8 k N5 J1 := ⟨by rw [y5 k (by omega) (by omega)]; exact q5.1, q5.2.1, fun j hj => by rw [k35]; exact q5.2.2 j hj⟩
            have NE5 : NEo A ls qs (d + 1) (fun e => if e = d then g' else f e) := fun t ht hu hex => by
              by_cases hi : inB A ls t d = true
              · obtain ⟨_, w2, w3, _⟩ := q2 t ht hi
                have wl := (hx t ht hi).2
                have := ((RG0 t ht hu).2.2.2.2 (x t) wl).mp ⟨w2, w3⟩
                refine ⟨x t, wl, fun e he hb => ?_⟩
                dsimp only
                rcases (by omega : e < d ∨ e = d) with z | z
                · rw [if_neg (by omega)]; exact this e z hb
                · rw [if_pos z, z]; exact all t ht hi
              · obtain ⟨e0, he0, hb0⟩ := hex
                have : e0 ≠ d := fun z => hi (by rw [← z]; exact hb0)
                obtain ⟨j, j1, j2⟩ := hNE t ht hu ⟨e0, by omega, hb0⟩
                refine ⟨j, j1, fun e he hb => ?_⟩
                dsimp only
                rcases (by omega : e < d ∨ e = d) with z | z
                · rw [if_neg (by omega)]; exact j2 e z hb
                · rw [z] at hb; exact absurd hb hi
            -- the next depth
            have deep : ∃ r4 J', fX1_deepen (fun d I => fX1_search fc k d I) k (nI d) (nI g') M1 = some r4 ∧ FRc k d M1 r4 ∧ OK8 k r4 J' ∧ J1 ≤ J' ∧ J' ≤ J1 + W ∧ (∀ j, j < J1 → r4 (k + 3) j = M1 (k + 3) j) ∧ NW A ls qs k (d + 1) (fun e => if e = d then g' else f e) r4 J1 J' ∧ ∀ j, j < 4 * (d + 1) → r4 (k + 10) j = M1 (k + 10) j := by
              have eD : fX1_deepen (fun d I => fX1_search fc k d I) k (nI d) (nI g') M1 = if N5 k 2 ≤ nI (d + 1) then (if (20736 : Int32) ≤ N5 k 0 then some N5 else (rI 5 (N5 (k + 4)) (nI (d + 1))).bind fun u6 => (wI N5 (k + 3) 20736 (N5 k 0) u6).bind fun I7 => (pU I7 k 0 ((I7 k 0) + 1)).bind fun I8 => some I8) else (fX1_narrow k (nI d) (nI g') N5).bind fun r9 => (fX1_search fc k (nI (d + 1)) r9).bind fun r10 => some r10 := by
                unfold fX1_deepen
                rw [rI_n (by omega) (by omega), obs, wI_n (by omega) (by omega), obs, g_up_row (show k + 4 ≠ k + 1 by omega), rI_n (by omega) (by omega), obs, Pe, g_up_row (show k + 2 ≠ k + 1 by omega), rI_n (by omega) (by omega), obs, S1.2.1 d hd, o1, nI_1, wI_n (by omega) (by omega), obs, hM5]
              rw [eD, S5.1]
              by_cases hl : d + 1 = ls.length
              · -- a row
                have J1lt : J1 < 20736 := by omega
                rw [if_pos ((nI_leI (by omega) (by omega)).mpr (by omega)), O5.1, L20736, if_neg (mt (nI_leI (by omega) (by omega)).mp (by omega)), rI_n (by omega) (by omega), obs, y4, if_pos rfl, wI_n (by omega) (by omega), obs, pU_n, obs]
                have ek0 : g_up N5 (k + 3) J1 (nI P') k 0 = nI J1 := by rw [g_up_row (by omega)]; exact O5.1
                rw [ek0, nI_1]
                have r3 : ∀ j, (g_up (g_up N5 (k + 3) J1 (nI P')) k 0 (nI (J1 + 1))) (k + 3) j = if j = J1 then nI P' else M1 (k + 3) j := fun j => by
                  rw [g_up_row (by omega), gu_in, k35]
                generalize hr4 : g_up (g_up N5 (k + 3) J1 (nI P')) k 0 (nI (J1 + 1)) = r4 at *
                have rJ : kn (r4 (k + 3) J1) = P' := by
                  unfold kn
                  rw [r3, if_pos rfl, nIt (by omega)]
                have dJ : ∀ e, e < ls.length → rdg r4 k J1 (ls.getD e 0) = if e = d then g' else f e := fun e he => by
                  unfold rdg
                  rw [rJ]
                  obtain ⟨PP, _, pe, pf, _⟩ := PR5
                  have ePP : PP = P' := by
                    rw [y4, if_pos rfl] at pe
                    exact (nI_inj pe (by omega) (by omega)).symm
                  rw [← ePP]; exact pf e (by omega)
                refine ⟨r4, J1 + 1, rfl, FN.trans (by
                  rw [← hr4]
                  exact ⟨fun q h1 _ h3 _ _ _ _ => by rw [g_up_row h1, g_up_row h3], fun j hj => by rw [g_up_ne (Or.inr (by omega)), g_up_row (by omega)], fun j _ => by rw [g_up_row (by omega), g_up_row (by omega)], fun j _ => ⟨by rw [g_up_row (by omega), g_up_row (by omega)], by rw [g_up_row (by omega), g_up_row (by omega)]⟩, fun j _ => by rw [g_up_row (by omega), g_up_row (by omega)]⟩), ⟨by rw [← hr4, g_up_self], by omega, fun j hj => ?_⟩, by omega, by omega, fun j hj => by rw [r3, if_neg (by omega)], ⟨fun j h1 h2 => ?_, fun F hF hf => ⟨J1, Nat.le_refl _, by omega, fun e he => ?_⟩, fun i j h1 h2 h3 => by omega⟩, fun j _ => by rw [← hr4, g_up_row (by omega), g_up_row (by omega), y5 _ (by omega) (by omega)]⟩
                · rcases (by omega : j < J1 ∨ j = J1) with z | z
                  · rw [r3, if_neg (by omega)]; exact q5.2.2 j z
                  · rw [z, rJ, r3, if_pos rfl]; exact ⟨rfl, o2⟩
                · have : j = J1 := by omega
                  subst this
                  refine ⟨fun t ht hu => ?_, fun e he => dJ e (by omega)⟩
                  obtain ⟨j', j1, j2⟩ := NE5 t ht hu (by
                    obtain ⟨e, e1, e2⟩ := hcov t ht hu
                    exact ⟨e, by omega, e2⟩)
                  exact ⟨j', j1, fun e he hb => by dsimp only; rw [dJ e he]; exact j2 e (by omega) hb⟩
                · rw [dJ e he]; exact (hf e (by omega)).symm
              · -- deeper
                rw [if_neg (mt (nI_leI (by omega) (by omega)).mp (by omega))]
                have k10 : ∀ j, N5 (k + 10) j = M1 (k + 10) j := fun j => by rw [y5 _ (by omega) (by omega)]
                obtain ⟨rn, a', b', en, RGn, fn, fn2⟩ := c_narrow hW hs hQ S5 (d := d) (x := x) (by omega) RG5 (v := g') (by omega) (fun t ht hi => by
                  obtain ⟨w1, w2, w3, w4⟩ := q2 t ht hi
                  refine ⟨by rw [k10]; exact w1, w2, w3, all t ht hi, fun j h1 h2 => ?_⟩
                  have := w4 j h1 h2
                  rw [all t ht hi] at this
                  exact this) (fun t ht hu hi => by rw [k10]; exact q3 t ht hu hi)
                have Sn := S5.cong (r := rn) (by rw [fn k (by omega) (by omega)]) (fn _ (by omega) (by omega)) (fn _ (by omega) (by omega)) (fn _ (by omega) (by omega))
                have k3n : rn (k + 3) = M1 (k + 3) := (fn _ (by omega) (by omega)).trans k35
                have On : OK8 k rn J1 := ⟨by rw [fn k (by omega) (by omega)]; exact O5.1, O5.2.1, fun j hj => by rw [k3n]; exact q5.2.2 j hj⟩
                have PRn : PR rn k ls (d + 1) (fun e => if e = d then g' else f e) := by
                  obtain ⟨Q, Q1, Q2, Q3⟩ := PR5
                  exact ⟨Q, Q1, by rw [fn _ (by omega) (by omega)]; exact Q2, Q3⟩
                obtain ⟨M', J2, b1, b2, b3, b4, b5, b6, b7⟩ := ih (w - 1) (by omega) (d + 1) (by omega) fc (by omega) rn J1 _ a' b' Sn RGn PRn On NE5 (by rw [← hWd]; omega)
                rw [en, obs, b1, obs]
                obtain ⟨c1, c2, c3, c4, c5⟩ := b2
                refine ⟨M', J2, rfl, FN.trans ⟨fun q h1 h2 h3 h5 h8 h9 h10 => by rw [c1 q h1 h2 h3 h5 h8 h9 h10, fn q h8 h9], fun j hj => by rw [c2 j hj, fn k (by omega) (by omega)], fun j hj => by rw [c3 j (by omega), fn _ (by omega) (by omega)], fun j hj => ⟨by rw [(c4 j (by omega)).1, (fn2 j hj).1], by rw [(c4 j (by omega)).2, (fn2 j hj).2]⟩, fun j hj => by rw [c5 j (by omega), fn _ (by omega) (by omega)]⟩, b3, b4, by rw [hWd]; exact b5, fun j hj => by rw [b6 j hj, k3n], b7, fun j hj => by rw [c5 j hj, fn _ (by omega) (by omega), k10]⟩
            obtain ⟨r4, J', d1, d2, d3, d4a, d5, d6, d7, d8⟩ := deep
            have S4 := d2.sx S1
            have dg4 : ∀ j, j < J1 → ∀ l, rdg r4 k j l = rdg M1 k j l := fun j hj l => rdg_at (d6 j hj) l
            have new : ∀ j, J1 ≤ j → j < J' → SQf A ls qs (fun e => rdg r4 k j (ls.getD e 0)) ∧ (∀ e, e < d → rdg r4 k j (ls.getD e 0) = f e) ∧ rdg r4 k j (ls.getD d 0) = g' := fun j h1 h2 => by
              obtain ⟨n1, n2⟩ := d7.1 j h1 h2
              refine ⟨n1, fun e he => ?_, ?_⟩
              · have := n2 e (by omega)
                dsimp only at this
                rwa [if_neg (by omega)] at this
              · have := n2 d (by omega)
                dsimp only at this
                rwa [if_pos rfl] at this
            have L11 : LSo A ls qs k d f a b M J c r4 J' x := by
              refine ⟨q1.trans d2, fun t ht hi => ?_, fun t ht hu hi => ?_, q4, d3, by omega, fun j hj => by rw [d6 j (by omega)]; exact q7 j hj, fun j h1 h2 => ?_, fun i j h1 h2 h3 => ?_⟩
              · rw [d8 _ (by omega)]; exact q2 t ht hi
              · rw [d8 _ (by omega)]; exact q3 t ht hu hi
              · rcases Nat.lt_or_ge j J1 with z | z
                · simp only [dg4 j z]
                  exact q8 j h1 z
                · exact ⟨(new j z h2).1, (new j z h2).2.1⟩
              · rcases Nat.lt_or_ge j J1 with z | z
                · exact (q9 i j h1 h2 z).of (d6 i (by omega)) (d6 j z)
                · rcases Nat.lt_or_ge i J1 with y | y
                  · refine ⟨d, hd, ?_, fun e he => ?_⟩
                    · rw [dg4 i y, (new j z h3).2.2]; exact less i h1 y
                    · rw [dg4 i y, (new j z h3).2.1 e he]; exact (q8 i h1 y).2 e he
                  · exact d7.2.2 i j y h2 h3
            have hx4 : AT r4 k A ls qs d x := fun t ht hi => ⟨by rw [d8 _ (by omega)]; exact (hx t ht hi).1, (hx t ht hi).2⟩
            obtain ⟨m5, e5, h5⟩ := c_lowestBelow hW hs hQ S4 hd hx4 (v := 100) (by omega)
            have em5 : m5 = nI t0 := by
              rcases h5 with ⟨t, y1', y2', y3', y4', y5'⟩ | ⟨_, y2'⟩
              · rw [y2']
                rcases Nat.lt_trichotomy t t0 with z | z | z
                · exact absurd y3' (fun q => first0 t z q)
                · rw [z]
                · exfalso
                  have := y5' t0 z i0
                  have := un t0 t04 i0
                  omega
              · exfalso
                have := y2' t0 t04 i0
                have := un t0 t04 i0
                omega
            subst em5
            obtain ⟨r, hlp⟩ := leap_c hW hs hQ hd S RG0 L11 (t0 := t0) (t := t0) (v := g' + 1) (W := W) (p := 1) t04 i0 (by rw [all t0 t04 i0]; omega) (by omega) (fun F hF hf => by
              by_cases z : F d = g'
              · obtain ⟨j, j1, j2, j3⟩ := d7.2.1 F hF (fun e he => by
                  dsimp only
                  rcases (by omega : e < d ∨ e = d) with y | y
                  · rw [if_neg (by omega)]; exact hf e y
                  · rw [if_pos y, y]; exact z)
                exact Or.inl ⟨j, by omega, j2, j3⟩
              · rcases h10 F hF hf with ⟨j, j1, j2, j3⟩ | h10
                · exact Or.inl ⟨j, j1, by omega, fun e he => by rw [dg4 j j2]; exact j3 e he⟩
                · have := h10 tg tg4 tgi
                  exact Or.inr ⟨by omega, h10⟩) (fun j h1 h2 => by
                rcases Nat.lt_or_ge j J1 with z | z
                · rw [dg4 j z]; have := less j h1 z; omega
                · rw [(new j z h2).2.2]; omega) (by rw [Nat.mul_succ]; omega) (Or.inr ⟨rfl, rfl⟩)
            have e4t : (nI d * 4) + nI t0 = nI (4 * d + t0) := by rw [L4, nI_mul, nI_add]; congr 1; omega
            have eg1 : nI g' + 1 = nI (g' + 1) := nI_1 _
            rcases hlp with ⟨w1, w2⟩ | ⟨w1, w2⟩
            · exact go (by omega) (by omega) (cs_found hc eg el d1 e5 (nI_m1 (by omega)) (by rw [e4t, eg1]; exact w1)) (Or.inl ⟨rfl, w2⟩)
            · exact go (by omega) (by omega) (cs_found hc eg el d1 e5 (nI_m1 (by omega)) (by rw [e4t, eg1]; exact w1)) (Or.inr ⟨rfl, w2⟩)
          · -- one is behind
            obtain ⟨t, y1, y2, y3, y4, y5⟩ := hml.resolve_right (fun z => c2 z.1)
            subst y2
            have e4t : (nI d * 4) + nI t = nI (4 * d + t) := by rw [L4, nI_mul, nI_add]; congr 1; omega
            obtain ⟨r, hlp⟩ := leap_c hW hs hQ hd S RG0 hL (t0 := t0) (t := t) (v := g') (W := W) (p := 0) y1 y3 y4 (by omega) (fun F hF hf => by
              rcases h10 F hF hf with h10 | h10
              · exact Or.inl h10
              · have := h10 tg tg4 tgi
                exact Or.inr ⟨by omega, h10⟩) (fun j h1 h2 => by
              obtain ⟨s, s1, s2, s3⟩ := h7
              have := s3 j h1 h2
              have := gle s s1 s2
              omega) (by rw [Nat.add_zero]; exact h6) (Or.inl rfl)
            rcases hlp with ⟨w1, w2⟩ | ⟨w1, w2⟩
            · exact go (by omega) q6 (cs_step hc eg el (nI_m1 (by omega)) (by rw [e4t]; exact w1)) (Or.inl ⟨rfl, w2⟩)
            · exact go (by omega) q6 (cs_step hc eg el (nI_m1 (by omega)) (by rw [e4t]; exact w1)) (Or.inr ⟨rfl, w2⟩)
      obtain ⟨M', J', ⟨w7, ew, hw⟩, h1⟩ := loop 48 0 r8 J a rfl L0' (by omega) ⟨t0, t04, i0, fun j h1 h2 => by omega⟩ C0
      refine ⟨M', J', ?_, h1⟩
      rw [ew, obs]
      rcases hw with rfl | rfl
      · rfl
      · rfl
    · rw [if_pos rfl]
      refine ⟨r8, J, rfl, FR8, O8, Nat.le_refl _, Nat.le_add_right _ _, fun j _ => by rw [k38], fun j h1 h2 => by omega, fun F hF hf => ?_, fun i j h1 h2 h3 => by omega⟩
      exfalso
      obtain ⟨j, j1, j2⟩ := hF t z1 (inB_and.mp z2).1
      obtain ⟨ja, jb⟩ := ((RG0 t z1 (inB_and.mp z2).1).2.2.2.2 j j1).mpr (fun e he hb => by rw [j2 e (by omega) hb]; exact hf e he)
      omega
end SO
end P_35r_44a_sorted
section P_35r_44b_all
/-! a join of the class holds all that fits its tables, in order -/
/-- numbers for the letters: each table used has a row of them -/
def SolA (A : aT) (g : Nat → Nat) : Prop := ∀ t, t < 4 → A.2.1.testBit t = true → ∃ i, i < (aK A t).length ∧ ∀ c, c < (aL A t).length → g ((aL A t).getD c 0) = dgt c ((aK A t).getD i 0)
def RWS (A : aT) (ls : List Nat) (M : gM) (k J : Nat) : Prop := OK8 k M J ∧ (∀ j, j < J → SolA A (fun l => rdg M k j l)) ∧ (∀ g, SolA A g → ∃ j, j < J ∧ ∀ e, e < ls.length → rdg M k j (ls.getD e 0) = g (ls.getD e 0)) ∧ ∀ i j, i < j → j < J → LX M k ls i j
def lets (A : aT) (ls : List Nat) : Prop := ∀ l, l < 4 → ((asA A).testBit l = true ↔ ∃ e, e < ls.length ∧ ls.getD e 0 = l)
theorem ix_col {A : aT} {t c : Nat} (w : wfT A t) (hc : c < (aL A t).length) : ix ((aL A t).getD c 0) (aL A t) = c := by
  have le : ix ((aL A t).getD c 0) (aL A t) ≤ c := by
    rcases Nat.lt_or_ge c (ix ((aL A t).getD c 0) (aL A t)) with z | z
    · exact absurd rfl (ix_ne z hc)
    · exact z
  rcases Nat.lt_or_ge (ix ((aL A t).getD c 0) (aL A t)) c with z | z
  · exact absurd (ix_get (show ix ((aL A t).getD c 0) (aL A t) < (aL A t).length by omega)) (w.2.2.1 _ _ z hc)
  · omega
theorem inB_col {A : aT} {ls : List Nat} {t c e : Nat} (w : wfT A t) (hu : A.2.1.testBit t = true) (hc : c < (aL A t).length) (he : ls.getD e 0 = (aL A t).getD c 0) : inB A ls t e = true ∧ cI A ls t e = c := by
  have : cI A ls t e = c := by
    unfold cI
    rw [he]; exact ix_col w hc
  exact ⟨inB_and.mpr ⟨hu, by rw [this]; exact hc⟩, this⟩
theorem sq_sol {A : aT} {ls : List Nat} {qs : Nat → List Nat} (hW : WF A) (hQ : QS A ls qs) (hl : lets A ls) {g : Nat → Nat} : SQf A ls qs (fun e => g (ls.getD e 0)) ↔ SolA A g := by
  have hn4 := hW.1
  constructor
  · intro h t ht hu
    obtain ⟨j, j1, j2⟩ := h t ht hu
    obtain ⟨i, i1, i2⟩ := (hQ t ht hu).2.2.2.1 j j1
    have w := hW.2.2.2.2 t (used_t hW hu)
    refine ⟨i, i1, fun c hc => ?_⟩
    obtain ⟨e, e1, e2⟩ := (hl _ (w.2.1 c hc)).mp (asA_of (used_t hW hu) hu hc)
    obtain ⟨b1, b2⟩ := inB_col w hu hc e2
    have a1 := j2 e e1 b1
    have a2 := i2 e e1 b1
    unfold uq at a1
    rw [a2] at a1
    unfold vA at a1
    rw [b2] at a1
    dsimp only at a1
    rw [← e2]; exact a1.symm
  · intro h t ht hu
    obtain ⟨i, i1, i2⟩ := h t ht hu
    obtain ⟨j, j1, j2⟩ := (hQ t ht hu).2.2.2.2 i i1
    refine ⟨j, j1, fun e he hb => ?_⟩
    unfold uq
    rw [j2 e he hb]
    unfold vA
    have b := (inB_and.mp hb).2
    have := i2 _ b
    unfold cI at b this ⊢
    rw [ix_get b] at this
    exact this.symm
theorem so_find {M r9 : gM} {k k1 : Nat} {A : aT} {ls : List Nat} (hk : k1 + 4 < k) (hW : WF A) (h0 : 0 < A.1.length) (hs : okS ls) (hl : lets A ls) (hC : CT M k1 A) (hS : Sc M k ls) (hz : M (k + 4) 0 = 0) : ∃ r10 M' J, fX1_open k k1 M = some r10 ∧ fX1_search 6 k (nI 0) r10 = some M' ∧ RWS A ls M' k J := by
  have hn4 := hW.1
  have h4 := hs.1
  obtain ⟨qs, r10, e10, SX0, QS0, RG0, z0, z1, zm, f10, f10'⟩ := c_open hk hW hs hC hS
  have hp : r10 (k + 4) 0 = 0 := by rw [f10 (k + 4) (by omega) (by omega) (by omega) (by omega) (by omega) (by omega) (by omega)]; exact hz
  have P0 : PR r10 k ls 0 (fun _ => 0) := ⟨0, by decide, hp, fun e he => absurd he (Nat.not_lt_zero e), fun l hl _ => by unfold d4; rw [Nat.zero_div]⟩
  have hcov : ∀ t, t < 4 → A.2.1.testBit t = true → ∃ e, e < ls.length ∧ inB A ls t e = true := fun t ht hu => by
    have w := hW.2.2.2.2 t (used_t hW hu)
    have w1 := w.1
    obtain ⟨e, e1, e2⟩ := (hl _ (w.2.1 0 (by omega))).mp (asA_of (used_t hW hu) hu (show 0 < _ by omega))
    exact ⟨e, e1, (inB_col w hu (by omega) e2).1⟩
  have hD : ∀ d, d < ls.length → ∃ t, t < 4 ∧ inB A ls t d = true := fun d hd => by
    have b := (hl _ (hs.2.1 d hd)).mpr ⟨d, hd, rfl⟩
    obtain ⟨t, t1, t2⟩ := orUp_at.mp b
    split at t2
    · rename_i hu
      obtain ⟨c, c1, c2⟩ := orUp_at.mp t2
      rw [Nat.testBit_two_pow] at c2
      have c2 := of_decide_eq_true c2
      exact ⟨t, by omega, (inB_col (hW.2.2.2.2 t t1) hu c1 c2.symm).1⟩
    · rw [Nat.zero_testBit] at t2; exact absurd t2 (by decide)
  have lpos : 0 < ls.length := by
    have hu := hW.2.2.1 h0
    have ⟨t, tb⟩ : ∃ t, A.2.1.testBit t = true := by
      rcases Classical.em (∃ t, A.2.1.testBit t = true) with q | q
      · exact q
      · exfalso
        have : A.2.1 = 0 := Nat.eq_of_testBit_eq (fun i => by
          rw [Nat.zero_testBit]
          cases h : A.2.1.testBit i with
          | true => exact absurd ⟨i, h⟩ q
          | false => rfl)
        omega
    have := used_t hW tb
    obtain ⟨e, e1, _⟩ := hcov t (by omega) tb
    omega
  have pw : 12 ^ (ls.length - 0) ≤ 20736 := Nat.le_trans (Nat.pow_le_pow_right (n := 12) (by decide) (show ls.length - 0 ≤ 4 by omega)) (by decide)
  obtain ⟨M', J, h1, _, h3, _, _, _, n1, n2, n3⟩ := so_go hW hs QS0 hcov hD (ls.length - 1) 0 (by omega) 6 (by omega) r10 0 (fun _ => 0) (fun _ => 0) (fun t => (qs t).length) SX0 (RG0 _) P0 ⟨z0, by omega, fun j hj => absurd hj (Nat.not_lt_zero j)⟩ (fun t ht hu ⟨e, he, _⟩ => absurd he (Nat.not_lt_zero e)) (by omega)
  refine ⟨r10, M', J, e10, h1, h3, fun j hj => (sq_sol hW QS0 hl).mp (n1 j (Nat.zero_le _) hj).1, fun g hg => ?_, fun i j hi hj => n3 i j (Nat.zero_le _) hi hj⟩
  obtain ⟨j, _, j2, j3⟩ := n2 (fun e => g (ls.getD e 0)) ((sq_sol hW QS0 hl).mpr hg) (fun e he => absurd he (Nat.not_lt_zero e))
  exact ⟨j, j2, j3⟩
theorem lets_fl4 {A : aT} (hW : WF A) {o : Nat} (ho : o < 24) : lets A (fl4 o (asA A)) := fun l hl => by
  constructor
  · intro h
    obtain ⟨e, _, e2, e3⟩ := fl4_at o ho _ (asA_lt hW) l hl h
    exact ⟨e, e2, e3⟩
  · rintro ⟨e, e1, rfl⟩
    have := (okS_fl4 ho (asA_lt hW)).1
    exact (fl4_mem o ho _ (asA_lt hW) e (by omega) e1).2
theorem so_by {M M' : gM} {k k1 o : Nat} {A : aT} (hk : k1 + 4 < k) (hW : WF A) (h0 : 0 < A.1.length) (hC : CT M k1 A) (hz : M (k + 4) 0 = 0) (ho : o < 24) (e : fX1_findBy k k1 (nI o) M = some M') : ∃ J, RWS A (fl4 o (asA A)) M' k J := by
  unfold fX1_findBy at e
  rw [c_asked hW hC, obs, pU_n, obs] at e
  obtain ⟨r9, e9, S9, f9, f9'⟩ := c_seq (k := k) (M := g_up M k 2 0) ho (asA_lt hW) g_up_self
  have g9 : ∀ q, q ≠ k → q ≠ k + 2 → r9 q = M q := fun q h1 h2 => by rw [f9 q h1 h2, g_up_row h1]
  have hC9 : CT r9 k1 A := hC.cong (fun j _ => by rw [g9 k1 (by omega) (by omega)]) (g9 _ (by omega) (by omega)) (g9 _ (by omega) (by omega)) (g9 _ (by omega) (by omega)) (g9 _ (by omega) (by omega))
  obtain ⟨r10, M2, J, h1, h2, h3⟩ := so_find (r9 := r9) hk hW h0 (okS_fl4 ho (asA_lt hW)) (lets_fl4 hW ho) hC9 S9 (by rw [g9 (k + 4) (by omega) (by omega)]; exact hz)
  rw [e9, obs, h1, obs, show (0 : Int32) = nI 0 from rfl, h2, obs] at e
  obtain rfl := Option.some.inj e
  exact ⟨J, h3⟩
/-- the letters asked for ahead of the others -/
def ldL (am v : Nat) : List Nat := lup (am &&& v) 4 ++ lup (am &&& (15 ^^^ v)) 4
theorem ld_and : ∀ am, am < 16 → ∀ v, v < 16 → nI am &&& nI v = nI (am &&& v) ∧ nI am &&& (nI v ^^^ (-1)) = nI (am &&& (15 ^^^ v)) := by decide +kernel
theorem ld_lt : ∀ am, am < 16 → ∀ v, v < 16 → am &&& v < 16 ∧ am &&& (15 ^^^ v) < 16 ∧ (lup (am &&& v) 4).length + (lup (am &&& (15 ^^^ v)) 4).length ≤ 4 := by decide +kernel
theorem ld_ok1 : ∀ am, am < 16 → ∀ v, v < 16 → (ldL am v).length ≤ 4 := by decide +kernel
theorem ld_ok2 : ∀ am, am < 16 → ∀ v, v < 16 → ∀ e, e < 4 → (e < (ldL am v).length → (ldL am v).getD e 0 < 4 ∧ am.testBit ((ldL am v).getD e 0) = true) := by decide +kernel
theorem ld_ok5 : ∀ am, am < 16 → ∀ v, v < 16 → ∀ e, e < 4 → (e < (ldL am v).length → (e < (lup (am &&& v) 4).length ↔ v.testBit ((ldL am v).getD e 0) = true)) := by decide +kernel
theorem ld_ok3 : ∀ am, am < 16 → ∀ v, v < 16 → ∀ l, l < 4 → (am.testBit l = true → ∃ e, e < 4 ∧ (e < (ldL am v).length ∧ (ldL am v).getD e 0 = l)) := by decide +kernel
theorem ld_ok40 : ∀ am, am < 16 → ∀ v, v < 16 → ∀ p, p < 16 → (p % 4 < (ldL am v).length ∧ p / 4 < p % 4 → ¬ (ldL am v).getD (p / 4) 0 = (ldL am v).getD (p % 4) 0) := by decide +kernel
theorem ld_ok4 {am v d e : Nat} (ha : am < 16) (hv : v < 16) (hd : d < (ldL am v).length) (he : e < (ldL am v).length) (hne : d ≠ e) : (ldL am v).getD d 0 ≠ (ldL am v).getD e 0 := by
  have h1 := ld_ok1 am ha v hv
  rcases (by omega : d < e ∨ e < d) with z | z
  · have := ld_ok40 am ha v hv (4 * d + e) (by omega)
    rw [show (4 * d + e) % 4 = e by omega, show (4 * d + e) / 4 = d by omega] at this
    exact this ⟨he, z⟩
  · have := ld_ok40 am ha v hv (4 * e + d) (by omega)
    rw [show (4 * e + d) % 4 = d by omega, show (4 * e + d) / 4 = e by omega] at this
    exact fun y => this ⟨hd, z⟩ y.symm
theorem ld_ok {am v : Nat} (ha : am < 16) (hv : v < 16) : (ldL am v).length ≤ 4 ∧ (∀ e, e < (ldL am v).length → (ldL am v).getD e 0 < 4 ∧ am.testBit ((ldL am v).getD e 0) = true ∧ (e < (lup (am &&& v) 4).length ↔ v.testBit ((ldL am v).getD e 0) = true)) ∧ (∀ l, l < 4 → am.testBit l = true → ∃ e, e < (ldL am v).length ∧ (ldL am v).getD e 0 = l) ∧ ∀ d e, d < (ldL am v).length → e < (ldL am v).length → d ≠ e → (ldL am v).getD d 0 ≠ (ldL am v).getD e 0 := by
  have h1 := ld_ok1 am ha v hv
  refine ⟨h1, fun e he => ?_, fun l hl hb => ?_, fun d e hd he hne => ld_ok4 ha hv hd he hne⟩
  · obtain ⟨a, b⟩ := ld_ok2 am ha v hv e (by omega) he
    exact ⟨a, b, ld_ok5 am ha v hv e (by omega) he⟩
  · obtain ⟨e, _, e2, e3⟩ := ld_ok3 am ha v hv l hl hb
    exact ⟨e, e2, e3⟩
theorem okS_ld {am v : Nat} (ha : am < 16) (hv : v < 16) : okS (ldL am v) := by
  obtain ⟨h1, h2, _, h4⟩ := ld_ok ha hv
  exact ⟨h1, fun e he => (h2 e he).1, fun d e hd he hne => h4 d e hd he hne⟩
theorem lets_ld {A : aT} (hW : WF A) {v : Nat} (hv : v < 16) : lets A (ldL (asA A) v) := fun l hl => by
  obtain ⟨h1, h2, h3, _⟩ := ld_ok (asA_lt hW) hv
  constructor
  · intro h
    exact h3 l hl h
  · rintro ⟨e, e1, rfl⟩
    exact (h2 e e1).2.1
theorem so_lead {M M' : gM} {k k1 v : Nat} {A : aT} (hk : k1 + 4 < k) (hW : WF A) (h0 : 0 < A.1.length) (hC : CT M k1 A) (hz : M (k + 4) 0 = 0) (hv : v < 16) (e : fX1_findLeading k k1 (nI v) M = some M') : ∃ J, RWS A (ldL (asA A) v) M' k J := by
  obtain ⟨a1, a2⟩ := ld_and _ (asA_lt hW) v hv
  obtain ⟨b1, b2, b3⟩ := ld_lt _ (asA_lt hW) v hv
  unfold fX1_findLeading at e
  rw [c_asked hW hC, obs, pU_n, obs, a1, a2] at e
  obtain ⟨r3, e3, S3, f3, f3'⟩ := c_addLetters (k := k) (M := g_up M k 2 0) (ls := []) b1 (by show 0 + _ ≤ 4; omega) ⟨g_up_self, fun e he => absurd he (Nat.not_lt_zero e)⟩
  rw [List.nil_append] at S3
  obtain ⟨r4, e4, S4, f4, f4'⟩ := c_addLetters (k := k) (M := r3) b2 b3 S3
  have g9 : ∀ q, q ≠ k → q ≠ k + 2 → r4 q = M q := fun q h1 h2 => by rw [f4 q h1 h2, f3 q h1 h2, g_up_row h1]
  have hC9 : CT r4 k1 A := hC.cong (fun j _ => by rw [g9 k1 (by omega) (by omega)]) (g9 _ (by omega) (by omega)) (g9 _ (by omega) (by omega)) (g9 _ (by omega) (by omega)) (g9 _ (by omega) (by omega))
  obtain ⟨r10, M2, J, h1, h2, h3⟩ := so_find (r9 := r4) hk hW h0 (okS_ld (asA_lt hW) hv) (lets_ld hW hv) hC9 S4 (by rw [g9 (k + 4) (by omega) (by omega)]; exact hz)
  rw [e3, obs, e4, obs, h1, obs, show (0 : Int32) = nI 0 from rfl, h2, obs] at e
  obtain rfl := Option.some.inj e
  exact ⟨J, h3⟩
end P_35r_44b_all
section P_35r_44c_projected
/-! projected -/
def mk (v : Nat) : Nat → Nat
  | 0 => 0
  | l + 1 => if v.testBit l = true then mk v l ||| 127 * 2 ^ (21 - 7 * l) else mk v l
theorem mk_lt : ∀ v, v < 16 → mk v 4 < 268435456 := by decide +kernel
theorem mk_bit : ∀ v, v < 16 → ∀ b, b < 28 → (mk v 4).testBit b = v.testBit (3 - b / 7) := by decide +kernel
theorem c_mask {v : Nat} (hv : v < 16) : lX0_unlike_5 (nI v) (0, 0) = some (nI (mk v 4)) := by
  unfold lX0_unlike_5
  refine p_it (P := fun s => ∃ l, l ≤ 4 ∧ s = (nI (mk v l), nI l)) (μ := fun s => 20 - s.2.toInt.toNat) (fun s p => ?_) ⟨0, by omega, rfl⟩
  obtain ⟨l, hl, rfl⟩ := p
  dsimp only
  refine t_ite (fun d => ?_) (fun d => ?_)
  · have := (nI_leI (a := 4) (by omega) (by omega)).mp d
    have : l = 4 := by omega
    subst this
    exact t_ret rfl
  · have := mt (nI_leI (a := 4) (b := l) (by omega) (by omega)).mpr d
    have mu : 20 - (nI (l + 1)).toInt.toNat < 20 - (nI l).toInt.toNat := by rw [nIt (by omega), nIt (by omega)]; omega
    have q := hs0_bit v hv l (by omega)
    unfold bX0_unlike_34
    rw [nI_1]
    have ms : mk v (l + 1) = if v.testBit l = true then mk v l ||| 127 * 2 ^ (21 - 7 * l) else mk v l := rfl
    by_cases b : v.testBit l = true
    · refine t_ite (fun z => absurd b (q.mp z)) (fun _ => ?_)
      have e : ((127 : Int32) <<< (((21 : Int32) - ((7 : Int32) * nI l)) &&& 31)) = nI (127 * 2 ^ (21 - 7 * l)) := by
        rcases (by omega : l = 0 ∨ l = 1 ∨ l = 2 ∨ l = 3) with rfl | rfl | rfl | rfl <;> decide +kernel
      rw [e, fa_or]
      exact t_nx ⟨l + 1, by omega, by rw [ms, if_pos b]⟩ mu
    · refine t_ite (fun _ => ?_) (fun z => absurd (q.mpr b) z)
      exact t_nx ⟨l + 1, by omega, by rw [ms, if_neg b]⟩ mu
theorem fa_and (a b : Nat) : nI a &&& nI b = nI (a &&& b) := by
  apply Int32.toBitVec_inj.1
  show BitVec.ofNat 32 a &&& BitVec.ofNat 32 b = BitVec.ofNat 32 (a &&& b)
  apply BitVec.eq_of_getLsbD_eq
  intro i hi
  simp [hi]
theorem d4_bit (l P i : Nat) : (d4 l P).testBit i = (decide (i < 7) && P.testBit (21 - 7 * l + i)) := by
  unfold d4
  rw [show (128 : Nat) = 2 ^ 7 from rfl, Nat.testBit_mod_two_pow, Nat.testBit_div_two_pow, Nat.add_comm i]
/-- the masked numbers of a row -/
def msk (v P : Nat) : Nat := P &&& mk v 4
theorem msk_lt {v : Nat} (hv : v < 16) (P : Nat) : msk v P < 268435456 := Nat.lt_of_le_of_lt Nat.and_le_right (mk_lt v hv)
theorem msk_eq {v P P' : Nat} (hv : v < 16) (h : P < 268435456) (h' : P' < 268435456) : msk v P = msk v P' ↔ ∀ l, l < 4 → v.testBit l = true → d4 l P = d4 l P' := by
  unfold msk
  constructor
  · intro e l hl hb
    refine Nat.eq_of_testBit_eq (fun i => ?_)
    rw [d4_bit, d4_bit]
    by_cases hi : i < 7
    · have b := congrArg (fun n => n.testBit (21 - 7 * l + i)) e
      have b : (P &&& mk v 4).testBit (21 - 7 * l + i) = (P' &&& mk v 4).testBit (21 - 7 * l + i) := b
      rw [Nat.testBit_and, Nat.testBit_and, mk_bit v hv _ (by omega), show 3 - (21 - 7 * l + i) / 7 = l by omega, hb, Bool.and_true, Bool.and_true] at b
      rw [b]
    · rw [decide_eq_false hi, Bool.false_and, Bool.false_and]
  · intro e
    refine Nat.eq_of_testBit_eq (fun b => ?_)
    rw [Nat.testBit_and, Nat.testBit_and]
    by_cases hb : b < 28
    · rw [mk_bit v hv b hb]
      cases hv4 : v.testBit (3 - b / 7) with
      | false => rw [Bool.and_false, Bool.and_false]
      | true =>
        have q := congrArg (fun n => n.testBit (b % 7)) (e (3 - b / 7) (by omega) hv4)
        have q : (d4 (3 - b / 7) P).testBit (b % 7) = (d4 (3 - b / 7) P').testBit (b % 7) := q
        rw [d4_bit, d4_bit, decide_eq_true (show b % 7 < 7 by omega), Bool.true_and, Bool.true_and, show 21 - 7 * (3 - b / 7) + b % 7 = b by omega] at q
        rw [q]
    · have p : 2 ^ 28 ≤ 2 ^ b := Nat.pow_le_pow_right (by decide) (by omega)
      rw [Nat.testBit_lt_two_pow (show P < 2 ^ b by omega), Nat.testBit_lt_two_pow (show P' < 2 ^ b by omega)]
/-- how many unlike ones there are among the first -/
noncomputable def ind (p : Prop) : Nat := @ite Nat p (Classical.propDecidable p) 1 0
theorem ind_t {p : Prop} (h : p) : ind p = 1 := @if_pos p (Classical.propDecidable p) h _ _ _
theorem ind_f {p : Prop} (h : ¬ p) : ind p = 0 := @if_neg p (Classical.propDecidable p) h _ _ _
theorem ind_iff {p q : Prop} (h : p ↔ q) : ind p = ind q := by rw [propext h]
noncomputable def ncA (Z : Nat → Nat) (J : Nat) : Nat := suUp (fun j => 1 - ind (∃ i, i < j ∧ Z i = Z j)) J
theorem suUp_add {p : Nat → Prop} {z : Nat} : ∀ {B : Nat}, z < B → suUp (fun n => ind (p n ∨ n = z)) B = suUp (fun n => ind (p n)) B + (1 - ind (p z))
  | 0, h => absurd h (Nat.not_lt_zero z)
  | B + 1, h => by
    show suUp (fun n => ind (p n ∨ n = z)) B + ind (p B ∨ B = z) = suUp (fun n => ind (p n)) B + ind (p B) + _
    rcases (by omega : z < B ∨ z = B) with c | c
    · rw [suUp_add c]
      have : ind (p B ∨ B = z) = ind (p B) := ind_iff ⟨fun y => y.elim id (fun w => by omega), Or.inl⟩
      rw [this]; omega
    · subst c
      have e : suUp (fun n => ind (p n ∨ n = z)) z = suUp (fun n => ind (p n)) z := suUp_cong (fun i hi => ind_iff ⟨fun y => y.elim id (fun w => by omega), Or.inl⟩)
      rw [e, ind_t (Or.inr rfl)]
      by_cases q : p z
      · rw [ind_t q]
      · rw [ind_f q]
theorem suUp_0 {p : Nat → Prop} (h : ∀ n, ¬ p n) : ∀ B, suUp (fun n => ind (p n)) B = 0
  | 0 => rfl
  | B + 1 => by
    show suUp (fun n => ind (p n)) B + ind (p B) = 0
    rw [suUp_0 h B, ind_f (h B)]
theorem ncA_set {Z : Nat → Nat} {B : Nat} : ∀ {J : Nat}, (∀ j, j < J → Z j < B) → ncA Z J = suUp (fun n => ind (∃ j, j < J ∧ Z j = n)) B
  | 0, _ => (suUp_0 (p := fun n => ∃ j, j < 0 ∧ Z j = n) (fun n ⟨j, hj, _⟩ => absurd hj (Nat.not_lt_zero j)) B).symm
  | J + 1, h => by
    have e : suUp (fun n => ind (∃ j, j < J + 1 ∧ Z j = n)) B = suUp (fun n => ind ((∃ j, j < J ∧ Z j = n) ∨ n = Z J)) B := suUp_cong (fun n _ => ind_iff (by
      constructor
      · rintro ⟨j, hj, hz⟩
        rcases (by omega : j < J ∨ j = J) with c | c
        · exact Or.inl ⟨j, c, hz⟩
        · rw [c] at hz; exact Or.inr hz.symm
      · rintro (⟨j, hj, hz⟩ | hz)
        · exact ⟨j, by omega, hz⟩
        · exact ⟨J, by omega, hz.symm⟩))
    rw [e, suUp_add (p := fun n => ∃ j, j < J ∧ Z j = n) (h J (by omega)), ← ncA_set (fun j hj => h j (by omega))]
    rfl
theorem ncA_le (Z : Nat → Nat) : ∀ J, ncA Z J ≤ J
  | 0 => Nat.le_refl _
  | J + 1 => by
    have := ncA_le Z J
    show ncA Z J + (1 - ind (∃ i, i < J ∧ Z i = Z J)) ≤ J + 1
    omega
/-- the class counts rows unlike the one ahead -/
theorem c_unlike {k J v : Nat} {M : gM} (hv : v < 16) (o : OK8 k M J) (hZ : ∀ j, j < J → 0 < j → ((∃ i, i < j ∧ msk v (kn (M (k + 3) i)) = msk v (kn (M (k + 3) j))) ↔ msk v (kn (M (k + 3) (j - 1))) = msk v (kn (M (k + 3) j)))) : fX0_unlike k (nI v) M = some (nI (ncA (fun j => msk v (kn (M (k + 3) j))) J)) := by
  have hJ := o.2.1
  have ra : ∀ j, j < J → fX1_rowAt k (nI j) M = some (nI (kn (M (k + 3) j))) := fun j hj => by
    unfold fX1_rowAt
    rw [if_neg (show ¬ nI j < 0 from fun z => absurd ((nI_ltI (b := 0) (by omega) (by omega)).mp z) (by omega)), o.1, if_neg (show ¬ nI J ≤ nI j from fun z => absurd ((nI_leI (by omega) (by omega)).mp z) (by omega)), rI_n (by omega) (by omega), obs, ← (o.2.2 j hj).1]
  have key : lX0_unlike_46 k (nI (mk v 4)) M (0, 0) = some (nI (ncA (fun j => msk v (kn (M (k + 3) j))) J)) := by
    unfold lX0_unlike_46
    refine p_it (P := fun s => ∃ j, j ≤ J ∧ s = (nI (ncA (fun j => msk v (kn (M (k + 3) j))) j), nI j)) (μ := fun s => 30000 - s.2.toInt.toNat) (fun s p => ?_) ⟨0, Nat.zero_le _, rfl⟩
    obtain ⟨j, hj, rfl⟩ := p
    dsimp only
    refine t_ite (fun c => ?_) (fun c => ?_)
    · rw [o.1] at c
      have := (nI_leI (by omega) (by omega)).mp c
      have : j = J := by omega
      rw [this]
      exact t_ret rfl
    · rw [o.1] at c
      have c' := mt (nI_leI (by omega) (by omega)).mpr c
      have mu : 30000 - (nI (j + 1)).toInt.toNat < 30000 - (nI j).toInt.toNat := by rw [nIt (by omega), nIt (by omega)]; omega
      have nc : ncA (fun j => msk v (kn (M (k + 3) j))) (j + 1) = ncA (fun j => msk v (kn (M (k + 3) j))) j + (1 - ind (∃ i, i < j ∧ msk v (kn (M (k + 3) i)) = msk v (kn (M (k + 3) j)))) := rfl
      unfold bX0_unlike_81 bX0_unlike_84
      rw [nI_1, nI_1]
      refine t_ite (fun z => ?_) (fun z => ?_)
      · have j0 := nI_inj (b := 0) z (by omega) (by omega)
        refine t_nx ⟨j + 1, by omega, ?_⟩ mu
        rw [nc, ind_f (fun ⟨i, hi, _⟩ => by omega)]
      · have j0 : 0 < j := by
          rcases Nat.eq_zero_or_pos j with y | y
          · exact absurd (by rw [y]; rfl) z
          · exact y
        rw [nI_s1 (by omega)]
        refine t_be (ra j (by omega)) (t_be (ra (j - 1) (by omega)) ?_)
        rw [fa_and, fa_and]
        have hz := hZ j (by omega) j0
        have l1 := msk_lt hv (kn (M (k + 3) j))
        have l2 := msk_lt hv (kn (M (k + 3) (j - 1)))
        refine t_ite (fun y => ?_) (fun y => ?_)
        · have y : msk v (kn (M (k + 3) j)) = msk v (kn (M (k + 3) (j - 1))) := nI_inj y (Nat.lt_trans l1 (by decide)) (Nat.lt_trans l2 (by decide))
          refine t_nx ⟨j + 1, by omega, ?_⟩ mu
          rw [nc, ind_t (hz.mpr y.symm)]; rfl
        · refine t_nx ⟨j + 1, by omega, ?_⟩ mu
          rw [nc, ind_f (fun w => y (congrArg nI (hz.mp w).symm))]
  unfold fX0_unlike
  rw [c_mask hv, obs, key, obs]
/-- rows in order have like beginnings side by side -/
theorem contig {k J v p : Nat} {M : gM} {ls : List Nat} (hv : v < 16) (o : OK8 k M J) (hs : okS ls) (hp : ∀ e, e < ls.length → (e < p ↔ v.testBit (ls.getD e 0) = true)) (hin : ∀ l, l < 4 → v.testBit l = true → ∃ e, e < ls.length ∧ ls.getD e 0 = l) (hL : ∀ i j, i < j → j < J → LX M k ls i j) {j : Nat} (hj : j < J) (j0 : 0 < j) : (∃ i, i < j ∧ msk v (kn (M (k + 3) i)) = msk v (kn (M (k + 3) j))) ↔ msk v (kn (M (k + 3) (j - 1))) = msk v (kn (M (k + 3) j)) := by
  have me : ∀ a b, a < J → b < J → (msk v (kn (M (k + 3) a)) = msk v (kn (M (k + 3) b)) ↔ ∀ e, e < ls.length → e < p → rdg M k a (ls.getD e 0) = rdg M k b (ls.getD e 0)) := fun a b ha hb => by
    rw [msk_eq hv (o.2.2 a ha).2 (o.2.2 b hb).2]
    constructor
    · intro h e he hep
      exact h _ (hs.2.1 e he) ((hp e he).mp hep)
    · intro h l hl hb
      obtain ⟨e, e1, e2⟩ := hin l hl hb
      have := h e e1 ((hp e e1).mpr (by rw [e2]; exact hb))
      rw [e2] at this
      exact this
  constructor
  · rintro ⟨i, hi, hz⟩
    rcases (by omega : i = j - 1 ∨ i < j - 1) with c | c
    · rw [← c]; exact hz
    · have h := (me i j (by omega) hj).mp hz
      rw [me (j - 1) j (by omega) hj]
      obtain ⟨e2, a1, a2, a3⟩ := hL i (j - 1) c (by omega)
      obtain ⟨e1, b1, b2, b3⟩ := hL (j - 1) j (by omega) hj
      intro e he hep
      rcases Nat.lt_or_ge e e1 with y | y
      · exact b3 e y
      · -- the first place at which they differ is no place of the beginning
        exfalso
        have q := h e1 b1 (by omega)
        rcases Nat.lt_trichotomy e1 e2 with z | z | z
        · have := a3 e1 z; omega
        · rw [z] at b2 q; omega
        · have := b3 e2 z
          have := h e2 a1 (by omega)
          omega
  · intro h
    exact ⟨j - 1, by omega, h⟩
end P_35r_44c_projected
