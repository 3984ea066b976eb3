/-! the bits of a double, as the class reckons them -/
theorem dk_2 : dc (4611686018427387904 : UInt64) = .fin false 4503599627370496 (-51) := by decide +kernel
theorem dk_1 : dc FP.dconst1 = .fin false 4503599627370496 (-52) := by decide +kernel
theorem dk_52 : dc (4841369599423283200 : UInt64) = .fin false 4503599627370496 0 := by decide +kernel
theorem cv_lt {a b : Int} : Op.cmpValue (some (compare a b)) .l < 0 ↔ a < b := by
  rcases Int.lt_trichotomy a b with h | h | h
  · rw [Int.compare_eq_lt.mpr h]; exact ⟨fun _ => h, fun _ => by decide⟩
  · rw [Int.compare_eq_eq.mpr h]; exact ⟨fun z => absurd z (by decide), fun z => by omega⟩
  · rw [Int.compare_eq_gt.mpr h]; exact ⟨fun z => absurd z (by decide), fun z => by omega⟩
theorem cv_gt {a b : Int} : 0 < Op.cmpValue (some (compare a b)) .l ↔ b < a := by
  rcases Int.lt_trichotomy a b with h | h | h
  · rw [Int.compare_eq_lt.mpr h]; exact ⟨fun z => absurd z (by decide), fun z => by omega⟩
  · rw [Int.compare_eq_eq.mpr h]; exact ⟨fun z => absurd z (by decide), fun z => by omega⟩
  · rw [Int.compare_eq_gt.mpr h]; exact ⟨fun _ => h, fun _ => by decide⟩
theorem cv_ge {a b : Int} : 0 ≤ Op.cmpValue (some (compare a b)) .g ↔ b ≤ a := by
  rcases Int.lt_trichotomy a b with h | h | h
  · rw [Int.compare_eq_lt.mpr h]; exact ⟨fun z => absurd z (by decide), fun z => by omega⟩
  · rw [Int.compare_eq_eq.mpr h]; exact ⟨fun _ => by omega, fun _ => by decide⟩
  · rw [Int.compare_eq_gt.mpr h]; exact ⟨fun _ => by omega, fun _ => by decide⟩
theorem dcmp_fin {x y : UInt64} {s t : Bool} {c d : Nat} {q r : Int} (h : dc x = .fin s c q) (h' : dc y = .fin t d r) : FP.dcmp x y = some (compare (FP.Core.signed s (FP.Core.inUnits c q (min q r))) (FP.Core.signed t (FP.Core.inUnits d r (min q r)))) := by
  show FP.Core.order (dc x) (dc y) = _
  rw [h, h']; rfl
/-- beside a power of two -/
theorem iu_lt {c : Nat} {q r : Int} (h1 : 4503599627370496 ≤ c) (h2 : c < 9007199254740992) : (FP.Core.signed false (FP.Core.inUnits c q (min q r)) < FP.Core.signed false (FP.Core.inUnits 4503599627370496 r (min q r))) ↔ q < r := by
  rw [sg_f, sg_f]
  unfold FP.Core.inUnits
  rcases Int.lt_or_le q r with z | z
  · rw [show (q - min q r).toNat = 0 by omega, Nat.pow_zero, Nat.mul_one]
    have : 2 ^ 1 ≤ 2 ^ (r - min q r).toNat := Nat.pow_le_pow_right (by decide) (by omega)
    have : 4503599627370496 * 2 ^ 1 ≤ 4503599627370496 * 2 ^ (r - min q r).toNat := Nat.mul_le_mul_left _ this
    exact ⟨fun _ => z, fun _ => by omega⟩
  · rw [show (r - min q r).toNat = 0 by omega, Nat.pow_zero, Nat.mul_one]
    have : 1 ≤ 2 ^ (q - min q r).toNat := Nat.two_pow_pos _
    have : c * 1 ≤ c * 2 ^ (q - min q r).toNat := Nat.mul_le_mul_left _ this
    exact ⟨fun y => by omega, fun y => by omega⟩
theorem quo_fin {f : FP.Core.Fmt} {s t : Bool} {c d : Nat} {q r : Int} (hd : d ≠ 0) : FP.Core.quotient f (.fin s c q) (.fin t d r) = FP.Core.roundRatio f (s != t) c d (q - r) := if_neg hd
theorem d_half {x : UInt64} {c : Nat} {q : Int} (h : dc x = .fin false c q) (h1 : 4503599627370496 ≤ c) (h2 : c < 9007199254740992) (h3 : -1000 ≤ q) (h4 : q ≤ 901) : ∃ w, gD (FP.ddiv x (4611686018427387904 : UInt64)) = some w ∧ dc w = .fin false c (q - 1) := by
  have l : FP.Core.leading c 4503599627370496 = 0 := by
    rcases lead_d h1 h2 (b := 4503599627370496) (by omega) (by omega) with ⟨_, l⟩ | ⟨z, _⟩
    · exact l
    · omega
  have k : FP.Core.quotient FP.Core.b64 (dc x) (dc (4611686018427387904 : UInt64)) = .fin false c (q - 1) := by
    rw [h, dk_2]
    have qe : FP.Core.quotient FP.Core.b64 (.fin false c q) (.fin false 4503599627370496 (-51)) = FP.Core.roundRatio FP.Core.b64 (false != false) c 4503599627370496 (q - (-51)) := quo_fin (by decide)
    rw [qe]
    have nm : FP.Core.nearest (FP.Core.unitsNum c (q - (-51)) (q - 1)) (FP.Core.unitsDen 4503599627370496 (q - (-51)) (q - 1)) = c := by
      unfold FP.Core.unitsNum FP.Core.unitsDen
      rw [show (q - (-51) - (q - 1)).toNat = 52 by omega, show (q - 1 - (q - (-51))).toNat = 0 by omega]
      exact near_eq (by omega)
    obtain ⟨c', q', g1, _, g3⟩ := rr_at f64 (s := false) (num := c) (den := 4503599627370496) (e := q - (-51)) (Q := q - 1) (m := c) (by omega) (by rw [l]; show 0 + (q - (-51)) - ((53 : Int) - 1) = q - 1; omega) (by rw [b64_qmin]; omega) (by rw [b64_qmax]; omega) nm (by rw [b64_tails]; exact h1) (by rw [b64_tails]; omega)
    rw [b64_tails] at g3
    rcases g3 with ⟨_, rfl, rfl⟩ | ⟨z, _⟩
    · exact g1
    · omega
  obtain ⟨a, b⟩ := ed64 (CN64 h1 h2 (q := q - 1) (by omega) (by omega)) false
  rw [← k] at a b
  exact ⟨_, b64_g a, ((b64_dc a).trans b).trans k⟩
theorem d_mul {x y : UInt64} {c : Nat} {q r : Int} (h : dc x = .fin false c q) (hy : dc y = .fin false 4503599627370496 r) (h1 : 4503599627370496 ≤ c) (h2 : c < 9007199254740992) (h3 : -1074 ≤ q + r + 52) (h4 : q + r + 52 ≤ 901) : ∃ w, gD (FP.dmul x y) = some w ∧ dc w = .fin false c (q + r + 52) := by
  have k : FP.Core.round FP.Core.b64 (FP.Core.exactProduct (dc x) (dc y)) = .fin false c (q + r + 52) := by
    rw [h, hy]
    show FP.Core.roundRatio FP.Core.b64 (false != false) (c * 4503599627370496) 1 (q + r) = _
    refine rr_exact f64 (CN64 h1 h2 h3 (by omega)) (by rw [b64_qmax]; omega) (Or.inr ⟨by omega, ?_⟩)
    rw [show (q + r + 52 - (q + r)).toNat = 52 by omega]
  obtain ⟨a, b⟩ := ed64 (CN64 h1 h2 (q := q + r + 52) h3 (by omega)) false
  rw [← k] at a b
  exact ⟨_, b64_g a, ((b64_dc a).trans b).trans k⟩
theorem d_mul0 {x y : UInt64} {d : Nat} {q r : Int} (h : dc x = .fin false 0 q) (hy : dc y = .fin false d r) : ∃ w, gD (FP.dmul x y) = some w ∧ dc w = .fin false 0 (-1074) := by
  have k : FP.Core.round FP.Core.b64 (FP.Core.exactProduct (dc x) (dc y)) = .fin false 0 (-1074) := by
    rw [h, hy]
    show FP.Core.roundRatio FP.Core.b64 (false != false) (0 * d) 1 (q + r) = _
    unfold FP.Core.roundRatio
    rw [if_pos (Nat.zero_mul _), b64_qmin]; rfl
  obtain ⟨a, b⟩ := ez64 false
  rw [← k] at a b
  exact ⟨_, b64_g a, ((b64_dc a).trans b).trans k⟩
/-- less one: the digits behind the first -/
theorem d_less1 {x : UInt64} {c : Nat} (h : dc x = .fin false c (-52)) (h1 : 4503599627370496 ≤ c) (h2 : c < 9007199254740992) : ∃ w, gD (FP.dsub x FP.dconst1) = some w ∧ ((c = 4503599627370496 ∧ dc w = .fin false 0 (-1074)) ∨ ∃ m j : Nat, m = (c - 4503599627370496) * 2 ^ j ∧ 4503599627370496 ≤ m ∧ m < 9007199254740992 ∧ j ≤ 52 ∧ dc w = .fin false m (-52 - (j : Int))) := by
  have su : FP.Core.sumUnits false c (-52) true 4503599627370496 (-52) (min (-52) (-52)) = ((c - 4503599627370496 : Nat) : Int) := by
    unfold FP.Core.sumUnits FP.Core.inUnits
    rw [sg_f, sg_t, show ((-52 : Int) - min (-52) (-52)).toNat = 0 by decide, Nat.pow_zero, Nat.mul_one, Nat.mul_one]
    omega
  have ss : FP.Core.sumSign false true ((c - 4503599627370496 : Nat) : Int) = false := by
    unfold FP.Core.sumSign
    split
    · rfl
    · exact decide_eq_false (by omega)
  have k : FP.Core.round FP.Core.b64 (FP.Core.exactSum (dc x) (FP.Core.negate (dc FP.dconst1))) = FP.Core.roundRatio FP.Core.b64 false (c - 4503599627370496) 1 (-52) := by
    rw [h, dk_1]
    show FP.Core.round FP.Core.b64 (.fin (FP.Core.sumSign false true (FP.Core.sumUnits false c (-52) true 4503599627370496 (-52) (min (-52) (-52)))) (FP.Core.sumUnits false c (-52) true 4503599627370496 (-52) (min (-52) (-52))).natAbs (min (-52) (-52))) = _
    rw [su, ss, Int.natAbs_natCast]
    rfl
  by_cases z : c = 4503599627370496
  · have k2 : FP.Core.round FP.Core.b64 (FP.Core.exactSum (dc x) (FP.Core.negate (dc FP.dconst1))) = .fin false 0 (-1074) := by
      rw [k]
      unfold FP.Core.roundRatio
      rw [if_pos (by omega), b64_qmin]
    obtain ⟨a, b⟩ := ez64 false
    rw [← k2] at a b
    exact ⟨_, b64_g a, Or.inl ⟨z, ((b64_dc a).trans b).trans k2⟩⟩
  · obtain ⟨j, j1, j2, j3⟩ := norm_n (n := c - 4503599627370496) (by omega) (by omega)
    have k2 : FP.Core.round FP.Core.b64 (FP.Core.exactSum (dc x) (FP.Core.negate (dc FP.dconst1))) = .fin false ((c - 4503599627370496) * 2 ^ j) (-52 - (j : Int)) := by
      rw [k]
      refine rr_exact f64 (CN64 j2 j3 (by omega) (by omega)) (by rw [b64_qmax]; omega) (Or.inl ⟨by omega, ?_⟩)
      rw [show (-52 - (-52 - (j : Int))).toNat = j by omega]
    obtain ⟨a, b⟩ := ed64 (CN64 j2 j3 (q := -52 - (j : Int)) (by omega) (by omega)) false
    rw [← k2] at a b
    exact ⟨_, b64_g a, Or.inr ⟨_, j, rfl, j2, j3, j1, ((b64_dc a).trans b).trans k2⟩⟩
theorem d2l_n {x : UInt64} {m t j : Nat} (h : dc x = .fin false m (-(j : Int))) (hm : m = t * 2 ^ j) (ht : t < 9007199254740992) : FP.d2l x = Int64.ofInt (t : Int) := by
  show Int64.ofInt (FP.Core.toInt (-2 ^ 63) (2 ^ 63 - 1) (dc x)) = _
  rw [h]
  unfold FP.Core.toInt FP.Core.truncate
  dsimp only
  rw [sg_f, show (-(j : Int)).toNat = 0 by omega, show (- -(j : Int)).toNat = j by omega, Nat.pow_zero, Nat.mul_one, hm, Nat.mul_div_cancel _ (Nat.two_pow_pos j)]
  congr 1
  omega
theorem d2l_0 {x : UInt64} (h : dc x = .fin false 0 (-1074)) : FP.d2l x = Int64.ofInt (0 : Nat) := by
  show Int64.ofInt (FP.Core.toInt (-2 ^ 63) (2 ^ 63 - 1) (dc x)) = _
  rw [h]
  unfold FP.Core.toInt FP.Core.truncate
  dsimp only
  rw [Nat.zero_mul, Nat.zero_div]
  rfl
/-- exponent and digits put together -/
theorem bits_or {E t : Nat} {u : UInt64} (hE : E < 2048) (ht : t < 4503599627370496) (hu : u.toNat = E * 4503599627370496 + t) : ((nI E).toInt64 <<< ((52 : Int32).toInt64 &&& 63)) ||| Int64.ofInt (t : Int) = u.toInt64 := by
  have e1 : (nI E).toInt64 = Int64.ofInt (E : Int) := by
    apply Int64.toInt_inj.mp
    rw [Int32.toInt_toInt64, tnI (by omega), Int64.toInt_ofInt, show Int64.size = 18446744073709551616 from rfl, Int.bmod_eq_of_le (by omega) (by omega)]
  apply Int64.toBitVec_inj.mp
  rw [e1]
  apply BitVec.eq_of_toNat_eq
  show ((BitVec.ofInt 64 (E : Int)) <<< ((((52 : Int32).toInt64 &&& 63).toBitVec).smod 64) ||| BitVec.ofInt 64 (t : Int)).toNat = u.toBitVec.toNat
  rw [show ((((52 : Int32).toInt64 &&& 63).toBitVec).smod 64) = 52#64 by decide +kernel]
  rw [BitVec.toNat_or, BitVec.shiftLeft_eq', BitVec.toNat_shiftLeft, show (52#64).toNat = 52 from rfl, BitVec.ofInt_natCast, BitVec.ofInt_natCast, BitVec.toNat_ofNat, BitVec.toNat_ofNat, Nat.shiftLeft_eq, Nat.mod_eq_of_lt (show E < 2 ^ 64 by omega), Nat.mod_eq_of_lt (show t < 2 ^ 64 by omega), Nat.mod_eq_of_lt (show E * 2 ^ 52 < 2 ^ 64 by omega)]
  show E * 2 ^ 52 ||| t = u.toNat
  rw [hu, Nat.mul_comm E, ← Nat.two_pow_add_eq_or_of_lt (show t < 2 ^ 52 by omega)]
theorem c_bits {u : UInt64} (h : NB u) : fX0_bitsOfDouble u = some u.toInt64 := by
  unfold fX0_bitsOfDouble
  rcases h with h | ⟨c, q, h, h1, h2, h3, h4⟩
  · have e0 : u.toNat = 0 := bits0 (UInt64.toNat_lt u) h
    rw [dcmp_fin h dc_0, if_neg (fun z => by have := cv_gt.mp z; rw [sg_f, iu_0] at this; omega)]
    have : u = 0 := UInt64.toNat_inj.mp e0
    rw [this]; rfl
  · have hz : 0 < FP.Core.inUnits c q (min q (-1074)) := by
      unfold FP.Core.inUnits
      exact Nat.mul_pos (by omega) (Nat.two_pow_pos _)
    rw [dcmp_fin h dc_0, if_pos (cv_gt.mpr (by rw [sg_f, sg_f, iu_0]; omega))]
    obtain ⟨un, u1, u2, _, _⟩ := u_dc h h1
    -- halved till it is less than two
    have k18 : T (lX0_bitsOfDouble_18 (u, 1023, 0)) (fun r => ∃ x q' : Int, dc r.1 = .fin false c q' ∧ r.2.toInt = x ∧ x = 1023 + (q - q') ∧ q' ≤ -52 ∧ -900 ≤ q' ∧ q' ≤ q) := by
      unfold lX0_bitsOfDouble_18
      refine t_it (P := fun s => ∃ i : Nat, i ≤ 1000 ∧ dc s.1 = .fin false c (q - i) ∧ s.2.1 = nI (1023 + i) ∧ s.2.2 = nI i ∧ (i = 0 ∨ -52 ≤ q - i)) (μ := fun s => 3000 - s.2.2.toInt.toNat) (fun s p => ?_) ⟨0, by omega, by rw [show q - ((0 : Nat) : Int) = q by omega]; exact h, rfl, rfl, Or.inl rfl⟩
      obtain ⟨x, s2, s3⟩ := s
      obtain ⟨i, hi, g1, g2, g3, g4⟩ := p
      dsimp only at g1 g2 g3
      subst g2; subst g3
      dsimp only
      refine t_ite (fun z => absurd ((nI_leI (a := 1022) (by omega) (by omega)).mp z) (by omega)) (fun _ => ?_)
      rw [dcmp_fin g1 dk_2]
      refine t_ite (fun z => ?_) (fun z => ?_)
      · have z := (iu_lt h1 h2).mp (cv_lt.mp z)
        exact t_ret ⟨1023 + (i : Int), q - i, g1, by rw [tnI (by omega)]; omega, by omega, by omega, by omega, by omega⟩
      · have z := mt (fun y => cv_lt.mpr ((iu_lt (r := -51) h1 h2).mpr y)) z
        obtain ⟨w, ew, hw⟩ := d_half g1 h1 h2 (by omega) (by omega)
        refine t_be ew (t_nx ⟨i + 1, by omega, by rw [hw, show q - (i : Int) - 1 = q - ((i + 1 : Nat) : Int) by omega], by show nI (1023 + i) + 1 = nI (1023 + (i + 1)); rw [nI_1, Nat.add_assoc], nI_1 i, Or.inr (by omega)⟩ ?_)
        show 3000 - (nI i + 1).toInt.toNat < 3000 - (nI i).toInt.toNat
        rw [nI_1, nIt (by omega), nIt (by omega)]; omega
    obtain ⟨⟨x, s2⟩, ew, x0, q', g1, g2, g3, g4, g5, g6⟩ := k18
    rw [ew, obs]
    dsimp only at g1 g2 ⊢
    unfold bX0_bitsOfDouble_49
    -- doubled till it is one or more
    have k52 : T (lX0_bitsOfDouble_52 (x, s2, 0)) (fun r => dc r.1 = .fin false c (-52) ∧ r.2 = nI (q + 1075).toNat) := by
      unfold lX0_bitsOfDouble_52
      refine t_it (P := fun s => ∃ i : Nat, i ≤ 1000 ∧ dc s.1 = .fin false c (q' + i) ∧ s.2.1.toInt = 1023 + (q - q') - i ∧ s.2.2 = nI i ∧ q' + i ≤ -52) (μ := fun s => 3000 - s.2.2.toInt.toNat) (fun s p => ?_) ⟨0, by omega, by rw [show q' + ((0 : Nat) : Int) = q' by omega]; exact g1, by dsimp only; omega, rfl, by omega⟩
      obtain ⟨y, s4, s3⟩ := s
      obtain ⟨i, hi, k1, k2, k3, k4⟩ := p
      dsimp only at k1 k2 k3
      subst k3
      dsimp only
      refine t_ite (fun z => absurd ((nI_leI (a := 1022) (by omega) (by omega)).mp z) (by omega)) (fun _ => ?_)
      rw [dcmp_fin k1 dk_1]
      refine t_ite (fun z => ?_) (fun z => ?_)
      · have z := cv_ge.mp z
        have z := mt (iu_lt (q := q' + i) (r := -52) h1 h2).mpr (by omega)
        have e : q' + i = -52 := by omega
        refine t_ret ⟨by rw [k1, e], ?_⟩
        apply Int32.toInt_inj.mp
        dsimp only
        rw [k2, tnI (by omega)]
        omega
      · have z := mt cv_ge.mpr z
        have z := (iu_lt (q := q' + i) (r := -52) h1 h2).mp (by omega)
        obtain ⟨w, ew, hw⟩ := d_mul k1 dk_2 h1 h2 (by omega) (by omega)
        have t1 : (s4 + (-1)).toInt = s4.toInt - 1 := by
          rw [Int32.toInt_add, show (-1 : Int32).toInt = -1 by decide, Int.bmod_eq_of_le (by omega) (by omega)]
          omega
        refine t_be ew (t_nx ⟨i + 1, by omega, by rw [hw, show q' + (i : Int) + -51 + 52 = q' + ((i + 1 : Nat) : Int) by omega], by dsimp only; rw [t1, k2]; omega, nI_1 i, by omega⟩ ?_)
        show 3000 - (nI i + 1).toInt.toNat < 3000 - (nI i).toInt.toNat
        rw [nI_1, nIt (by omega), nIt (by omega)]; omega
    obtain ⟨⟨y, s5⟩, ew2, m1, m2⟩ := k52
    rw [ew2, obs]
    dsimp only at m1 m2 ⊢
    subst m2
    unfold bX0_bitsOfDouble_81
    obtain ⟨w, ew3, hw⟩ := d_less1 m1 h1 h2
    rw [ew3, obs]
    rcases hw with ⟨hc, hw⟩ | ⟨m, j, hm, n1, n2, n3, hw⟩
    · obtain ⟨w2, ew4, hw2⟩ := d_mul0 hw dk_52
      rw [ew4, obs, d2l_0 hw2]
      have fin := bits_or (E := (q + 1075).toNat) (t := 0) (u := u) (by omega) (by omega) (by rw [un, hc])
      exact congrArg some fin
    · obtain ⟨w2, ew4, hw2⟩ := d_mul hw dk_52 n1 n2 (by omega) (by omega)
      rw [show -52 - (j : Int) + 0 + 52 = -(j : Int) by omega] at hw2
      rw [ew4, obs, d2l_n hw2 hm (by omega)]
      have fin := bits_or (E := (q + 1075).toNat) (t := c - 4503599627370496) (u := u) (by omega) (by omega) un
      exact congrArg some fin
theorem n_bits64 {u : UInt64} (h : NB u) : fJxe99ae_doubleToLongBits_ccdee u = some u.toInt64 := by
  have e : FP.dcmp u u = some .eq := by
    rcases h with h | ⟨c, q, h, _⟩
    · rw [dcmp_fin h h, Int.compare_eq_eq.mpr rfl]
    · rw [dcmp_fin h h, Int.compare_eq_eq.mpr rfl]
  unfold fJxe99ae_doubleToLongBits_ccdee fJxe99ae_isNaN_b9ae7
  rw [e, if_pos (show Op.cmpValue (some .eq) .l = 0 by decide), obs, if_pos rfl]
