/-! meanAs, skew: floats -/
def NF (f : UInt32) : Prop := fc f = .fin false 0 (-149) ∨ ∃ c q, fc f = .fin false c q ∧ 8388608 ≤ c ∧ c < 16777216 ∧ -100 ≤ q ∧ q ≤ 90
theorem CN32 {c : Nat} {q : Int} (h1 : 8388608 ≤ c) (h2 : c < 16777216) (h3 : -149 ≤ q) (h4 : q ≤ 104) : CN FP.Core.b32 c q := by
  unfold CN
  rw [b32_tails, b32_qmin, b32_qmax]
  exact ⟨h1, by omega, h3, h4⟩
theorem ez32 : b32ok (FP.Core.encode FP.Core.b32 (.fin false 0 (-149))) ∧ FP.Core.decode FP.Core.b32 (FP.Core.encode FP.Core.b32 (.fin false 0 (-149))) = .fin false 0 (-149) := ⟨⟨by decide +kernel, by decide +kernel⟩, by decide +kernel⟩
theorem fcmp_fin {x y : UInt32} {s t : Bool} {c d : Nat} {q r : Int} (h : fc x = .fin s c q) (h' : fc y = .fin t d r) : FP.fcmp x y = some (compare (FP.Core.signed s (FP.Core.inUnits c q (min q r))) (FP.Core.signed t (FP.Core.inUnits d r (min q r)))) := by
  show FP.Core.order (fc x) (fc y) = _
  rw [h, h']; rfl
theorem d2f_e {u : UInt64} (h : dc u ≠ .nan) : FP.d2f u = UInt32.ofNat (FP.Core.encode FP.Core.b32 (FP.Core.round FP.Core.b32 (dc u))) := if_neg (fun q => h (of_decide_eq_true q))
theorem f2d_e {f : UInt32} (h : fc f ≠ .nan) : FP.f2d f = UInt64.ofNat (FP.Core.encode FP.Core.b64 (FP.Core.round FP.Core.b64 (fc f))) := if_neg (fun q => h (of_decide_eq_true q))
/-- a double that is not far from one, as a float -/
theorem d2f_NF {u : UInt64} (h : NM u) : ∃ f, gF (FP.d2f u) = some f ∧ NF f := by
  rcases h with h | ⟨c, q, h, h1, h2, h3, h4⟩
  · have k : FP.Core.round FP.Core.b32 (dc u) = .fin false 0 (-149) := by
      rw [h]
      show FP.Core.roundRatio FP.Core.b32 false 0 1 (-1074) = _
      unfold FP.Core.roundRatio
      rw [if_pos rfl, b32_qmin]
    obtain ⟨a, b⟩ := ez32
    rw [← k] at a b
    rw [d2f_e (by rw [h]; intro z; cases z)]
    exact ⟨_, b32_g a, Or.inl (((b32_fc a).trans b).trans k)⟩
  · have lc : c.log2 = 52 := lg2 (k := 52) h1 h2
    have m1 : 8388608 ≤ FP.Core.nearest (FP.Core.unitsNum c q (q + 29)) (FP.Core.unitsDen 1 q (q + 29)) := by
      unfold FP.Core.unitsNum FP.Core.unitsDen
      rw [show (q - (q + 29)).toNat = 0 by omega, show (q + 29 - q).toNat = 29 by omega]
      exact near_ge (by omega) (by omega)
    have m2 : FP.Core.nearest (FP.Core.unitsNum c q (q + 29)) (FP.Core.unitsDen 1 q (q + 29)) ≤ 16777216 := by
      unfold FP.Core.unitsNum FP.Core.unitsDen
      rw [show (q - (q + 29)).toNat = 0 by omega, show (q + 29 - q).toNat = 29 by omega]
      exact near_le (by omega) (by omega)
    obtain ⟨c', q', g1, g2, g3⟩ := rr_at f32 (s := false) (num := c) (den := 1) (e := q) (Q := q + 29) (by omega) (by rw [lead1 (by omega), lc]; show ((52 : Nat) : Int) + q - ((24 : Int) - 1) = q + 29; omega) (by rw [b32_qmin]; omega) (by rw [b32_qmax]; omega) rfl (by rw [b32_tails]; exact m1) (by rw [b32_tails]; exact m2)
    unfold CN at g2
    rw [b32_tails] at g2 g3
    have k : FP.Core.round FP.Core.b32 (dc u) = .fin false c' q' := by
      rw [h]; exact g1
    obtain ⟨a, b⟩ := ed32 (CN32 g2.1 (by omega) (q := q') (by omega) (by omega)) false
    rw [← k] at a b
    rw [d2f_e (by rw [h]; intro z; cases z)]
    exact ⟨_, b32_g a, Or.inr ⟨c', q', ((b32_fc a).trans b).trans k, g2.1, by omega, by omega, by omega⟩⟩
theorem lU_n {u : UInt64} {s : Nat} {y : Int32} (hy : (y.toInt64.toUInt64 &&& Int64.toUInt64 63) = UInt64.ofNat s) (hs : s < 64) : (lU u.toInt64 y).toBitVec.toNat = u.toNat / 2 ^ s := by
  unfold lU
  rw [hy]
  show (u >>> UInt64.ofNat s).toNat = _
  rw [UInt64.toNat_shiftRight, Nat.shiftRight_eq_div_pow]
  congr 2
  show (UInt64.ofNat s).toNat % 64 = s
  rw [UInt64.toNat_ofNat_of_lt' (show s < 2 ^ 64 by omega)]
  omega
theorem l2i_n {x : Int64} {n : Nat} (h : x.toBitVec.toNat = n) : x.toInt32 = nI n := by
  apply Int32.toBitVec_inj.mp
  apply BitVec.eq_of_toNat_eq
  show (x.toBitVec.signExtend 32).toNat = (BitVec.ofNat 32 n).toNat
  rw [BitVec.toNat_ofNat, ← h]
  have e : x.toBitVec.signExtend 32 = x.toBitVec.setWidth 32 := BitVec.signExtend_eq_setWidth_of_le _ (by decide)
  rw [e, BitVec.toNat_setWidth]
theorem f_nI {f : UInt32} {n : Nat} (h : f.toNat = n) : f.toInt32 = nI n := by
  apply Int32.toBitVec_inj.mp
  apply BitVec.eq_of_toNat_eq
  show f.toNat = (BitVec.ofNat 32 n).toNat
  rw [BitVec.toNat_ofNat, ← h]
  exact (Nat.mod_eq_of_lt (UInt32.toNat_lt f)).symm
theorem f_or {E t : Nat} (h1 : 896 < E) (h2 : E - 896 < 255) (ht : t < 8388608) : (((nI E - 1023) + 127) <<< 23) ||| nI t = nI ((E - 896) * 8388608 + t) := by
  have eE : nI E - 1023 + 127 = nI (E - 896) := by
    apply Int32.toInt_inj.mp
    have a1 : (nI E - 1023).toInt = (E : Int) - 1023 := tS (tnI (by omega)) (by decide) (by omega) (by omega)
    have a2 : (nI E - 1023 + 127).toInt = (E : Int) - 1023 + 127 := tA a1 (by decide) (by omega) (by omega)
    rw [a2, tnI (by omega)]
    omega
  rw [eE, pk_shlN 23 23 (by decide) (by omega), fa_or, Nat.mul_comm (E - 896), ← Nat.two_pow_add_eq_or_of_lt (show t < 2 ^ 23 by omega), Nat.mul_comm (2 ^ 23)]
theorem c_fbits {f : UInt32} (h : NF f) : fX0_bitsOfFloat f = some f.toInt32 := by
  unfold fX0_bitsOfFloat
  rcases h with h | ⟨c, q, h, h1, h2, h3, h4⟩
  · have e0 : f.toNat = 0 := bits032 (UInt32.toNat_lt f) h
    rw [fcmp_fin h fc_0, if_neg (fun z => by have := cv_gt.mp z; rw [sg_f, iu_0] at this; omega)]
    have : f = 0 := UInt32.toNat_inj.mp e0
    rw [this]; rfl
  · have hc8 : c - 8388608 < 8388608 := by omega
    have hz : 0 < FP.Core.inUnits c q (min q (-149)) := by
      unfold FP.Core.inUnits
      exact Nat.mul_pos (by omega) (Nat.two_pow_pos _)
    rw [fcmp_fin h fc_0, if_pos (cv_gt.mpr (by rw [sg_f, sg_f, iu_0]; omega))]
    obtain ⟨fn, u1, u2, _, _⟩ := bits32 (UInt32.toNat_lt f) h h1
    have k : FP.Core.round FP.Core.b64 (fc f) = .fin false (c * 536870912) (q - 29) := by
      rw [h]
      refine rr_exact f64 (CN64 (by omega) (by omega) (by omega) (by omega)) (by rw [b64_qmax]; omega) (Or.inl ⟨by omega, ?_⟩)
      rw [show (q - (q - 29)).toNat = 29 by omega]
    obtain ⟨a, b⟩ := ed64 (CN64 (c := c * 536870912) (q := q - 29) (by omega) (by omega) (by omega) (by omega)) false
    rw [← k] at a b
    have dz := ((b64_dc a).trans b).trans k
    have gg : gD (FP.f2d f) = some (UInt64.ofNat (FP.Core.encode FP.Core.b64 (FP.Core.round FP.Core.b64 (fc f)))) := by
      rw [f2d_e (by rw [h]; intro z; cases z)]; exact b64_g a
    generalize UInt64.ofNat (FP.Core.encode FP.Core.b64 (FP.Core.round FP.Core.b64 (fc f))) = u at *
    rw [gg, obs, c_bits (Or.inr ⟨_, _, dz, by omega, by omega, by omega, by omega⟩), obs]
    obtain ⟨un, v1, v2, _, _⟩ := u_dc dz (by omega)
    have x52 : (lU u.toInt64 52).toBitVec.toNat = (q + 1046).toNat := by
      rw [lU_n (s := 52) (by decide +kernel) (by omega), un]
      omega
    have x29 : (lU u.toInt64 29).toBitVec.toNat = (q + 1046).toNat * 8388608 + (c - 8388608) := by
      rw [lU_n (s := 29) (by decide +kernel) (by omega), un]
      omega
    have y29 : ((lU u.toInt64 29) &&& 8388607).toBitVec.toNat = c - 8388608 := by
      show ((lU u.toInt64 29).toBitVec &&& (8388607 : Int64).toBitVec).toNat = _
      rw [BitVec.toNat_and, x29, show (8388607 : Int64).toBitVec.toNat = 2 ^ 23 - 1 by decide +kernel, Nat.and_two_pow_sub_one_eq_mod]
      omega
    rw [l2i_n x52, l2i_n y29, f_nI fn]
    have hE : (q + 150).toNat = (q + 1046).toNat - 896 := by omega
    rw [hE] at u1 u2 ⊢
    generalize (q + 1046).toNat = E at *
    rw [f_or (by omega) u2 hc8]
theorem n_fbits {f : UInt32} (h : NF f) : fJxf58ca_floatToIntBits_5c35a f = some f.toInt32 := by
  have e : FP.fcmp f f = some .eq := by
    rcases h with h | ⟨c, q, h, _⟩
    · rw [fcmp_fin h h, Int.compare_eq_eq.mpr rfl]
    · rw [fcmp_fin h h, Int.compare_eq_eq.mpr rfl]
  unfold fJxf58ca_floatToIntBits_5c35a fJxf58ca_isNaN_12338
  rw [e, if_pos (show Op.cmpValue (some .eq) .l = 0 by decide), obs, if_pos rfl]
/-- a whole number as a float, a quotient of two -/
theorem i2f_F {n : Nat} (h0 : n ≠ 0) (h : n < 16777216) : ∃ c j : Nat, fc (FP.i2f (nI n)) = .fin false c (-(j : Int)) ∧ 8388608 ≤ c ∧ c < 16777216 ∧ j ≤ 23 := by
  have l := Nat.log2_self_le h0
  have l2 : n < 2 ^ (n.log2 + 1) := Nat.lt_log2_self
  have l3 : n.log2 < 24 := (Nat.log2_lt h0).mpr h
  have j2 : 8388608 ≤ n * 2 ^ (23 - n.log2) := by
    have := Nat.mul_le_mul_right (2 ^ (23 - n.log2)) l
    rw [← Nat.pow_add, show n.log2 + (23 - n.log2) = 23 by omega] at this
    exact this
  have j3 : n * 2 ^ (23 - n.log2) < 16777216 := by
    have := Nat.mul_lt_mul_of_pos_right l2 (Nat.two_pow_pos (23 - n.log2))
    rw [← Nat.pow_add, show n.log2 + 1 + (23 - n.log2) = 24 by omega] at this
    exact this
  refine ⟨_, 23 - n.log2, ?_, j2, j3, by omega⟩
  have e : FP.i2f (nI n) = UInt32.ofNat (FP.Core.encode FP.Core.b32 (FP.Core.roundRatio FP.Core.b32 false n 1 0)) := by
    show UInt32.ofNat (FP.Core.fromInt FP.Core.b32 (nI n).toInt) = _
    rw [tnI (by omega)]
    unfold FP.Core.fromInt FP.Core.ofInt FP.Core.round
    dsimp only
    rw [decide_eq_false (by omega), Int.natAbs_natCast]
  have k : FP.Core.roundRatio FP.Core.b32 false n 1 0 = .fin false (n * 2 ^ (23 - n.log2)) (-((23 - n.log2 : Nat) : Int)) := by
    refine rr_exact f32 (CN32 j2 j3 (by omega) (by omega)) (by rw [b32_qmax]; omega) (Or.inl ⟨by omega, ?_⟩)
    rw [show (0 - -((23 - n.log2 : Nat) : Int)).toNat = 23 - n.log2 by omega]
  rw [e, k]
  obtain ⟨a, b⟩ := ed32 (CN32 j2 j3 (q := -((23 - n.log2 : Nat) : Int)) (by omega) (by omega)) false
  exact (b32_fc a).trans b
theorem lead_f {a b : Nat} (ha : 8388608 ≤ a) (ha' : a < 16777216) (hb : 8388608 ≤ b) (hb' : b < 16777216) : (b ≤ a ∧ FP.Core.leading a b = 0) ∨ (a < b ∧ FP.Core.leading a b = -1) := by
  have la : a.log2 = 23 := lg2 (k := 23) ha ha'
  have lb : b.log2 = 23 := lg2 (k := 23) hb hb'
  unfold FP.Core.leading
  dsimp only
  rw [la, lb, show (((23 : Nat) : Int) - ((23 : Nat) : Int)).toNat = 0 by omega, show (-(((23 : Nat) : Int) - ((23 : Nat) : Int))).toNat = 0 by omega, Nat.pow_zero, Nat.mul_one, Nat.mul_one]
  by_cases c : b ≤ a
  · rw [if_pos c]; exact Or.inl ⟨c, by omega⟩
  · rw [if_neg c]; exact Or.inr ⟨by omega, by omega⟩
theorem fdiv_NF {a b : Nat} (ha : a ≠ 0) (ha' : a < 16777216) (hb : b ≠ 0) (hb' : b < 16777216) : ∃ f, gF (FP.fdiv (FP.i2f (nI a)) (FP.i2f (nI b))) = some f ∧ NF f := by
  obtain ⟨c, i, e1, e2, e3, e4⟩ := i2f_F ha ha'
  obtain ⟨d, j, f1, f2, f3, f4⟩ := i2f_F hb hb'
  have fin : ∀ Q : Int, ∀ e : Int, e = -(i : Int) - -(j : Int) → FP.Core.leading c d + e - 23 = Q → e - 24 ≤ Q → Q ≤ e - 23 → 8388608 ≤ FP.Core.nearest (FP.Core.unitsNum c e Q) (FP.Core.unitsDen d e Q) → FP.Core.nearest (FP.Core.unitsNum c e Q) (FP.Core.unitsDen d e Q) ≤ 16777216 → ∃ f, gF (FP.fdiv (FP.i2f (nI a)) (FP.i2f (nI b))) = some f ∧ NF f := fun Q e he h1 h2 h3 m1 m2 => by
    obtain ⟨c', q', g1, g2, g3⟩ := rr_at f32 (s := false) (num := c) (den := d) (e := e) (Q := Q) (by omega) (by show FP.Core.leading c d + e - ((24 : Int) - 1) = Q; omega) (by rw [b32_qmin]; omega) (by rw [b32_qmax]; omega) rfl (by rw [b32_tails]; exact m1) (by rw [b32_tails]; exact m2)
    unfold CN at g2
    rw [b32_tails] at g2 g3
    have k : FP.Core.quotient FP.Core.b32 (fc (FP.i2f (nI a))) (fc (FP.i2f (nI b))) = .fin false c' q' := by
      rw [e1, f1, quo_fin (by omega), ← he]
      exact g1
    obtain ⟨x, y⟩ := ed32 (CN32 g2.1 (by omega) (q := q') (by omega) (by omega)) false
    rw [← k] at x y
    exact ⟨_, b32_g x, Or.inr ⟨c', q', ((b32_fc x).trans y).trans k, g2.1, by omega, by omega, by omega⟩⟩
  generalize he : -(i : Int) - -(j : Int) = e at *
  rcases lead_f e2 e3 f2 f3 with ⟨z, l⟩ | ⟨z, l⟩
  · refine fin (e - 23) e rfl (by rw [l]; omega) (by omega) (by omega) ?_ ?_
    · unfold FP.Core.unitsNum FP.Core.unitsDen
      rw [show (e - (e - 23)).toNat = 23 by omega, show (e - 23 - e).toNat = 0 by omega]
      exact near_ge (by omega) (by omega)
    · unfold FP.Core.unitsNum FP.Core.unitsDen
      rw [show (e - (e - 23)).toNat = 23 by omega, show (e - 23 - e).toNat = 0 by omega]
      exact near_le (by omega) (by omega)
  · refine fin (e - 24) e rfl (by rw [l]; omega) (by omega) (by omega) ?_ ?_
    · unfold FP.Core.unitsNum FP.Core.unitsDen
      rw [show (e - (e - 24)).toNat = 24 by omega, show (e - 24 - e).toNat = 0 by omega]
      exact near_ge (by omega) (by omega)
    · unfold FP.Core.unitsNum FP.Core.unitsDen
      rw [show (e - (e - 24)).toNat = 24 by omega, show (e - 24 - e).toNat = 0 by omega]
      exact near_le (by omega) (by omega)
theorem eq_meanAs {I : gM} (h : InvB I) {v w : Int32} {a : Int32} {b : Int32 × gM} (e1 : fX8_meanAs v w I = some a) (e2 : fX9_meanAs v w I = some b) : a = b.1 := by
  obtain ⟨A, hW, hC, hR⟩ := h.tab
  unfold fX8_meanAs at e1
  unfold fX9_meanAs at e2
  have t1 : (1 : Int32).toInt = 1 := by decide
  have hin := n_in w 0 1
  rw [t0i, t1] at hin
  rcases two_has h hW hC h.mi h.1.2.1 hR v with ⟨z1, r, z2⟩ | ⟨l, hl, rfl, hb, z1, R', J, ej, o, hJ, M1, G1, A1, R1, z2⟩
  · rw [z1, obs, if_pos rfl] at e1
    obtain rfl := Option.some.inj e1
    rcases hin with ⟨_, _, y⟩ | ⟨_, y⟩
    · rw [y, obs, if_neg (by decide), z2, obs, if_pos rfl] at e2
      cases e2; rfl
    · rw [y, obs, if_pos rfl] at e2
      cases e2; rfl
  · rw [z1, obs, if_neg (by decide), o.1] at e1
    rcases z2 with ⟨hz, z2⟩ | ⟨hz, z2⟩
    · rw [if_pos (by rw [hz]; rfl)] at e1
      obtain rfl := Option.some.inj e1
      rcases hin with ⟨_, _, y⟩ | ⟨_, y⟩
      · rw [y, obs, if_neg (by decide), z2, obs, if_pos rfl] at e2
        cases e2; rfl
      · rw [y, obs, if_pos rfl] at e2
        cases e2; rfl
    · rw [if_neg (show ¬ nI J = 0 from fun z => by have := nI_inj (b := 0) z (by omega) (by omega); omega)] at e1
      obtain ⟨u, f1, f2, f3, _⟩ := two_mean o hJ hz hl (fun j hj => (d99 M1 G1 A1 hW R1 o hJ hl hb hj).1)
      rcases oi e1 with ⟨c, e1⟩ | ⟨c, e1⟩
      · rw [Int32.lt_iff_toInt_lt, t0i] at c
        rcases hin with ⟨_, _, _⟩ | ⟨_, y⟩
        · omega
        · rw [y, obs, if_pos rfl] at e2
          cases e1; cases e2; rfl
      · rw [Int32.lt_iff_toInt_lt, t0i] at c
        rcases oi e1 with ⟨d, e1⟩ | ⟨d, e1⟩
        · rw [Int32.le_iff_toInt_le, t1] at d
          rcases hin with ⟨_, _, y⟩ | ⟨y, _⟩
          · rw [y, obs, if_neg (by decide), z2, obs, if_neg (show ¬ (1 : Int32) = 0 by decide)] at e2
            rw [f1, obs] at e1
            rcases oi e1 with ⟨x, e1⟩ | ⟨x, e1⟩
            · obtain ⟨f, g1, g2⟩ := d2f_NF f3
              rw [if_pos x, f2, obs, g1, obs, n_fbits g2, obs] at e2
              rw [g1, obs, c_fbits g2, obs] at e1
              cases e1; cases e2; rfl
            · rw [if_neg x, f2, obs] at e2
              cases e1; cases e2; rfl
          · exact absurd ⟨by omega, by omega⟩ y
        · rw [Int32.le_iff_toInt_le, t1] at d
          rcases hin with ⟨_, _, _⟩ | ⟨_, y⟩
          · omega
          · rw [y, obs, if_pos rfl] at e2
            cases e1; cases e2; rfl
theorem cnt_pos (K : Nat → Int32) (l : Nat) : ∀ J, (∀ j, j < J → mx0 (K (4 * j + l)) < 100) → 0 < J → ∃ v, v < 100 ∧ 0 < cntJ K l v J
  | 0, _, h => absurd h (Nat.lt_irrefl 0)
  | J + 1, h, _ => ⟨mx0 (K (4 * J + l)), h J (by omega), by
    show 0 < cntJ K l _ J + (if mx0 (K (4 * J + l)) = mx0 (K (4 * J + l)) then 1 else 0)
    rw [if_pos rfl]; omega⟩
theorem eq_skew {I : gM} (h : InvB I) {v : Int32} {a b : Int32 × gM} (e1 : fX8_skew v I = some a) (e2 : fX9_skew v a.2 = some b) : a.1 = b.1 := by
  obtain ⟨A, hW, hC, hR⟩ := h.tab
  have hMa : MI true I a.2 := by
    obtain ⟨p, ep, hp, _⟩ := t_skew8 v I h.1.1
    rw [e1] at ep
    obtain rfl := Option.some.inj ep
    exact hp
  have hRa := hR.hi hMa hW
  unfold fX8_skew at e1
  unfold fX9_skew at e2
  rcases two_has h hW hC hMa.re (A9.hi hMa h.1.2.1) hRa v with ⟨z1, r, z2⟩ | ⟨l, hl, rfl, hb, z1, R', J, ej, o, hJ, M1, G1, A1, R1, z2⟩
  · rw [z1, obs, if_pos rfl] at e1
    rw [z2, obs, if_pos rfl] at e2
    cases e1; cases e2; rfl
  · rw [z1, obs, if_neg (by decide), o.1] at e1
    rcases z2 with ⟨hz, z2⟩ | ⟨hz, z2⟩
    · rw [if_pos (by rw [hz]; rfl)] at e1
      rw [z2, obs, if_pos rfl] at e2
      cases e1; cases e2; rfl
    · rw [if_neg (show ¬ nI J = 0 from fun z => by have := nI_inj (b := 0) z (by omega) (by omega); omega)] at e1
      rw [z2, obs, if_neg (show ¬ (1 : Int32) = 0 by decide)] at e2
      dsimp only at e2
      -- the reference joins the same tables anew
      obtain ⟨R2, J2, ej2, o2, hJ2, _, _, _, M2, G2, fR2, fj2⟩ := cur_two h hW (by
        rcases Nat.eq_zero_or_pos A.1.length with z | z
        · exfalso
          have e : asA A = 0 := by unfold asA; rw [z]; rfl
          rw [e, Nat.zero_testBit] at hb
          exact absurd hb (by decide)
        · exact z) hC M1 R1
      have : J2 = J := by
        have := o.1.symm.trans o2.1
        exact (nI_inj this (by omega) (by omega)).symm
      subst this
      obtain ⟨r, er, c82, _, ck⟩ := n_cnt M1 ej2 M2 G2 hJ2 o2.2.1
      obtain ⟨e, _, e3, e4⟩ := fl4_at _ hW.2.2.2.1 _ (asA_lt hW) l hl hb
      obtain ⟨r', er', t1, t2⟩ := c_tally o2 hJ2 (by omega) e3 e4 hl
      have hc : ∀ v, v < 100 → cntJ (R2 80) l v J2 < 2 ^ 31 := fun v _ => by have := cntJ_le (R2 80) l v J2; omega
      obtain ⟨q, eq, hq⟩ := c_oftenest t1 hc
      obtain ⟨g, eg, _, _, g3⟩ := n_extreme hl (c82 l hl) hc 3
      have := hq.uniq (g3 rfl)
      subst this
      rw [er', obs, eq, obs] at e1
      rw [er, obs, eg, obs] at e2
      obtain ⟨A2, R2t⟩ := cur_more (I := I) (R0 := I) hW A1 R1 fR2 fj2
      obtain ⟨x, hx, cx⟩ := cnt_pos (R2 80) l J2 (fun j hj => by
        obtain ⟨d1, d2⟩ := d99 M2 G2 A2 hW R2t o2 hJ2 hl hb hj
        rw [d1, mx0_nI (by omega)]; exact d2) hz
      rcases hq with ⟨_, q0⟩ | ⟨y, y1, rfl, y2, _⟩
      · have q0 := q0 x hx
        dsimp only at q0
        omega
      · rw [if_neg (show ¬ nI y < 0 from fun z => by have := (nI_ltI (b := 0) (by omega) (by omega)).mp z; omega), if_pos (show nI y < 100 from (nI_ltI (b := 100) (by omega) (by omega)).mpr y1), rI_n y1 (by omega), obs, t1 y y1, t2 18 (by omega), o2.1] at e1
        rw [show (100 : Int32) = nI 100 from rfl, nI_mul, nI_add, rI_n (by omega) (by omega), obs, c82 l hl y y1, ck 62 (by omega) (by omega) (by omega), o2.2.1] at e2
        have cl := cntJ_le (R2 80) l y J2
        obtain ⟨f, f1, f2⟩ := fdiv_NF (a := cntJ (R2 80) l y J2) (b := J2) y2 (by omega) (by omega) (by omega)
        rw [f1, obs, c_fbits f2, obs] at e1
        rw [f1, obs, n_fbits f2, obs] at e2
        cases e1; cases e2; rfl
