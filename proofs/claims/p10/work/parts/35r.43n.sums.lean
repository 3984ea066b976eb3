/-! whole numbers as doubles, their sums and quotients, and the bits of a double -/
def isI (u : UInt64) (n : Nat) : Prop := (n = 0 ∧ dc u = .fin false 0 (-1074)) ∨ ∃ c j : Nat, dc u = .fin false c (-(j : Int)) ∧ c = n * 2 ^ j ∧ 4503599627370496 ≤ c ∧ c < 9007199254740992 ∧ j ≤ 52
theorem f64 : fmOK FP.Core.b64 := Or.inl rfl
theorem f32 : fmOK FP.Core.b32 := Or.inr rfl
theorem CN64 {c : Nat} {q : Int} (h1 : 4503599627370496 ≤ c) (h2 : c < 9007199254740992) (h3 : -1074 ≤ q) (h4 : q ≤ 971) : CN FP.Core.b64 c q := by
  unfold CN
  rw [b64_tails, b64_qmin, b64_qmax]
  exact ⟨h1, by omega, h3, h4⟩
theorem u_dc {u : UInt64} {c : Nat} {q : Int} (h : dc u = .fin false c q) (hc : 4503599627370496 ≤ c) : u.toNat = (q + 1075).toNat * 4503599627370496 + (c - 4503599627370496) ∧ 1 ≤ (q + 1075).toNat ∧ (q + 1075).toNat < 2047 ∧ c < 9007199254740992 ∧ -1074 ≤ q := bits64 (UInt64.toNat_lt u) h hc
theorem u_eq {u v : UInt64} {c : Nat} {q : Int} (h : dc u = .fin false c q) (h' : dc v = .fin false c q) (hc : 4503599627370496 ≤ c) : u = v := UInt64.toNat_inj.mp ((u_dc h hc).1.trans (u_dc h' hc).1.symm)
theorem isI_uniq {u v : UInt64} {n : Nat} (h : isI u n) (h' : isI v n) : u = v := by
  rcases h with ⟨h0, h⟩ | ⟨c, j, h, hc, h1, h2, h3⟩
  · rcases h' with ⟨_, h'⟩ | ⟨c, j, _, hc, h1, _⟩
    · exact UInt64.toNat_inj.mp ((bits0 (UInt64.toNat_lt u) h).trans (bits0 (UInt64.toNat_lt v) h').symm)
    · rw [h0, Nat.zero_mul] at hc; omega
  · rcases h' with ⟨h0, _⟩ | ⟨c', j', h', hc', h1', h2', h3'⟩
    · rw [h0, Nat.zero_mul] at hc; omega
    · have : j = j' := by
        rcases Nat.lt_trichotomy j j' with z | z | z
        · exfalso
          have e : c' = c * 2 ^ (j' - j) := by rw [hc, hc', Nat.mul_assoc, ← Nat.pow_add, show j + (j' - j) = j' by omega]
          have : 2 ^ 1 ≤ 2 ^ (j' - j) := Nat.pow_le_pow_right (by decide) (by omega)
          have : c * 2 ^ 1 ≤ c * 2 ^ (j' - j) := Nat.mul_le_mul_left _ this
          omega
        · exact z
        · exfalso
          have e : c = c' * 2 ^ (j - j') := by rw [hc, hc', Nat.mul_assoc, ← Nat.pow_add, show j' + (j - j') = j by omega]
          have : 2 ^ 1 ≤ 2 ^ (j - j') := Nat.pow_le_pow_right (by decide) (by omega)
          have : c' * 2 ^ 1 ≤ c' * 2 ^ (j - j') := Nat.mul_le_mul_left _ this
          omega
      subst this
      have : c = c' := hc.trans hc'.symm
      subst this
      exact u_eq h h' h1
/-- the normal form of a whole number -/
theorem norm_n {n : Nat} (h0 : n ≠ 0) (h : n < 9007199254740992) : ∃ j, j ≤ 52 ∧ 4503599627370496 ≤ n * 2 ^ j ∧ n * 2 ^ j < 9007199254740992 := by
  have l := Nat.log2_self_le h0
  have l2 : n < 2 ^ (n.log2 + 1) := Nat.lt_log2_self
  have l3 : n.log2 < 53 := (Nat.log2_lt h0).mpr h
  refine ⟨52 - n.log2, by omega, ?_, ?_⟩
  · have := Nat.mul_le_mul_right (2 ^ (52 - n.log2)) l
    rw [← Nat.pow_add, show n.log2 + (52 - n.log2) = 52 by omega] at this
    exact this
  · have := Nat.mul_lt_mul_of_pos_right l2 (Nat.two_pow_pos (52 - n.log2))
    rw [← Nat.pow_add, show n.log2 + 1 + (52 - n.log2) = 53 by omega] at this
    exact this
/-- a whole number of units of 2^e rounds to itself -/
theorem rd_int {n x : Nat} {e : Int} (s : Bool) (h0 : n ≠ 0) (h : n < 9007199254740992) (he : e ≤ 0) (hx : x = n * 2 ^ (-e).toNat) : ∃ c j : Nat, c = n * 2 ^ j ∧ 4503599627370496 ≤ c ∧ c < 9007199254740992 ∧ j ≤ 52 ∧ FP.Core.roundRatio FP.Core.b64 s x 1 e = .fin s c (-(j : Int)) := by
  obtain ⟨j, j1, j2, j3⟩ := norm_n h0 h
  refine ⟨_, j, rfl, j2, j3, j1, rr_exact f64 (CN64 j2 j3 (by omega) (by omega)) (by rw [b64_qmax]; omega) ?_⟩
  rcases (by omega : -(j : Int) ≤ e ∨ e ≤ -(j : Int)) with z | z
  · refine Or.inl ⟨z, ?_⟩
    rw [hx, Nat.mul_assoc, ← Nat.pow_add, show (-e).toNat + (e - -(j : Int)).toNat = j by omega]
  · refine Or.inr ⟨z, ?_⟩
    rw [hx, Nat.mul_assoc, ← Nat.pow_add, show j + (-(j : Int) - e).toNat = (-e).toNat by omega]
theorem isI_of {n : Nat} {x : Nat} {e : Int} (h : n < 9007199254740992) (he : e ≤ 0) (hx : x = n * 2 ^ (-e).toNat) : b64ok (FP.Core.encode FP.Core.b64 (FP.Core.roundRatio FP.Core.b64 false x 1 e)) ∧ isI (UInt64.ofNat (FP.Core.encode FP.Core.b64 (FP.Core.roundRatio FP.Core.b64 false x 1 e))) n := by
  by_cases h0 : n = 0
  · have e1 : FP.Core.roundRatio FP.Core.b64 false x 1 e = .fin false 0 (-1074) := by
      unfold FP.Core.roundRatio
      rw [if_pos (by rw [hx, h0, Nat.zero_mul]), b64_qmin]
    rw [e1]
    obtain ⟨a, b⟩ := ez64 false
    exact ⟨a, Or.inl ⟨h0, (b64_dc a).trans b⟩⟩
  · obtain ⟨c, j, c1, c2, c3, c4, c5⟩ := rd_int false h0 h he hx
    rw [c5]
    obtain ⟨a, b⟩ := ed64 (CN64 c2 c3 (by omega) (by omega)) (q := -(j : Int)) false
    exact ⟨a, Or.inr ⟨c, j, (b64_dc a).trans b, c1, c2, c3, c4⟩⟩
theorem i2d_I {n : Nat} (h : n < 2 ^ 31) : isI (FP.i2d (nI n)) n := by
  have e : FP.i2d (nI n) = UInt64.ofNat (FP.Core.encode FP.Core.b64 (FP.Core.roundRatio FP.Core.b64 false n 1 0)) := by
    show UInt64.ofNat (FP.Core.fromInt FP.Core.b64 (nI n).toInt) = _
    rw [tnI h]
    unfold FP.Core.fromInt FP.Core.ofInt FP.Core.round
    dsimp only
    rw [decide_eq_false (by omega), Int.natAbs_natCast]
  rw [e]
  exact (isI_of (n := n) (x := n) (e := 0) (by omega) (by omega) (by show n = n * 1; omega)).2
theorem l2d_I {n : Nat} {v : Int64} (h : n < 9007199254740992) (hv : v.toInt = n) : isI (FP.l2d v) n := by
  have e : FP.l2d v = UInt64.ofNat (FP.Core.encode FP.Core.b64 (FP.Core.roundRatio FP.Core.b64 false n 1 0)) := by
    show UInt64.ofNat (FP.Core.fromInt FP.Core.b64 v.toInt) = _
    rw [hv]
    unfold FP.Core.fromInt FP.Core.ofInt FP.Core.round
    dsimp only
    rw [decide_eq_false (by omega), Int.natAbs_natCast]
  rw [e]
  exact (isI_of (n := n) (x := n) (e := 0) h (by omega) (by show n = n * 1; omega)).2
theorem iu_at {n c : Nat} {q e : Int} (hc : c = n * 2 ^ (-q).toNat) (hq : q ≤ 0) (he : e ≤ q) : FP.Core.inUnits c q e = n * 2 ^ (-e).toNat := by
  unfold FP.Core.inUnits
  rw [hc, Nat.mul_assoc, ← Nat.pow_add, show (-q).toNat + (q - e).toNat = (-e).toNat by omega]
/-- a whole number, read -/
theorem isI.rd {u : UInt64} {n : Nat} (h : isI u n) : ∃ c q, dc u = .fin false c q ∧ q ≤ 0 ∧ c = n * 2 ^ (-q).toNat ∧ -1074 ≤ q := by
  rcases h with ⟨h0, h⟩ | ⟨c, j, h, hc, _, _, hj⟩
  · exact ⟨0, -1074, h, by omega, by rw [h0, Nat.zero_mul], by omega⟩
  · exact ⟨c, -(j : Int), h, by omega, by rw [hc, show (- -(j : Int)).toNat = j by omega], by omega⟩
theorem dadd_I {u v : UInt64} {a b : Nat} (h : isI u a) (h' : isI v b) (hs : a + b < 9007199254740992) : ∃ w, gD (FP.dadd u v) = some w ∧ isI w (a + b) := by
  obtain ⟨c, q, e1, e2, e3, _⟩ := h.rd
  obtain ⟨d, r, f1, f2, f3, _⟩ := h'.rd
  have hm : min q r ≤ 0 := by omega
  have su : FP.Core.sumUnits false c q false d r (min q r) = (((a + b) * 2 ^ (-(min q r)).toNat : Nat) : Int) := by
    unfold FP.Core.sumUnits
    rw [sg_f, sg_f, iu_at e3 e2 (by omega), iu_at f3 f2 (by omega), Nat.add_mul]
    omega
  have ss : FP.Core.sumSign false false (((a + b) * 2 ^ (-(min q r)).toNat : Nat) : Int) = false := by
    unfold FP.Core.sumSign
    split
    · rfl
    · exact decide_eq_false (by omega)
  have k : FP.Core.round FP.Core.b64 (FP.Core.exactSum (dc u) (dc v)) = FP.Core.roundRatio FP.Core.b64 false ((a + b) * 2 ^ (-(min q r)).toNat) 1 (min q r) := by
    rw [e1, f1]
    show FP.Core.round FP.Core.b64 (.fin (FP.Core.sumSign false false (FP.Core.sumUnits false c q false d r (min q r))) (FP.Core.sumUnits false c q false d r (min q r)).natAbs (min q r)) = _
    rw [su, ss, Int.natAbs_natCast]
    rfl
  obtain ⟨g1, g2⟩ := isI_of hs hm (x := (a + b) * 2 ^ (-(min q r)).toNat) rfl
  refine ⟨_, ?_, g2⟩
  rw [← k] at g1 ⊢
  exact b64_g g1
/-- nought, or a normal number above it -/
def NB (u : UInt64) : Prop := dc u = .fin false 0 (-1074) ∨ ∃ c q, dc u = .fin false c q ∧ 4503599627370496 ≤ c ∧ c < 9007199254740992 ∧ -900 ≤ q ∧ q ≤ 900
theorem lead_d {a b : Nat} (ha : 4503599627370496 ≤ a) (ha' : a < 9007199254740992) (hb : 4503599627370496 ≤ b) (hb' : b < 9007199254740992) : (b ≤ a ∧ FP.Core.leading a b = 0) ∨ (a < b ∧ FP.Core.leading a b = -1) := by
  have la : a.log2 = 52 := lg2 (k := 52) ha ha'
  have lb : b.log2 = 52 := lg2 (k := 52) hb hb'
  unfold FP.Core.leading
  dsimp only
  rw [la, lb, show (((52 : Nat) : Int) - ((52 : Nat) : Int)).toNat = 0 by omega, show (-(((52 : Nat) : Int) - ((52 : Nat) : Int))).toNat = 0 by omega, Nat.pow_zero, Nat.mul_one, Nat.mul_one]
  by_cases c : b ≤ a
  · rw [if_pos c]; exact Or.inl ⟨c, by omega⟩
  · rw [if_neg c]; exact Or.inr ⟨by omega, by omega⟩
/-- a quotient of normal numbers -/
theorem quo64 {a b : Nat} {e : Int} (ha : 4503599627370496 ≤ a) (ha' : a < 9007199254740992) (hb : 4503599627370496 ≤ b) (hb' : b < 9007199254740992) (he : -900 ≤ e ∧ e ≤ 900) : ∃ c q, FP.Core.roundRatio FP.Core.b64 false a b e = .fin false c q ∧ 4503599627370496 ≤ c ∧ c < 9007199254740992 ∧ e - 53 ≤ q ∧ q ≤ e - 51 := by
  have fin : ∀ Q, FP.Core.leading a b + e - 52 = Q → e - 53 ≤ Q → Q ≤ e - 52 → ∀ m, FP.Core.nearest (FP.Core.unitsNum a e Q) (FP.Core.unitsDen b e Q) = m → 4503599627370496 ≤ m → m ≤ 9007199254740992 → ∃ c q, FP.Core.roundRatio FP.Core.b64 false a b e = .fin false c q ∧ 4503599627370496 ≤ c ∧ c < 9007199254740992 ∧ e - 53 ≤ q ∧ q ≤ e - 51 := fun Q h1 h2 h3 m h4 h5 h6 => by
    obtain ⟨c, q, g1, g2, g3⟩ := rr_at f64 (s := false) (num := a) (den := b) (m := m) (e := e) (Q := Q) (by omega) (by show FP.Core.leading a b + e - ((53 : Int) - 1) = Q; omega) (by rw [b64_qmin]; omega) (by rw [b64_qmax]; omega) h4 (by rw [b64_tails]; exact h5) (by rw [b64_tails]; omega)
    unfold CN at g2
    rw [b64_tails] at g2 g3
    exact ⟨c, q, g1, g2.1, by omega, by omega, by omega⟩
  rcases lead_d ha ha' hb hb' with ⟨z, l⟩ | ⟨z, l⟩
  · refine fin (e - 52) (by rw [l]; omega) (by omega) (by omega) _ rfl ?_ ?_
    · unfold FP.Core.unitsNum FP.Core.unitsDen
      rw [show (e - (e - 52)).toNat = 52 by omega, show (e - 52 - e).toNat = 0 by omega]
      exact near_ge (by omega) (by omega)
    · unfold FP.Core.unitsNum FP.Core.unitsDen
      rw [show (e - (e - 52)).toNat = 52 by omega, show (e - 52 - e).toNat = 0 by omega]
      exact near_le (by omega) (by omega)
  · refine fin (e - 53) (by rw [l]; omega) (by omega) (by omega) _ rfl ?_ ?_
    · unfold FP.Core.unitsNum FP.Core.unitsDen
      rw [show (e - (e - 53)).toNat = 53 by omega, show (e - 53 - e).toNat = 0 by omega]
      exact near_ge (by omega) (by omega)
    · unfold FP.Core.unitsNum FP.Core.unitsDen
      rw [show (e - (e - 53)).toNat = 53 by omega, show (e - 53 - e).toNat = 0 by omega]
      exact near_le (by omega) (by omega)
/-- a double that is nought or normal, by a whole number -/
theorem ddiv_NB {u v : UInt64} {b : Nat} (h : dc u = .fin false 0 (-1074) ∨ ∃ c q, dc u = .fin false c q ∧ 4503599627370496 ≤ c ∧ c < 9007199254740992 ∧ -700 ≤ q ∧ q ≤ 700) (h' : isI v b) (hb : b ≠ 0) : ∃ w, gD (FP.ddiv u v) = some w ∧ NB w := by
  rcases h' with ⟨z, _⟩ | ⟨d, j, f1, _, f2, f3, f4⟩
  · exact absurd z hb
  have dz : d ≠ 0 := by omega
  rcases h with h | ⟨c, q, e1, e2, e3, e4, e5⟩
  · have k : FP.Core.quotient FP.Core.b64 (dc u) (dc v) = .fin false 0 (-1074) := by
      rw [h, f1]
      show (if d = 0 then _ else FP.Core.roundRatio FP.Core.b64 (false != false) 0 d _) = _
      rw [if_neg dz]
      unfold FP.Core.roundRatio
      rw [if_pos rfl, b64_qmin]; rfl
    obtain ⟨a, b⟩ := ez64 false
    rw [← k] at a b
    exact ⟨_, b64_g a, Or.inl (((b64_dc a).trans b).trans k)⟩
  · obtain ⟨c', q', g1, g2, g3, g4, g5⟩ := quo64 (e := q - -(j : Int)) e2 e3 f2 f3 ⟨by omega, by omega⟩
    have k : FP.Core.quotient FP.Core.b64 (dc u) (dc v) = .fin false c' q' := by
      rw [e1, f1]
      show (if d = 0 then _ else FP.Core.roundRatio FP.Core.b64 (false != false) c d (q - -(j : Int))) = _
      rw [if_neg dz]
      exact g1
    obtain ⟨a, b⟩ := ed64 (CN64 g2 g3 (q := q') (by omega) (by omega)) false
    rw [← k] at a b
    exact ⟨_, b64_g a, Or.inr ⟨c', q', ((b64_dc a).trans b).trans k, g2, g3, by omega, by omega⟩⟩
