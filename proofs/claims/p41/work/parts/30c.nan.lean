section P_30c_nan
/-! no result is a NaN: the two formats -/
theorem b64_tails : FP.Core.b64.tails = 4503599627370496 := by decide
theorem b64_exps : FP.Core.b64.exps = 2048 := by decide
theorem b64_qmin : FP.Core.b64.qmin = -1074 := by decide
theorem b64_qmax : FP.Core.b64.qmax = 971 := by decide
theorem b64_asm (s : Bool) {e t : Nat} (he : e < 2048) (ht : t < 4503599627370496) : FP.Core.fieldT FP.Core.b64 (FP.Core.assemble FP.Core.b64 s e t) = t ∧ FP.Core.fieldE FP.Core.b64 (FP.Core.assemble FP.Core.b64 s e t) = e ∧ FP.Core.fieldS FP.Core.b64 (FP.Core.assemble FP.Core.b64 s e t) = s ∧ FP.Core.assemble FP.Core.b64 s e t < 18446744073709551616 ∧ FP.Core.assemble FP.Core.b64 s e t % 9223372036854775808 = e * 4503599627370496 + t := by
  unfold FP.Core.fieldT FP.Core.fieldE FP.Core.fieldS FP.Core.assemble
  rw [b64_tails, b64_exps]
  cases s
  · have h0 : (false.toNat * 2048 + e) * 4503599627370496 + t = e * 4503599627370496 + t := by show (0 * 2048 + e) * 4503599627370496 + t = _; omega
    rw [h0]
    refine ⟨by omega, by omega, ?_, by omega, by omega⟩
    rw [show (e * 4503599627370496 + t) / 4503599627370496 / 2048 % 2 = 0 by omega]; rfl
  · have h0 : (true.toNat * 2048 + e) * 4503599627370496 + t = (2048 + e) * 4503599627370496 + t := by show (1 * 2048 + e) * 4503599627370496 + t = _; omega
    rw [h0]
    refine ⟨by omega, by omega, ?_, by omega, by omega⟩
    rw [show ((2048 + e) * 4503599627370496 + t) / 4503599627370496 / 2048 % 2 = 1 by omega]; rfl
/-- an encoding that is no NaN -/
def b64ok (x : Nat) : Prop := x < 18446744073709551616 ∧ x % 9223372036854775808 ≤ 9218868437227405312
theorem b64_fin (s : Bool) {c : Nat} {q : Int} (hc : c < 9007199254740992) (h1 : -1074 ≤ q) (h2 : q ≤ 971) : b64ok (FP.Core.encode FP.Core.b64 (.fin s c q)) ∧ ∃ q', FP.Core.decode FP.Core.b64 (FP.Core.encode FP.Core.b64 (.fin s c q)) = .fin s c q' := by
  unfold FP.Core.encode
  dsimp only
  rw [b64_tails, b64_qmin]
  by_cases h : c < 4503599627370496
  · rw [if_pos h]
    obtain ⟨a1, a2, a3, a4, a5⟩ := b64_asm s (e := 0) (t := c) (by omega) h
    refine ⟨⟨a4, by omega⟩, ?_⟩
    unfold FP.Core.decode
    rw [a1, a2, a3, b64_exps, if_neg (by omega), if_pos rfl]
    exact ⟨_, rfl⟩
  · rw [if_neg h]
    obtain ⟨a1, a2, a3, a4, a5⟩ := b64_asm s (e := (q - (-1074)).toNat + 1) (t := c - 4503599627370496) (by omega) (by omega)
    refine ⟨⟨a4, by omega⟩, ?_⟩
    unfold FP.Core.decode
    rw [a1, a2, a3, b64_exps, b64_tails, if_neg (by omega), if_neg (by omega), show 4503599627370496 + (c - 4503599627370496) = c by omega]
    exact ⟨_, rfl⟩
theorem b64_inf (s : Bool) : b64ok (FP.Core.encode FP.Core.b64 (.inf s)) ∧ FP.Core.decode FP.Core.b64 (FP.Core.encode FP.Core.b64 (.inf s)) = .inf s := by
  unfold FP.Core.encode
  dsimp only
  rw [b64_exps]
  obtain ⟨a1, a2, a3, a4, a5⟩ := b64_asm s (e := 2048 - 1) (t := 0) (by omega) (by omega)
  refine ⟨⟨a4, by omega⟩, ?_⟩
  unfold FP.Core.decode
  rw [a1, a2, a3, b64_exps, if_pos rfl, if_pos rfl]
/-- what rounding makes of a magnitude -/
theorem b64_rr (s : Bool) (num den : Nat) (e : Int) : b64ok (FP.Core.encode FP.Core.b64 (FP.Core.roundRatio FP.Core.b64 s num den e)) ∧ ((∃ c q, FP.Core.decode FP.Core.b64 (FP.Core.encode FP.Core.b64 (FP.Core.roundRatio FP.Core.b64 s num den e)) = .fin s c q ∧ (num = 0 → c = 0)) ∨ (FP.Core.decode FP.Core.b64 (FP.Core.encode FP.Core.b64 (FP.Core.roundRatio FP.Core.b64 s num den e)) = .inf s ∧ num ≠ 0)) := by
  have fin : ∀ (c : Nat) (q : Int), c < 9007199254740992 → -1074 ≤ q → q ≤ 971 → (num = 0 → c = 0) → b64ok (FP.Core.encode FP.Core.b64 (.fin s c q)) ∧ ((∃ c1 q', FP.Core.decode FP.Core.b64 (FP.Core.encode FP.Core.b64 (.fin s c q)) = .fin s c1 q' ∧ (num = 0 → c1 = 0)) ∨ (FP.Core.decode FP.Core.b64 (FP.Core.encode FP.Core.b64 (.fin s c q)) = .inf s ∧ num ≠ 0)) := fun c q a1 a2 a3 a4 => by
    obtain ⟨b1, q', b2⟩ := b64_fin s a1 a2 a3
    exact ⟨b1, Or.inl ⟨c, q', b2, a4⟩⟩
  unfold FP.Core.roundRatio
  by_cases h : num = 0
  · rw [if_pos h, b64_qmin]
    exact fin 0 (-1074) (by omega) (by omega) (by omega) (fun _ => rfl)
  · rw [if_neg h]
    have bnd : ∀ (c : Nat) (q : Int), c < 9007199254740992 → -1074 ≤ q → b64ok (FP.Core.encode FP.Core.b64 (FP.Core.bound FP.Core.b64 s c q)) ∧ ((∃ c' q', FP.Core.decode FP.Core.b64 (FP.Core.encode FP.Core.b64 (FP.Core.bound FP.Core.b64 s c q)) = .fin s c' q' ∧ (num = 0 → c' = 0)) ∨ (FP.Core.decode FP.Core.b64 (FP.Core.encode FP.Core.b64 (FP.Core.bound FP.Core.b64 s c q)) = .inf s ∧ num ≠ 0)) := fun c q a1 a2 => by
      unfold FP.Core.bound
      rw [b64_qmax]
      by_cases z : q ≤ 971
      · rw [if_pos z]
        exact fin c q a1 a2 z (fun y => absurd y h)
      · rw [if_neg z]
        obtain ⟨b1, b2⟩ := b64_inf s
        exact ⟨b1, Or.inr ⟨b2, h⟩⟩
    have hq : -1074 ≤ FP.Core.quantum FP.Core.b64 num den e := by
      unfold FP.Core.quantum
      rw [b64_qmin]; exact Int.le_max_left _ _
    unfold FP.Core.roundAt FP.Core.settle
    by_cases z : FP.Core.nearest (FP.Core.unitsNum num e (FP.Core.quantum FP.Core.b64 num den e)) (FP.Core.unitsDen den e (FP.Core.quantum FP.Core.b64 num den e)) < 2 ^ FP.Core.b64.p
    · rw [if_pos z]
      exact bnd _ _ (by have : (2 : Nat) ^ FP.Core.b64.p = 9007199254740992 := by decide
                        omega) hq
    · rw [if_neg z, b64_tails]
      exact bnd _ _ (by omega) (by omega)
theorem b64_g {x : Nat} (h : b64ok x) : gD (.ofNat x) = some (.ofNat x) := by
  unfold gD
  rw [if_pos]
  rw [UInt64.le_iff_toNat_le, UInt64.toNat_and, UInt64.toNat_ofNat_of_lt' h.1]
  show x &&& 0x7fffffffffffffff ≤ 9218868437227405312
  rw [show (0x7fffffffffffffff : Nat) = 2 ^ 63 - 1 by decide, Nat.and_two_pow_sub_one_eq_mod]
  exact h.2
theorem b64_nat {x : Nat} (h : b64ok x) : (UInt64.ofNat x).toNat = x := UInt64.toNat_ofNat_of_lt' h.1
/-- a whole number -/
theorem b64_int (i : Int) (h : i.natAbs < 2 ^ 64) : b64ok (FP.Core.fromInt FP.Core.b64 i) ∧ ∃ c q, FP.Core.decode FP.Core.b64 (FP.Core.fromInt FP.Core.b64 i) = .fin (decide (i < 0)) c q ∧ (i = 0 ↔ c = 0) := by
  unfold FP.Core.fromInt FP.Core.ofInt FP.Core.round
  dsimp only
  obtain ⟨s, hs⟩ : ∃ s, s = decide (i < 0) := ⟨_, rfl⟩
  rw [← hs]
  by_cases z : i.natAbs = 0
  · obtain ⟨a1, a2⟩ := b64_rr s i.natAbs 1 0
    refine ⟨a1, ?_⟩
    rcases a2 with ⟨c, q, b1, b2⟩ | ⟨_, b2⟩
    · exact ⟨c, q, b1, fun _ => b2 z, fun _ => by omega⟩
    · exact absurd z b2
  · have hl : FP.Core.leading i.natAbs 1 = (i.natAbs.log2 : Int) := by
      unfold FP.Core.leading
      dsimp only
      have l1 : Nat.log2 1 = 0 := by decide
      rw [l1]
      have h1 := Nat.log2_self_le z
      rw [if_pos]
      · omega
      · rw [show ((i.natAbs.log2 : Int) - ((0 : Nat) : Int)).toNat = i.natAbs.log2 by omega, show (-((i.natAbs.log2 : Int) - ((0 : Nat) : Int))).toNat = 0 by omega]
        omega
    have hlog : i.natAbs.log2 < 64 := (Nat.log2_lt z).mpr h
    have hq : FP.Core.quantum FP.Core.b64 i.natAbs 1 0 = (i.natAbs.log2 : Int) - (53 - 1) := by
      unfold FP.Core.quantum
      rw [hl, b64_qmin]
      show max (-1074 : Int) ((i.natAbs.log2 : Int) + 0 - ((53 : Nat) - 1 : Int)) = _
      omega
    have hn : FP.Core.roundRatio FP.Core.b64 s i.natAbs 1 0 = FP.Core.roundAt FP.Core.b64 s i.natAbs 1 0 ((i.natAbs.log2 : Int) - (53 - 1)) := by
      unfold FP.Core.roundRatio
      rw [if_neg z, hq]
    rw [hn]
    have fin : ∀ (c : Nat) (q : Int), c < 9007199254740992 → -1074 ≤ q → q ≤ 971 → c ≠ 0 → b64ok (FP.Core.encode FP.Core.b64 (.fin s c q)) ∧ ∃ c1 q', FP.Core.decode FP.Core.b64 (FP.Core.encode FP.Core.b64 (.fin s c q)) = .fin s c1 q' ∧ (i = 0 ↔ c1 = 0) := fun c q a1 a2 a3 a4 => by
      obtain ⟨b1, q', b2⟩ := b64_fin s a1 a2 a3
      exact ⟨b1, c, q', b2, fun y => by omega, fun y => absurd y a4⟩
    have bnd : ∀ (c : Nat) (q : Int), c < 9007199254740992 → -1074 ≤ q → q ≤ 971 → c ≠ 0 → b64ok (FP.Core.encode FP.Core.b64 (FP.Core.bound FP.Core.b64 s c q)) ∧ ∃ c' q', FP.Core.decode FP.Core.b64 (FP.Core.encode FP.Core.b64 (FP.Core.bound FP.Core.b64 s c q)) = .fin s c' q' ∧ (i = 0 ↔ c' = 0) := fun c q a1 a2 a3 a4 => by
      unfold FP.Core.bound
      rw [b64_qmax, if_pos a3]
      exact fin c q a1 a2 a3 a4
    unfold FP.Core.roundAt FP.Core.settle
    have P2 : (2 : Nat) ^ FP.Core.b64.p = 9007199254740992 := by decide
    have nz : FP.Core.nearest (FP.Core.unitsNum i.natAbs 0 ((i.natAbs.log2 : Int) - (53 - 1))) (FP.Core.unitsDen 1 0 ((i.natAbs.log2 : Int) - (53 - 1))) ≠ 0 := by
      unfold FP.Core.unitsNum FP.Core.unitsDen
      by_cases y : i.natAbs.log2 ≤ 53 - 1
      · rw [show (((i.natAbs.log2 : Int) - (53 - 1)) - 0).toNat = 0 by omega]
        have hp : 0 < 2 ^ (0 - ((i.natAbs.log2 : Int) - (53 - 1))).toNat := Nat.pow_pos (by omega)
        have hm : 0 < i.natAbs * 2 ^ (0 - ((i.natAbs.log2 : Int) - (53 - 1))).toNat := Nat.mul_pos (by omega) hp
        generalize i.natAbs * 2 ^ (0 - ((i.natAbs.log2 : Int) - (53 - 1))).toNat = m at hm
        unfold FP.Core.nearest
        rw [show 1 * 2 ^ 0 = 1 from rfl, if_pos (by omega)]
        omega
      · rw [show (0 - ((i.natAbs.log2 : Int) - (53 - 1))).toNat = 0 by omega]
        have h1 := Nat.log2_self_le z
        have h2 : 2 ^ (((i.natAbs.log2 : Int) - (53 - 1)) - 0).toNat ≤ i.natAbs := Nat.le_trans (Nat.pow_le_pow_right (by omega) (by omega)) h1
        have hp : 0 < 2 ^ (((i.natAbs.log2 : Int) - (53 - 1)) - 0).toNat := Nat.pow_pos (by omega)
        rw [Nat.pow_zero, Nat.mul_one, Nat.one_mul]
        generalize 2 ^ (((i.natAbs.log2 : Int) - (53 - 1)) - 0).toNat = den at h2 hp
        have h3 : 1 ≤ i.natAbs / den := (Nat.le_div_iff_mul_le hp).mpr (by omega)
        unfold FP.Core.nearest
        split
        · omega
        · split <;> omega
    by_cases y : FP.Core.nearest (FP.Core.unitsNum i.natAbs 0 ((i.natAbs.log2 : Int) - (53 - 1))) (FP.Core.unitsDen 1 0 ((i.natAbs.log2 : Int) - (53 - 1))) < 2 ^ FP.Core.b64.p
    · rw [if_pos y]
      exact bnd _ _ (by omega) (by omega) (by omega) nz
    · rw [if_neg y, b64_tails]
      exact bnd _ _ (by omega) (by omega) (by omega) (by omega)
theorem b32_tails : FP.Core.b32.tails = 8388608 := by decide
theorem b32_exps : FP.Core.b32.exps = 256 := by decide
theorem b32_qmin : FP.Core.b32.qmin = -149 := by decide
theorem b32_qmax : FP.Core.b32.qmax = 104 := by decide
theorem b32_asm (s : Bool) {e t : Nat} (he : e < 256) (ht : t < 8388608) : FP.Core.fieldT FP.Core.b32 (FP.Core.assemble FP.Core.b32 s e t) = t ∧ FP.Core.fieldE FP.Core.b32 (FP.Core.assemble FP.Core.b32 s e t) = e ∧ FP.Core.fieldS FP.Core.b32 (FP.Core.assemble FP.Core.b32 s e t) = s ∧ FP.Core.assemble FP.Core.b32 s e t < 4294967296 ∧ FP.Core.assemble FP.Core.b32 s e t % 2147483648 = e * 8388608 + t := by
  unfold FP.Core.fieldT FP.Core.fieldE FP.Core.fieldS FP.Core.assemble
  rw [b32_tails, b32_exps]
  cases s
  · have h0 : (false.toNat * 256 + e) * 8388608 + t = e * 8388608 + t := by show (0 * 256 + e) * 8388608 + t = _; omega
    rw [h0]
    refine ⟨by omega, by omega, ?_, by omega, by omega⟩
    rw [show (e * 8388608 + t) / 8388608 / 256 % 2 = 0 by omega]; rfl
  · have h0 : (true.toNat * 256 + e) * 8388608 + t = (256 + e) * 8388608 + t := by show (1 * 256 + e) * 8388608 + t = _; omega
    rw [h0]
    refine ⟨by omega, by omega, ?_, by omega, by omega⟩
    rw [show ((256 + e) * 8388608 + t) / 8388608 / 256 % 2 = 1 by omega]; rfl
/-- an encoding that is no NaN -/
def b32ok (x : Nat) : Prop := x < 4294967296 ∧ x % 2147483648 ≤ 2139095040
theorem b32_fin (s : Bool) {c : Nat} {q : Int} (hc : c < 16777216) (h1 : -149 ≤ q) (h2 : q ≤ 104) : b32ok (FP.Core.encode FP.Core.b32 (.fin s c q)) ∧ ∃ q', FP.Core.decode FP.Core.b32 (FP.Core.encode FP.Core.b32 (.fin s c q)) = .fin s c q' := by
  unfold FP.Core.encode
  dsimp only
  rw [b32_tails, b32_qmin]
  by_cases h : c < 8388608
  · rw [if_pos h]
    obtain ⟨a1, a2, a3, a4, a5⟩ := b32_asm s (e := 0) (t := c) (by omega) h
    refine ⟨⟨a4, by omega⟩, ?_⟩
    unfold FP.Core.decode
    rw [a1, a2, a3, b32_exps, if_neg (by omega), if_pos rfl]
    exact ⟨_, rfl⟩
  · rw [if_neg h]
    obtain ⟨a1, a2, a3, a4, a5⟩ := b32_asm s (e := (q - (-149)).toNat + 1) (t := c - 8388608) (by omega) (by omega)
    refine ⟨⟨a4, by omega⟩, ?_⟩
    unfold FP.Core.decode
    rw [a1, a2, a3, b32_exps, b32_tails, if_neg (by omega), if_neg (by omega), show 8388608 + (c - 8388608) = c by omega]
    exact ⟨_, rfl⟩
theorem b32_inf (s : Bool) : b32ok (FP.Core.encode FP.Core.b32 (.inf s)) ∧ FP.Core.decode FP.Core.b32 (FP.Core.encode FP.Core.b32 (.inf s)) = .inf s := by
  unfold FP.Core.encode
  dsimp only
  rw [b32_exps]
  obtain ⟨a1, a2, a3, a4, a5⟩ := b32_asm s (e := 256 - 1) (t := 0) (by omega) (by omega)
  refine ⟨⟨a4, by omega⟩, ?_⟩
  unfold FP.Core.decode
  rw [a1, a2, a3, b32_exps, if_pos rfl, if_pos rfl]
/-- what rounding makes of a magnitude -/
theorem b32_rr (s : Bool) (num den : Nat) (e : Int) : b32ok (FP.Core.encode FP.Core.b32 (FP.Core.roundRatio FP.Core.b32 s num den e)) ∧ ((∃ c q, FP.Core.decode FP.Core.b32 (FP.Core.encode FP.Core.b32 (FP.Core.roundRatio FP.Core.b32 s num den e)) = .fin s c q ∧ (num = 0 → c = 0)) ∨ (FP.Core.decode FP.Core.b32 (FP.Core.encode FP.Core.b32 (FP.Core.roundRatio FP.Core.b32 s num den e)) = .inf s ∧ num ≠ 0)) := by
  have fin : ∀ (c : Nat) (q : Int), c < 16777216 → -149 ≤ q → q ≤ 104 → (num = 0 → c = 0) → b32ok (FP.Core.encode FP.Core.b32 (.fin s c q)) ∧ ((∃ c1 q', FP.Core.decode FP.Core.b32 (FP.Core.encode FP.Core.b32 (.fin s c q)) = .fin s c1 q' ∧ (num = 0 → c1 = 0)) ∨ (FP.Core.decode FP.Core.b32 (FP.Core.encode FP.Core.b32 (.fin s c q)) = .inf s ∧ num ≠ 0)) := fun c q a1 a2 a3 a4 => by
    obtain ⟨b1, q', b2⟩ := b32_fin s a1 a2 a3
    exact ⟨b1, Or.inl ⟨c, q', b2, a4⟩⟩
  unfold FP.Core.roundRatio
  by_cases h : num = 0
  · rw [if_pos h, b32_qmin]
    exact fin 0 (-149) (by omega) (by omega) (by omega) (fun _ => rfl)
  · rw [if_neg h]
    have bnd : ∀ (c : Nat) (q : Int), c < 16777216 → -149 ≤ q → b32ok (FP.Core.encode FP.Core.b32 (FP.Core.bound FP.Core.b32 s c q)) ∧ ((∃ c' q', FP.Core.decode FP.Core.b32 (FP.Core.encode FP.Core.b32 (FP.Core.bound FP.Core.b32 s c q)) = .fin s c' q' ∧ (num = 0 → c' = 0)) ∨ (FP.Core.decode FP.Core.b32 (FP.Core.encode FP.Core.b32 (FP.Core.bound FP.Core.b32 s c q)) = .inf s ∧ num ≠ 0)) := fun c q a1 a2 => by
      unfold FP.Core.bound
      rw [b32_qmax]
      by_cases z : q ≤ 104
      · rw [if_pos z]
        exact fin c q a1 a2 z (fun y => absurd y h)
      · rw [if_neg z]
        obtain ⟨b1, b2⟩ := b32_inf s
        exact ⟨b1, Or.inr ⟨b2, h⟩⟩
    have hq : -149 ≤ FP.Core.quantum FP.Core.b32 num den e := by
      unfold FP.Core.quantum
      rw [b32_qmin]; exact Int.le_max_left _ _
    unfold FP.Core.roundAt FP.Core.settle
    by_cases z : FP.Core.nearest (FP.Core.unitsNum num e (FP.Core.quantum FP.Core.b32 num den e)) (FP.Core.unitsDen den e (FP.Core.quantum FP.Core.b32 num den e)) < 2 ^ FP.Core.b32.p
    · rw [if_pos z]
      exact bnd _ _ (by have : (2 : Nat) ^ FP.Core.b32.p = 16777216 := by decide
                        omega) hq
    · rw [if_neg z, b32_tails]
      exact bnd _ _ (by omega) (by omega)
theorem b32_g {x : Nat} (h : b32ok x) : gF (.ofNat x) = some (.ofNat x) := by
  unfold gF
  rw [if_pos]
  rw [UInt32.le_iff_toNat_le, UInt32.toNat_and, UInt32.toNat_ofNat_of_lt' h.1]
  show x &&& 0x7fffffff ≤ 2139095040
  rw [show (0x7fffffff : Nat) = 2 ^ 31 - 1 by decide, Nat.and_two_pow_sub_one_eq_mod]
  exact h.2
theorem b32_nat {x : Nat} (h : b32ok x) : (UInt32.ofNat x).toNat = x := UInt32.toNat_ofNat_of_lt' h.1
/-- a whole number -/
theorem b32_int (i : Int) (h : i.natAbs < 2 ^ 64) : b32ok (FP.Core.fromInt FP.Core.b32 i) ∧ ∃ c q, FP.Core.decode FP.Core.b32 (FP.Core.fromInt FP.Core.b32 i) = .fin (decide (i < 0)) c q ∧ (i = 0 ↔ c = 0) := by
  unfold FP.Core.fromInt FP.Core.ofInt FP.Core.round
  dsimp only
  obtain ⟨s, hs⟩ : ∃ s, s = decide (i < 0) := ⟨_, rfl⟩
  rw [← hs]
  by_cases z : i.natAbs = 0
  · obtain ⟨a1, a2⟩ := b32_rr s i.natAbs 1 0
    refine ⟨a1, ?_⟩
    rcases a2 with ⟨c, q, b1, b2⟩ | ⟨_, b2⟩
    · exact ⟨c, q, b1, fun _ => b2 z, fun _ => by omega⟩
    · exact absurd z b2
  · have hl : FP.Core.leading i.natAbs 1 = (i.natAbs.log2 : Int) := by
      unfold FP.Core.leading
      dsimp only
      have l1 : Nat.log2 1 = 0 := by decide
      rw [l1]
      have h1 := Nat.log2_self_le z
      rw [if_pos]
      · omega
      · rw [show ((i.natAbs.log2 : Int) - ((0 : Nat) : Int)).toNat = i.natAbs.log2 by omega, show (-((i.natAbs.log2 : Int) - ((0 : Nat) : Int))).toNat = 0 by omega]
        omega
    have hlog : i.natAbs.log2 < 64 := (Nat.log2_lt z).mpr h
    have hq : FP.Core.quantum FP.Core.b32 i.natAbs 1 0 = (i.natAbs.log2 : Int) - (24 - 1) := by
      unfold FP.Core.quantum
      rw [hl, b32_qmin]
      show max (-149 : Int) ((i.natAbs.log2 : Int) + 0 - ((24 : Nat) - 1 : Int)) = _
      omega
    have hn : FP.Core.roundRatio FP.Core.b32 s i.natAbs 1 0 = FP.Core.roundAt FP.Core.b32 s i.natAbs 1 0 ((i.natAbs.log2 : Int) - (24 - 1)) := by
      unfold FP.Core.roundRatio
      rw [if_neg z, hq]
    rw [hn]
    have fin : ∀ (c : Nat) (q : Int), c < 16777216 → -149 ≤ q → q ≤ 104 → c ≠ 0 → b32ok (FP.Core.encode FP.Core.b32 (.fin s c q)) ∧ ∃ c1 q', FP.Core.decode FP.Core.b32 (FP.Core.encode FP.Core.b32 (.fin s c q)) = .fin s c1 q' ∧ (i = 0 ↔ c1 = 0) := fun c q a1 a2 a3 a4 => by
      obtain ⟨b1, q', b2⟩ := b32_fin s a1 a2 a3
      exact ⟨b1, c, q', b2, fun y => by omega, fun y => absurd y a4⟩
    have bnd : ∀ (c : Nat) (q : Int), c < 16777216 → -149 ≤ q → q ≤ 104 → c ≠ 0 → b32ok (FP.Core.encode FP.Core.b32 (FP.Core.bound FP.Core.b32 s c q)) ∧ ∃ c' q', FP.Core.decode FP.Core.b32 (FP.Core.encode FP.Core.b32 (FP.Core.bound FP.Core.b32 s c q)) = .fin s c' q' ∧ (i = 0 ↔ c' = 0) := fun c q a1 a2 a3 a4 => by
      unfold FP.Core.bound
      rw [b32_qmax, if_pos a3]
      exact fin c q a1 a2 a3 a4
    unfold FP.Core.roundAt FP.Core.settle
    have P2 : (2 : Nat) ^ FP.Core.b32.p = 16777216 := by decide
    have nz : FP.Core.nearest (FP.Core.unitsNum i.natAbs 0 ((i.natAbs.log2 : Int) - (24 - 1))) (FP.Core.unitsDen 1 0 ((i.natAbs.log2 : Int) - (24 - 1))) ≠ 0 := by
      unfold FP.Core.unitsNum FP.Core.unitsDen
      by_cases y : i.natAbs.log2 ≤ 24 - 1
      · rw [show (((i.natAbs.log2 : Int) - (24 - 1)) - 0).toNat = 0 by omega]
        have hp : 0 < 2 ^ (0 - ((i.natAbs.log2 : Int) - (24 - 1))).toNat := Nat.pow_pos (by omega)
        have hm : 0 < i.natAbs * 2 ^ (0 - ((i.natAbs.log2 : Int) - (24 - 1))).toNat := Nat.mul_pos (by omega) hp
        generalize i.natAbs * 2 ^ (0 - ((i.natAbs.log2 : Int) - (24 - 1))).toNat = m at hm
        unfold FP.Core.nearest
        rw [show 1 * 2 ^ 0 = 1 from rfl, if_pos (by omega)]
        omega
      · rw [show (0 - ((i.natAbs.log2 : Int) - (24 - 1))).toNat = 0 by omega]
        have h1 := Nat.log2_self_le z
        have h2 : 2 ^ (((i.natAbs.log2 : Int) - (24 - 1)) - 0).toNat ≤ i.natAbs := Nat.le_trans (Nat.pow_le_pow_right (by omega) (by omega)) h1
        have hp : 0 < 2 ^ (((i.natAbs.log2 : Int) - (24 - 1)) - 0).toNat := Nat.pow_pos (by omega)
        rw [Nat.pow_zero, Nat.mul_one, Nat.one_mul]
        generalize 2 ^ (((i.natAbs.log2 : Int) - (24 - 1)) - 0).toNat = den at h2 hp
        have h3 : 1 ≤ i.natAbs / den := (Nat.le_div_iff_mul_le hp).mpr (by omega)
        unfold FP.Core.nearest
        split
        · omega
        · split <;> omega
    by_cases y : FP.Core.nearest (FP.Core.unitsNum i.natAbs 0 ((i.natAbs.log2 : Int) - (24 - 1))) (FP.Core.unitsDen 1 0 ((i.natAbs.log2 : Int) - (24 - 1))) < 2 ^ FP.Core.b32.p
    · rw [if_pos y]
      exact bnd _ _ (by omega) (by omega) (by omega) nz
    · rw [if_neg y, b32_tails]
      exact bnd _ _ (by omega) (by omega) (by omega) (by omega)
end P_30c_nan
section P_30d_fpops
/-! no result is a NaN: the operations -/
abbrev dc (x : UInt64) : FP.Core.Datum := FP.Core.decode FP.Core.b64 x.toNat
abbrev fc (x : UInt32) : FP.Core.Datum := FP.Core.decode FP.Core.b32 x.toNat
theorem b64_dc {n : Nat} (h : b64ok n) : dc (UInt64.ofNat n) = FP.Core.decode FP.Core.b64 n := by unfold dc; rw [b64_nat h]
theorem b32_fc {n : Nat} (h : b32ok n) : fc (UInt32.ofNat n) = FP.Core.decode FP.Core.b32 n := by unfold fc; rw [b32_nat h]
/-- nought or more -/
def PD (D : FP.Core.Datum) : Prop := (∃ c q, D = .fin false c q) ∨ D = .inf false ∨ ∃ q, D = .fin true 0 q
theorem rd_fin (s : Bool) (c : Nat) (q : Int) : b64ok (FP.Core.encode FP.Core.b64 (FP.Core.round FP.Core.b64 (.fin s c q))) ∧ ((∃ c' q', FP.Core.decode FP.Core.b64 (FP.Core.encode FP.Core.b64 (FP.Core.round FP.Core.b64 (.fin s c q))) = .fin s c' q' ∧ (c = 0 → c' = 0)) ∨ (FP.Core.decode FP.Core.b64 (FP.Core.encode FP.Core.b64 (FP.Core.round FP.Core.b64 (.fin s c q))) = .inf s ∧ c ≠ 0)) := b64_rr s c 1 q
theorem rd_inf (s : Bool) : b64ok (FP.Core.encode FP.Core.b64 (FP.Core.round FP.Core.b64 (.inf s))) ∧ FP.Core.decode FP.Core.b64 (FP.Core.encode FP.Core.b64 (FP.Core.round FP.Core.b64 (.inf s))) = .inf s := b64_inf s
theorem rd_nn {D : FP.Core.Datum} (h : D ≠ .nan) : b64ok (FP.Core.encode FP.Core.b64 (FP.Core.round FP.Core.b64 D)) ∧ FP.Core.decode FP.Core.b64 (FP.Core.encode FP.Core.b64 (FP.Core.round FP.Core.b64 D)) ≠ .nan := by
  cases D with
  | nan => exact absurd rfl h
  | inf s =>
    obtain ⟨a, b⟩ := rd_inf s
    exact ⟨a, by rw [b]; intro q; cases q⟩
  | fin s c q =>
    obtain ⟨a, b⟩ := rd_fin s c q
    refine ⟨a, ?_⟩
    rcases b with ⟨c', q', b, _⟩ | ⟨b, _⟩ <;> (rw [b]; intro q; cases q)
theorem rd_pd {D : FP.Core.Datum} (h : PD D) : b64ok (FP.Core.encode FP.Core.b64 (FP.Core.round FP.Core.b64 D)) ∧ PD (FP.Core.decode FP.Core.b64 (FP.Core.encode FP.Core.b64 (FP.Core.round FP.Core.b64 D))) := by
  rcases h with ⟨c, q, rfl⟩ | rfl | ⟨q, rfl⟩
  · obtain ⟨a, b⟩ := rd_fin false c q
    refine ⟨a, ?_⟩
    rcases b with ⟨c', q', b, _⟩ | ⟨b, _⟩
    · exact Or.inl ⟨c', q', b⟩
    · exact Or.inr (Or.inl b)
  · obtain ⟨a, b⟩ := rd_inf false
    exact ⟨a, Or.inr (Or.inl b)⟩
  · obtain ⟨a, b⟩ := rd_fin true 0 q
    refine ⟨a, ?_⟩
    rcases b with ⟨c', q', b, e⟩ | ⟨_, e⟩
    · rw [e rfl] at b
      exact Or.inr (Or.inr ⟨q', b⟩)
    · exact absurd rfl e
theorem pd_nn {D : FP.Core.Datum} (h : PD D) : D ≠ .nan := by
  rcases h with ⟨c, q, rfl⟩ | rfl | ⟨q, rfl⟩ <;> (intro q; cases q)
theorem sg_f (c : Nat) : FP.Core.signed false c = (c : Int) := rfl
theorem sg_t (c : Nat) : FP.Core.signed true c = -(c : Int) := rfl
theorem iu_0 (q e : Int) : FP.Core.inUnits 0 q e = 0 := by unfold FP.Core.inUnits; exact Nat.zero_mul _
theorem pd_sum {a b : FP.Core.Datum} (ha : PD a) (hb : PD b) : PD (FP.Core.exactSum a b) := by
  rcases ha with ⟨c, q, rfl⟩ | rfl | ⟨q, rfl⟩ <;> rcases hb with ⟨d, r, rfl⟩ | rfl | ⟨r, rfl⟩
  · unfold FP.Core.exactSum FP.Core.sumSign FP.Core.sumUnits
    dsimp only
    rw [sg_f, sg_f]
    by_cases z : (FP.Core.inUnits c q (min q r) : Int) + (FP.Core.inUnits d r (min q r) : Int) = 0
    · rw [if_pos z]; exact Or.inl ⟨_, _, rfl⟩
    · rw [if_neg z, decide_eq_false (by omega)]; exact Or.inl ⟨_, _, rfl⟩
  · exact Or.inr (Or.inl rfl)
  · unfold FP.Core.exactSum FP.Core.sumSign FP.Core.sumUnits
    dsimp only
    rw [sg_f, sg_t, iu_0]
    by_cases z : (FP.Core.inUnits c q (min q r) : Int) + -((0 : Nat) : Int) = 0
    · rw [if_pos z]; exact Or.inl ⟨_, _, rfl⟩
    · rw [if_neg z, decide_eq_false (by omega)]; exact Or.inl ⟨_, _, rfl⟩
  · exact Or.inr (Or.inl rfl)
  · exact Or.inr (Or.inl rfl)
  · exact Or.inr (Or.inl rfl)
  · unfold FP.Core.exactSum FP.Core.sumSign FP.Core.sumUnits
    dsimp only
    rw [sg_f, sg_t, iu_0]
    by_cases z : -((0 : Nat) : Int) + (FP.Core.inUnits d r (min q r) : Int) = 0
    · rw [if_pos z]; exact Or.inl ⟨_, _, rfl⟩
    · rw [if_neg z, decide_eq_false (by omega)]; exact Or.inl ⟨_, _, rfl⟩
  · exact Or.inr (Or.inl rfl)
  · unfold FP.Core.exactSum FP.Core.sumSign FP.Core.sumUnits
    dsimp only
    rw [sg_t, iu_0, sg_t, iu_0]
    exact Or.inr (Or.inr ⟨_, rfl⟩)
theorem p_dadd {x y : UInt64} (hx : PD (dc x)) (hy : PD (dc y)) : ∃ u, gD (FP.dadd x y) = some u ∧ PD (dc u) := by
  obtain ⟨a, b⟩ := rd_pd (pd_sum hx hy)
  exact ⟨_, b64_g a, Eq.mpr (congrArg PD (b64_dc a)) b⟩
theorem n_dadd {x y : UInt64} (h : FP.Core.exactSum (dc x) (dc y) ≠ .nan) : ∃ u, gD (FP.dadd x y) = some u ∧ dc u ≠ .nan := by
  obtain ⟨a, b⟩ := rd_nn h
  exact ⟨_, b64_g a, fun q => b ((b64_dc a).symm.trans q)⟩
/-- a finite number less one that is no NaN -/
theorem n_dsub {x y : UInt64} (hx : ∃ s c q, dc x = .fin s c q) (hy : dc y ≠ .nan) : ∃ u, gD (FP.dsub x y) = some u ∧ dc u ≠ .nan := by
  obtain ⟨s, c, q, e⟩ := hx
  have h : FP.Core.exactSum (dc x) (FP.Core.negate (dc y)) ≠ .nan := by
    rw [e]
    cases h : dc y with
    | nan => exact absurd h hy
    | inf t => intro q; cases q
    | fin t d r => intro q; cases q
  obtain ⟨a, b⟩ := rd_nn h
  exact ⟨_, b64_g a, fun q => b ((b64_dc a).symm.trans q)⟩
/-- nought or more, less a finite number -/
theorem n_dsub2 {x y : UInt64} (hx : PD (dc x)) (hy : ∃ s c q, dc y = .fin s c q) : ∃ u, gD (FP.dsub x y) = some u ∧ dc u ≠ .nan := by
  obtain ⟨s, c, q, e⟩ := hy
  have h : FP.Core.exactSum (dc x) (FP.Core.negate (dc y)) ≠ .nan := by
    rw [e]
    rcases hx with ⟨c', q', e'⟩ | e' | ⟨q', e'⟩ <;> (rw [e']; intro z; cases z)
  obtain ⟨a, b⟩ := rd_nn h
  exact ⟨_, b64_g a, fun q => b ((b64_dc a).symm.trans q)⟩
/-- by a positive number -/
theorem p_ddiv {x y : UInt64} (hx : PD (dc x)) (hy : ∃ d r, dc y = .fin false d r ∧ d ≠ 0) : ∃ u, gD (FP.ddiv x y) = some u ∧ PD (dc u) := by
  obtain ⟨d, r, e, hd⟩ := hy
  have key : ∀ n, n = FP.Core.encode FP.Core.b64 (FP.Core.quotient FP.Core.b64 (dc x) (dc y)) → b64ok n ∧ PD (FP.Core.decode FP.Core.b64 n) := fun n hn => by
    rw [hn, e]
    rcases hx with ⟨c, q, e'⟩ | e' | ⟨q, e'⟩
    · rw [e']
      have : FP.Core.quotient FP.Core.b64 (.fin false c q) (.fin false d r) = FP.Core.roundRatio FP.Core.b64 false c d (q - r) := if_neg hd
      rw [this]
      obtain ⟨a, b⟩ := b64_rr false c d (q - r)
      refine ⟨a, ?_⟩
      rcases b with ⟨c', q', b, _⟩ | ⟨b, _⟩
      · exact Or.inl ⟨c', q', b⟩
      · exact Or.inr (Or.inl b)
    · rw [e']
      obtain ⟨a, b⟩ := b64_inf false
      exact ⟨a, Or.inr (Or.inl b)⟩
    · rw [e']
      have : FP.Core.quotient FP.Core.b64 (.fin true 0 q) (.fin false d r) = FP.Core.roundRatio FP.Core.b64 true 0 d (q - r) := if_neg hd
      rw [this]
      obtain ⟨a, b⟩ := b64_rr true 0 d (q - r)
      refine ⟨a, ?_⟩
      rcases b with ⟨c', q', b, e⟩ | ⟨_, e⟩
      · rw [e rfl] at b; exact Or.inr (Or.inr ⟨q', b⟩)
      · exact absurd rfl e
  obtain ⟨a, b⟩ := key _ rfl
  exact ⟨_, b64_g a, Eq.mpr (congrArg PD (b64_dc a)) b⟩
theorem n_ddiv {x y : UInt64} (hx : ∃ s c q, dc x = .fin s c q) (hy : ∃ s d r, dc y = .fin s d r ∧ d ≠ 0) : ∃ u, gD (FP.ddiv x y) = some u ∧ dc u ≠ .nan := by
  obtain ⟨s, c, q, e⟩ := hx
  obtain ⟨t, d, r, e', hd⟩ := hy
  have key : ∀ n, n = FP.Core.encode FP.Core.b64 (FP.Core.quotient FP.Core.b64 (dc x) (dc y)) → b64ok n ∧ FP.Core.decode FP.Core.b64 n ≠ .nan := fun n hn => by
    rw [hn, e, e']
    have : FP.Core.quotient FP.Core.b64 (.fin s c q) (.fin t d r) = FP.Core.roundRatio FP.Core.b64 (s != t) c d (q - r) := if_neg hd
    rw [this]
    obtain ⟨a, b⟩ := b64_rr (s != t) c d (q - r)
    refine ⟨a, ?_⟩
    rcases b with ⟨c', q', b, _⟩ | ⟨b, _⟩ <;> (rw [b]; intro z; cases z)
  obtain ⟨a, b⟩ := key _ rfl
  exact ⟨_, b64_g a, fun q => b ((b64_dc a).symm.trans q)⟩
theorem n_dmul {x y : UInt64} (hx : dc x ≠ .nan) (hy : ∃ s d r, dc y = .fin s d r ∧ d ≠ 0) : ∃ u, gD (FP.dmul x y) = some u ∧ dc u ≠ .nan := by
  obtain ⟨t, d, r, e', hd⟩ := hy
  have h : FP.Core.exactProduct (dc x) (dc y) ≠ .nan := by
    rw [e']
    cases h : dc x with
    | nan => exact absurd h hx
    | inf s =>
      have : FP.Core.exactProduct (.inf s) (.fin t d r) = .inf (s != t) := if_neg hd
      rw [this]; intro z; cases z
    | fin s c q => intro z; cases z
  obtain ⟨a, b⟩ := rd_nn h
  exact ⟨_, b64_g a, fun q => b ((b64_dc a).symm.trans q)⟩
theorem p_dmul {x y : UInt64} (hx : PD (dc x)) (hy : ∃ d r, dc y = .fin false d r ∧ d ≠ 0) : ∃ u, gD (FP.dmul x y) = some u ∧ PD (dc u) := by
  obtain ⟨d, r, e', hd⟩ := hy
  have h : PD (FP.Core.exactProduct (dc x) (dc y)) := by
    rw [e']
    rcases hx with ⟨c, q, e⟩ | e | ⟨q, e⟩
    · rw [e]; exact Or.inl ⟨_, _, rfl⟩
    · rw [e]
      have : FP.Core.exactProduct (.inf false) (.fin false d r) = .inf (false != false) := if_neg hd
      rw [this]; exact Or.inr (Or.inl rfl)
    · rw [e]
      refine Or.inr (Or.inr ⟨q + r, ?_⟩)
      show FP.Core.Datum.fin (true != false) (0 * d) (q + r) = _
      rw [Nat.zero_mul]; rfl
  obtain ⟨a, b⟩ := rd_pd h
  exact ⟨_, b64_g a, Eq.mpr (congrArg PD (b64_dc a)) b⟩
/-- an int, a long as a double, as a float -/
theorem p_i2d (n : Int32) : ∃ c q, dc (FP.i2d n) = .fin (decide (n.toInt < 0)) c q ∧ (n.toInt = 0 ↔ c = 0) := by
  have h := tTop n
  obtain ⟨a, b⟩ := b64_int n.toInt (by omega)
  obtain ⟨c, q, b1, b2⟩ := b
  exact ⟨c, q, (b64_dc a).trans b1, b2⟩
theorem p_l2d (n : Int64) : ∃ s c q, dc (FP.l2d n) = .fin s c q := by
  have h1 := Int64.le_toInt n
  have h2 := Int64.toInt_lt n
  obtain ⟨a, c, q, b, _⟩ := b64_int n.toInt (by omega)
  exact ⟨_, c, q, (b64_dc a).trans b⟩
theorem p_i2f (n : Int32) : ∃ c q, fc (FP.i2f n) = .fin (decide (n.toInt < 0)) c q ∧ (n.toInt = 0 ↔ c = 0) := by
  have h := tTop n
  obtain ⟨a, b⟩ := b32_int n.toInt (by omega)
  obtain ⟨c, q, b1, b2⟩ := b
  exact ⟨c, q, (b32_fc a).trans b1, b2⟩
theorem p_pos {n : Int32} (h : 0 < n.toInt) : ∃ d r, dc (FP.i2d n) = .fin false d r ∧ d ≠ 0 := by
  obtain ⟨c, q, e, z⟩ := p_i2d n
  rw [decide_eq_false (by omega)] at e
  exact ⟨c, q, e, fun y => by have := z.mpr y; omega⟩
theorem p_nn {n : Int32} (h : 0 ≤ n.toInt) : PD (dc (FP.i2d n)) := by
  obtain ⟨c, q, e, z⟩ := p_i2d n
  rw [decide_eq_false (by omega)] at e
  exact Or.inl ⟨c, q, e⟩
theorem n_d2f {x : UInt64} (h : dc x ≠ .nan) : ∃ u, gF (FP.d2f x) = some u := by
  have key : ∀ n, n = FP.Core.encode FP.Core.b32 (FP.Core.round FP.Core.b32 (dc x)) → b32ok n := fun n hn => by
    rw [hn]
    cases h' : dc x with
    | nan => exact absurd h' h
    | inf s => exact (b32_inf s).1
    | fin s c q => exact (b32_rr s c 1 q).1
  have e : FP.d2f x = FP.Core.d2f x := if_neg (fun q => h (of_decide_eq_true q))
  rw [e]
  exact ⟨_, b32_g (key _ rfl)⟩
theorem n_f2d {x : UInt32} (h : fc x ≠ .nan) : ∃ u, gD (FP.f2d x) = some u := by
  obtain ⟨a, _⟩ := rd_nn h
  have e : FP.f2d x = FP.Core.f2d x := if_neg (fun q => h (of_decide_eq_true q))
  rw [e]
  exact ⟨_, b64_g a⟩
theorem n_fdiv {x y : UInt32} (hx : ∃ s c q, fc x = .fin s c q) (hy : ∃ s d r, fc y = .fin s d r ∧ d ≠ 0) : ∃ u, gF (FP.fdiv x y) = some u := by
  obtain ⟨s, c, q, e⟩ := hx
  obtain ⟨t, d, r, e', hd⟩ := hy
  have key : ∀ n, n = FP.Core.encode FP.Core.b32 (FP.Core.quotient FP.Core.b32 (fc x) (fc y)) → b32ok n := fun n hn => by
    rw [hn, e, e']
    have : FP.Core.quotient FP.Core.b32 (.fin s c q) (.fin t d r) = FP.Core.roundRatio FP.Core.b32 (s != t) c d (q - r) := if_neg hd
    rw [this]
    exact (b32_rr (s != t) c d (q - r)).1
  exact ⟨_, b32_g (key _ rfl)⟩
theorem dc_0 : dc FP.dconst0 = .fin false 0 (-1074) := by decide +kernel
theorem dc_1 : ∃ d r, dc FP.dconst1 = .fin false d r ∧ d ≠ 0 := ⟨4503599627370496, -52, by decide +kernel, by decide⟩
theorem dc_2 : ∃ d r, dc (4611686018427387904 : UInt64) = .fin false d r ∧ d ≠ 0 := ⟨4503599627370496, -51, by decide +kernel, by decide⟩
theorem dc_52 : ∃ d r, dc (4841369599423283200 : UInt64) = .fin false d r ∧ d ≠ 0 := ⟨4503599627370496, 0, by decide +kernel, by decide⟩
theorem fc_0 : fc FP.fconst0 = .fin false 0 (-149) := by decide +kernel
theorem pd_0 : PD (dc FP.dconst0) := Or.inl ⟨0, -1074, dc_0⟩
theorem cmpv_l (o : Option Ordering) : 0 < Op.cmpValue o .l → o = some .gt := by
  rcases o with _ | (_ | _ | _) <;> decide
theorem cmpv_g (o : Option Ordering) : 0 ≤ Op.cmpValue o .g → o ≠ some .lt := by
  rcases o with _ | (_ | _ | _) <;> decide
theorem cmpv_g' (o : Option Ordering) : ¬ 0 ≤ Op.cmpValue o .g → o = some .lt := by
  rcases o with _ | (_ | _ | _) <;> decide
/-- above nought -/
theorem gt0_pd {x : UInt64} (h : FP.dcmp x FP.dconst0 = some .gt) : PD (dc x) := by
  have h : FP.Core.order (dc x) (dc FP.dconst0) = some .gt := h
  rw [dc_0] at h
  cases e : dc x with
  | nan => rw [e] at h; cases h
  | inf s =>
    rw [e] at h
    cases s with
    | false => exact Or.inr (Or.inl rfl)
    | true => exact absurd (Option.some.inj h) (by decide)
  | fin s c q =>
    rw [e] at h
    cases s with
    | false => exact Or.inl ⟨c, q, rfl⟩
    | true =>
      have h : compare (FP.Core.signed true (FP.Core.inUnits c q (min q (-1074)))) (FP.Core.signed false (FP.Core.inUnits 0 (-1074) (min q (-1074)))) = .gt := Option.some.inj h
      rw [sg_t, sg_f, iu_0] at h
      have := Int.compare_eq_gt.mp h
      omega
theorem gt0_nn {x : UInt32} (h : FP.fcmp x FP.fconst0 = some .gt) : fc x ≠ .nan := by
  have h : FP.Core.order (fc x) (fc FP.fconst0) = some .gt := h
  intro e
  rw [e] at h; cases h
theorem xor_top (n : Nat) (h : n < 2 ^ 64) : n ^^^ 0x8000000000000000 = if n < 2 ^ 63 then n + 2 ^ 63 else n - 2 ^ 63 := by
  have e : (0x8000000000000000 : Nat) = 2 ^ 63 := by decide
  rw [e]
  split
  · rename_i h1
    have : n ^^^ 2 ^ 63 = 2 ^ 63 + n := by
      apply Nat.eq_of_testBit_eq
      intro i
      rw [Nat.testBit_xor, Nat.testBit_two_pow]
      by_cases z : i = 63
      · subst z
        rw [Nat.testBit_two_pow_add_eq, Nat.testBit_lt_two_pow h1]; rfl
      · rw [decide_eq_false (Ne.symm z), Bool.xor_false]
        rcases (by omega : i < 63 ∨ 63 < i) with y | y
        · rw [Nat.testBit_two_pow_add_gt y]
        · have p : 2 ^ 64 ≤ 2 ^ i := Nat.pow_le_pow_right (by omega) (by omega)
          rw [Nat.testBit_lt_two_pow (by omega), Nat.testBit_lt_two_pow (by omega)]
    rw [this]; omega
  · rename_i h1
    obtain ⟨m, hm⟩ : ∃ m, n = 2 ^ 63 + m := ⟨n - 2 ^ 63, by omega⟩
    have hm2 : m < 2 ^ 63 := by omega
    have : n ^^^ 2 ^ 63 = m := by
      rw [hm]
      apply Nat.eq_of_testBit_eq
      intro i
      rw [Nat.testBit_xor, Nat.testBit_two_pow]
      by_cases z : i = 63
      · subst z
        rw [Nat.testBit_two_pow_add_eq, Nat.testBit_lt_two_pow hm2]; rfl
      · rw [decide_eq_false (Ne.symm z), Bool.xor_false]
        rcases (by omega : i < 63 ∨ 63 < i) with y | y
        · rw [Nat.testBit_two_pow_add_gt y]
        · have p : 2 ^ 64 ≤ 2 ^ i := Nat.pow_le_pow_right (by omega) (by omega)
          rw [Nat.testBit_lt_two_pow (by omega), Nat.testBit_lt_two_pow (by omega)]
    rw [this]; omega
/-- the sign turned -/
theorem dc_neg (x : UInt64) : (∀ s c q, dc x = .fin s c q → dc (FP.dneg x) = .fin (!s) c q) ∧ (∀ s, dc x = .inf s → dc (FP.dneg x) = .inf (!s)) := by
  have hx := x.toNat_lt
  have e : (FP.dneg x).toNat = if x.toNat < 2 ^ 63 then x.toNat + 2 ^ 63 else x.toNat - 2 ^ 63 := by
    show (x ^^^ 0x8000000000000000).toNat = _
    rw [UInt64.toNat_xor]
    exact xor_top x.toNat hx
  have t1 : FP.Core.fieldT FP.Core.b64 (FP.dneg x).toNat = FP.Core.fieldT FP.Core.b64 x.toNat := by
    unfold FP.Core.fieldT
    rw [e, b64_tails]
    split <;> omega
  have t2 : FP.Core.fieldE FP.Core.b64 (FP.dneg x).toNat = FP.Core.fieldE FP.Core.b64 x.toNat := by
    unfold FP.Core.fieldE
    rw [e, b64_tails, b64_exps]
    split <;> omega
  have t3 : FP.Core.fieldS FP.Core.b64 (FP.dneg x).toNat = !(FP.Core.fieldS FP.Core.b64 x.toNat) := by
    unfold FP.Core.fieldS
    rw [e, b64_tails, b64_exps]
    split
    · rw [show x.toNat / 4503599627370496 / 2048 % 2 = 0 by omega, show (x.toNat + 2 ^ 63) / 4503599627370496 / 2048 % 2 = 1 by omega]; rfl
    · rw [show x.toNat / 4503599627370496 / 2048 % 2 = 1 by omega, show (x.toNat - 2 ^ 63) / 4503599627370496 / 2048 % 2 = 0 by omega]; rfl
  show (∀ s c q, FP.Core.decode FP.Core.b64 x.toNat = .fin s c q → FP.Core.decode FP.Core.b64 (FP.dneg x).toNat = .fin (!s) c q) ∧ (∀ s, FP.Core.decode FP.Core.b64 x.toNat = .inf s → FP.Core.decode FP.Core.b64 (FP.dneg x).toNat = .inf (!s))
  unfold FP.Core.decode
  rw [t1, t2, t3]
  constructor
  · intro s c q h
    split at h
    · split at h <;> cases h
    · rename_i z
      rw [if_neg z]
      split at h
      · rename_i y; rw [if_pos y]; cases h; rfl
      · rename_i y; rw [if_neg y]; cases h; rfl
  · intro s h
    split at h
    · rename_i z
      rw [if_pos z]
      split at h
      · rename_i y; rw [if_pos y]; cases h; rfl
      · cases h
    · split at h <;> cases h
/-- how far: without sign -/
theorem abs_pd {x : UInt64} (h : dc x ≠ .nan) : (0 ≤ Op.cmpValue (FP.dcmp x FP.dconst0) .g → PD (dc x)) ∧ (¬ 0 ≤ Op.cmpValue (FP.dcmp x FP.dconst0) .g → PD (dc (FP.dneg x))) := by
  have ho : FP.dcmp x FP.dconst0 = FP.Core.order (dc x) (dc FP.dconst0) := rfl
  rw [ho, dc_0]
  obtain ⟨n1, n2⟩ := dc_neg x
  cases e : dc x with
  | nan => exact absurd e h
  | inf s =>
    rw [n2 s e]
    cases s with
    | false => exact ⟨fun _ => Or.inr (Or.inl rfl), fun c => absurd (by decide) c⟩
    | true => exact ⟨fun c => absurd c (by decide), fun _ => Or.inr (Or.inl rfl)⟩
  | fin s c q =>
    rw [n1 s c q e]
    have hq : FP.Core.order (.fin s c q) (.fin false 0 (-1074)) = some (compare (FP.Core.signed s (FP.Core.inUnits c q (min q (-1074)))) 0) := by
      show some (compare _ (FP.Core.signed false (FP.Core.inUnits 0 (-1074) (min q (-1074))))) = _
      rw [sg_f, iu_0]; rfl
    rw [hq]
    cases s with
    | false =>
      refine ⟨fun _ => Or.inl ⟨c, q, rfl⟩, fun y => ?_⟩
      have := Option.some.inj (cmpv_g' _ y)
      rw [sg_f] at this
      have := Int.compare_eq_lt.mp this
      omega
    | true =>
      refine ⟨fun y => ?_, fun _ => Or.inl ⟨c, q, rfl⟩⟩
      have h1 := cmpv_g _ y
      have hc : c = 0 := by
        by_cases z : c = 0
        · exact z
        · exfalso
          apply h1
          rw [sg_t]
          have hp : 0 < FP.Core.inUnits c q (min q (-1074)) := by
            unfold FP.Core.inUnits
            exact Nat.mul_pos (by omega) (Nat.pow_pos (by omega))
          rw [Int.compare_eq_lt.mpr (by omega)]
      subst hc
      exact Or.inr (Or.inr ⟨q, rfl⟩)
end P_30d_fpops
section P_30e_means
/-! doubles: an end and no throw -/
theorem gb {α β : Type} {o : Option α} {f : α → Option β} {Q : β → Prop} (h : ∃ u, o = some u) (K : ∀ u, T (f u) Q) : T (o.bind f) Q := by
  obtain ⟨u, e⟩ := h
  exact t_be e (K u)
theorem gbp {α β : Type} {o : Option α} {f : α → Option β} {P : α → Prop} {Q : β → Prop} (h : ∃ u, o = some u ∧ P u) (K : ∀ u, P u → T (f u) Q) : T (o.bind f) Q := by
  obtain ⟨u, e, p⟩ := h
  exact t_be e (K u p)
theorem t_meanOf0 {I0 : gM} {k : Nat} (v2 : Int32) (I : gM) (hk : kX1 k) (hM : MI true I0 I) : T (fX0_meanOf k v2 I) (fun u => PD (dc u)) := by
  obtain ⟨m, m1, em⟩ := hM.n (k := k) (j := 0) (hi := 20736) hk.2.2.1
  unfold fX0_meanOf
  refine t_bind (P := fun u => PD (dc u)) ?_ (fun w pw => ?_)
  · unfold lX0_meanOf_5
    refine t_it (P := fun s => ∃ i, s.2 = nI i ∧ i ≤ m ∧ PD (dc s.1)) (μ := fun s => 20800 - s.2.toInt.toNat) (fun s p => ?_) ⟨0, rfl, by omega, pd_0⟩
    obtain ⟨s1, s2⟩ := s
    obtain ⟨i, e1, h1, h2⟩ := p
    dsimp only at e1 h2
    subst e1
    dsimp only
    refine t_ite (fun c => t_ret h2) (fun c => ?_)
    rw [em] at c
    have c := mt (nI_leI (a := m) (b := i) (by omega) (by omega)).mpr c
    refine t_bind (tfX1_numberAt k (nI i) v2 I hk hM) (fun r pr => ?_)
    refine gbp (p_dadd h2 (p_nn pr.1)) (fun u pu => ?_)
    exact t_nx ⟨i + 1, nI_1 i, by omega, pu⟩ (by show 20800 - (nI i + 1).toInt.toNat < 20800 - (nI i).toInt.toNat; rw [nI_1, nIt (by omega), nIt (by omega)]; omega)
  · refine t_ite (fun c => t_ret pd_0) (fun c => ?_)
    have c := mt (iLE (a := I k 0) (b := 0) rfl t0i).mpr c
    exact gbp (p_ddiv pw (p_pos (by omega))) (fun u pu => t_ret pu)
theorem t_spreadOf0 {I0 : gM} {k : Nat} (v2 : Int32) (I : gM) (hk : kX1 k) (hM : MI true I0 I) : T (fX0_spreadOf k v2 I) (fun _ => True) := by
  obtain ⟨m, m1, em⟩ := hM.n (k := k) (j := 0) (hi := 20736) hk.2.2.1
  unfold fX0_spreadOf
  refine t_bind (t_meanOf0 v2 I hk hM) (fun me pme => ?_)
  refine t_bind (P := fun u => PD (dc u)) ?_ (fun w pw => ?_)
  · unfold lX0_spreadOf_13
    refine t_it (P := fun s => ∃ i, s.2 = nI i ∧ i ≤ m ∧ PD (dc s.1)) (μ := fun s => 20800 - s.2.toInt.toNat) (fun s p => ?_) ⟨0, rfl, by omega, pd_0⟩
    obtain ⟨s1, s2⟩ := s
    obtain ⟨i, e1, h1, h2⟩ := p
    dsimp only at e1 h2
    subst e1
    dsimp only
    refine t_ite (fun c => t_ret h2) (fun c => ?_)
    rw [em] at c
    have c := mt (nI_leI (a := m) (b := i) (by omega) (by omega)).mpr c
    refine t_bind (tfX1_numberAt k (nI i) v2 I hk hM) (fun r pr => ?_)
    obtain ⟨c0, q0, e0, _⟩ := p_i2d r
    refine gbp (n_dsub ⟨_, c0, q0, e0⟩ (pd_nn pme)) (fun u pu => ?_)
    obtain ⟨a1, a2⟩ := abs_pd pu
    have nx : ∀ x, PD (dc x) → T (bX0_spreadOf_51 (nI i) x s1) (LQ (fun s => ∃ i, s.2 = nI i ∧ i ≤ m ∧ PD (dc s.1)) (20800 - (nI i).toInt.toNat) (fun s => 20800 - s.2.toInt.toNat) (fun u => PD (dc u))) := fun x px => by
      unfold bX0_spreadOf_51
      refine gbp (p_dadd h2 px) (fun u pu => ?_)
      exact t_nx ⟨i + 1, nI_1 i, by omega, pu⟩ (by show 20800 - (nI i + 1).toInt.toNat < 20800 - (nI i).toInt.toNat; rw [nI_1, nIt (by omega), nIt (by omega)]; omega)
    exact t_ite (fun c => nx _ (a1 c)) (fun c => nx _ (a2 c))
  · refine t_ite (fun c => t_ret trivial) (fun c => ?_)
    have c := mt (iLE (a := I k 0) (b := 0) rfl t0i).mpr c
    exact gbp (p_ddiv pw (p_pos (by omega))) (fun u pu => t_ret trivial)
theorem t_bitsOfDouble (x : UInt64) : T (fX0_bitsOfDouble x) (fun _ => True) := by
  unfold fX0_bitsOfDouble
  refine t_ite (fun c => ?_) (fun c => t_ret trivial)
  have px := gt0_pd (cmpv_l _ c)
  have t1022 : (1022 : Int32) = nI 1022 := rfl
  refine t_bind (P := fun w : UInt64 × Int32 => PD (dc w.1)) ?_ (fun w pw => ?_)
  · unfold lX0_bitsOfDouble_18
    refine t_it (P := fun s => ∃ i, s.2.2 = nI i ∧ i ≤ 1022 ∧ PD (dc s.1)) (μ := fun s => 1100 - s.2.2.toInt.toNat) (fun s p => ?_) ⟨0, rfl, by omega, px⟩
    obtain ⟨s1, s2, s3⟩ := s
    obtain ⟨i, e1, h1, h2⟩ := p
    dsimp only at e1 h2
    subst e1
    dsimp only
    refine t_ite (fun c => t_ret h2) (fun c => ?_)
    rw [t1022] at c
    have c := mt (nI_leI (a := 1022) (b := i) (by omega) (by omega)).mpr c
    refine t_ite (fun c => t_ret h2) (fun _ => ?_)
    refine gbp (p_ddiv h2 dc_2) (fun u pu => ?_)
    exact t_nx ⟨i + 1, nI_1 i, by omega, pu⟩ (by show 1100 - (nI i + 1).toInt.toNat < 1100 - (nI i).toInt.toNat; rw [nI_1, nIt (by omega), nIt (by omega)]; omega)
  · unfold bX0_bitsOfDouble_49
    refine t_bind (P := fun w : UInt64 × Int32 => PD (dc w.1)) ?_ (fun w pw => ?_)
    · unfold lX0_bitsOfDouble_52
      refine t_it (P := fun s => ∃ i, s.2.2 = nI i ∧ i ≤ 1022 ∧ PD (dc s.1)) (μ := fun s => 1100 - s.2.2.toInt.toNat) (fun s p => ?_) ⟨0, rfl, by omega, pw⟩
      obtain ⟨s1, s2, s3⟩ := s
      obtain ⟨i, e1, h1, h2⟩ := p
      dsimp only at e1 h2
      subst e1
      dsimp only
      refine t_ite (fun c => t_ret h2) (fun c => ?_)
      rw [t1022] at c
      have c := mt (nI_leI (a := 1022) (b := i) (by omega) (by omega)).mpr c
      refine t_ite (fun c => t_ret h2) (fun _ => ?_)
      refine gbp (p_dmul h2 dc_2) (fun u pu => ?_)
      exact t_nx ⟨i + 1, nI_1 i, by omega, pu⟩ (by show 1100 - (nI i + 1).toInt.toNat < 1100 - (nI i).toInt.toNat; rw [nI_1, nIt (by omega), nIt (by omega)]; omega)
    · unfold bX0_bitsOfDouble_81
      obtain ⟨d1, r1, e1, _⟩ := dc_1
      refine gbp (n_dsub2 pw ⟨_, d1, r1, e1⟩) (fun u pu => ?_)
      obtain ⟨d2, r2, e2, z2⟩ := dc_52
      exact gbp (n_dmul pu ⟨_, d2, r2, e2, z2⟩) (fun _ _ => t_ret trivial)
theorem t_bitsOfFloat (x : UInt32) : T (fX0_bitsOfFloat x) (fun _ => True) := by
  unfold fX0_bitsOfFloat
  refine t_ite (fun c => ?_) (fun c => t_ret trivial)
  exact gb (n_f2d (gt0_nn (cmpv_l _ c))) (fun u => t_bind (t_bitsOfDouble u) (fun _ _ => t_ret trivial))
theorem t_mean8 {I0 : gM} (v1 : Int32) (I : gM) (hM : MI true I0 I) : T (fX8_mean v1 I) (fun _ => True) := by
  unfold fX8_mean
  refine t_bind (tfX8_isAsked v1 I hM) (fun _ _ => t_ite (fun _ => t_ret trivial) (fun _ => t_ite (fun _ => t_ret trivial) (fun _ => ?_)))
  exact t_bind (t_meanOf0 v1 I kX1_18 hM) (fun u _ => t_bind (t_bitsOfDouble u) (fun _ _ => t_ret trivial))
theorem t_meanAs8 {I0 : gM} (v1 v2 : Int32) (I : gM) (hM : MI true I0 I) : T (fX8_meanAs v1 v2 I) (fun _ => True) := by
  unfold fX8_meanAs
  refine t_bind (tfX8_isAsked v1 I hM) (fun _ _ => t_ite (fun _ => t_ret trivial) (fun _ => t_ite (fun _ => t_ret trivial) (fun _ => t_ite (fun _ => t_ret trivial) (fun _ => t_ite (fun _ => ?_) (fun _ => t_ret trivial)))))
  refine t_bind (t_meanOf0 v1 I kX1_18 hM) (fun u pu => t_ite (fun _ => ?_) (fun _ => t_ret trivial))
  exact gb (n_d2f (pd_nn pu)) (fun u => t_bind (t_bitsOfFloat u) (fun _ _ => t_ret trivial))
theorem t_spread8 {I0 : gM} (v1 : Int32) (I : gM) (hM : MI true I0 I) : T (fX8_spread v1 I) (fun _ => True) := by
  unfold fX8_spread
  refine t_bind (tfX8_isAsked v1 I hM) (fun _ _ => t_ite (fun _ => t_ret trivial) (fun _ => t_ite (fun _ => t_ret trivial) (fun _ => ?_)))
  exact t_bind (t_spreadOf0 v1 I kX1_18 hM) (fun u _ => t_bind (t_bitsOfDouble u) (fun _ _ => t_ret trivial))
theorem t_skew8 {I0 : gM} (v1 : Int32) (I : gM) (hM : MI true I0 I) : T (fX8_skew v1 I) (fun r => MI true I0 r.2 ∧ ∀ k, k ≠ 41 → r.2 k = I k) := by
  unfold fX8_skew
  refine t_bind (tfX8_isAsked v1 I hM) (fun _ _ => t_ite (fun _ => t_ret ⟨hM, fun _ _ => rfl⟩) (fun _ => t_ite (fun _ => t_ret ⟨hM, fun _ _ => rfl⟩) (fun c => ?_)))
  refine t_bindE (tfX0_tallyUp 18 v1 I kX1_18 hM) (fun w ew pw => ?_)
  have wk : ∀ k, k ≠ 41 → w k = I k := fun k hk => zfX0_tallyUp 18 v1 I ew k hk
  refine t_bind (tfX0_oftenest w pw) (fun r _ => t_ite (fun _ => t_ret ⟨pw, wk⟩) (fun c1 => t_ite (fun c2 => ?_) (fun _ => t_ret ⟨pw, wk⟩)))
  have c1 := mt (iLT (a := r) (b := 0) rfl t0i).mpr c1
  have c2 := (iLT (a := r) (b := 100) rfl (by decide : (100 : Int32).toInt = 100)).mp c2
  have er := nI_self (x := r) (by omega)
  rw [er]
  refine t_be (rI_n (by omega) (by omega)) ?_
  obtain ⟨a1, b1, e1, _⟩ := p_i2f (w 41 r.toInt.toNat)
  obtain ⟨a2, b2, e2, z2⟩ := p_i2f (w 18 0)
  have nz : (w 18 0).toInt ≠ 0 := fun q => c (by rw [← wk 18 (by omega)]; exact Int32.toInt_inj.mp (q.trans t0i.symm))
  exact gb (n_fdiv ⟨_, a1, b1, e1⟩ ⟨_, a2, b2, e2, fun y => nz (z2.mpr y)⟩) (fun u => t_bind (t_bitsOfFloat u) (fun _ _ => t_ret ⟨pw, wk⟩))
/-! the reference's -/
theorem n_hasMean {I0 I : gM} (hM : MI false I0 I) (hA : A9 I) (v : Int32) : ∃ b r, fX9_hasMean v I = some (b, r) ∧ MI false I0 r ∧ A9 r ∧ (b = 0 ∨ (b = 1 ∧ fX9_joinsNow I = some r ∧ GJ9 r ∧ 0 < (r 62 26).toInt ∧ ∃ l, l < 4 ∧ v = nI l)) ∧ (∀ k, k ≠ 62 → k ≠ 74 → k ≠ 75 → k ≠ 76 → k ≠ 77 → k ≠ 78 → k ≠ 79 → k ≠ 80 → r k = I k) ∧ ∀ j, j ≠ 19 → j ≠ 26 → j ≠ 27 → r 62 j = I 62 j := by
  obtain ⟨n, hn, en⟩ := hM.tn
  unfold fX9_hasMean
  rcases n_isAsked hM hn en v with ⟨l, l4, rfl, la, _, e1⟩ | ⟨_, e1⟩
  · rw [e1, obs, if_neg (by decide)]
    obtain ⟨r, er, er2, r1, r2, r3, r4⟩ := n_rowsNow hM
    rw [er2, obs]
    dsimp only
    by_cases c : r 62 26 ≤ 0
    · rw [if_pos c]
      exact ⟨0, r, rfl, r1, hA.join r3 r4, Or.inl rfl, r3, r4⟩
    · rw [if_neg c]
      have c := mt (iLE (a := r 62 26) (b := 0) rfl t0i).mpr c
      exact ⟨1, r, rfl, r1, hA.join r3 r4, Or.inr ⟨rfl, er, r2, by omega, l, l4, rfl⟩, r3, r4⟩
  · rw [e1, obs, if_pos rfl]
    exact ⟨0, I, rfl, hM, hA, Or.inl rfl, fun _ _ _ _ _ _ _ _ _ => rfl, fun _ _ _ _ => rfl⟩
theorem t_meanOf9 {I0 I : gM} (hM : MI false I0 I) {l : Nat} (hl : l < 4) (h : 0 < (I 62 26).toInt) : T (fX9_meanOf (nI l) I) (fun u => dc u ≠ .nan) := by
  obtain ⟨J, hJ, eJ⟩ := hM.n (k := 62) (j := 26) (hi := 20736) rfl
  unfold fX9_meanOf
  refine t_bind (P := fun _ => True) ?_ (fun w _ => ?_)
  · unfold lX9_meanOf_5
    refine t_it (P := fun s => ∃ i, s.2 = nI i ∧ i ≤ J) (μ := fun s => 20800 - s.2.toInt.toNat) (fun s p => ?_) ⟨0, rfl, by omega⟩
    obtain ⟨s1, s2⟩ := s
    obtain ⟨i, e1, h1⟩ := p
    dsimp only at e1
    subst e1
    dsimp only
    refine t_ite (fun c => t_ret trivial) (fun c => ?_)
    rw [eJ] at c
    have c := mt (nI_leI (a := J) (b := i) (by omega) (by omega)).mpr c
    rw [n_numberOf (by omega) hl, obs]
    exact t_nx ⟨i + 1, nI_1 i, by omega⟩ (by show 20800 - (nI i + 1).toInt.toNat < 20800 - (nI i).toInt.toNat; rw [nI_1, nIt (by omega), nIt (by omega)]; omega)
  · obtain ⟨d, r, e, z⟩ := p_pos h
    exact gbp (n_ddiv (p_l2d w) ⟨_, d, r, e, z⟩) (fun u pu => t_ret pu)
theorem t_dBits (x : UInt64) : T (fJxe99ae_doubleToLongBits_ccdee x) (fun _ => True) := by
  unfold fJxe99ae_doubleToLongBits_ccdee fJxe99ae_isNaN_b9ae7
  refine t_bind (P := fun _ => True) (t_ite (fun _ => t_ret trivial) (fun _ => t_ret trivial)) (fun _ _ => t_ite (fun _ => t_ret trivial) (fun _ => t_ret trivial))
theorem t_fBits (x : UInt32) : T (fJxf58ca_floatToIntBits_5c35a x) (fun _ => True) := by
  unfold fJxf58ca_floatToIntBits_5c35a fJxf58ca_isNaN_12338
  refine t_bind (P := fun _ => True) (t_ite (fun _ => t_ret trivial) (fun _ => t_ret trivial)) (fun _ _ => t_ite (fun _ => t_ret trivial) (fun _ => t_ret trivial))
theorem t_mean9 {I0 I : gM} (hM : MI false I0 I) (hA : A9 I) (v : Int32) : T (fX9_mean v I) (fun r => MI false I0 r.2 ∧ A9 r.2) := by
  obtain ⟨b, r, e, r1, r2, hb, _⟩ := n_hasMean hM hA v
  unfold fX9_mean
  refine t_be e (t_ite (fun _ => t_ret ⟨r1, r2⟩) (fun c => ?_))
  rcases hb with z | ⟨_, _, _, h, l, l4, rfl⟩
  · exact absurd z c
  · exact t_bind (t_meanOf9 r1 l4 h) (fun u _ => t_bind (t_dBits u) (fun _ _ => t_ret ⟨r1, r2⟩))
theorem t_meanAs9 {I0 I : gM} (hM : MI false I0 I) (hA : A9 I) (v v2 : Int32) : T (fX9_meanAs v v2 I) (fun r => MI false I0 r.2 ∧ A9 r.2) := by
  obtain ⟨b, r, e, r1, r2, hb, _⟩ := n_hasMean hM hA v
  unfold fX9_meanAs
  rcases n_in v2 0 1 with ⟨_, _, h3⟩ | ⟨_, h3⟩
  · rw [h3, obs, if_neg (by decide)]
    refine t_be e (t_ite (fun _ => t_ret ⟨r1, r2⟩) (fun c => ?_))
    rcases hb with z | ⟨_, _, _, h, l, l4, rfl⟩
    · exact absurd z c
    · refine t_ite (fun _ => ?_) (fun _ => t_bind (t_meanOf9 r1 l4 h) (fun u _ => t_ret ⟨r1, r2⟩))
      exact t_bind (t_meanOf9 r1 l4 h) (fun u pu => gb (n_d2f pu) (fun w => t_bind (t_fBits w) (fun _ _ => t_ret ⟨r1, r2⟩)))
  · rw [h3, obs, if_pos rfl]; exact t_ret ⟨hM, hA⟩
theorem t_spread9 {I0 I : gM} (hM : MI false I0 I) (hA : A9 I) (v : Int32) : T (fX9_spread v I) (fun r => MI false I0 r.2 ∧ A9 r.2) := by
  obtain ⟨b, r, e, r1, r2, hb, _⟩ := n_hasMean hM hA v
  unfold fX9_spread
  refine t_be e (t_ite (fun _ => t_ret ⟨r1, r2⟩) (fun c => ?_))
  rcases hb with z | ⟨_, _, _, h, l, l4, rfl⟩
  · exact absurd z c
  · obtain ⟨J, hJ, eJ⟩ := r1.n (k := 62) (j := 26) (hi := 20736) rfl
    refine t_bind (t_meanOf9 r1 l4 h) (fun me pme => ?_)
    refine t_bind (P := fun u => PD (dc u)) ?_ (fun w pw => ?_)
    · unfold lX9_spread_24
      refine t_it (P := fun s => ∃ i, s.2 = nI i ∧ i ≤ J ∧ PD (dc s.1)) (μ := fun s => 20800 - s.2.toInt.toNat) (fun s p => ?_) ⟨0, rfl, by omega, pd_0⟩
      obtain ⟨s1, s2⟩ := s
      obtain ⟨i, e1, h1, h2⟩ := p
      dsimp only at e1 h2
      subst e1
      dsimp only
      refine t_ite (fun c => t_ret h2) (fun c => ?_)
      rw [eJ] at c
      have c := mt (nI_leI (a := J) (b := i) (by omega) (by omega)).mpr c
      rw [n_numberOf (by omega) l4, obs]
      obtain ⟨c0, q0, e0, _⟩ := p_i2d (r 80 (4 * i + l))
      refine gbp (n_dsub ⟨_, c0, q0, e0⟩ pme) (fun u pu => ?_)
      obtain ⟨a1, a2⟩ := abs_pd pu
      have nx : ∀ x, PD (dc x) → T (bX9_spread_62 (nI i) x s1) (LQ (fun s => ∃ i, s.2 = nI i ∧ i ≤ J ∧ PD (dc s.1)) (20800 - (nI i).toInt.toNat) (fun s => 20800 - s.2.toInt.toNat) (fun u => PD (dc u))) := fun x px => by
        unfold bX9_spread_62
        refine gbp (p_dadd h2 px) (fun u pu => ?_)
        exact t_nx ⟨i + 1, nI_1 i, by omega, pu⟩ (by show 20800 - (nI i + 1).toInt.toNat < 20800 - (nI i).toInt.toNat; rw [nI_1, nIt (by omega), nIt (by omega)]; omega)
      exact t_ite (fun c => nx _ (a1 c)) (fun c => nx _ (a2 c))
    · exact gbp (p_ddiv pw (p_pos h)) (fun u _ => t_bind (t_dBits u) (fun _ _ => t_ret ⟨r1, r2⟩))
/-- one that is there has a most frequent number -/
theorem n_extremeOf {I0 I : gM} (hM : MI false I0 I) (hC : CT9 I) {l : Nat} (hl : l < 4) (h : 0 < (I 62 26).toInt) : ∃ v, v < 100 ∧ fX9_extremeOf (nI l) 3 I = some (nI v) := by
  obtain ⟨J, hJ, eJ, c1, _⟩ := hC
  have J0 : 0 < J := by
    rw [eJ, tnI (by omega)] at h; omega
  obtain ⟨m1, m2, _⟩ := mx0_n (hM.at (k := 80) (j := 4 * 0 + l) (lo := -1) (hi := 99) rfl)
  have pos := cntJ_has (K := I 80) (l := l) (j := 0) J0
  have key : T (lX9_extremeOf_5 (nI l) 3 I (-1, nI 0)) (fun r => ∃ v, v < 100 ∧ r = nI v) := by
    unfold lX9_extremeOf_5
    refine t_it (P := fun s => ∃ v, s.2 = nI v ∧ v ≤ 100 ∧ ((s.1 = -1 ∧ ∀ v', v' < v → cntJ (I 80) l v' J = 0) ∨ ∃ b, b < 100 ∧ s.1 = nI b)) (μ := fun s => 200 - s.2.toInt.toNat) (fun s p => ?_) ⟨0, rfl, by omega, Or.inl ⟨rfl, fun v' h => by omega⟩⟩
    obtain ⟨s1, s2⟩ := s
    obtain ⟨v, e1, h1, h2⟩ := p
    dsimp only at e1 h2
    subst e1
    dsimp only
    refine t_ite (fun c => ?_) (fun c => ?_)
    · have c := (nI_leI (a := 100) (by omega) (by omega)).mp c
      rcases h2 with ⟨_, z⟩ | z
      · have := z (mx0 (I 80 (4 * 0 + l))) (by omega)
        omega
      · obtain ⟨b, b1, b2⟩ := z
        exact t_ret (show ∃ v, v < 100 ∧ s1 = nI v from ⟨b, b1, b2⟩)
    · have c := mt (nI_leI (a := 100) (b := v) (by omega) (by omega)).mpr c
      have cl := cntJ_le (I 80) l v J
      have mu : 200 - (nI v + 1).toInt.toNat < 200 - (nI v).toInt.toNat := by rw [nI_1, nIt (by omega), nIt (by omega)]; omega
      rw [a100]
      refine t_be (rI_n (by omega) (by omega)) ?_
      rw [c1 l hl v (by omega)]
      have keep : T (bX9_extremeOf_67 s1 (nI v) 1) (LQ (fun s => ∃ v, s.2 = nI v ∧ v ≤ 100 ∧ ((s.1 = -1 ∧ ∀ v', v' < v → cntJ (I 80) l v' J = 0) ∨ ∃ b, b < 100 ∧ s.1 = nI b)) (200 - (nI v).toInt.toNat) (fun s => 200 - s.2.toInt.toNat) (fun r => ∃ v, v < 100 ∧ r = nI v)) := by
        unfold bX9_extremeOf_67
        rw [if_neg (by decide)]
        exact t_nx ⟨v + 1, nI_1 v, by omega, Or.inr ⟨v, by omega, rfl⟩⟩ mu
      have pass : ((s1 = -1 ∧ ∀ v', v' < v + 1 → cntJ (I 80) l v' J = 0) ∨ ∃ b, b < 100 ∧ s1 = nI b) → T (bX9_extremeOf_67 s1 (nI v) 0) (LQ (fun s => ∃ v, s.2 = nI v ∧ v ≤ 100 ∧ ((s.1 = -1 ∧ ∀ v', v' < v → cntJ (I 80) l v' J = 0) ∨ ∃ b, b < 100 ∧ s.1 = nI b)) (200 - (nI v).toInt.toNat) (fun s => 200 - s.2.toInt.toNat) (fun r => ∃ v, v < 100 ∧ r = nI v)) := fun q => by
        unfold bX9_extremeOf_67
        rw [if_pos rfl]
        exact t_nx ⟨v + 1, nI_1 v, by omega, q⟩ mu
      refine t_ite (fun c2 => ?_) (fun c2 => ?_)
      · have c2 := (nI_leI (b := 0) (by omega) (by omega)).mp c2
        refine pass ?_
        rcases h2 with ⟨z1, z2⟩ | z
        · refine Or.inl ⟨z1, fun v' hv' => ?_⟩
          rcases (by omega : v' < v ∨ v' = v) with y | y
          · exact z2 v' y
          · rw [y]; omega
        · exact Or.inr z
      · refine t_ite (fun c3 => keep) (fun c3 => ?_)
        rw [if_neg (show ¬ (3 : Int32) = 2 by decide), if_pos rfl]
        obtain ⟨b, b1, b2⟩ := h2.resolve_left (fun z => c3 z.1)
        subst b2
        rw [a100]
        refine t_be (rI_n (by omega) (by omega)) ?_
        exact t_ite (fun _ => pass (Or.inr ⟨b, b1, rfl⟩)) (fun _ => keep)
  obtain ⟨r, e, v, v1, rfl⟩ := key
  refine ⟨v, v1, ?_⟩
  unfold fX9_extremeOf
  rw [L0, e, obs]
theorem t_skew9 {I0 I : gM} (hM : MI false I0 I) (hA : A9 I) (v : Int32) : T (fX9_skew v I) (fun r => MI false I0 r.2 ∧ A9 r.2) := by
  obtain ⟨b, r, e, r1, r2, hb, fk, fj⟩ := n_hasMean hM hA v
  unfold fX9_skew
  refine t_be e (t_ite (fun _ => t_ret ⟨r1, r2⟩) (fun c => ?_))
  rcases hb with z | ⟨_, er, _, h, l, l4, rfl⟩
  · exact absurd z c
  · obtain ⟨r0, e0, _, a1, a2, a3, a4⟩ := n_rowsNow r1
    refine t_bind (n_counts r1 e0 a1 a2) (fun w pw => ?_)
    obtain ⟨w1, ⟨w2, w3⟩, w4⟩ := pw
    have hp : 0 < (r0 62 26).toInt := by
      obtain ⟨o, ho, eo⟩ := hM.n (k := 70) (j := 1) (hi := 23) rfl
      have e70 : r 70 = I 70 := fk 70 (by omega) (by omega) (by omega) (by omega) (by omega) (by omega) (by omega) (by omega)
      have j1 : fX9_joins (nI o) I = some r := by
        unfold fX9_joinsNow at er
        rw [show rI 331 (I 70) 1 = some (I 70 1) from rI_n (a := 1) (by omega) (by omega), obs, eo] at er
        obtain ⟨q, q1, q2⟩ := ob er
        rw [q1]; exact q2
      have j2 : fX9_joins (nI o) r = some r0 := by
        unfold fX9_joinsNow at e0
        rw [show rI 331 (r 70) 1 = some (r 70 1) from rI_n (a := 1) (by omega) (by omega), obs, e70, eo] at e0
        obtain ⟨q, q1, q2⟩ := ob e0
        rw [q1]; exact q2
      exact joins_pos hM r1 (by omega) (fj 17 (by omega) (by omega) (by omega)) e70 (fk 72 (by omega) (by omega) (by omega) (by omega) (by omega) (by omega) (by omega) (by omega)) (fk 73 (by omega) (by omega) (by omega) (by omega) (by omega) (by omega) (by omega) (by omega)) j1 j2 h
    have hw : 0 < (w 62 26).toInt := by rw [w4 62 (by omega) (by omega) (by omega)]; exact hp
    have Aw : A9 w := r2.same (by rw [w4 62 (by omega) (by omega) (by omega)]; exact a4 17 (by omega) (by omega) (by omega)) (by rw [w4 62 (by omega) (by omega) (by omega)]; exact a4 29 (by omega) (by omega) (by omega)) (by rw [w4 62 (by omega) (by omega) (by omega)]; exact a4 42 (by omega) (by omega) (by omega)) (fun k hk => by rw [w4 k (by omega) (by omega) (by omega)]; exact a3 k (by omega) (by omega) (by omega) (by omega) (by omega) (by omega) (by omega) (by omega))
    obtain ⟨x, x1, x2⟩ := n_extremeOf w1 w3 l4 hw
    refine t_be x2 ?_
    rw [a100]
    refine t_be (rI_n (by omega) (by omega)) ?_
    obtain ⟨c1, d1, e1, _⟩ := p_i2f (w 82 (100 * l + x))
    obtain ⟨c2, d2, e2, z2⟩ := p_i2f (w 62 26)
    exact gb (n_fdiv ⟨_, c1, d1, e1⟩ ⟨_, c2, d2, e2, fun y => by have := z2.mpr y; omega⟩) (fun u => t_bind (t_fBits u) (fun _ _ => t_ret ⟨w1, Aw⟩))
end P_30e_means
section P_31a_tape9
/-! the grammar of a tape: places only, and the numbers read -/
/-- the sign at a place, -1 behind the end -/
def hr (w : Nat → Int32) (n p : Nat) : Int32 := if n ≤ p then -1 else w p
/-- the first place from p on that holds no blank -/
def sk (w : Nat → Int32) (n p : Nat) : Nat := if p < n ∧ w p = 32 then sk w n (p + 1) else p
termination_by n - p
abbrev dg (c : Int32) : Prop := ¬ c < 48 ∧ ¬ 57 < c
theorem sk_le {w : Nat → Int32} {n : Nat} : ∀ {p : Nat}, p ≤ n → p ≤ sk w n p ∧ sk w n p ≤ n := by
  intro p
  induction h : n - p generalizing p with
  | zero =>
    intro hp
    unfold sk
    rw [if_neg (by omega)]; omega
  | succ k ih =>
    intro hp
    unfold sk
    by_cases c : p < n ∧ w p = 32
    · rw [if_pos c]
      have := ih (p := p + 1) (by omega) (by omega)
      omega
    · rw [if_neg c]; omega
theorem sk_end {w : Nat → Int32} {n : Nat} : ∀ {p : Nat}, p ≤ n → ¬ (sk w n p < n ∧ w (sk w n p) = 32) := by
  intro p
  induction h : n - p generalizing p with
  | zero =>
    intro hp
    unfold sk
    rw [if_neg (by omega)]; omega
  | succ k ih =>
    intro hp
    unfold sk
    by_cases c : p < n ∧ w p = 32
    · rw [if_pos c]
      exact ih (p := p + 1) (by omega) (by omega)
    · rw [if_neg c]; exact c
theorem sk_sk {w : Nat → Int32} {n p : Nat} (h : p ≤ n) : sk w n (sk w n p) = sk w n p := by
  rw [sk, if_neg (sk_end h)]
theorem hr_lt {w : Nat → Int32} {n p : Nat} (h : hr w n p ≠ -1) : p < n := by
  unfold hr at h
  by_cases c : n ≤ p
  · rw [if_pos c] at h; exact absurd rfl h
  · omega
theorem dg_m1 : ¬ dg (-1) := by decide
theorem dg_ne {c : Int32} (h : dg c) : c ≠ -1 := fun e => dg_m1 (e ▸ h)
/-- a digit's number -/
def dv (c : Int32) : Nat := (c.toInt - 48).toNat
theorem dg_v {c : Int32} (h : dg c) : dv c ≤ 9 ∧ c = nI (48 + dv c) := by
  have h1 := mt (iLT (a := c) (b := 48) rfl (by decide : (48 : Int32).toInt = 48)).mpr h.1
  have h2 := mt (iLT (a := (57 : Int32)) (b := c) (by decide : (57 : Int32).toInt = 57) rfl).mpr h.2
  unfold dv
  refine ⟨by omega, ?_⟩
  rw [nI_self (x := c) (by omega)]
  congr 1
  rw [← nI_self (x := c) (by omega)]
  omega
/-- a number up to hi of one or two digits, no third behind it -/
def pNum (w : Nat → Int32) (n hi p : Nat) : Option (Nat × Nat) :=
  let q := sk w n p
  if dg (hr w n q) then
    if dg (hr w n (q + 1)) then
      if dg (hr w n (q + 2)) then none
      else if 10 * dv (hr w n q) + dv (hr w n (q + 1)) ≤ hi then some (10 * dv (hr w n q) + dv (hr w n (q + 1)), q + 2) else none
    else if dv (hr w n q) ≤ hi then some (dv (hr w n q), q + 1) else none
  else none
def pMust (w : Nat → Int32) (n : Nat) (c : Int32) (p : Nat) : Option Nat :=
  if hr w n (sk w n p) = c then some (sk w n p + 1) else none
theorem pNum_le {w : Nat → Int32} {n hi p v q : Nat} (h : pNum w n hi p = some (v, q)) : v ≤ hi ∧ v ≤ 99 ∧ q ≤ n := by
  unfold pNum at h
  dsimp only at h
  by_cases c1 : dg (hr w n (sk w n p))
  · rw [if_pos c1] at h
    have v1 := (dg_v c1).1
    have l1 := hr_lt (dg_ne c1)
    by_cases c2 : dg (hr w n (sk w n p + 1))
    · rw [if_pos c2] at h
      have v2 := (dg_v c2).1
      have l2 := hr_lt (dg_ne c2)
      by_cases c3 : dg (hr w n (sk w n p + 2))
      · rw [if_pos c3] at h; cases h
      · rw [if_neg c3] at h
        split at h
        · cases h; omega
        · cases h
    · rw [if_neg c2] at h
      split at h
      · cases h; omega
      · cases h
  · rw [if_neg c1] at h; cases h
theorem pMust_le {w : Nat → Int32} {n p q : Nat} {c : Int32} (hc : c ≠ -1) (h : pMust w n c p = some q) : q ≤ n := by
  unfold pMust at h
  split at h
  · rename_i e
    have := hr_lt (w := w) (n := n) (p := sk w n p) (by rw [e]; exact hc)
    cases h; omega
  · cases h
theorem n10 : ¬ (1 : Int32) = 0 := by decide
/-! the reference reads it -/
/-- the memory with the reading at a place -/
def P9 (I : gM) (p : Nat) : gM := g_up I 62 3 (nI p)
theorem P9_P9 {I : gM} {p q : Nat} : P9 (P9 I p) q = P9 I q := by
  funext a b
  unfold P9
  by_cases c : a = 62 ∧ b = 3
  · rw [c.1, c.2, g_up_self, g_up_self]
  · rw [g_up_ne (by omega), g_up_ne (by omega), g_up_ne (by omega)]
theorem P9_3 {I : gM} {p : Nat} : P9 I p 62 3 = nI p := g_up_self
theorem P9_j {I : gM} {p j : Nat} (h : j ≠ 3) : P9 I p 62 j = I 62 j := g_up_ne (Or.inr h)
theorem P9_k {I : gM} {p k : Nat} (h : k ≠ 62) : P9 I p k = I k := g_up_row h
theorem P9_same {I : gM} {p : Nat} (h : I 62 3 = nI p) : P9 I p = I := g_up_same h
theorem P9_pU {I : gM} {p q : Nat} : g_up (P9 I p) 62 3 (nI q) = P9 I q := P9_P9
/-- a tape of n signs, the reading at p -/
def TP9 (I : gM) (n p : Nat) : Prop := I 62 2 = nI n ∧ n ≤ 400 ∧ I 62 3 = nI p ∧ p ≤ n
theorem TP9.at {I : gM} {n p q : Nat} (h : TP9 I n p) (hq : q ≤ n) : TP9 (P9 I q) n q := ⟨by rw [P9_j (by omega)]; exact h.1, h.2.1, P9_3, hq⟩
theorem n_here {I : gM} {n p : Nat} (h : TP9 I n p) : fX9_here I = some (hr (I 63) n p) := by
  obtain ⟨h1, h2, h3, h4⟩ := h
  unfold fX9_here hr
  rw [h1, h3]
  by_cases c : n ≤ p
  · rw [if_pos ((nI_leI (by omega) (by omega)).mpr c), if_pos c]
  · rw [if_neg (mt (nI_leI (a := n) (b := p) (by omega) (by omega)).mp c), if_neg c, rI_n (by omega) (by omega)]; rfl
theorem hr32 {w : Nat → Int32} {n p : Nat} : hr w n p = 32 ↔ p < n ∧ w p = 32 := by
  unfold hr
  by_cases c : n ≤ p
  · rw [if_pos c]; exact ⟨fun e => absurd e (by decide), fun e => absurd e.1 (by omega)⟩
  · rw [if_neg c]; exact ⟨fun e => ⟨by omega, e⟩, fun e => e.2⟩
theorem n_ahead {I : gM} {n p : Nat} (h : TP9 I n p) : fX9_ahead I = some (hr (I 63) n (sk (I 63) n p), P9 I (sk (I 63) n p)) := by
  have key : ∀ (k : Nat) (I : gM) (p : Nat), n - p = k → TP9 I n p → lX9_ahead_0 I = some (P9 I (sk (I 63) n p)) := by
    intro k
    induction k with
    | zero =>
      intro I p hk h
      unfold lX9_ahead_0
      rw [itO_eq, n_here h, obs, if_neg (mt hr32.mp (by omega)), obs]
      show some I = _
      rw [sk, if_neg (by omega), P9_same h.2.2.1]
    | succ k ih =>
      intro I p hk h
      by_cases c : p < n ∧ (I 63) p = 32
      · unfold lX9_ahead_0
        rw [itO_eq, n_here h, obs, if_pos (hr32.mpr c), pU_n, obs, obs]
        show lX9_ahead_0 (g_up I 62 3 (I 62 3 + 1)) = _
        rw [h.2.2.1, nI_1]
        have e := ih (P9 I (p + 1)) (p + 1) (by omega) (h.at (by omega))
        rw [P9_P9, P9_k (by decide)] at e
        rw [show g_up I 62 3 (nI (p + 1)) = P9 I (p + 1) from rfl, e]
        conv => rhs; rw [sk, if_pos c]
      · unfold lX9_ahead_0
        rw [itO_eq, n_here h, obs, if_neg (mt hr32.mp c), obs]
        show some I = _
        rw [sk, if_neg c, P9_same h.2.2.1]
  unfold fX9_ahead
  have := sk_le (w := I 63) h.2.2.2
  rw [key _ I p rfl h, obs, n_here (h.at this.2), obs, P9_k (by decide)]
theorem n_isDigit9 (c : Int32) : fX9_isDigit c = some (if dg c then 1 else 0) := by
  unfold fX9_isDigit dg
  by_cases c1 : c < 48
  · rw [if_pos c1, if_neg (fun z => z.1 c1)]
  · rw [if_neg c1]
    by_cases c2 : 57 < c
    · rw [if_pos c2, if_neg (fun z => z.2 c2)]
    · rw [if_neg c2, if_pos ⟨c1, c2⟩]
/-- wrong -/
def NE (r : gM) : Prop := r 62 4 ≠ -1
theorem n_bad {I : gM} {n p : Nat} (h : TP9 I n p) : ∃ r, fX9_bad I = some r ∧ NE r := by
  have := h.2.1
  have := h.2.2.2
  unfold fX9_bad
  by_cases c : I 62 4 = -1
  · rw [if_pos c, pU_n]
    exact ⟨_, rfl, show g_up I 62 4 (I 62 3) 62 4 ≠ -1 by rw [g_up_self, h.2.2.1]; exact nI_m1 (by omega)⟩
  · rw [if_neg c, pU_n]
    exact ⟨_, rfl, show g_up I 62 4 (I 62 4) 62 4 ≠ -1 by rw [g_up_self]; exact c⟩
theorem s_bad {I r : gM} (h : NE I) (e : fX9_bad I = some r) : r = I := by
  unfold fX9_bad at e
  rw [if_neg h, pU_n] at e
  cases e
  exact g_up_same rfl
theorem n_must {I : gM} {n p : Nat} (h : TP9 I n p) (hw : I 62 4 = -1) (c : Int32) :
    (∃ q, pMust (I 63) n c p = some q ∧ fX9_must c I = some (P9 I q)) ∨ (pMust (I 63) n c p = none ∧ ∃ r, fX9_must c I = some r ∧ NE r) := by
  have hs := sk_le (w := I 63) h.2.2.2
  have := h.2.1
  unfold fX9_must pMust
  rw [if_pos hw, n_ahead h, obs]
  dsimp only
  by_cases e : hr (I 63) n (sk (I 63) n p) = c
  · rw [if_pos e, if_pos e, pU_n, obs, P9_3, nI_1, P9_pU]
    exact Or.inl ⟨_, rfl, rfl⟩
  · rw [if_neg e, if_neg e]
    obtain ⟨r, er, hr⟩ := n_bad (h.at hs.2)
    refine Or.inr ⟨rfl, r, ?_, hr⟩
    unfold bX9_must_29
    rw [er, obs]
theorem s_must {I r : gM} {c : Int32} (h : NE I) (e : fX9_must c I = some r) : r = I := by
  unfold fX9_must at e
  rw [if_neg h] at e
  unfold bX9_must_29 at e
  obtain ⟨r3, er, e⟩ := ob e
  cases e
  exact s_bad h er
theorem s_number {I : gM} {r : Int32 × gM} {c : Int32} (h : NE I) (e : fX9_number c I = some r) : r.2 = I := by
  unfold fX9_number at e
  rw [if_neg h] at e
  unfold bX9_number_18 at e
  obtain ⟨r3, er, e⟩ := ob e
  cases e
  exact s_bad h er
theorem s_digit {I : gM} {r : Int32 × gM} (h : NE I) (e : fX9_digit I = some r) : r.2 = I := by
  unfold fX9_digit at e
  rw [if_neg h] at e
  unfold bX9_digit_18 at e
  obtain ⟨r3, er, e⟩ := ob e
  cases e
  exact s_bad h er
theorem dva {a : Nat} (h : a ≤ 9) (s : Nat) (hs : s ≤ 1000) : (10 : Int32) * nI s + nI (48 + a) - 48 = nI (10 * s + a) := by
  rw [show (10 : Int32) = nI 10 from rfl, show (48 : Int32) = nI 48 from rfl, nI_mul, nI_add, nI_sub (by omega)]
  congr 1; omega
theorem n_number {I : gM} {n p : Nat} (h : TP9 I n p) (hw : I 62 4 = -1) {hi : Nat} (hh : hi < 1000) :
    (∃ v q, pNum (I 63) n hi p = some (v, q) ∧ fX9_number (nI hi) I = some (nI v, P9 I q)) ∨ (pNum (I 63) n hi p = none ∧ ∃ r, fX9_number (nI hi) I = some r ∧ NE r.2) := by
  have hs := sk_le (w := I 63) h.2.2.2
  have hn := h.2.1
  have W : ∀ q, P9 I q 63 = I 63 := fun q => P9_k (by decide)
  unfold fX9_number pNum
  rw [if_pos hw, n_ahead h, obs]
  dsimp only
  rw [n_isDigit9, obs]
  by_cases c1 : dg (hr (I 63) n (sk (I 63) n p))
  · have v1 := dg_v c1
    have l1 := hr_lt (dg_ne c1)
    have z0 : fX9_here (P9 I (sk (I 63) n p)) = some (hr (I 63) n (sk (I 63) n p)) := by rw [n_here (h.at hs.2), W]
    have z1 : fX9_here (P9 I (sk (I 63) n p + 1)) = some (hr (I 63) n (sk (I 63) n p + 1)) := by rw [n_here (h.at (by omega)), W]
    generalize hq : sk (I 63) n p = q at *
    rw [if_pos c1, if_pos c1, if_neg n10]
    by_cases c2 : dg (hr (I 63) n (q + 1))
    · have v2 := dg_v c2
      have l2 := hr_lt (dg_ne c2)
      have e : lX9_number_28 ((0 : Int32), (0 : Int32), P9 I q) = some (nI (10 * dv (hr (I 63) n q) + dv (hr (I 63) n (q + 1))), P9 I (q + 2)) := by
        unfold lX9_number_28
        rw [itO_eq]; dsimp only
        rw [if_neg (by decide), z0, obs, n_isDigit9, obs, if_pos c1, if_neg n10, obs, pU_n, obs, P9_3, nI_1, P9_pU, obs]
        show itO _ _ = _
        rw [itO_eq]; dsimp only
        rw [if_neg (by decide), z1, obs, n_isDigit9, obs, if_pos c2, if_neg n10, obs, pU_n, obs, P9_3, nI_1, P9_pU, obs]
        show itO _ _ = _
        rw [itO_eq]; dsimp only
        rw [if_pos (by decide), obs]
        show some _ = some _
        congr 2
        rw [v1.2, v2.2, show (0 : Int32) = nI 0 from rfl, dva v1.1 0 (by omega), dva v2.1 _ (by omega)]
        congr 1
        rw [← v1.2, ← v2.2]; omega
      have z2 : fX9_here (P9 I (q + 2)) = some (hr (I 63) n (q + 2)) := by rw [n_here (h.at (by omega)), W]
      rw [e, obs]
      dsimp only
      unfold bX9_number_72
      rw [z2, obs, n_isDigit9, obs, if_pos c2]
      by_cases c3 : dg (hr (I 63) n (q + 2))
      · rw [if_pos c3, if_pos c3, if_neg n10]
        obtain ⟨r, er, hr⟩ := n_bad (h.at (q := q + 2) (by omega))
        rw [er, obs]
        exact Or.inr ⟨rfl, (_, r), rfl, hr⟩
      · rw [if_neg c3, if_neg c3, if_pos rfl]
        by_cases c4 : 10 * dv (hr (I 63) n q) + dv (hr (I 63) n (q + 1)) ≤ hi
        · rw [if_pos c4, if_pos ((nI_leI (by omega) (by omega)).mpr c4)]
          exact Or.inl ⟨_, _, rfl, rfl⟩
        · rw [if_neg c4, if_neg (mt (nI_leI (by omega) (by omega)).mp c4), pU_n, obs, P9_3, nI_s1 (by omega), P9_pU]
          obtain ⟨r, er, hr⟩ := n_bad (h.at (q := q + 2 - 1) (by omega))
          rw [er, obs]
          exact Or.inr ⟨rfl, (_, r), rfl, hr⟩
    · have e : lX9_number_28 ((0 : Int32), (0 : Int32), P9 I q) = some (nI (dv (hr (I 63) n q)), P9 I (q + 1)) := by
        unfold lX9_number_28
        rw [itO_eq]; dsimp only
        rw [if_neg (by decide), z0, obs, n_isDigit9, obs, if_pos c1, if_neg n10, obs, pU_n, obs, P9_3, nI_1, P9_pU, obs]
        show itO _ _ = _
        rw [itO_eq]; dsimp only
        rw [if_neg (by decide), z1, obs, n_isDigit9, obs, if_neg c2, if_pos rfl, obs]
        show some _ = some _
        congr 2
        rw [v1.2, show (0 : Int32) = nI 0 from rfl, dva v1.1 0 (by omega)]
        congr 1
        rw [← v1.2]; omega
      rw [e, obs]
      dsimp only
      unfold bX9_number_72
      rw [z1, obs, n_isDigit9, obs, if_neg c2, if_neg c2, if_pos rfl]
      by_cases c4 : dv (hr (I 63) n q) ≤ hi
      · rw [if_pos c4, if_pos ((nI_leI (by omega) (by omega)).mpr c4)]
        exact Or.inl ⟨_, _, rfl, rfl⟩
      · rw [if_neg c4, if_neg (mt (nI_leI (by omega) (by omega)).mp c4), pU_n, obs, P9_3, nI_s1 (by omega), P9_pU]
        obtain ⟨r, er, hr⟩ := n_bad (h.at (q := q + 1 - 1) (by omega))
        rw [er, obs]
        exact Or.inr ⟨rfl, (_, r), rfl, hr⟩
  · rw [if_neg c1, if_neg c1, if_pos rfl]
    obtain ⟨r, er, hr⟩ := n_bad (h.at hs.2)
    refine Or.inr ⟨rfl, ((0 : Int32), r), ?_, hr⟩
    unfold bX9_number_18
    rw [er, obs]
theorem n_digit {I : gM} {n p : Nat} (h : TP9 I n p) (hw : I 62 4 = -1) :
    (dg (hr (I 63) n (sk (I 63) n p)) ∧ fX9_digit I = some (nI (dv (hr (I 63) n (sk (I 63) n p))), P9 I (sk (I 63) n p + 1))) ∨ (¬ dg (hr (I 63) n (sk (I 63) n p)) ∧ ∃ r, fX9_digit I = some r ∧ NE r.2) := by
  have hs := sk_le (w := I 63) h.2.2.2
  have hn := h.2.1
  unfold fX9_digit
  rw [if_pos hw, n_ahead h, obs]
  dsimp only
  rw [n_isDigit9, obs]
  by_cases c1 : dg (hr (I 63) n (sk (I 63) n p))
  · have v1 := dg_v c1
    have l1 := hr_lt (dg_ne c1)
    refine Or.inl ⟨c1, ?_⟩
    rw [if_pos c1, if_neg n10, pU_n, obs, P9_3, nI_1, P9_pU, P9_3, nI_s1 (by omega), rI_n (by omega) (by omega), obs, P9_k (by decide)]
    congr 2
    have : (I 63) (sk (I 63) n p + 1 - 1) = hr (I 63) n (sk (I 63) n p) := by
      unfold hr; rw [if_neg (by omega)]; rfl
    rw [this]
    conv => lhs; rw [v1.2]
    rw [show (48 : Int32) = nI 48 from rfl, nI_sub (by omega)]
    congr 1; omega
  · rw [if_neg c1, if_pos rfl]
    obtain ⟨r, er, hr⟩ := n_bad (h.at hs.2)
    refine Or.inr ⟨c1, ((0 : Int32), r), ?_, hr⟩
    unfold bX9_digit_18
    rw [er, obs]
end P_31a_tape9
section P_31b_reads9
/-! a head of letters -/
abbrev lt_ (c : Int32) : Prop := ¬ c < 97 ∧ ¬ 100 < c
def lv (c : Int32) : Nat := (c.toInt - 97).toNat
theorem lt_v {c : Int32} (h : lt_ c) : lv c ≤ 3 ∧ c = nI (97 + lv c) := by
  have h1 := mt (iLT (a := c) (b := 97) rfl (by decide : (97 : Int32).toInt = 97)).mpr h.1
  have h2 := mt (iLT (a := (100 : Int32)) (b := c) (by decide : (100 : Int32).toInt = 100) rfl).mpr h.2
  unfold lv
  refine ⟨by omega, ?_⟩
  rw [nI_self (x := c) (by omega)]
  congr 1
  rw [← nI_self (x := c) (by omega)]
  omega
theorem lt_ne {c : Int32} (h : lt_ c) : c ≠ -1 := fun e => by subst e; exact absurd h (by decide)
def pHead (w : Nat → Int32) (n : Nat) : Nat → List Nat → Nat → Option (List Nat × Nat)
  | 0, _, _ => none
  | k + 1, ls, p =>
    if lt_ (hr w n (sk w n p)) then
      if ls.length = 3 ∨ lv (hr w n (sk w n p)) ∈ ls then none
      else pHead w n k (ls ++ [lv (hr w n (sk w n p))]) (sk w n p + 1)
    else if ls = [] then none
    else if hr w n (sk w n p) = 58 then some (ls, sk w n p + 1) else none
theorem pHead_ok {w : Nat → Int32} {n : Nat} : ∀ {k : Nat} {ls : List Nat} {p : Nat} {r : List Nat × Nat}, ls.length ≤ 3 → pHead w n k ls p = some r → ls.length ≤ r.1.length ∧ 1 ≤ r.1.length ∧ r.1.length ≤ 3 ∧ r.2 ≤ n := by
  intro k
  induction k with
  | zero => intro ls p r _ h; cases h
  | succ k ih =>
    intro ls p r hl h
    unfold pHead at h
    by_cases c1 : lt_ (hr w n (sk w n p))
    · rw [if_pos c1] at h
      split at h
      · cases h
      · rename_i c2
        have q := ih (by rw [List.length_append]; simp only [List.length_cons, List.length_nil]; omega) h
        rw [List.length_append] at q
        omega
    · rw [if_neg c1] at h
      split at h
      · cases h
      · rename_i c2
        split at h
        · rename_i c3
          have l1 := hr_lt (w := w) (n := n) (p := sk w n p) (by rw [c3]; decide)
          have : ls.length ≠ 0 := fun e => c2 (List.eq_nil_of_length_eq_zero e)
          cases h
          exact ⟨Nat.le_refl _, by show 1 ≤ ls.length; omega, hl, by show _ + 1 ≤ n; omega⟩
        · cases h
theorem n_isLetter9 (c : Int32) : fX9_isLetter c = some (if lt_ c then 1 else 0) := by
  unfold fX9_isLetter lt_
  by_cases c1 : c < 97
  · rw [if_pos c1, if_neg (fun z => z.1 c1)]
  · rw [if_neg c1]
    by_cases c2 : 100 < c
    · rw [if_pos c2, if_neg (fun z => z.2 c2)]
    · rw [if_neg c2, if_pos ⟨c1, c2⟩]
theorem e_bad {I : gM} (h : NE I) : fX9_bad I = some I := by
  unfold fX9_bad
  rw [if_neg h, pU_n, obs, g_up_same rfl]
theorem e_must {I : gM} (h : NE I) (c : Int32) : fX9_must c I = some I := by
  unfold fX9_must
  rw [if_neg h]
  unfold bX9_must_29
  rw [e_bad h, obs]
theorem e_number {I : gM} (h : NE I) (c : Int32) : fX9_number c I = some (0, I) := by
  unfold fX9_number
  rw [if_neg h]
  unfold bX9_number_18
  rw [e_bad h, obs]
theorem hs_or : ∀ m, m < 16 → ∀ l, l < 4 → nI m ||| ((1 : Int32) <<< (nI l &&& 31)) = nI (m ||| 2 ^ l) ∧ m ||| 2 ^ l < 16 ∧ ∀ j, j < 4 → ((m ||| 2 ^ l).testBit j = true ↔ (m.testBit j = true ∨ j = l)) := by decide +kernel
theorem n_headGo {I : gM} {n t : Nat} (ht : t < 4) : ∀ (k : Nat) (ls : List Nat) (p s : Nat) (M : gM), ls.length ≤ 3 → ls.length + k = 4 → TP9 M n p → M 62 4 = -1 → M 63 = I 63 → s < 16 → (∀ j, j < 4 → (s.testBit j = true ↔ j ∈ ls)) → M 64 t = nI ls.length → (ls = [] → lt_ (hr (I 63) n (sk (I 63) n p))) →
    (∀ a, a ≠ t → M 64 a = I 64 a) → (∀ a, M 65 a = if 3 * t ≤ a ∧ a < 3 * t + ls.length then nI (ls.getD (a - 3 * t) 0) else I 65 a) →
    ∃ r, ((lX9_readHead_24 (nI t) (nI s, M)).bind fun w => bX9_readHead_121 w) = some r ∧
      ((pHead (I 63) n k ls p = none ∧ NE r) ∨ ∃ x, pHead (I 63) n k ls p = some x ∧ r 62 4 = -1 ∧ r 62 3 = nI x.2 ∧ (∀ a, r 64 a = if a = t then nI x.1.length else I 64 a) ∧ ∀ a, r 65 a = if 3 * t ≤ a ∧ a < 3 * t + x.1.length then nI (x.1.getD (a - 3 * t) 0) else I 65 a) := by
  intro k
  induction k with
  | zero =>
    intro ls p s M hl hk hT hw h63 hs16 hb h64 hne he64 h65
    omega
  | succ k ih =>
    intro ls p s M hl hk hT hw h63 hs16 hb h64 hne he64 h65
    have W : ∀ q, P9 M q 63 = I 63 := fun q => (P9_k (by decide)).trans h63
    have hs := sk_le (w := I 63) hT.2.2.2
    have hn := hT.2.1
    have ea := n_ahead hT
    rw [h63] at ea
    have eh := n_here (hT.at hs.2)
    rw [W] at eh
    unfold lX9_readHead_24 pHead
    generalize hq : sk (I 63) n p = q at *
    rw [itO_eq]; dsimp only
    rw [if_pos hw, ea, obs]; dsimp only
    rw [n_isLetter9, obs]
    by_cases c1 : lt_ (hr (I 63) n q)
    · have v1 := lt_v c1
      have l1 := hr_lt (lt_ne c1)
      rw [if_pos c1, if_pos c1, if_neg n10, eh, obs, rI_n (by omega) (by omega), obs, P9_k (by decide), h64]
      have bad : ∀ σ : Int32, ∃ r, ((((bX9_readHead_69 σ (P9 M q)).bind fun y => Sum.elim (fun s' => lX9_readHead_24 (nI t) s') (fun r => some r) y)).bind fun w => bX9_readHead_121 w) = some r ∧ NE r := by
        intro σ
        obtain ⟨r, er, hr⟩ := n_bad (hT.at hs.2)
        refine ⟨r, ?_, hr⟩
        unfold bX9_readHead_69 bX9_readHead_118
        rw [er, obs, obs]
        show ((lX9_readHead_24 (nI t) (σ, r)).bind _) = _
        unfold lX9_readHead_24
        rw [itO_eq]; dsimp only
        rw [if_neg hr, obs]
        show bX9_readHead_121 r = _
        unfold bX9_readHead_121
        rw [e_must hr, obs]
      by_cases c2 : ls.length = 3
      · rw [if_pos (by rw [c2]; rfl), if_pos (Or.inl c2)]
        obtain ⟨r, er, hr⟩ := bad (nI s)
        exact ⟨r, er, Or.inl ⟨rfl, hr⟩⟩
      · rw [if_neg (show ¬ nI ls.length = (3 : Int32) from fun e => c2 (nI_inj (b := 3) e (by omega) (by omega)))]
        have ec : hr (I 63) n q - 97 = nI (lv (hr (I 63) n q)) := by
          conv => lhs; rw [v1.2]
          rw [show (97 : Int32) = nI 97 from rfl, nI_sub (by omega)]
          congr 1; omega
        rw [ec]
        by_cases c3 : lv (hr (I 63) n q) ∈ ls
        · rw [n_has1 ((hs_nI hs16 (by omega)).mpr ((hb _ (by omega)).mpr c3)), obs, if_neg n10, if_pos (Or.inr c3)]
          obtain ⟨r, er, hr⟩ := bad (nI s)
          exact ⟨r, er, Or.inl ⟨rfl, hr⟩⟩
        · rw [n_has0 (fun z => c3 ((hb _ (by omega)).mp ((hs_nI hs16 (by omega)).mp z))), obs, if_pos rfl, if_neg (by intro z; rcases z with z | z; exact c2 z; exact c3 z)]
          obtain ⟨b1, b2, b3⟩ := hs_or s hs16 (lv (hr (I 63) n q)) (by omega)
          rw [obs, a3, wI_n (by omega) (by omega), obs, g_up_row (show 64 ≠ 65 by decide), P9_k (by decide), rI_n (by omega) (by omega), obs, h64, nI_1, wI_n (by omega) (by omega), obs, pU_n, obs]
          unfold bX9_readHead_118
          rw [obs, b1]
          show ∃ r, ((lX9_readHead_24 (nI t) (nI (s ||| 2 ^ lv (hr (I 63) n q)), _)).bind _) = _ ∧ _
          generalize hN : g_up (g_up (g_up (P9 M q) 65 (3 * t + ls.length) (nI (lv (hr (I 63) n q)))) 64 t (nI (ls.length + 1))) 62 3 _ = N
          have N3 : N 62 3 = nI (q + 1) := by
            rw [← hN, g_up_self, g_up_row (by decide), g_up_row (by decide), P9_3, nI_1]
          have Nj : ∀ j, j ≠ 3 → N 62 j = M 62 j := fun j hj => by
            rw [← hN, g_up_ne (Or.inr hj), g_up_row (by decide), g_up_row (by decide), P9_j hj]
          have N63 : N 63 = I 63 := by
            rw [← hN, g_up_row (by decide), g_up_row (by decide), g_up_row (by decide), W]
          have N64 : ∀ a, N 64 a = if a = t then nI (ls.length + 1) else M 64 a := fun a => by
            rw [← hN, g_up_row (by decide), gu_in, g_up_row (by decide), P9_k (by decide)]
          have N65 : ∀ a, N 65 a = if a = 3 * t + ls.length then nI (lv (hr (I 63) n q)) else M 65 a := fun a => by
            rw [← hN, g_up_row (by decide), g_up_row (by decide), gu_in, P9_k (by decide)]
          have el : (ls ++ [lv (hr (I 63) n q)]).length = ls.length + 1 := by rw [List.length_append]; rfl
          refine ih (ls ++ [lv (hr (I 63) n q)]) (q + 1) (s ||| 2 ^ lv (hr (I 63) n q)) N (by rw [el]; omega) (by rw [el]; omega) ⟨by rw [Nj 2 (by decide)]; exact hT.1, hT.2.1, N3, by omega⟩ (by rw [Nj 4 (by decide)]; exact hw) N63 b2 (fun j hj => ?_) (by rw [N64, if_pos rfl, el]) (fun e => absurd e (by simp)) (fun a ha => by rw [N64, if_neg ha]; exact he64 a ha) (fun a => ?_)
          · rw [b3 j hj, hb j hj, List.mem_append, List.mem_singleton]
          · rw [N65, el, h65]
            by_cases d1 : a = 3 * t + ls.length
            · rw [if_pos d1, if_pos (by omega), d1, Nat.add_sub_cancel_left, List.getD_eq_getElem?_getD, List.getElem?_append_right (Nat.le_refl _), Nat.sub_self]; rfl
            · rw [if_neg d1]
              by_cases d2 : 3 * t ≤ a ∧ a < 3 * t + ls.length
              · rw [if_pos d2, if_pos (by omega), List.getD_eq_getElem?_getD, List.getD_eq_getElem?_getD, List.getElem?_append_left (by omega)]
              · rw [if_neg d2, if_neg (by omega)]
    · rw [if_neg c1, if_neg c1, if_pos rfl, obs]
      have c2 : ¬ ls = [] := fun e => c1 (hne e)
      rw [if_neg c2]
      show ∃ r, bX9_readHead_121 (P9 M q) = some r ∧ _
      unfold bX9_readHead_121
      rcases n_must (hT.at hs.2) (by rw [P9_j (by decide)]; exact hw) 58 with ⟨q', e1, e2⟩ | ⟨e1, r, e2, hr⟩
      · rw [W] at e1
        unfold pMust at e1
        rw [← hq, sk_sk hT.2.2.2, hq] at e1
        split at e1
        · rename_i c3
          cases e1
          rw [e2, obs, P9_P9, if_pos c3]
          refine ⟨_, rfl, Or.inr ⟨_, rfl, by rw [P9_j (by decide)]; exact hw, P9_3, fun a => ?_, fun a => ?_⟩⟩
          · rw [P9_k (by decide)]
            by_cases d : a = t
            · rw [if_pos d, d, h64]
            · rw [if_neg d, he64 a d]
          · rw [P9_k (by decide)]; exact h65 a
        · cases e1
      · rw [W] at e1
        unfold pMust at e1
        rw [← hq, sk_sk hT.2.2.2, hq] at e1
        split at e1
        · cases e1
        · rename_i c3
          rw [e2, obs, if_neg c3]
          exact ⟨r, rfl, Or.inl ⟨rfl, hr⟩⟩
end P_31b_reads9
section P_31c_reads9
theorem n_readHead {I : gM} {n p t : Nat} (ht : t < 4) (hT : TP9 I n p) (hw : I 62 4 = -1) :
    ∃ r, fX9_readHead (nI t) I = some r ∧ ((pHead (I 63) n 4 [] p = none ∧ NE r) ∨ ∃ x, pHead (I 63) n 4 [] p = some x ∧ r 62 4 = -1 ∧ r 62 3 = nI x.2 ∧ (∀ a, r 64 a = if a = t then nI x.1.length else I 64 a) ∧ ∀ a, r 65 a = if 3 * t ≤ a ∧ a < 3 * t + x.1.length then nI (x.1.getD (a - 3 * t) 0) else I 65 a) := by
  have hs := sk_le (w := I 63) hT.2.2.2
  unfold fX9_readHead
  rw [wI_n (by omega) (by omega), obs]
  have hT1 : TP9 (g_up I 64 t 0) n p := ⟨by rw [g_up_row (by decide)]; exact hT.1, hT.2.1, by rw [g_up_row (by decide)]; exact hT.2.2.1, hT.2.2.2⟩
  have W1 : g_up I 64 t 0 63 = I 63 := g_up_row (by decide)
  rw [n_ahead hT1, obs, W1]
  dsimp only
  rw [n_isLetter9, obs]
  by_cases c1 : lt_ (hr (I 63) n (sk (I 63) n p))
  · rw [if_pos c1, if_neg n10]
    have W : P9 (g_up I 64 t 0) (sk (I 63) n p) 63 = I 63 := (P9_k (by decide)).trans W1
    obtain ⟨r, e, h⟩ := n_headGo (I := I) ht 4 [] (sk (I 63) n p) 0 (P9 (g_up I 64 t 0) (sk (I 63) n p)) (by decide) rfl (hT1.at hs.2) (by rw [P9_j (by decide), g_up_row (by decide)]; exact hw) W (by decide) (fun j _ => by simp) (by rw [P9_k (by decide), g_up_self]; rfl) (fun _ => by rw [sk_sk hT.2.2.2]; exact c1) (fun a ha => by rw [P9_k (by decide), g_up_ne (Or.inr ha)]) (fun a => by rw [P9_k (by decide), g_up_row (by decide), if_neg (by simp only [List.length_nil]; omega)])
    refine ⟨r, e, ?_⟩
    have es : pHead (I 63) n 4 [] (sk (I 63) n p) = pHead (I 63) n 4 [] p := by
      unfold pHead; rw [sk_sk hT.2.2.2]
    rw [es] at h
    exact h
  · rw [if_neg c1, if_pos rfl]
    obtain ⟨r, er, hr⟩ := n_bad (hT1.at (q := sk (I 63) n p) hs.2)
    rw [er, obs]
    unfold lX9_readHead_24
    rw [itO_eq]; dsimp only
    rw [if_neg hr, obs]
    show ∃ r', bX9_readHead_121 r = some r' ∧ _
    unfold bX9_readHead_121
    rw [e_must hr, obs]
    refine ⟨r, rfl, Or.inl ⟨?_, hr⟩⟩
    unfold pHead
    rw [if_neg c1, if_pos rfl]
/-! a row -/
def pRow (w : Nat → Int32) (n wd p : Nat) : Option (List Nat × Nat) :=
  (pNum w n 99 p).bind fun a => if wd ≤ 1 then some ([a.1], a.2) else
  (pMust w n 44 a.2).bind fun p2 => (pNum w n 99 p2).bind fun b => if wd ≤ 2 then some ([a.1, b.1], b.2) else
  (pMust w n 44 b.2).bind fun p3 => (pNum w n 99 p3).bind fun c => some ([a.1, b.1, c.1], c.2)
/-- a row's cell -/
def ce (r : List Nat) (c : Nat) : Int32 := if c < r.length then nI (r.getD c 0) else -1
theorem n_col9 {M : gM} {t wd b k : Nat} (ht : t < 4) (e : M 64 t = nI wd) (hw : wd ≤ 3) (hk : k < 3) (hb : b + k < 144) (h : wd ≤ k) : bX9_readRow_41 (nI t) (nI b) (nI k) M = some (.inl (nI (k + 1), g_up M 67 (b + k) (-1))) := by
  unfold bX9_readRow_41 bX9_readRow_68
  rw [rI_n (by omega) (by omega), obs, e, if_pos ((nI_leI (by omega) (by omega)).mpr h), nI_add, wI_n (by omega) (by omega), obs, nI_1]
theorem n_colE {M : gM} {t wd b k : Nat} (hM : NE M) (ht : t < 4) (e : M 64 t = nI wd) (hw : wd ≤ 3) (hk : k < 3) (hb : b + k < 144) : ∃ r, bX9_readRow_41 (nI t) (nI b) (nI k) M = some (.inl (nI (k + 1), r)) ∧ NE r ∧ r 64 = M 64 := by
  by_cases h : wd ≤ k
  · refine ⟨_, n_col9 ht e hw hk hb h, ?_, g_up_row (by decide)⟩
    show g_up M 67 (b + k) (-1) 62 4 ≠ -1
    rw [g_up_row (by decide)]; exact hM
  · unfold bX9_readRow_41 bX9_readRow_68
    rw [rI_n (by omega) (by omega), obs, e, if_neg (mt (nI_leI (by omega) (by omega)).mp h), e_number hM, obs]
    dsimp only
    rw [nI_add, wI_n (by omega) (by omega), obs, nI_1]
    refine ⟨_, rfl, ?_, g_up_row (by decide)⟩
    show g_up M 67 (b + k) 0 62 4 ≠ -1
    rw [g_up_row (by decide)]; exact hM
theorem n_colN {M : gM} {t wd b k n p : Nat} (hT : TP9 M n p) (hM : M 62 4 = -1) (ht : t < 4) (e : M 64 t = nI wd) (hw : wd ≤ 3) (hk : k < wd) (hb : b + k < 144) :
    (∃ v q, pNum (M 63) n 99 p = some (v, q) ∧ bX9_readRow_41 (nI t) (nI b) (nI k) M = some (.inl (nI (k + 1), g_up (P9 M q) 67 (b + k) (nI v)))) ∨ (pNum (M 63) n 99 p = none ∧ ∃ r, bX9_readRow_41 (nI t) (nI b) (nI k) M = some (.inl (nI (k + 1), r)) ∧ NE r ∧ r 64 = M 64) := by
  unfold bX9_readRow_41 bX9_readRow_68
  rw [rI_n (by omega) (by omega), obs, e, if_neg (mt (nI_leI (by omega) (by omega)).mp (by omega))]
  rcases n_number hT hM (hi := 99) (by omega) with ⟨v, q, e1, e2⟩ | ⟨e1, r, e2, hr⟩
  · refine Or.inl ⟨v, q, e1, ?_⟩
    rw [show (99 : Int32) = nI 99 from rfl, e2, obs]
    dsimp only
    rw [nI_add, wI_n (by omega) (by omega), obs, nI_1]
  · refine Or.inr ⟨e1, ?_⟩
    rw [show (99 : Int32) = nI 99 from rfl, e2, obs, nI_add, wI_n (by omega) (by omega), obs, nI_1]
    refine ⟨_, rfl, ?_, ?_⟩
    · show g_up r.2 67 (b + k) r.1 62 4 ≠ -1
      rw [g_up_row (by decide)]; exact hr
    · rw [g_up_row (by decide)]
      funext j
      exact xfX9_number _ _ e2 64 j (Or.inl (by decide)) (Or.inl (by decide))
theorem n_step9 {M : gM} {t wd b k : Nat} (hM : NE M) (ht : t < 4) (e : M 64 t = nI wd) (hw : wd ≤ 3) (hb : b + 2 < 144) : ∀ j, k + j = 3 → ∃ r, lX9_readRow_16 (nI t) (nI b) (nI k, M) = some r ∧ NE r := by
  intro j
  induction j generalizing k M with
  | zero =>
    intro hj
    unfold lX9_readRow_16
    rw [itO_eq]; dsimp only
    rw [show k = 3 by omega, if_pos (by decide), obs]
    exact ⟨M, rfl, hM⟩
  | succ j ih =>
    intro hj
    obtain ⟨r, e1, h1, h2⟩ := n_colE (b := b) (k := k) hM ht e hw (by omega) (by omega)
    unfold lX9_readRow_16
    rw [itO_eq]; dsimp only
    rw [L3, if_neg (mt (nI_leI (by omega) (by omega)).mp (by omega))]
    have fin : ∃ r, (((bX9_readRow_41 (nI t) (nI b) (nI k) M).bind fun y => Sum.elim (fun s' => lX9_readRow_16 (nI t) (nI b) s') (fun r => some r) y)) = some r ∧ NE r := by
      rw [e1, obs]
      exact ih h1 (by rw [h2]; exact e) (by omega)
    by_cases c : k ≤ 0
    · rw [L0, if_pos ((nI_leI (by omega) (by omega)).mpr c)]
      exact fin
    · rw [L0, if_neg (mt (nI_leI (by omega) (by omega)).mp c), rI_n (by omega) (by omega), obs, e]
      by_cases c2 : wd ≤ k
      · rw [if_pos ((nI_leI (by omega) (by omega)).mpr c2)]
        exact fin
      · rw [if_neg (mt (nI_leI (by omega) (by omega)).mp c2), e_must hM, obs]
        exact fin
end P_31c_reads9
section P_31d_reads9
/-- a row being read: k columns are written -/
def RwS (I M : gM) (b k q : Nat) (row : List Nat) : Prop := M 62 4 = -1 ∧ M 62 3 = nI q ∧ (∀ j, j ≠ 3 → M 62 j = I 62 j) ∧ (∀ a, a ≠ 62 → a ≠ 67 → M a = I a) ∧ ∀ a, M 67 a = if b ≤ a ∧ a < b + k then ce row (a - b) else I 67 a
theorem RwS.mv {I M : gM} {b k q : Nat} {row : List Nat} (h : RwS I M b k q row) (q' : Nat) : RwS I (P9 M q') b k q' row :=
  ⟨by rw [P9_j (by decide)]; exact h.1, P9_3, fun j hj => by rw [P9_j hj]; exact h.2.2.1 j hj, fun a h1 h2 => by rw [P9_k h1]; exact h.2.2.2.1 a h1 h2, fun a => by rw [P9_k (by decide)]; exact h.2.2.2.2 a⟩
theorem RwS.wr {I M : gM} {b k q : Nat} {row row' : List Nat} (h : RwS I M b k q row) {v : Int32} (hp : ∀ c, c < k → ce row' c = ce row c) (hv : ce row' k = v) : RwS I (g_up M 67 (b + k) v) b (k + 1) q row' := by
  refine ⟨by rw [g_up_row (by decide)]; exact h.1, by rw [g_up_row (by decide)]; exact h.2.1, fun j hj => by rw [g_up_row (by decide)]; exact h.2.2.1 j hj, fun a h1 h2 => by rw [g_up_row h2]; exact h.2.2.2.1 a h1 h2, fun a => ?_⟩
  rw [gu_in, h.2.2.2.2]
  by_cases d1 : a = b + k
  · rw [if_pos d1, if_pos (by omega), d1, Nat.add_sub_cancel_left, hv]
  · rw [if_neg d1]
    by_cases d2 : b ≤ a ∧ a < b + k
    · rw [if_pos d2, if_pos (by omega), hp _ (by omega)]
    · rw [if_neg d2, if_neg (by omega)]
theorem RwS.tp {I M : gM} {b k q n p : Nat} {row : List Nat} (h : RwS I M b k q row) (hT : TP9 I n p) (hq : q ≤ n) : TP9 M n q := ⟨by rw [h.2.2.1 2 (by decide)]; exact hT.1, hT.2.1, h.2.1, hq⟩
theorem RwS.tape {I M : gM} {b k q : Nat} {row : List Nat} (h : RwS I M b k q row) : M 63 = I 63 := h.2.2.2.1 63 (by decide) (by decide)
theorem RwS.wide {I M : gM} {b k q : Nat} {row : List Nat} (h : RwS I M b k q row) : M 64 = I 64 := h.2.2.2.1 64 (by decide) (by decide)
/-- what follows a column -/
noncomputable def cKo (t b : Nat) : ((Int32 × gM) ⊕ gM) → Option gM := fun y => Sum.elim (fun s' => lX9_readRow_16 (nI t) (nI b) s') (fun r => some r) y
theorem st_0 {t b : Nat} {M : gM} : lX9_readRow_16 (nI t) (nI b) (nI 0, M) = (bX9_readRow_41 (nI t) (nI b) (nI 0) M).bind (cKo t b) := by
  conv => lhs; unfold lX9_readRow_16
  rw [itO_eq]; dsimp only
  rw [if_neg (by decide), if_pos (by decide)]
  rfl
theorem st_p {t b k wd : Nat} {M : gM} (ht : t < 4) (e : M 64 t = nI wd) (hw : wd ≤ 3) (h1 : 1 ≤ k) (h2 : k < 3) (h : wd ≤ k) : lX9_readRow_16 (nI t) (nI b) (nI k, M) = (bX9_readRow_41 (nI t) (nI b) (nI k) M).bind (cKo t b) := by
  conv => lhs; unfold lX9_readRow_16
  rw [itO_eq]; dsimp only
  rw [L3, if_neg (mt (nI_leI (by omega) (by omega)).mp (by omega)), L0, if_neg (mt (nI_leI (by omega) (by omega)).mp (by omega)), rI_n (by omega) (by omega), obs, e, if_pos ((nI_leI (by omega) (by omega)).mpr h)]
  rfl
theorem st_m {t b k wd : Nat} {M : gM} (ht : t < 4) (e : M 64 t = nI wd) (hw : wd ≤ 3) (h1 : 1 ≤ k) (h2 : k < wd) : lX9_readRow_16 (nI t) (nI b) (nI k, M) = (fX9_must 44 M).bind fun r6 => (bX9_readRow_41 (nI t) (nI b) (nI k) r6).bind (cKo t b) := by
  conv => lhs; unfold lX9_readRow_16
  rw [itO_eq]; dsimp only
  rw [L3, if_neg (mt (nI_leI (by omega) (by omega)).mp (by omega)), L0, if_neg (mt (nI_leI (by omega) (by omega)).mp (by omega)), rI_n (by omega) (by omega), obs, e, if_neg (mt (nI_leI (by omega) (by omega)).mp (by omega))]
  cases fX9_must 44 M <;> rfl
theorem st_3 {t b : Nat} {M : gM} : lX9_readRow_16 (nI t) (nI b) (nI 3, M) = some M := by
  unfold lX9_readRow_16
  rw [itO_eq]; dsimp only
  rw [if_pos (by decide), obs]; rfl
theorem ce_1 {x c : Nat} : ce [x] c = if c = 0 then nI x else -1 := by
  unfold ce
  by_cases h : c = 0
  · subst h; rfl
  · rw [if_neg h, if_neg (by simp only [List.length_cons, List.length_nil]; omega)]
/-- one column: a number is read, or it is wrong to the end -/
theorem n_numCol {I M : gM} {t wd b k q n p : Nat} {row : List Nat} (hT : TP9 I n p) (hS : RwS I M b k q row) (hq : q ≤ n) (ht : t < 4) (e : I 64 t = nI wd) (hw : wd ≤ 3) (hk : k < wd) (hb : b + 2 < 144) (hl : row.length = k) :
    (∃ v q', pNum (I 63) n 99 q = some (v, q') ∧ q' ≤ n ∧ ∃ M', RwS I M' b (k + 1) q' (row ++ [v]) ∧ (bX9_readRow_41 (nI t) (nI b) (nI k) M).bind (cKo t b) = lX9_readRow_16 (nI t) (nI b) (nI (k + 1), M')) ∨
    (pNum (I 63) n 99 q = none ∧ ∃ r, (bX9_readRow_41 (nI t) (nI b) (nI k) M).bind (cKo t b) = some r ∧ NE r) := by
  have e' : M 64 t = nI wd := by rw [hS.wide]; exact e
  rcases n_colN (b := b) (hS.tp hT hq) hS.1 ht e' hw hk (by omega) with ⟨v, q', e1, e2⟩ | ⟨e1, r, e2, h1, h2⟩
  · rw [hS.tape] at e1
    refine Or.inl ⟨v, q', e1, (pNum_le e1).2.2, _, (hS.mv q').wr (row' := row ++ [v]) (v := nI v) (fun c hc => ?_) ?_, ?_⟩
    · unfold ce
      rw [if_pos (by rw [List.length_append]; omega), if_pos (by omega), List.getD_eq_getElem?_getD, List.getD_eq_getElem?_getD, List.getElem?_append_left (by omega)]
    · unfold ce
      rw [if_pos (by rw [List.length_append]; simp only [List.length_cons, List.length_nil]; omega), List.getD_eq_getElem?_getD, List.getElem?_append_right (by omega), hl, Nat.sub_self]; rfl
    · rw [e2, obs]; rfl
  · rw [hS.tape] at e1
    refine Or.inr ⟨e1, ?_⟩
    obtain ⟨r', e3, h3⟩ := n_step9 (b := b) (k := k + 1) h1 ht (by rw [h2]; exact e') hw hb (2 - k) (by omega)
    refine ⟨r', ?_, h3⟩
    rw [e2, obs]
    exact e3
theorem n_negCol {I M : gM} {t wd b k q : Nat} {row : List Nat} (hS : RwS I M b k q row) (ht : t < 4) (e : I 64 t = nI wd) (hw : wd ≤ 3) (h1 : 1 ≤ k) (hk : k < 3) (h : wd ≤ k) (hb : b + 2 < 144) (hl : row.length ≤ k) :
    ∃ M', RwS I M' b (k + 1) q row ∧ lX9_readRow_16 (nI t) (nI b) (nI k, M) = lX9_readRow_16 (nI t) (nI b) (nI (k + 1), M') := by
  have e' : M 64 t = nI wd := by rw [hS.wide]; exact e
  refine ⟨_, hS.wr (row' := row) (v := -1) (fun _ _ => rfl) ?_, ?_⟩
  · unfold ce
    rw [if_neg (by omega)]
  · rw [st_p ht e' hw h1 hk h, n_col9 ht e' hw hk (by omega) h, obs]; rfl
/-- a comma and a number -/
theorem n_nextCol {I M : gM} {t wd b k q n p : Nat} {row : List Nat} (hT : TP9 I n p) (hS : RwS I M b k q row) (hq : q ≤ n) (ht : t < 4) (e : I 64 t = nI wd) (hw : wd ≤ 3) (h1 : 1 ≤ k) (hk : k < wd) (hb : b + 2 < 144) (hl : row.length = k) :
    (∃ p2 v q', pMust (I 63) n 44 q = some p2 ∧ pNum (I 63) n 99 p2 = some (v, q') ∧ q' ≤ n ∧ ∃ M', RwS I M' b (k + 1) q' (row ++ [v]) ∧ lX9_readRow_16 (nI t) (nI b) (nI k, M) = lX9_readRow_16 (nI t) (nI b) (nI (k + 1), M')) ∨
    (((pMust (I 63) n 44 q).bind fun p2 => pNum (I 63) n 99 p2) = none ∧ ∃ r, lX9_readRow_16 (nI t) (nI b) (nI k, M) = some r ∧ NE r) := by
  have e' : M 64 t = nI wd := by rw [hS.wide]; exact e
  rw [st_m ht e' hw h1 hk]
  rcases n_must (hS.tp hT hq) hS.1 44 with ⟨p2, e1, e2⟩ | ⟨e1, r, e2, h2⟩
  · rw [hS.tape] at e1
    have l2 := pMust_le (by decide) e1
    rw [e2, obs, e1, obs]
    rcases n_numCol hT (hS.mv p2) l2 ht e hw hk hb hl with ⟨v, q', e3, h3, M', h4, e4⟩ | ⟨e3, r, e4, h4⟩
    · exact Or.inl ⟨p2, v, q', rfl, e3, h3, M', h4, e4⟩
    · exact Or.inr ⟨e3, r, e4, h4⟩
  · rw [hS.tape] at e1
    rw [e2, obs, e1]
    refine Or.inr ⟨rfl, ?_⟩
    have h6 : r 64 = M 64 := funext fun j => xfX9_must _ _ e2 64 j (Or.inl (by decide)) (Or.inl (by decide))
    obtain ⟨r1, e3, h3, h4⟩ := n_colE (b := b) (k := k) h2 ht (by rw [h6]; exact e') hw (by omega) (by omega)
    rw [e3, obs]
    exact n_step9 (b := b) (k := k + 1) h3 ht (by rw [h4, h6]; exact e') hw hb (2 - k) (by omega)
theorem n_row16 {I : gM} {n p t wd b : Nat} (ht : t < 4) (hT : TP9 I n p) (hw : I 62 4 = -1) (e : I 64 t = nI wd) (h1 : 1 ≤ wd) (h3 : wd ≤ 3) (hb : b + 2 < 144) :
    ∃ r, lX9_readRow_16 (nI t) (nI b) (nI 0, I) = some r ∧ ((pRow (I 63) n wd p = none ∧ NE r) ∨ ∃ x, pRow (I 63) n wd p = some x ∧ x.2 ≤ n ∧ x.1.length = wd ∧ (∀ c, c < wd → x.1.getD c 0 ≤ 99) ∧ RwS I r b 3 x.2 x.1) := by
  have hS : RwS I I b 0 p [] := ⟨hw, hT.2.2.1, fun _ _ => rfl, fun _ _ _ => rfl, fun a => by rw [if_neg (by omega)]⟩
  rw [st_0]
  unfold pRow
  rcases (n_numCol (row := []) hT hS hT.2.2.2 ht e h3 (by omega) hb rfl).symm with ⟨e1, r, g1, hr⟩ | ⟨x, q1, e1, l1, M1, S1, g1⟩
  · rw [e1]; exact ⟨r, g1, Or.inl ⟨rfl, hr⟩⟩
  rw [e1, obs, g1]
  dsimp only
  have x99 := (pNum_le e1).2.1
  by_cases c1 : wd ≤ 1
  · rw [if_pos c1]
    obtain ⟨M2, S2, g2⟩ := n_negCol S1 ht e h3 (by omega) (by omega) c1 hb (by simp)
    obtain ⟨M3, S3, g3⟩ := n_negCol S2 ht e h3 (by omega) (by omega) (by omega) hb (by simp)
    rw [g2, g3, st_3]
    refine ⟨M3, rfl, Or.inr ⟨_, rfl, l1, ?_, fun c hc => ?_, S3⟩⟩
    · show 1 = wd; omega
    · have : c = 0 := by omega
      subst this; exact x99
  rw [if_neg c1]
  rcases (n_nextCol hT S1 l1 ht e h3 (by omega) (by omega) hb rfl).symm with ⟨e2, r, g2, hr⟩ | ⟨p2, y, q2, em, e2, l2, M2, S2, g2⟩
  · refine ⟨r, g2, Or.inl ⟨?_, hr⟩⟩
    cases em : pMust (I 63) n 44 q1 with
    | none => rfl
    | some p2 => rw [em, obs] at e2; rw [obs, e2]; rfl
  rw [em, obs, e2, obs, g2]
  dsimp only
  have y99 := (pNum_le e2).2.1
  by_cases c2 : wd ≤ 2
  · rw [if_pos c2]
    obtain ⟨M3, S3, g3⟩ := n_negCol S2 ht e h3 (by omega) (by omega) (by omega) hb (by simp)
    rw [g3, st_3]
    refine ⟨M3, rfl, Or.inr ⟨_, rfl, l2, ?_, fun c hc => ?_, S3⟩⟩
    · show 2 = wd; omega
    · rcases (show c = 0 ∨ c = 1 by omega) with rfl | rfl
      · exact x99
      · exact y99
  rw [if_neg c2]
  rcases (n_nextCol hT S2 l2 ht e h3 (by omega) (by omega) hb rfl).symm with ⟨e3, r, g3, hr⟩ | ⟨p3, z, q3, em, e3, l3, M3, S3, g3⟩
  · refine ⟨r, g3, Or.inl ⟨?_, hr⟩⟩
    cases em : pMust (I 63) n 44 q2 with
    | none => rfl
    | some p2 => rw [em, obs] at e3; rw [obs, e3]; rfl
  rw [em, obs, e3, obs, g3, st_3]
  have z99 := (pNum_le e3).2.1
  refine ⟨M3, rfl, Or.inr ⟨_, rfl, l3, ?_, fun c hc => ?_, S3⟩⟩
  · show 3 = wd; omega
  · rcases (show c = 0 ∨ c = 1 ∨ c = 2 by omega) with rfl | rfl | rfl
    · exact x99
    · exact y99
    · exact z99
end P_31d_reads9
