/-! no result is a NaN: the two formats -/
theorem b64_tails : FP.Core.b64.tails = 4503599627370496 := by decide
theorem b64_exps : FP.Core.b64.exps = 2048 := by decide
theorem b64_qmin : FP.Core.b64.qmin = -1074 := by decide
theorem b64_qmax : FP.Core.b64.qmax = 971 := by decide
theorem b64_asm (s : Bool) {e t : Nat} (he : e < 2048) (ht : t < 4503599627370496) : FP.Core.fieldT FP.Core.b64 (FP.Core.assemble FP.Core.b64 s e t) = t ∧ FP.Core.fieldE FP.Core.b64 (FP.Core.assemble FP.Core.b64 s e t) = e ∧ FP.Core.fieldS FP.Core.b64 (FP.Core.assemble FP.Core.b64 s e t) = s ∧ FP.Core.assemble FP.Core.b64 s e t < 18446744073709551616 ∧ FP.Core.assemble FP.Core.b64 s e t % 9223372036854775808 = e * 4503599627370496 + t := by
  unfold FP.Core.fieldT FP.Core.fieldE FP.Core.fieldS FP.Core.assemble
  rw [b64_tails, b64_exps]
  cases s
  · have h0 : (false.toNat * 2048 + e) * 4503599627370496 + t = e * 4503599627370496 + t := by show (0 * 2048 + e) * 4503599627370496 + t = _; omega
    rw [h0]
    refine ⟨by omega, by omega, ?_, by omega, by omega⟩
    rw [show (e * 4503599627370496 + t) / 4503599627370496 / 2048 % 2 = 0 by omega]; rfl
  · have h0 : (true.toNat * 2048 + e) * 4503599627370496 + t = (2048 + e) * 4503599627370496 + t := by show (1 * 2048 + e) * 4503599627370496 + t = _; omega
    rw [h0]
    refine ⟨by omega, by omega, ?_, by omega, by omega⟩
    rw [show ((2048 + e) * 4503599627370496 + t) / 4503599627370496 / 2048 % 2 = 1 by omega]; rfl
/-- an encoding that is no NaN -/
def b64ok (x : Nat) : Prop := x < 18446744073709551616 ∧ x % 9223372036854775808 ≤ 9218868437227405312
theorem b64_fin (s : Bool) {c : Nat} {q : Int} (hc : c < 9007199254740992) (h1 : -1074 ≤ q) (h2 : q ≤ 971) : b64ok (FP.Core.encode FP.Core.b64 (.fin s c q)) ∧ ∃ q', FP.Core.decode FP.Core.b64 (FP.Core.encode FP.Core.b64 (.fin s c q)) = .fin s c q' := by
  unfold FP.Core.encode
  dsimp only
  rw [b64_tails, b64_qmin]
  by_cases h : c < 4503599627370496
  · rw [if_pos h]
    obtain ⟨a1, a2, a3, a4, a5⟩ := b64_asm s (e := 0) (t := c) (by omega) h
    refine ⟨⟨a4, by omega⟩, ?_⟩
    unfold FP.Core.decode
    rw [a1, a2, a3, b64_exps, if_neg (by omega), if_pos rfl]
    exact ⟨_, rfl⟩
  · rw [if_neg h]
    obtain ⟨a1, a2, a3, a4, a5⟩ := b64_asm s (e := (q - (-1074)).toNat + 1) (t := c - 4503599627370496) (by omega) (by omega)
    refine ⟨⟨a4, by omega⟩, ?_⟩
    unfold FP.Core.decode
    rw [a1, a2, a3, b64_exps, b64_tails, if_neg (by omega), if_neg (by omega), show 4503599627370496 + (c - 4503599627370496) = c by omega]
    exact ⟨_, rfl⟩
theorem b64_inf (s : Bool) : b64ok (FP.Core.encode FP.Core.b64 (.inf s)) ∧ FP.Core.decode FP.Core.b64 (FP.Core.encode FP.Core.b64 (.inf s)) = .inf s := by
  unfold FP.Core.encode
  dsimp only
  rw [b64_exps]
  obtain ⟨a1, a2, a3, a4, a5⟩ := b64_asm s (e := 2048 - 1) (t := 0) (by omega) (by omega)
  refine ⟨⟨a4, by omega⟩, ?_⟩
  unfold FP.Core.decode
  rw [a1, a2, a3, b64_exps, if_pos rfl, if_pos rfl]
/-- what rounding makes of a magnitude -/
theorem b64_rr (s : Bool) (num den : Nat) (e : Int) : b64ok (FP.Core.encode FP.Core.b64 (FP.Core.roundRatio FP.Core.b64 s num den e)) ∧ ((∃ c q, FP.Core.decode FP.Core.b64 (FP.Core.encode FP.Core.b64 (FP.Core.roundRatio FP.Core.b64 s num den e)) = .fin s c q ∧ (num = 0 → c = 0)) ∨ (FP.Core.decode FP.Core.b64 (FP.Core.encode FP.Core.b64 (FP.Core.roundRatio FP.Core.b64 s num den e)) = .inf s ∧ num ≠ 0)) := by
  have fin : ∀ (c : Nat) (q : Int), c < 9007199254740992 → -1074 ≤ q → q ≤ 971 → (num = 0 → c = 0) → b64ok (FP.Core.encode FP.Core.b64 (.fin s c q)) ∧ ((∃ c1 q', FP.Core.decode FP.Core.b64 (FP.Core.encode FP.Core.b64 (.fin s c q)) = .fin s c1 q' ∧ (num = 0 → c1 = 0)) ∨ (FP.Core.decode FP.Core.b64 (FP.Core.encode FP.Core.b64 (.fin s c q)) = .inf s ∧ num ≠ 0)) := fun c q a1 a2 a3 a4 => by
    obtain ⟨b1, q', b2⟩ := b64_fin s a1 a2 a3
    exact ⟨b1, Or.inl ⟨c, q', b2, a4⟩⟩
  unfold FP.Core.roundRatio
  by_cases h : num = 0
  · rw [if_pos h, b64_qmin]
    exact fin 0 (-1074) (by omega) (by omega) (by omega) (fun _ => rfl)
  · rw [if_neg h]
    have bnd : ∀ (c : Nat) (q : Int), c < 9007199254740992 → -1074 ≤ q → b64ok (FP.Core.encode FP.Core.b64 (FP.Core.bound FP.Core.b64 s c q)) ∧ ((∃ c' q', FP.Core.decode FP.Core.b64 (FP.Core.encode FP.Core.b64 (FP.Core.bound FP.Core.b64 s c q)) = .fin s c' q' ∧ (num = 0 → c' = 0)) ∨ (FP.Core.decode FP.Core.b64 (FP.Core.encode FP.Core.b64 (FP.Core.bound FP.Core.b64 s c q)) = .inf s ∧ num ≠ 0)) := fun c q a1 a2 => by
      unfold FP.Core.bound
      rw [b64_qmax]
      by_cases z : q ≤ 971
      · rw [if_pos z]
        exact fin c q a1 a2 z (fun y => absurd y h)
      · rw [if_neg z]
        obtain ⟨b1, b2⟩ := b64_inf s
        exact ⟨b1, Or.inr ⟨b2, h⟩⟩
    have hq : -1074 ≤ FP.Core.quantum FP.Core.b64 num den e := by
      unfold FP.Core.quantum
      rw [b64_qmin]; exact Int.le_max_left _ _
    unfold FP.Core.roundAt FP.Core.settle
    by_cases z : FP.Core.nearest (FP.Core.unitsNum num e (FP.Core.quantum FP.Core.b64 num den e)) (FP.Core.unitsDen den e (FP.Core.quantum FP.Core.b64 num den e)) < 2 ^ FP.Core.b64.p
    · rw [if_pos z]
      exact bnd _ _ (by have : (2 : Nat) ^ FP.Core.b64.p = 9007199254740992 := by decide
                        omega) hq
    · rw [if_neg z, b64_tails]
      exact bnd _ _ (by omega) (by omega)
theorem b64_g {x : Nat} (h : b64ok x) : gD (.ofNat x) = some (.ofNat x) := by
  unfold gD
  rw [if_pos]
  rw [UInt64.le_iff_toNat_le, UInt64.toNat_and, UInt64.toNat_ofNat_of_lt' h.1]
  show x &&& 0x7fffffffffffffff ≤ 9218868437227405312
  rw [show (0x7fffffffffffffff : Nat) = 2 ^ 63 - 1 by decide, Nat.and_two_pow_sub_one_eq_mod]
  exact h.2
theorem b64_nat {x : Nat} (h : b64ok x) : (UInt64.ofNat x).toNat = x := UInt64.toNat_ofNat_of_lt' h.1
/-- a whole number -/
theorem b64_int (i : Int) (h : i.natAbs < 2 ^ 64) : b64ok (FP.Core.fromInt FP.Core.b64 i) ∧ ∃ c q, FP.Core.decode FP.Core.b64 (FP.Core.fromInt FP.Core.b64 i) = .fin (decide (i < 0)) c q ∧ (i = 0 ↔ c = 0) := by
  unfold FP.Core.fromInt FP.Core.ofInt FP.Core.round
  dsimp only
  obtain ⟨s, hs⟩ : ∃ s, s = decide (i < 0) := ⟨_, rfl⟩
  rw [← hs]
  by_cases z : i.natAbs = 0
  · obtain ⟨a1, a2⟩ := b64_rr s i.natAbs 1 0
    refine ⟨a1, ?_⟩
    rcases a2 with ⟨c, q, b1, b2⟩ | ⟨_, b2⟩
    · exact ⟨c, q, b1, fun _ => b2 z, fun _ => by omega⟩
    · exact absurd z b2
  · have hl : FP.Core.leading i.natAbs 1 = (i.natAbs.log2 : Int) := by
      unfold FP.Core.leading
      dsimp only
      have l1 : Nat.log2 1 = 0 := by decide
      rw [l1]
      have h1 := Nat.log2_self_le z
      rw [if_pos]
      · omega
      · rw [show ((i.natAbs.log2 : Int) - ((0 : Nat) : Int)).toNat = i.natAbs.log2 by omega, show (-((i.natAbs.log2 : Int) - ((0 : Nat) : Int))).toNat = 0 by omega]
        omega
    have hlog : i.natAbs.log2 < 64 := (Nat.log2_lt z).mpr h
    have hq : FP.Core.quantum FP.Core.b64 i.natAbs 1 0 = (i.natAbs.log2 : Int) - (53 - 1) := by
      unfold FP.Core.quantum
      rw [hl, b64_qmin]
      show max (-1074 : Int) ((i.natAbs.log2 : Int) + 0 - ((53 : Nat) - 1 : Int)) = _
      omega
    have hn : FP.Core.roundRatio FP.Core.b64 s i.natAbs 1 0 = FP.Core.roundAt FP.Core.b64 s i.natAbs 1 0 ((i.natAbs.log2 : Int) - (53 - 1)) := by
      unfold FP.Core.roundRatio
      rw [if_neg z, hq]
    rw [hn]
    have fin : ∀ (c : Nat) (q : Int), c < 9007199254740992 → -1074 ≤ q → q ≤ 971 → c ≠ 0 → b64ok (FP.Core.encode FP.Core.b64 (.fin s c q)) ∧ ∃ c1 q', FP.Core.decode FP.Core.b64 (FP.Core.encode FP.Core.b64 (.fin s c q)) = .fin s c1 q' ∧ (i = 0 ↔ c1 = 0) := fun c q a1 a2 a3 a4 => by
      obtain ⟨b1, q', b2⟩ := b64_fin s a1 a2 a3
      exact ⟨b1, c, q', b2, fun y => by omega, fun y => absurd y a4⟩
    have bnd : ∀ (c : Nat) (q : Int), c < 9007199254740992 → -1074 ≤ q → q ≤ 971 → c ≠ 0 → b64ok (FP.Core.encode FP.Core.b64 (FP.Core.bound FP.Core.b64 s c q)) ∧ ∃ c' q', FP.Core.decode FP.Core.b64 (FP.Core.encode FP.Core.b64 (FP.Core.bound FP.Core.b64 s c q)) = .fin s c' q' ∧ (i = 0 ↔ c' = 0) := fun c q a1 a2 a3 a4 => by
      unfold FP.Core.bound
      rw [b64_qmax, if_pos a3]
      exact fin c q a1 a2 a3 a4
    unfold FP.Core.roundAt FP.Core.settle
    have P2 : (2 : Nat) ^ FP.Core.b64.p = 9007199254740992 := by decide
    have nz : FP.Core.nearest (FP.Core.unitsNum i.natAbs 0 ((i.natAbs.log2 : Int) - (53 - 1))) (FP.Core.unitsDen 1 0 ((i.natAbs.log2 : Int) - (53 - 1))) ≠ 0 := by
      unfold FP.Core.unitsNum FP.Core.unitsDen
      by_cases y : i.natAbs.log2 ≤ 53 - 1
      · rw [show (((i.natAbs.log2 : Int) - (53 - 1)) - 0).toNat = 0 by omega]
        have hp : 0 < 2 ^ (0 - ((i.natAbs.log2 : Int) - (53 - 1))).toNat := Nat.pow_pos (by omega)
        have hm : 0 < i.natAbs * 2 ^ (0 - ((i.natAbs.log2 : Int) - (53 - 1))).toNat := Nat.mul_pos (by omega) hp
        generalize i.natAbs * 2 ^ (0 - ((i.natAbs.log2 : Int) - (53 - 1))).toNat = m at hm
        unfold FP.Core.nearest
        rw [show 1 * 2 ^ 0 = 1 from rfl, if_pos (by omega)]
        omega
      · rw [show (0 - ((i.natAbs.log2 : Int) - (53 - 1))).toNat = 0 by omega]
        have h1 := Nat.log2_self_le z
        have h2 : 2 ^ (((i.natAbs.log2 : Int) - (53 - 1)) - 0).toNat ≤ i.natAbs := Nat.le_trans (Nat.pow_le_pow_right (by omega) (by omega)) h1
        have hp : 0 < 2 ^ (((i.natAbs.log2 : Int) - (53 - 1)) - 0).toNat := Nat.pow_pos (by omega)
        rw [Nat.pow_zero, Nat.mul_one, Nat.one_mul]
        generalize 2 ^ (((i.natAbs.log2 : Int) - (53 - 1)) - 0).toNat = den at h2 hp
        have h3 : 1 ≤ i.natAbs / den := (Nat.le_div_iff_mul_le hp).mpr (by omega)
        unfold FP.Core.nearest
        split
        · omega
        · split <;> omega
    by_cases y : FP.Core.nearest (FP.Core.unitsNum i.natAbs 0 ((i.natAbs.log2 : Int) - (53 - 1))) (FP.Core.unitsDen 1 0 ((i.natAbs.log2 : Int) - (53 - 1))) < 2 ^ FP.Core.b64.p
    · rw [if_pos y]
      exact bnd _ _ (by omega) (by omega) (by omega) nz
    · rw [if_neg y, b64_tails]
      exact bnd _ _ (by omega) (by omega) (by omega) (by omega)
theorem b32_tails : FP.Core.b32.tails = 8388608 := by decide
theorem b32_exps : FP.Core.b32.exps = 256 := by decide
theorem b32_qmin : FP.Core.b32.qmin = -149 := by decide
theorem b32_qmax : FP.Core.b32.qmax = 104 := by decide
theorem b32_asm (s : Bool) {e t : Nat} (he : e < 256) (ht : t < 8388608) : FP.Core.fieldT FP.Core.b32 (FP.Core.assemble FP.Core.b32 s e t) = t ∧ FP.Core.fieldE FP.Core.b32 (FP.Core.assemble FP.Core.b32 s e t) = e ∧ FP.Core.fieldS FP.Core.b32 (FP.Core.assemble FP.Core.b32 s e t) = s ∧ FP.Core.assemble FP.Core.b32 s e t < 4294967296 ∧ FP.Core.assemble FP.Core.b32 s e t % 2147483648 = e * 8388608 + t := by
  unfold FP.Core.fieldT FP.Core.fieldE FP.Core.fieldS FP.Core.assemble
  rw [b32_tails, b32_exps]
  cases s
  · have h0 : (false.toNat * 256 + e) * 8388608 + t = e * 8388608 + t := by show (0 * 256 + e) * 8388608 + t = _; omega
    rw [h0]
    refine ⟨by omega, by omega, ?_, by omega, by omega⟩
    rw [show (e * 8388608 + t) / 8388608 / 256 % 2 = 0 by omega]; rfl
  · have h0 : (true.toNat * 256 + e) * 8388608 + t = (256 + e) * 8388608 + t := by show (1 * 256 + e) * 8388608 + t = _; omega
    rw [h0]
    refine ⟨by omega, by omega, ?_, by omega, by omega⟩
    rw [show ((256 + e) * 8388608 + t) / 8388608 / 256 % 2 = 1 by omega]; rfl
/-- an encoding that is no NaN -/
def b32ok (x : Nat) : Prop := x < 4294967296 ∧ x % 2147483648 ≤ 2139095040
theorem b32_fin (s : Bool) {c : Nat} {q : Int} (hc : c < 16777216) (h1 : -149 ≤ q) (h2 : q ≤ 104) : b32ok (FP.Core.encode FP.Core.b32 (.fin s c q)) ∧ ∃ q', FP.Core.decode FP.Core.b32 (FP.Core.encode FP.Core.b32 (.fin s c q)) = .fin s c q' := by
  unfold FP.Core.encode
  dsimp only
  rw [b32_tails, b32_qmin]
  by_cases h : c < 8388608
  · rw [if_pos h]
    obtain ⟨a1, a2, a3, a4, a5⟩ := b32_asm s (e := 0) (t := c) (by omega) h
    refine ⟨⟨a4, by omega⟩, ?_⟩
    unfold FP.Core.decode
    rw [a1, a2, a3, b32_exps, if_neg (by omega), if_pos rfl]
    exact ⟨_, rfl⟩
  · rw [if_neg h]
    obtain ⟨a1, a2, a3, a4, a5⟩ := b32_asm s (e := (q - (-149)).toNat + 1) (t := c - 8388608) (by omega) (by omega)
    refine ⟨⟨a4, by omega⟩, ?_⟩
    unfold FP.Core.decode
    rw [a1, a2, a3, b32_exps, b32_tails, if_neg (by omega), if_neg (by omega), show 8388608 + (c - 8388608) = c by omega]
    exact ⟨_, rfl⟩
theorem b32_inf (s : Bool) : b32ok (FP.Core.encode FP.Core.b32 (.inf s)) ∧ FP.Core.decode FP.Core.b32 (FP.Core.encode FP.Core.b32 (.inf s)) = .inf s := by
  unfold FP.Core.encode
  dsimp only
  rw [b32_exps]
  obtain ⟨a1, a2, a3, a4, a5⟩ := b32_asm s (e := 256 - 1) (t := 0) (by omega) (by omega)
  refine ⟨⟨a4, by omega⟩, ?_⟩
  unfold FP.Core.decode
  rw [a1, a2, a3, b32_exps, if_pos rfl, if_pos rfl]
/-- what rounding makes of a magnitude -/
theorem b32_rr (s : Bool) (num den : Nat) (e : Int) : b32ok (FP.Core.encode FP.Core.b32 (FP.Core.roundRatio FP.Core.b32 s num den e)) ∧ ((∃ c q, FP.Core.decode FP.Core.b32 (FP.Core.encode FP.Core.b32 (FP.Core.roundRatio FP.Core.b32 s num den e)) = .fin s c q ∧ (num = 0 → c = 0)) ∨ (FP.Core.decode FP.Core.b32 (FP.Core.encode FP.Core.b32 (FP.Core.roundRatio FP.Core.b32 s num den e)) = .inf s ∧ num ≠ 0)) := by
  have fin : ∀ (c : Nat) (q : Int), c < 16777216 → -149 ≤ q → q ≤ 104 → (num = 0 → c = 0) → b32ok (FP.Core.encode FP.Core.b32 (.fin s c q)) ∧ ((∃ c1 q', FP.Core.decode FP.Core.b32 (FP.Core.encode FP.Core.b32 (.fin s c q)) = .fin s c1 q' ∧ (num = 0 → c1 = 0)) ∨ (FP.Core.decode FP.Core.b32 (FP.Core.encode FP.Core.b32 (.fin s c q)) = .inf s ∧ num ≠ 0)) := fun c q a1 a2 a3 a4 => by
    obtain ⟨b1, q', b2⟩ := b32_fin s a1 a2 a3
    exact ⟨b1, Or.inl ⟨c, q', b2, a4⟩⟩
  unfold FP.Core.roundRatio
  by_cases h : num = 0
  · rw [if_pos h, b32_qmin]
    exact fin 0 (-149) (by omega) (by omega) (by omega) (fun _ => rfl)
  · rw [if_neg h]
    have bnd : ∀ (c : Nat) (q : Int), c < 16777216 → -149 ≤ q → b32ok (FP.Core.encode FP.Core.b32 (FP.Core.bound FP.Core.b32 s c q)) ∧ ((∃ c' q', FP.Core.decode FP.Core.b32 (FP.Core.encode FP.Core.b32 (FP.Core.bound FP.Core.b32 s c q)) = .fin s c' q' ∧ (num = 0 → c' = 0)) ∨ (FP.Core.decode FP.Core.b32 (FP.Core.encode FP.Core.b32 (FP.Core.bound FP.Core.b32 s c q)) = .inf s ∧ num ≠ 0)) := fun c q a1 a2 => by
      unfold FP.Core.bound
      rw [b32_qmax]
      by_cases z : q ≤ 104
      · rw [if_pos z]
        exact fin c q a1 a2 z (fun y => absurd y h)
      · rw [if_neg z]
        obtain ⟨b1, b2⟩ := b32_inf s
        exact ⟨b1, Or.inr ⟨b2, h⟩⟩
    have hq : -149 ≤ FP.Core.quantum FP.Core.b32 num den e := by
      unfold FP.Core.quantum
      rw [b32_qmin]; exact Int.le_max_left _ _
    unfold FP.Core.roundAt FP.Core.settle
    by_cases z : FP.Core.nearest (FP.Core.unitsNum num e (FP.Core.quantum FP.Core.b32 num den e)) (FP.Core.unitsDen den e (FP.Core.quantum FP.Core.b32 num den e)) < 2 ^ FP.Core.b32.p
    · rw [if_pos z]
      exact bnd _ _ (by have : (2 : Nat) ^ FP.Core.b32.p = 16777216 := by decide
                        omega) hq
    · rw [if_neg z, b32_tails]
      exact bnd _ _ (by omega) (by omega)
theorem b32_g {x : Nat} (h : b32ok x) : gF (.ofNat x) = some (.ofNat x) := by
  unfold gF
  rw [if_pos]
  rw [UInt32.le_iff_toNat_le, UInt32.toNat_and, UInt32.toNat_ofNat_of_lt' h.1]
  show x &&& 0x7fffffff ≤ 2139095040
  rw [show (0x7fffffff : Nat) = 2 ^ 31 - 1 by decide, Nat.and_two_pow_sub_one_eq_mod]
  exact h.2
theorem b32_nat {x : Nat} (h : b32ok x) : (UInt32.ofNat x).toNat = x := UInt32.toNat_ofNat_of_lt' h.1
/-- a whole number -/
theorem b32_int (i : Int) (h : i.natAbs < 2 ^ 64) : b32ok (FP.Core.fromInt FP.Core.b32 i) ∧ ∃ c q, FP.Core.decode FP.Core.b32 (FP.Core.fromInt FP.Core.b32 i) = .fin (decide (i < 0)) c q ∧ (i = 0 ↔ c = 0) := by
  unfold FP.Core.fromInt FP.Core.ofInt FP.Core.round
  dsimp only
  obtain ⟨s, hs⟩ : ∃ s, s = decide (i < 0) := ⟨_, rfl⟩
  rw [← hs]
  by_cases z : i.natAbs = 0
  · obtain ⟨a1, a2⟩ := b32_rr s i.natAbs 1 0
    refine ⟨a1, ?_⟩
    rcases a2 with ⟨c, q, b1, b2⟩ | ⟨_, b2⟩
    · exact ⟨c, q, b1, fun _ => b2 z, fun _ => by omega⟩
    · exact absurd z b2
  · have hl : FP.Core.leading i.natAbs 1 = (i.natAbs.log2 : Int) := by
      unfold FP.Core.leading
      dsimp only
      have l1 : Nat.log2 1 = 0 := by decide
      rw [l1]
      have h1 := Nat.log2_self_le z
      rw [if_pos]
      · omega
      · rw [show ((i.natAbs.log2 : Int) - ((0 : Nat) : Int)).toNat = i.natAbs.log2 by omega, show (-((i.natAbs.log2 : Int) - ((0 : Nat) : Int))).toNat = 0 by omega]
        omega
    have hlog : i.natAbs.log2 < 64 := (Nat.log2_lt z).mpr h
    have hq : FP.Core.quantum FP.Core.b32 i.natAbs 1 0 = (i.natAbs.log2 : Int) - (24 - 1) := by
      unfold FP.Core.quantum
      rw [hl, b32_qmin]
      show max (-149 : Int) ((i.natAbs.log2 : Int) + 0 - ((24 : Nat) - 1 : Int)) = _
      omega
    have hn : FP.Core.roundRatio FP.Core.b32 s i.natAbs 1 0 = FP.Core.roundAt FP.Core.b32 s i.natAbs 1 0 ((i.natAbs.log2 : Int) - (24 - 1)) := by
      unfold FP.Core.roundRatio
      rw [if_neg z, hq]
    rw [hn]
    have fin : ∀ (c : Nat) (q : Int), c < 16777216 → -149 ≤ q → q ≤ 104 → c ≠ 0 → b32ok (FP.Core.encode FP.Core.b32 (.fin s c q)) ∧ ∃ c1 q', FP.Core.decode FP.Core.b32 (FP.Core.encode FP.Core.b32 (.fin s c q)) = .fin s c1 q' ∧ (i = 0 ↔ c1 = 0) := fun c q a1 a2 a3 a4 => by
      obtain ⟨b1, q', b2⟩ := b32_fin s a1 a2 a3
      exact ⟨b1, c, q', b2, fun y => by omega, fun y => absurd y a4⟩
    have bnd : ∀ (c : Nat) (q : Int), c < 16777216 → -149 ≤ q → q ≤ 104 → c ≠ 0 → b32ok (FP.Core.encode FP.Core.b32 (FP.Core.bound FP.Core.b32 s c q)) ∧ ∃ c' q', FP.Core.decode FP.Core.b32 (FP.Core.encode FP.Core.b32 (FP.Core.bound FP.Core.b32 s c q)) = .fin s c' q' ∧ (i = 0 ↔ c' = 0) := fun c q a1 a2 a3 a4 => by
      unfold FP.Core.bound
      rw [b32_qmax, if_pos a3]
      exact fin c q a1 a2 a3 a4
    unfold FP.Core.roundAt FP.Core.settle
    have P2 : (2 : Nat) ^ FP.Core.b32.p = 16777216 := by decide
    have nz : FP.Core.nearest (FP.Core.unitsNum i.natAbs 0 ((i.natAbs.log2 : Int) - (24 - 1))) (FP.Core.unitsDen 1 0 ((i.natAbs.log2 : Int) - (24 - 1))) ≠ 0 := by
      unfold FP.Core.unitsNum FP.Core.unitsDen
      by_cases y : i.natAbs.log2 ≤ 24 - 1
      · rw [show (((i.natAbs.log2 : Int) - (24 - 1)) - 0).toNat = 0 by omega]
        have hp : 0 < 2 ^ (0 - ((i.natAbs.log2 : Int) - (24 - 1))).toNat := Nat.pow_pos (by omega)
        have hm : 0 < i.natAbs * 2 ^ (0 - ((i.natAbs.log2 : Int) - (24 - 1))).toNat := Nat.mul_pos (by omega) hp
        generalize i.natAbs * 2 ^ (0 - ((i.natAbs.log2 : Int) - (24 - 1))).toNat = m at hm
        unfold FP.Core.nearest
        rw [show 1 * 2 ^ 0 = 1 from rfl, if_pos (by omega)]
        omega
      · rw [show (0 - ((i.natAbs.log2 : Int) - (24 - 1))).toNat = 0 by omega]
        have h1 := Nat.log2_self_le z
        have h2 : 2 ^ (((i.natAbs.log2 : Int) - (24 - 1)) - 0).toNat ≤ i.natAbs := Nat.le_trans (Nat.pow_le_pow_right (by omega) (by omega)) h1
        have hp : 0 < 2 ^ (((i.natAbs.log2 : Int) - (24 - 1)) - 0).toNat := Nat.pow_pos (by omega)
        rw [Nat.pow_zero, Nat.mul_one, Nat.one_mul]
        generalize 2 ^ (((i.natAbs.log2 : Int) - (24 - 1)) - 0).toNat = den at h2 hp
        have h3 : 1 ≤ i.natAbs / den := (Nat.le_div_iff_mul_le hp).mpr (by omega)
        unfold FP.Core.nearest
        split
        · omega
        · split <;> omega
    by_cases y : FP.Core.nearest (FP.Core.unitsNum i.natAbs 0 ((i.natAbs.log2 : Int) - (24 - 1))) (FP.Core.unitsDen 1 0 ((i.natAbs.log2 : Int) - (24 - 1))) < 2 ^ FP.Core.b32.p
    · rw [if_pos y]
      exact bnd _ _ (by omega) (by omega) (by omega) nz
    · rw [if_neg y, b32_tails]
      exact bnd _ _ (by omega) (by omega) (by omega) (by omega)
