/-! no result is a NaN: the operations -/
abbrev dc (x : UInt64) : FP.Core.Datum := FP.Core.decode FP.Core.b64 x.toNat
abbrev fc (x : UInt32) : FP.Core.Datum := FP.Core.decode FP.Core.b32 x.toNat
theorem b64_dc {n : Nat} (h : b64ok n) : dc (UInt64.ofNat n) = FP.Core.decode FP.Core.b64 n := by unfold dc; rw [b64_nat h]
theorem b32_fc {n : Nat} (h : b32ok n) : fc (UInt32.ofNat n) = FP.Core.decode FP.Core.b32 n := by unfold fc; rw [b32_nat h]
/-- nought or more -/
def PD (D : FP.Core.Datum) : Prop := (∃ c q, D = .fin false c q) ∨ D = .inf false ∨ ∃ q, D = .fin true 0 q
theorem rd_fin (s : Bool) (c : Nat) (q : Int) : b64ok (FP.Core.encode FP.Core.b64 (FP.Core.round FP.Core.b64 (.fin s c q))) ∧ ((∃ c' q', FP.Core.decode FP.Core.b64 (FP.Core.encode FP.Core.b64 (FP.Core.round FP.Core.b64 (.fin s c q))) = .fin s c' q' ∧ (c = 0 → c' = 0)) ∨ (FP.Core.decode FP.Core.b64 (FP.Core.encode FP.Core.b64 (FP.Core.round FP.Core.b64 (.fin s c q))) = .inf s ∧ c ≠ 0)) := b64_rr s c 1 q
theorem rd_inf (s : Bool) : b64ok (FP.Core.encode FP.Core.b64 (FP.Core.round FP.Core.b64 (.inf s))) ∧ FP.Core.decode FP.Core.b64 (FP.Core.encode FP.Core.b64 (FP.Core.round FP.Core.b64 (.inf s))) = .inf s := b64_inf s
theorem rd_nn {D : FP.Core.Datum} (h : D ≠ .nan) : b64ok (FP.Core.encode FP.Core.b64 (FP.Core.round FP.Core.b64 D)) ∧ FP.Core.decode FP.Core.b64 (FP.Core.encode FP.Core.b64 (FP.Core.round FP.Core.b64 D)) ≠ .nan := by
  cases D with
  | nan => exact absurd rfl h
  | inf s =>
    obtain ⟨a, b⟩ := rd_inf s
    exact ⟨a, by rw [b]; intro q; cases q⟩
  | fin s c q =>
    obtain ⟨a, b⟩ := rd_fin s c q
    refine ⟨a, ?_⟩
    rcases b with ⟨c', q', b, _⟩ | ⟨b, _⟩ <;> (rw [b]; intro q; cases q)
theorem rd_pd {D : FP.Core.Datum} (h : PD D) : b64ok (FP.Core.encode FP.Core.b64 (FP.Core.round FP.Core.b64 D)) ∧ PD (FP.Core.decode FP.Core.b64 (FP.Core.encode FP.Core.b64 (FP.Core.round FP.Core.b64 D))) := by
  rcases h with ⟨c, q, rfl⟩ | rfl | ⟨q, rfl⟩
  · obtain ⟨a, b⟩ := rd_fin false c q
    refine ⟨a, ?_⟩
    rcases b with ⟨c', q', b, _⟩ | ⟨b, _⟩
    · exact Or.inl ⟨c', q', b⟩
    · exact Or.inr (Or.inl b)
  · obtain ⟨a, b⟩ := rd_inf false
    exact ⟨a, Or.inr (Or.inl b)⟩
  · obtain ⟨a, b⟩ := rd_fin true 0 q
    refine ⟨a, ?_⟩
    rcases b with ⟨c', q', b, e⟩ | ⟨_, e⟩
    · rw [e rfl] at b
      exact Or.inr (Or.inr ⟨q', b⟩)
    · exact absurd rfl e
theorem pd_nn {D : FP.Core.Datum} (h : PD D) : D ≠ .nan := by
  rcases h with ⟨c, q, rfl⟩ | rfl | ⟨q, rfl⟩ <;> (intro q; cases q)
theorem sg_f (c : Nat) : FP.Core.signed false c = (c : Int) := rfl
theorem sg_t (c : Nat) : FP.Core.signed true c = -(c : Int) := rfl
theorem iu_0 (q e : Int) : FP.Core.inUnits 0 q e = 0 := by unfold FP.Core.inUnits; exact Nat.zero_mul _
theorem pd_sum {a b : FP.Core.Datum} (ha : PD a) (hb : PD b) : PD (FP.Core.exactSum a b) := by
  rcases ha with ⟨c, q, rfl⟩ | rfl | ⟨q, rfl⟩ <;> rcases hb with ⟨d, r, rfl⟩ | rfl | ⟨r, rfl⟩
  · unfold FP.Core.exactSum FP.Core.sumSign FP.Core.sumUnits
    dsimp only
    rw [sg_f, sg_f]
    by_cases z : (FP.Core.inUnits c q (min q r) : Int) + (FP.Core.inUnits d r (min q r) : Int) = 0
    · rw [if_pos z]; exact Or.inl ⟨_, _, rfl⟩
    · rw [if_neg z, decide_eq_false (by omega)]; exact Or.inl ⟨_, _, rfl⟩
  · exact Or.inr (Or.inl rfl)
  · unfold FP.Core.exactSum FP.Core.sumSign FP.Core.sumUnits
    dsimp only
    rw [sg_f, sg_t, iu_0]
    by_cases z : (FP.Core.inUnits c q (min q r) : Int) + -((0 : Nat) : Int) = 0
    · rw [if_pos z]; exact Or.inl ⟨_, _, rfl⟩
    · rw [if_neg z, decide_eq_false (by omega)]; exact Or.inl ⟨_, _, rfl⟩
  · exact Or.inr (Or.inl rfl)
  · exact Or.inr (Or.inl rfl)
  · exact Or.inr (Or.inl rfl)
  · unfold FP.Core.exactSum FP.Core.sumSign FP.Core.sumUnits
    dsimp only
    rw [sg_f, sg_t, iu_0]
    by_cases z : -((0 : Nat) : Int) + (FP.Core.inUnits d r (min q r) : Int) = 0
    · rw [if_pos z]; exact Or.inl ⟨_, _, rfl⟩
    · rw [if_neg z, decide_eq_false (by omega)]; exact Or.inl ⟨_, _, rfl⟩
  · exact Or.inr (Or.inl rfl)
  · unfold FP.Core.exactSum FP.Core.sumSign FP.Core.sumUnits
    dsimp only
    rw [sg_t, iu_0, sg_t, iu_0]
    exact Or.inr (Or.inr ⟨_, rfl⟩)
theorem p_dadd {x y : UInt64} (hx : PD (dc x)) (hy : PD (dc y)) : ∃ u, gD (FP.dadd x y) = some u ∧ PD (dc u) := by
  obtain ⟨a, b⟩ := rd_pd (pd_sum hx hy)
  exact ⟨_, b64_g a, Eq.mpr (congrArg PD (b64_dc a)) b⟩
theorem n_dadd {x y : UInt64} (h : FP.Core.exactSum (dc x) (dc y) ≠ .nan) : ∃ u, gD (FP.dadd x y) = some u ∧ dc u ≠ .nan := by
  obtain ⟨a, b⟩ := rd_nn h
  exact ⟨_, b64_g a, fun q => b ((b64_dc a).symm.trans q)⟩
/-- a finite number less one that is no NaN -/
theorem n_dsub {x y : UInt64} (hx : ∃ s c q, dc x = .fin s c q) (hy : dc y ≠ .nan) : ∃ u, gD (FP.dsub x y) = some u ∧ dc u ≠ .nan := by
  obtain ⟨s, c, q, e⟩ := hx
  have h : FP.Core.exactSum (dc x) (FP.Core.negate (dc y)) ≠ .nan := by
    rw [e]
    cases h : dc y with
    | nan => exact absurd h hy
    | inf t => intro q; cases q
    | fin t d r => intro q; cases q
  obtain ⟨a, b⟩ := rd_nn h
  exact ⟨_, b64_g a, fun q => b ((b64_dc a).symm.trans q)⟩
/-- nought or more, less a finite number -/
theorem n_dsub2 {x y : UInt64} (hx : PD (dc x)) (hy : ∃ s c q, dc y = .fin s c q) : ∃ u, gD (FP.dsub x y) = some u ∧ dc u ≠ .nan := by
  obtain ⟨s, c, q, e⟩ := hy
  have h : FP.Core.exactSum (dc x) (FP.Core.negate (dc y)) ≠ .nan := by
    rw [e]
    rcases hx with ⟨c', q', e'⟩ | e' | ⟨q', e'⟩ <;> (rw [e']; intro z; cases z)
  obtain ⟨a, b⟩ := rd_nn h
  exact ⟨_, b64_g a, fun q => b ((b64_dc a).symm.trans q)⟩
/-- by a positive number -/
theorem p_ddiv {x y : UInt64} (hx : PD (dc x)) (hy : ∃ d r, dc y = .fin false d r ∧ d ≠ 0) : ∃ u, gD (FP.ddiv x y) = some u ∧ PD (dc u) := by
  obtain ⟨d, r, e, hd⟩ := hy
  have key : ∀ n, n = FP.Core.encode FP.Core.b64 (FP.Core.quotient FP.Core.b64 (dc x) (dc y)) → b64ok n ∧ PD (FP.Core.decode FP.Core.b64 n) := fun n hn => by
    rw [hn, e]
    rcases hx with ⟨c, q, e'⟩ | e' | ⟨q, e'⟩
    · rw [e']
      have : FP.Core.quotient FP.Core.b64 (.fin false c q) (.fin false d r) = FP.Core.roundRatio FP.Core.b64 false c d (q - r) := if_neg hd
      rw [this]
      obtain ⟨a, b⟩ := b64_rr false c d (q - r)
      refine ⟨a, ?_⟩
      rcases b with ⟨c', q', b, _⟩ | ⟨b, _⟩
      · exact Or.inl ⟨c', q', b⟩
      · exact Or.inr (Or.inl b)
    · rw [e']
      obtain ⟨a, b⟩ := b64_inf false
      exact ⟨a, Or.inr (Or.inl b)⟩
    · rw [e']
      have : FP.Core.quotient FP.Core.b64 (.fin true 0 q) (.fin false d r) = FP.Core.roundRatio FP.Core.b64 true 0 d (q - r) := if_neg hd
      rw [this]
      obtain ⟨a, b⟩ := b64_rr true 0 d (q - r)
      refine ⟨a, ?_⟩
      rcases b with ⟨c', q', b, e⟩ | ⟨_, e⟩
      · rw [e rfl] at b; exact Or.inr (Or.inr ⟨q', b⟩)
      · exact absurd rfl e
  obtain ⟨a, b⟩ := key _ rfl
  exact ⟨_, b64_g a, Eq.mpr (congrArg PD (b64_dc a)) b⟩
theorem n_ddiv {x y : UInt64} (hx : ∃ s c q, dc x = .fin s c q) (hy : ∃ s d r, dc y = .fin s d r ∧ d ≠ 0) : ∃ u, gD (FP.ddiv x y) = some u ∧ dc u ≠ .nan := by
  obtain ⟨s, c, q, e⟩ := hx
  obtain ⟨t, d, r, e', hd⟩ := hy
  have key : ∀ n, n = FP.Core.encode FP.Core.b64 (FP.Core.quotient FP.Core.b64 (dc x) (dc y)) → b64ok n ∧ FP.Core.decode FP.Core.b64 n ≠ .nan := fun n hn => by
    rw [hn, e, e']
    have : FP.Core.quotient FP.Core.b64 (.fin s c q) (.fin t d r) = FP.Core.roundRatio FP.Core.b64 (s != t) c d (q - r) := if_neg hd
    rw [this]
    obtain ⟨a, b⟩ := b64_rr (s != t) c d (q - r)
    refine ⟨a, ?_⟩
    rcases b with ⟨c', q', b, _⟩ | ⟨b, _⟩ <;> (rw [b]; intro z; cases z)
  obtain ⟨a, b⟩ := key _ rfl
  exact ⟨_, b64_g a, fun q => b ((b64_dc a).symm.trans q)⟩
theorem n_dmul {x y : UInt64} (hx : dc x ≠ .nan) (hy : ∃ s d r, dc y = .fin s d r ∧ d ≠ 0) : ∃ u, gD (FP.dmul x y) = some u ∧ dc u ≠ .nan := by
  obtain ⟨t, d, r, e', hd⟩ := hy
  have h : FP.Core.exactProduct (dc x) (dc y) ≠ .nan := by
    rw [e']
    cases h : dc x with
    | nan => exact absurd h hx
    | inf s =>
      have : FP.Core.exactProduct (.inf s) (.fin t d r) = .inf (s != t) := if_neg hd
      rw [this]; intro z; cases z
    | fin s c q => intro z; cases z
  obtain ⟨a, b⟩ := rd_nn h
  exact ⟨_, b64_g a, fun q => b ((b64_dc a).symm.trans q)⟩
theorem p_dmul {x y : UInt64} (hx : PD (dc x)) (hy : ∃ d r, dc y = .fin false d r ∧ d ≠ 0) : ∃ u, gD (FP.dmul x y) = some u ∧ PD (dc u) := by
  obtain ⟨d, r, e', hd⟩ := hy
  have h : PD (FP.Core.exactProduct (dc x) (dc y)) := by
    rw [e']
    rcases hx with ⟨c, q, e⟩ | e | ⟨q, e⟩
    · rw [e]; exact Or.inl ⟨_, _, rfl⟩
    · rw [e]
      have : FP.Core.exactProduct (.inf false) (.fin false d r) = .inf (false != false) := if_neg hd
      rw [this]; exact Or.inr (Or.inl rfl)
    · rw [e]
      refine Or.inr (Or.inr ⟨q + r, ?_⟩)
      show FP.Core.Datum.fin (true != false) (0 * d) (q + r) = _
      rw [Nat.zero_mul]; rfl
  obtain ⟨a, b⟩ := rd_pd h
  exact ⟨_, b64_g a, Eq.mpr (congrArg PD (b64_dc a)) b⟩
/-- an int, a long as a double, as a float -/
theorem p_i2d (n : Int32) : ∃ c q, dc (FP.i2d n) = .fin (decide (n.toInt < 0)) c q ∧ (n.toInt = 0 ↔ c = 0) := by
  have h := tTop n
  obtain ⟨a, b⟩ := b64_int n.toInt (by omega)
  obtain ⟨c, q, b1, b2⟩ := b
  exact ⟨c, q, (b64_dc a).trans b1, b2⟩
theorem p_l2d (n : Int64) : ∃ s c q, dc (FP.l2d n) = .fin s c q := by
  have h1 := Int64.le_toInt n
  have h2 := Int64.toInt_lt n
  obtain ⟨a, c, q, b, _⟩ := b64_int n.toInt (by omega)
  exact ⟨_, c, q, (b64_dc a).trans b⟩
theorem p_i2f (n : Int32) : ∃ c q, fc (FP.i2f n) = .fin (decide (n.toInt < 0)) c q ∧ (n.toInt = 0 ↔ c = 0) := by
  have h := tTop n
  obtain ⟨a, b⟩ := b32_int n.toInt (by omega)
  obtain ⟨c, q, b1, b2⟩ := b
  exact ⟨c, q, (b32_fc a).trans b1, b2⟩
theorem p_pos {n : Int32} (h : 0 < n.toInt) : ∃ d r, dc (FP.i2d n) = .fin false d r ∧ d ≠ 0 := by
  obtain ⟨c, q, e, z⟩ := p_i2d n
  rw [decide_eq_false (by omega)] at e
  exact ⟨c, q, e, fun y => by have := z.mpr y; omega⟩
theorem p_nn {n : Int32} (h : 0 ≤ n.toInt) : PD (dc (FP.i2d n)) := by
  obtain ⟨c, q, e, z⟩ := p_i2d n
  rw [decide_eq_false (by omega)] at e
  exact Or.inl ⟨c, q, e⟩
theorem n_d2f {x : UInt64} (h : dc x ≠ .nan) : ∃ u, gF (FP.d2f x) = some u := by
  have key : ∀ n, n = FP.Core.encode FP.Core.b32 (FP.Core.round FP.Core.b32 (dc x)) → b32ok n := fun n hn => by
    rw [hn]
    cases h' : dc x with
    | nan => exact absurd h' h
    | inf s => exact (b32_inf s).1
    | fin s c q => exact (b32_rr s c 1 q).1
  have e : FP.d2f x = FP.Core.d2f x := if_neg (fun q => h (of_decide_eq_true q))
  rw [e]
  exact ⟨_, b32_g (key _ rfl)⟩
theorem n_f2d {x : UInt32} (h : fc x ≠ .nan) : ∃ u, gD (FP.f2d x) = some u := by
  obtain ⟨a, _⟩ := rd_nn h
  have e : FP.f2d x = FP.Core.f2d x := if_neg (fun q => h (of_decide_eq_true q))
  rw [e]
  exact ⟨_, b64_g a⟩
theorem n_fdiv {x y : UInt32} (hx : ∃ s c q, fc x = .fin s c q) (hy : ∃ s d r, fc y = .fin s d r ∧ d ≠ 0) : ∃ u, gF (FP.fdiv x y) = some u := by
  obtain ⟨s, c, q, e⟩ := hx
  obtain ⟨t, d, r, e', hd⟩ := hy
  have key : ∀ n, n = FP.Core.encode FP.Core.b32 (FP.Core.quotient FP.Core.b32 (fc x) (fc y)) → b32ok n := fun n hn => by
    rw [hn, e, e']
    have : FP.Core.quotient FP.Core.b32 (.fin s c q) (.fin t d r) = FP.Core.roundRatio FP.Core.b32 (s != t) c d (q - r) := if_neg hd
    rw [this]
    exact (b32_rr (s != t) c d (q - r)).1
  exact ⟨_, b32_g (key _ rfl)⟩
theorem dc_0 : dc FP.dconst0 = .fin false 0 (-1074) := by decide +kernel
theorem dc_1 : ∃ d r, dc FP.dconst1 = .fin false d r ∧ d ≠ 0 := ⟨4503599627370496, -52, by decide +kernel, by decide⟩
theorem dc_2 : ∃ d r, dc (4611686018427387904 : UInt64) = .fin false d r ∧ d ≠ 0 := ⟨4503599627370496, -51, by decide +kernel, by decide⟩
theorem dc_52 : ∃ d r, dc (4841369599423283200 : UInt64) = .fin false d r ∧ d ≠ 0 := ⟨4503599627370496, 0, by decide +kernel, by decide⟩
theorem fc_0 : fc FP.fconst0 = .fin false 0 (-149) := by decide +kernel
theorem pd_0 : PD (dc FP.dconst0) := Or.inl ⟨0, -1074, dc_0⟩
theorem cmpv_l (o : Option Ordering) : 0 < Op.cmpValue o .l → o = some .gt := by
  rcases o with _ | (_ | _ | _) <;> decide
theorem cmpv_g (o : Option Ordering) : 0 ≤ Op.cmpValue o .g → o ≠ some .lt := by
  rcases o with _ | (_ | _ | _) <;> decide
theorem cmpv_g' (o : Option Ordering) : ¬ 0 ≤ Op.cmpValue o .g → o = some .lt := by
  rcases o with _ | (_ | _ | _) <;> decide
/-- above nought -/
theorem gt0_pd {x : UInt64} (h : FP.dcmp x FP.dconst0 = some .gt) : PD (dc x) := by
  have h : FP.Core.order (dc x) (dc FP.dconst0) = some .gt := h
  rw [dc_0] at h
  cases e : dc x with
  | nan => rw [e] at h; cases h
  | inf s =>
    rw [e] at h
    cases s with
    | false => exact Or.inr (Or.inl rfl)
    | true => exact absurd (Option.some.inj h) (by decide)
  | fin s c q =>
    rw [e] at h
    cases s with
    | false => exact Or.inl ⟨c, q, rfl⟩
    | true =>
      have h : compare (FP.Core.signed true (FP.Core.inUnits c q (min q (-1074)))) (FP.Core.signed false (FP.Core.inUnits 0 (-1074) (min q (-1074)))) = .gt := Option.some.inj h
      rw [sg_t, sg_f, iu_0] at h
      have := Int.compare_eq_gt.mp h
      omega
theorem gt0_nn {x : UInt32} (h : FP.fcmp x FP.fconst0 = some .gt) : fc x ≠ .nan := by
  have h : FP.Core.order (fc x) (fc FP.fconst0) = some .gt := h
  intro e
  rw [e] at h; cases h
theorem xor_top (n : Nat) (h : n < 2 ^ 64) : n ^^^ 0x8000000000000000 = if n < 2 ^ 63 then n + 2 ^ 63 else n - 2 ^ 63 := by
  have e : (0x8000000000000000 : Nat) = 2 ^ 63 := by decide
  rw [e]
  split
  · rename_i h1
    have : n ^^^ 2 ^ 63 = 2 ^ 63 + n := by
      apply Nat.eq_of_testBit_eq
      intro i
      rw [Nat.testBit_xor, Nat.testBit_two_pow]
      by_cases z : i = 63
      · subst z
        rw [Nat.testBit_two_pow_add_eq, Nat.testBit_lt_two_pow h1]; rfl
      · rw [decide_eq_false (Ne.symm z), Bool.xor_false]
        rcases (by omega : i < 63 ∨ 63 < i) with y | y
        · rw [Nat.testBit_two_pow_add_gt y]
        · have p : 2 ^ 64 ≤ 2 ^ i := Nat.pow_le_pow_right (by omega) (by omega)
          rw [Nat.testBit_lt_two_pow (by omega), Nat.testBit_lt_two_pow (by omega)]
    rw [this]; omega
  · rename_i h1
    obtain ⟨m, hm⟩ : ∃ m, n = 2 ^ 63 + m := ⟨n - 2 ^ 63, by omega⟩
    have hm2 : m < 2 ^ 63 := by omega
    have : n ^^^ 2 ^ 63 = m := by
      rw [hm]
      apply Nat.eq_of_testBit_eq
      intro i
      rw [Nat.testBit_xor, Nat.testBit_two_pow]
      by_cases z : i = 63
      · subst z
        rw [Nat.testBit_two_pow_add_eq, Nat.testBit_lt_two_pow hm2]; rfl
      · rw [decide_eq_false (Ne.symm z), Bool.xor_false]
        rcases (by omega : i < 63 ∨ 63 < i) with y | y
        · rw [Nat.testBit_two_pow_add_gt y]
        · have p : 2 ^ 64 ≤ 2 ^ i := Nat.pow_le_pow_right (by omega) (by omega)
          rw [Nat.testBit_lt_two_pow (by omega), Nat.testBit_lt_two_pow (by omega)]
    rw [this]; omega
/-- the sign turned -/
theorem dc_neg (x : UInt64) : (∀ s c q, dc x = .fin s c q → dc (FP.dneg x) = .fin (!s) c q) ∧ (∀ s, dc x = .inf s → dc (FP.dneg x) = .inf (!s)) := by
  have hx := x.toNat_lt
  have e : (FP.dneg x).toNat = if x.toNat < 2 ^ 63 then x.toNat + 2 ^ 63 else x.toNat - 2 ^ 63 := by
    show (x ^^^ 0x8000000000000000).toNat = _
    rw [UInt64.toNat_xor]
    exact xor_top x.toNat hx
  have t1 : FP.Core.fieldT FP.Core.b64 (FP.dneg x).toNat = FP.Core.fieldT FP.Core.b64 x.toNat := by
    unfold FP.Core.fieldT
    rw [e, b64_tails]
    split <;> omega
  have t2 : FP.Core.fieldE FP.Core.b64 (FP.dneg x).toNat = FP.Core.fieldE FP.Core.b64 x.toNat := by
    unfold FP.Core.fieldE
    rw [e, b64_tails, b64_exps]
    split <;> omega
  have t3 : FP.Core.fieldS FP.Core.b64 (FP.dneg x).toNat = !(FP.Core.fieldS FP.Core.b64 x.toNat) := by
    unfold FP.Core.fieldS
    rw [e, b64_tails, b64_exps]
    split
    · rw [show x.toNat / 4503599627370496 / 2048 % 2 = 0 by omega, show (x.toNat + 2 ^ 63) / 4503599627370496 / 2048 % 2 = 1 by omega]; rfl
    · rw [show x.toNat / 4503599627370496 / 2048 % 2 = 1 by omega, show (x.toNat - 2 ^ 63) / 4503599627370496 / 2048 % 2 = 0 by omega]; rfl
  show (∀ s c q, FP.Core.decode FP.Core.b64 x.toNat = .fin s c q → FP.Core.decode FP.Core.b64 (FP.dneg x).toNat = .fin (!s) c q) ∧ (∀ s, FP.Core.decode FP.Core.b64 x.toNat = .inf s → FP.Core.decode FP.Core.b64 (FP.dneg x).toNat = .inf (!s))
  unfold FP.Core.decode
  rw [t1, t2, t3]
  constructor
  · intro s c q h
    split at h
    · split at h <;> cases h
    · rename_i z
      rw [if_neg z]
      split at h
      · rename_i y; rw [if_pos y]; cases h; rfl
      · rename_i y; rw [if_neg y]; cases h; rfl
  · intro s h
    split at h
    · rename_i z
      rw [if_pos z]
      split at h
      · rename_i y; rw [if_pos y]; cases h; rfl
      · cases h
    · split at h <;> cases h
/-- how far: without sign -/
theorem abs_pd {x : UInt64} (h : dc x ≠ .nan) : (0 ≤ Op.cmpValue (FP.dcmp x FP.dconst0) .g → PD (dc x)) ∧ (¬ 0 ≤ Op.cmpValue (FP.dcmp x FP.dconst0) .g → PD (dc (FP.dneg x))) := by
  have ho : FP.dcmp x FP.dconst0 = FP.Core.order (dc x) (dc FP.dconst0) := rfl
  rw [ho, dc_0]
  obtain ⟨n1, n2⟩ := dc_neg x
  cases e : dc x with
  | nan => exact absurd e h
  | inf s =>
    rw [n2 s e]
    cases s with
    | false => exact ⟨fun _ => Or.inr (Or.inl rfl), fun c => absurd (by decide) c⟩
    | true => exact ⟨fun c => absurd c (by decide), fun _ => Or.inr (Or.inl rfl)⟩
  | fin s c q =>
    rw [n1 s c q e]
    have hq : FP.Core.order (.fin s c q) (.fin false 0 (-1074)) = some (compare (FP.Core.signed s (FP.Core.inUnits c q (min q (-1074)))) 0) := by
      show some (compare _ (FP.Core.signed false (FP.Core.inUnits 0 (-1074) (min q (-1074))))) = _
      rw [sg_f, iu_0]; rfl
    rw [hq]
    cases s with
    | false =>
      refine ⟨fun _ => Or.inl ⟨c, q, rfl⟩, fun y => ?_⟩
      have := Option.some.inj (cmpv_g' _ y)
      rw [sg_f] at this
      have := Int.compare_eq_lt.mp this
      omega
    | true =>
      refine ⟨fun y => ?_, fun _ => Or.inl ⟨c, q, rfl⟩⟩
      have h1 := cmpv_g _ y
      have hc : c = 0 := by
        by_cases z : c = 0
        · exact z
        · exfalso
          apply h1
          rw [sg_t]
          have hp : 0 < FP.Core.inUnits c q (min q (-1074)) := by
            unfold FP.Core.inUnits
            exact Nat.mul_pos (by omega) (Nat.pow_pos (by omega))
          rw [Int.compare_eq_lt.mpr (by omega)]
      subst hc
      exact Or.inr (Or.inr ⟨q, rfl⟩)
