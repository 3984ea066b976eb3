/-! doubles and floats: what is exact, what is normal -/
def fmOK (f : FP.Core.Fmt) : Prop := f = FP.Core.b64 ∨ f = FP.Core.b32
theorem fm_p {f : FP.Core.Fmt} (h : fmOK f) : f.tails = 2 ^ (f.p - 1) ∧ 2 ^ f.p = 2 * f.tails ∧ 1 ≤ f.p ∧ f.qmin ≤ -149 ∧ 104 ≤ f.qmax ∧ f.p ≤ 53 := by
  rcases h with rfl | rfl <;> decide
def CN (f : FP.Core.Fmt) (c : Nat) (q : Int) : Prop := f.tails ≤ c ∧ c < 2 * f.tails ∧ f.qmin ≤ q ∧ q ≤ f.qmax
theorem lg2 {n k : Nat} (h1 : 2 ^ k ≤ n) (h2 : n < 2 ^ (k + 1)) : n.log2 = k := by
  have n0 : n ≠ 0 := by have := Nat.two_pow_pos k; omega
  have a := (Nat.le_log2 n0).mpr h1
  have b := (Nat.log2_lt n0).mpr h2
  omega
theorem lead1 {n : Nat} (h : n ≠ 0) : FP.Core.leading n 1 = (n.log2 : Int) := by
  unfold FP.Core.leading
  dsimp only
  have l1 : Nat.log2 1 = 0 := by decide
  have h1 := Nat.log2_self_le h
  rw [l1, if_pos]
  · omega
  · rw [show ((n.log2 : Int) - ((0 : Nat) : Int)).toNat = n.log2 by omega, show (-((n.log2 : Int) - ((0 : Nat) : Int))).toNat = 0 by omega]
    omega
theorem near_ge {num den A : Nat} (hd : 0 < den) (h : A * den ≤ num) : A ≤ FP.Core.nearest num den := by
  have := (Nat.le_div_iff_mul_le hd).mpr h
  unfold FP.Core.nearest
  split
  · exact this
  · split <;> omega
theorem near_le {num den K : Nat} (hd : 0 < den) (h : num ≤ K * den) : FP.Core.nearest num den ≤ K := by
  have dm := Nat.div_add_mod num den
  have md := Nat.mod_lt num hd
  have k1 : num / den ≤ K := by
    have := Nat.div_le_div_right (c := den) h
    rwa [Nat.mul_div_cancel _ hd] at this
  rcases Nat.lt_or_ge (num / den) K with c | c
  · unfold FP.Core.nearest
    split
    · omega
    · split <;> omega
  · have e : num / den = K := by omega
    rw [e] at dm
    have : num % den = 0 := by
      rw [Nat.mul_comm] at dm
      omega
    unfold FP.Core.nearest
    rw [this, if_pos (by omega)]
    omega
theorem near_eq {D m : Nat} (hd : 0 < D) : FP.Core.nearest (m * D) D = m := by
  have a := near_ge (num := m * D) (den := D) (A := m) hd (Nat.le_refl _)
  have b := near_le (num := m * D) (den := D) (K := m) hd (Nat.le_refl _)
  omega
/-- a magnitude rounded, its last digit at Q -/
theorem rr_at {f : FP.Core.Fmt} (hf : fmOK f) {s : Bool} {num den m : Nat} {e Q : Int} (hn : num ≠ 0) (hl : FP.Core.leading num den + e - ((f.p : Int) - 1) = Q) (hQ : f.qmin ≤ Q) (hq : Q < f.qmax) (hm : FP.Core.nearest (FP.Core.unitsNum num e Q) (FP.Core.unitsDen den e Q) = m) (h1 : f.tails ≤ m) (h2 : m ≤ 2 * f.tails) : ∃ c q, FP.Core.roundRatio f s num den e = .fin s c q ∧ CN f c q ∧ ((m < 2 * f.tails ∧ c = m ∧ q = Q) ∨ (m = 2 * f.tails ∧ c = f.tails ∧ q = Q + 1)) := by
  obtain ⟨p1, p2, p3, p4, p5, p6⟩ := fm_p hf
  have t0 : 0 < f.tails := by rw [p1]; exact Nat.two_pow_pos _
  have eq : FP.Core.quantum f num den e = Q := by
    unfold FP.Core.quantum
    omega
  unfold FP.Core.roundRatio
  rw [if_neg hn, eq]
  unfold FP.Core.roundAt FP.Core.settle
  rw [hm, p2]
  by_cases c : m < 2 * f.tails
  · rw [if_pos c]
    unfold FP.Core.bound
    rw [if_pos (by omega)]
    exact ⟨m, Q, rfl, ⟨h1, c, hQ, by omega⟩, Or.inl ⟨c, rfl, rfl⟩⟩
  · rw [if_neg c]
    unfold FP.Core.bound
    rw [if_pos (by omega)]
    exact ⟨f.tails, Q + 1, rfl, ⟨Nat.le_refl _, by omega, by omega, by omega⟩, Or.inr ⟨by omega, rfl, rfl⟩⟩
/-- a magnitude that is exact stays -/
theorem rr_exact {f : FP.Core.Fmt} (hf : fmOK f) {s : Bool} {n m : Nat} {e Q : Int} (hc : CN f m Q) (hq : Q < f.qmax) (h : (Q ≤ e ∧ n * 2 ^ (e - Q).toNat = m) ∨ (e ≤ Q ∧ n = m * 2 ^ (Q - e).toNat)) : FP.Core.roundRatio f s n 1 e = .fin s m Q := by
  obtain ⟨p1, p2, p3, p4, p5, p6⟩ := fm_p hf
  obtain ⟨c1, c2, c3, c4⟩ := hc
  have t0 : 0 < f.tails := by rw [p1]; exact Nat.two_pow_pos _
  have pw : ∀ j, 0 < 2 ^ j := Nat.two_pow_pos
  have ft : 2 * f.tails = 2 ^ (f.p - 1 + 1) := by rw [p1, Nat.pow_succ, Nat.mul_comm]
  have hn : n ≠ 0 := by
    rintro rfl
    rcases h with ⟨_, h⟩ | ⟨_, h⟩
    · rw [Nat.zero_mul] at h; omega
    · have := Nat.mul_pos (show 0 < m by omega) (pw (Q - e).toNat)
      omega
  have lg : (n.log2 : Int) + e = (f.p : Int) - 1 + Q := by
    rcases h with ⟨h1, h⟩ | ⟨h1, h⟩
    · have hj : (e - Q).toNat ≤ f.p - 1 := by
        rcases Nat.lt_or_ge (f.p - 1) (e - Q).toNat with z | z
        · have : 2 ^ (f.p - 1 + 1) ≤ 2 ^ (e - Q).toNat := Nat.pow_le_pow_right (by decide) z
          have : 1 * 2 ^ (e - Q).toNat ≤ n * 2 ^ (e - Q).toNat := Nat.mul_le_mul_right _ (by omega)
          omega
        · exact z
      have l : n.log2 = f.p - 1 - (e - Q).toNat := by
        refine lg2 ?_ ?_
        · refine Nat.le_of_mul_le_mul_right ?_ (pw (e - Q).toNat)
          rw [← Nat.pow_add, show f.p - 1 - (e - Q).toNat + (e - Q).toNat = f.p - 1 by omega, h, ← p1]
          exact c1
        · refine Nat.lt_of_mul_lt_mul_right (a := 2 ^ (e - Q).toNat) ?_
          rw [← Nat.pow_add, show f.p - 1 - (e - Q).toNat + 1 + (e - Q).toNat = f.p - 1 + 1 by omega, h, ← ft]
          exact c2
      rw [l]; omega
    · have l : n.log2 = f.p - 1 + (Q - e).toNat := by
        refine lg2 ?_ ?_
        · rw [Nat.pow_add, h, ← p1]
          exact Nat.mul_le_mul_right _ c1
        · rw [show f.p - 1 + (Q - e).toNat + 1 = f.p - 1 + 1 + (Q - e).toNat by omega, Nat.pow_add, h, ← ft]
          exact Nat.mul_lt_mul_of_pos_right c2 (pw _)
      rw [l]; omega
  have hm : FP.Core.nearest (FP.Core.unitsNum n e Q) (FP.Core.unitsDen 1 e Q) = m := by
    unfold FP.Core.unitsNum FP.Core.unitsDen
    rw [Nat.one_mul]
    rcases h with ⟨h1, h⟩ | ⟨h1, h⟩
    · rw [show (Q - e).toNat = 0 by omega, h]
      have := near_eq (D := 1) (m := m) (by omega)
      rwa [Nat.mul_one] at this
    · rw [show (e - Q).toNat = 0 by omega, h, Nat.pow_zero, Nat.mul_one]
      exact near_eq (pw _)
  obtain ⟨c, q, e1, _, r⟩ := rr_at hf (s := s) hn (by rw [lead1 hn]; omega) c3 hq hm c1 (by omega)
  rcases r with ⟨_, rfl, rfl⟩ | ⟨z, _⟩
  · exact e1
  · omega
/-- encoded and read again -/
theorem ed64 {c : Nat} {q : Int} (h : CN FP.Core.b64 c q) (s : Bool) : b64ok (FP.Core.encode FP.Core.b64 (.fin s c q)) ∧ FP.Core.decode FP.Core.b64 (FP.Core.encode FP.Core.b64 (.fin s c q)) = .fin s c q := by
  obtain ⟨h1, h2, h3, h4⟩ := h
  rw [b64_tails] at h1 h2
  rw [b64_qmin] at h3
  rw [b64_qmax] at h4
  unfold FP.Core.encode
  dsimp only
  rw [b64_tails, b64_qmin, if_neg (by omega)]
  obtain ⟨a1, a2, a3, a4, a5⟩ := b64_asm s (e := (q - (-1074)).toNat + 1) (t := c - 4503599627370496) (by omega) (by omega)
  refine ⟨⟨a4, by omega⟩, ?_⟩
  unfold FP.Core.decode
  rw [a1, a2, a3, b64_exps, b64_tails, b64_qmin, if_neg (by omega), if_neg (by omega), show 4503599627370496 + (c - 4503599627370496) = c by omega, show (-1074 : Int) + ((((q - (-1074)).toNat + 1 : Nat) : Int) - 1) = q by omega]
theorem ez64 (s : Bool) : b64ok (FP.Core.encode FP.Core.b64 (.fin s 0 (-1074))) ∧ FP.Core.decode FP.Core.b64 (FP.Core.encode FP.Core.b64 (.fin s 0 (-1074))) = .fin s 0 (-1074) := by
  cases s <;> exact ⟨⟨by decide +kernel, by decide +kernel⟩, by decide +kernel⟩
theorem ed32 {c : Nat} {q : Int} (h : CN FP.Core.b32 c q) (s : Bool) : b32ok (FP.Core.encode FP.Core.b32 (.fin s c q)) ∧ FP.Core.decode FP.Core.b32 (FP.Core.encode FP.Core.b32 (.fin s c q)) = .fin s c q := by
  obtain ⟨h1, h2, h3, h4⟩ := h
  rw [b32_tails] at h1 h2
  rw [b32_qmin] at h3
  rw [b32_qmax] at h4
  unfold FP.Core.encode
  dsimp only
  rw [b32_tails, b32_qmin, if_neg (by omega)]
  obtain ⟨a1, a2, a3, a4, a5⟩ := b32_asm s (e := (q - (-149)).toNat + 1) (t := c - 8388608) (by omega) (by omega)
  refine ⟨⟨a4, by omega⟩, ?_⟩
  unfold FP.Core.decode
  rw [a1, a2, a3, b32_exps, b32_tails, b32_qmin, if_neg (by omega), if_neg (by omega), show 8388608 + (c - 8388608) = c by omega, show (-149 : Int) + ((((q - (-149)).toNat + 1 : Nat) : Int) - 1) = q by omega]
/-- the bits of what is read as a normal number above nought -/
theorem bits64 {n : Nat} {c : Nat} {q : Int} (hn : n < 2 ^ 64) (h : FP.Core.decode FP.Core.b64 n = .fin false c q) (hc : 4503599627370496 ≤ c) : n = (q + 1075).toNat * 4503599627370496 + (c - 4503599627370496) ∧ 1 ≤ (q + 1075).toNat ∧ (q + 1075).toNat < 2047 ∧ c < 9007199254740992 ∧ -1074 ≤ q := by
  unfold FP.Core.decode FP.Core.fieldT FP.Core.fieldE FP.Core.fieldS at h
  rw [b64_tails, b64_exps, b64_qmin] at h
  split at h
  · split at h <;> cases h
  · rename_i a1
    split at h
    · injection h with h1 h2 h3
      omega
    · rename_i a2
      injection h with h1 h2 h3
      have h1 : n / 4503599627370496 / 2048 % 2 ≠ 1 := fun z => by rw [z] at h1; exact absurd h1 (by decide)
      omega
theorem bits0 {n : Nat} {q : Int} (hn : n < 2 ^ 64) (h : FP.Core.decode FP.Core.b64 n = .fin false 0 q) : n = 0 := by
  unfold FP.Core.decode FP.Core.fieldT FP.Core.fieldE FP.Core.fieldS at h
  rw [b64_tails, b64_exps, b64_qmin] at h
  split at h
  · split at h <;> cases h
  · rename_i a1
    split at h
    · rename_i a2
      injection h with h1 h2 h3
      have h1 : n / 4503599627370496 / 2048 % 2 ≠ 1 := fun z => by rw [z] at h1; exact absurd h1 (by decide)
      omega
    · injection h with h1 h2 h3
      omega
theorem bits32 {n : Nat} {c : Nat} {q : Int} (hn : n < 2 ^ 32) (h : FP.Core.decode FP.Core.b32 n = .fin false c q) (hc : 8388608 ≤ c) : n = (q + 150).toNat * 8388608 + (c - 8388608) ∧ 1 ≤ (q + 150).toNat ∧ (q + 150).toNat < 255 ∧ c < 16777216 ∧ -149 ≤ q := by
  unfold FP.Core.decode FP.Core.fieldT FP.Core.fieldE FP.Core.fieldS at h
  rw [b32_tails, b32_exps, b32_qmin] at h
  split at h
  · split at h <;> cases h
  · rename_i a1
    split at h
    · injection h with h1 h2 h3
      omega
    · rename_i a2
      injection h with h1 h2 h3
      have h1 : n / 8388608 / 256 % 2 ≠ 1 := fun z => by rw [z] at h1; exact absurd h1 (by decide)
      omega
theorem bits032 {n : Nat} {q : Int} (hn : n < 2 ^ 32) (h : FP.Core.decode FP.Core.b32 n = .fin false 0 q) : n = 0 := by
  unfold FP.Core.decode FP.Core.fieldT FP.Core.fieldE FP.Core.fieldS at h
  rw [b32_tails, b32_exps, b32_qmin] at h
  split at h
  · split at h <;> cases h
  · rename_i a1
    split at h
    · rename_i a2
      injection h with h1 h2 h3
      have h1 : n / 8388608 / 256 % 2 ≠ 1 := fun z => by rw [z] at h1; exact absurd h1 (by decide)
      omega
    · injection h with h1 h2 h3
      omega
