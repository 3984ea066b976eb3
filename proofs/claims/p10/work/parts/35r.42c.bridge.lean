/-! the reference's join over the same tables -/
section BR
variable {B : gM} {n : Nat} {A : aT} {ls : List Nat}
theorem br_cv (hW : WF A) (hR : RT B (B 70) A) (hS : Sq B ls) (hs : okS ls) (hB : Bs B n ls.length) {t d : Nat} (ht : t < A.1.length) (hd : d < ls.length) : cv B t d = if cI A ls t d < (aL A t).length then nI (cI A ls t d) else -1 := by
  have hn4 := hW.1
  have w := hW.2.2.2.2 t ht
  have w1 := w.1
  obtain ⟨e1, e2, _⟩ := hR.2.2.2 t ht
  have ed := hS.2 d hd
  obtain ⟨r, er, hr⟩ := n_columnOf (t := t) (w := (aL A t).length) (by omega) w1.2 e1 (B 74 d)
  have hc := (bs_cv hB (t := t) (by omega) d).1
  rw [er] at hc
  obtain rfl := Option.some.inj hc
  have l4 := hs.2.1 d hd
  have eqv : ∀ c, c < (aL A t).length → (B 73 (3 * t + c) = B 74 d ↔ (aL A t).getD c 0 = ls.getD d 0) := fun c hc => by
    have := w.2.1 c hc
    rw [e2 c hc, ed]
    exact ⟨fun z => nI_inj z (by omega) (by omega), fun z => by rw [z]⟩
  rcases hr with ⟨i, h1, h2, h3, h4⟩ | ⟨h1, h2⟩
  · have g := (eqv i h1).mp h3
    have : cI A ls t d = i := by
      unfold cI
      rcases Nat.lt_trichotomy (ix (ls.getD d 0) (aL A t)) i with q | q | q
      · exfalso
        have z := ix_get (x := ls.getD d 0) (l := aL A t) (by omega)
        exact h4 _ q ((eqv _ (by omega)).mpr z)
      · exact q
      · exact absurd g (ix_ne q h1)
    rw [this, if_pos h1]; exact h2
  · rw [h1]
    by_cases c : cI A ls t d < (aL A t).length
    · exfalso
      exact h2 _ c ((eqv _ c).mpr (ix_get c))
    · rw [if_neg c]
theorem br_hs (hW : WF A) (hR : RT B (B 70) A) {t : Nat} (ht : t < 4) : hs (B 70 0) t ↔ A.2.1.testBit t = true := by
  rw [hR.2.1]
  exact hs_nI hW.u ht
theorem br_inn (hW : WF A) (hR : RT B (B 70) A) (hS : Sq B ls) (hs : okS ls) (hB : Bs B n ls.length) {t d : Nat} (ht : t < A.1.length) (hd : d < ls.length) : inn B t d ↔ inB A ls t d = true := by
  have hn4 := hW.1
  have w := hW.2.2.2.2 t ht
  have w1 := w.1
  rw [inB_and]
  unfold inn
  rw [br_hs hW hR (by omega), br_cv hW hR hS hs hB ht hd]
  by_cases c : cI A ls t d < (aL A t).length
  · rw [if_pos c]
    exact ⟨fun z => ⟨z.1, c⟩, fun z => ⟨z.1, nI_m1 (by omega)⟩⟩
  · rw [if_neg c]
    exact ⟨fun z => absurd rfl z.2, fun z => absurd z.2 c⟩
theorem br_mn (hW : WF A) (hR : RT B (B 70) A) {t : Nat} (ht : t < A.1.length) : mn B t = (aK A t).length := by
  unfold mn
  rw [(hR.2.2.2 t ht).2.2.1, nIt (by have := hW.k12 t ht; omega)]
theorem br_lo (hS : Sq B ls) (hs : okS ls) {d : Nat} (hd : d < ls.length) : lo B d = ls.getD d 0 := by
  have := hs.2.1 d hd
  unfold lo
  rw [hS.2 d hd, nIt (by omega)]
theorem br_vl (hW : WF A) (hR : RT B (B 70) A) (hS : Sq B ls) (hs : okS ls) (hB : Bs B n ls.length) {t i d : Nat} (hd : d < ls.length) (h : inB A ls t d = true) (hi : i < (aK A t).length) : vl B t i d = nI (vA A ls t i d) := by
  have ht := inB_t hW h
  have w := hW.2.2.2.2 t ht
  have w1 := w.1
  have c := (inB_and.mp h).2
  have e : cn B t d = cI A ls t d := by
    unfold cn
    rw [br_cv hW hR hS hs hB ht hd, if_pos c, nIt (by omega)]
  unfold vl vA
  rw [e, (hR.2.2.2 t ht).2.2.2 i hi _ (by omega), if_pos c]
theorem br_FT (hW : WF A) (hR : RT B (B 70) A) (hS : Sq B ls) (hs : okS ls) (hB : Bs B n ls.length) {t i d : Nat} {F : Nat → Int32} {f : Nat → Nat} (hd : d ≤ ls.length) (ht : t < A.1.length) (hu : A.2.1.testBit t = true) (hi : i < (aK A t).length) (hF : ∀ e, e < d → F (ls.getD e 0) = nI (f e) ∧ f e ≤ 99) : FT B t i d F ↔ fA A ls t i d f := by
  have hn4 := hW.1
  unfold FT fA
  constructor
  · intro h e he hi'
    have v99 := vA_99 hW hi' hi
    rcases h e he with z | z
    · exfalso
      rw [br_cv hW hR hS hs hB ht (by omega), if_pos (inB_and.mp hi').2] at z
      exact nI_m1 (by have := (inB_and.mp hi').2; have := (hW.2.2.2.2 t ht).1; omega) z
    · rw [br_vl hW hR hS hs hB (by omega) hi' hi, br_lo hS hs (by omega), (hF e he).1] at z
      exact nI_inj z (by omega) (by have := (hF e he).2; omega)
  · intro h e he
    by_cases c : cI A ls t e < (aL A t).length
    · have hi' : inB A ls t e = true := inB_and.mpr ⟨hu, c⟩
      refine Or.inr ?_
      rw [br_vl hW hR hS hs hB (by omega) hi' hi, br_lo hS hs (by omega), (hF e he).1, h e he hi']
    · refine Or.inl ?_
      rw [br_cv hW hR hS hs hB ht (by omega), if_neg c]
/-- which keys the reference lays -/
theorem br_set (hW : WF A) (hR : RT B (B 70) A) (hS : Sq B ls) (hs : okS ls) (hB : Bs B n ls.length) {I : gM} {t d nk : Nat} {F : Nat → Int32} {f : Nat → Nat} (hd : d < ls.length) (h : inB A ls t d = true) (hF : ∀ e, e < d → F (ls.getD e 0) = nI (f e) ∧ f e ≤ 99) (hK : Ky B t d F I nk) {v : Nat} (hv : v < 1000) : (∃ j, j < nk ∧ I 76 (12 * (4 * d + t) + j) = nI v) ↔ ∃ i, i < (aK A t).length ∧ fA A ls t i d f ∧ vA A ls t i d = v := by
  have ht := inB_t hW h
  rw [← hK.2.2.2 (nI v)]
  constructor
  · rintro ⟨i, h1, h2, h3⟩
    rw [br_mn hW hR ht] at h1
    rw [br_vl hW hR hS hs hB hd h h1] at h3
    have := vA_99 hW h h1
    exact ⟨i, h1, (br_FT hW hR hS hs hB (by omega) ht (inB_and.mp h).1 h1 hF).mp h2, nI_inj h3 (by omega) (by omega)⟩
  · rintro ⟨i, h1, h2, h3⟩
    refine ⟨i, by rw [br_mn hW hR ht]; exact h1, (br_FT hW hR hS hs hB (by omega) ht (inB_and.mp h).1 h1 hF).mpr h2, ?_⟩
    rw [br_vl hW hR hS hs hB hd h h1, h3]
/-- each key laid is a number -/
theorem br_key (hW : WF A) (hR : RT B (B 70) A) (hS : Sq B ls) (hs : okS ls) (hB : Bs B n ls.length) {I : gM} {t d nk j : Nat} {F : Nat → Int32} (hd : d < ls.length) (h : inB A ls t d = true) (hK : Ky B t d F I nk) (hj : j < nk) : ∃ v, v ≤ 99 ∧ I 76 (12 * (4 * d + t) + j) = nI v := by
  have ht := inB_t hW h
  obtain ⟨i, h1, h2, h3⟩ := (hK.2.2.2 _).mpr ⟨j, hj, rfl⟩
  rw [br_mn hW hR ht] at h1
  refine ⟨vA A ls t i d, vA_99 hW h h1, ?_⟩
  rw [← br_vl hW hR hS hs hB hd h h1]; exact h3.symm
end BR
/-! rows found -/
def d4 (l P : Nat) : Nat := P / 2 ^ (21 - 7 * l) % 128
theorem d4_0 (P : Nat) : d4 0 P = P / 2097152 % 128 := rfl
theorem d4_1 (P : Nat) : d4 1 P = P / 16384 % 128 := rfl
theorem d4_2 (P : Nat) : d4 2 P = P / 128 % 128 := rfl
theorem d4_3 (P : Nat) : d4 3 P = P / 1 % 128 := rfl
theorem or_at {P g s : Nat} (hg : g < 128) (h : P / 2 ^ s % 128 = 0) : P ||| g * 2 ^ s = P + g * 2 ^ s := by
  have e1 : P = 2 ^ (s + 7) * (P / 2 ^ (s + 7)) + P % 2 ^ s := by
    have a := Nat.div_add_mod P (2 ^ s)
    have b := Nat.div_add_mod (P / 2 ^ s) 128
    rw [h, Nat.add_zero, Nat.div_div_eq_div_mul] at b
    have c : 2 ^ s * 128 = 2 ^ (s + 7) := by rw [Nat.pow_add]
    rw [c] at b
    conv => lhs; rw [← a, ← b, ← Nat.mul_assoc, c]
  have lt : P % 2 ^ s < 2 ^ s := Nat.mod_lt _ (Nat.two_pow_pos s)
  generalize P / 2 ^ (s + 7) = hi at e1
  generalize P % 2 ^ s = lo at *
  have p7 : 2 ^ (s + 7) = 2 ^ s * 128 := by rw [Nat.pow_add]
  have lt2 : 2 ^ s * g + lo < 2 ^ (s + 7) := by
    rw [p7]
    have : 2 ^ s * g + 2 ^ s ≤ 2 ^ s * 128 := by rw [← Nat.mul_succ]; exact Nat.mul_le_mul_left _ (by omega)
    omega
  rw [e1, Nat.two_pow_add_eq_or_of_lt (show lo < 2 ^ (s + 7) by omega), Nat.mul_comm g, Nat.or_assoc, Nat.or_comm lo, ← Nat.two_pow_add_eq_or_of_lt lt, ← Nat.two_pow_add_eq_or_of_lt lt2, ← Nat.two_pow_add_eq_or_of_lt (show lo < 2 ^ (s + 7) by omega)]
  omega
theorem or4 {P l g : Nat} (hP : P < 268435456) (hl : l < 4) (hg : g < 128) (h : d4 l P = 0) : ∃ P', nI P ||| (nI g <<< (((21 : Int32) - ((7 : Int32) * nI l)) &&& 31)) = nI P' ∧ P' < 268435456 ∧ d4 l P' = g ∧ ∀ l', l' < 4 → l' ≠ l → d4 l' P' = d4 l' P := by
  have hh := or_at hg h
  rcases (by omega : l = 0 ∨ l = 1 ∨ l = 2 ∨ l = 3) with rfl | rfl | rfl | rfl
  · rw [show (((21 : Int32) - ((7 : Int32) * nI 0)) &&& 31) = 21 by decide +kernel, pk_shlN 21 21 (by decide) (by omega), fa_or]
    rw [d4_0] at h
    refine ⟨P + g * 2 ^ 21, by rw [← hh], by omega, by rw [d4_0]; omega, fun l' h1 h2 => ?_⟩
    rcases (by omega : l' = 1 ∨ l' = 2 ∨ l' = 3) with rfl | rfl | rfl
    · rw [d4_1, d4_1]; omega
    · rw [d4_2, d4_2]; omega
    · rw [d4_3, d4_3]; omega
  · rw [show (((21 : Int32) - ((7 : Int32) * nI 1)) &&& 31) = 14 by decide +kernel, pk_shlN 14 14 (by decide) (by omega), fa_or]
    rw [d4_1] at h
    refine ⟨P + g * 2 ^ 14, by rw [← hh], by omega, by rw [d4_1]; omega, fun l' h1 h2 => ?_⟩
    rcases (by omega : l' = 0 ∨ l' = 2 ∨ l' = 3) with rfl | rfl | rfl
    · rw [d4_0, d4_0]; omega
    · rw [d4_2, d4_2]; omega
    · rw [d4_3, d4_3]; omega
  · rw [show (((21 : Int32) - ((7 : Int32) * nI 2)) &&& 31) = 7 by decide +kernel, pk_shlN 7 7 (by decide) (by omega), fa_or]
    rw [d4_2] at h
    refine ⟨P + g * 2 ^ 7, by rw [← hh], by omega, by rw [d4_2]; omega, fun l' h1 h2 => ?_⟩
    rcases (by omega : l' = 0 ∨ l' = 1 ∨ l' = 3) with rfl | rfl | rfl
    · rw [d4_0, d4_0]; omega
    · rw [d4_1, d4_1]; omega
    · rw [d4_3, d4_3]; omega
  · rw [show (((21 : Int32) - ((7 : Int32) * nI 3)) &&& 31) = 0 by decide +kernel, pk_shlN 0 0 (by decide) (by omega), fa_or]
    rw [d4_3] at h
    refine ⟨P + g * 2 ^ 0, by rw [← hh], by omega, by rw [d4_3]; omega, fun l' h1 h2 => ?_⟩
    rcases (by omega : l' = 0 ∨ l' = 1 ∨ l' = 2) with rfl | rfl | rfl
    · rw [d4_0, d4_0]; omega
    · rw [d4_1, d4_1]; omega
    · rw [d4_2, d4_2]; omega
/-- the numbers found ahead of a depth, packed -/
def PR (M : gM) (k : Nat) (ls : List Nat) (d : Nat) (f : Nat → Nat) : Prop := ∃ P, P < 268435456 ∧ M (k + 4) d = nI P ∧ (∀ e, e < d → d4 (ls.getD e 0) P = f e) ∧ ∀ l, l < 4 → (∀ e, e < d → ls.getD e 0 ≠ l) → d4 l P = 0
/-- what both have counted and found -/
def OUT (k : Nat) (ls : List Nat) (M I : gM) (J : Nat) : Prop := M k 0 = nI J ∧ I 62 26 = nI J ∧ M k 1 = I 62 27 ∧ (∀ e, e < 4 → M (k + 1) e = I 79 (e + 1)) ∧ ∀ j, j < J → ∃ P, P < 268435456 ∧ M (k + 3) j = nI P ∧ ∀ e, e < ls.length → I 80 (4 * j + ls.getD e 0) = nI (d4 (ls.getD e 0) P)
/-- what the class's search leaves, from a depth on -/
def FRc (k d : Nat) (M r : gM) : Prop := (∀ q, q ≠ k → q ≠ k + 1 → q ≠ k + 3 → q ≠ k + 4 → q ≠ k + 8 → q ≠ k + 9 → q ≠ k + 10 → r q = M q) ∧ (∀ j, 2 ≤ j → r k j = M k j) ∧ (∀ j, j ≤ d → r (k + 4) j = M (k + 4) j) ∧ (∀ j, j < 4 * (d + 1) → r (k + 8) j = M (k + 8) j ∧ r (k + 9) j = M (k + 9) j) ∧ ∀ j, j < 4 * d → r (k + 10) j = M (k + 10) j
theorem FRc.refl {k d : Nat} {M : gM} : FRc k d M M := ⟨fun _ _ _ _ _ _ _ _ => rfl, fun _ _ => rfl, fun _ _ => rfl, fun _ _ => ⟨rfl, rfl⟩, fun _ _ => rfl⟩
theorem FRc.trans {k d : Nat} {M N r : gM} (h : FRc k d M N) (g : FRc k d N r) : FRc k d M r :=
  ⟨fun q a b c d e f i => (g.1 q a b c d e f i).trans (h.1 q a b c d e f i), fun j a => (g.2.1 j a).trans (h.2.1 j a), fun j a => (g.2.2.1 j a).trans (h.2.2.1 j a), fun j a => ⟨(g.2.2.2.1 j a).1.trans (h.2.2.2.1 j a).1, (g.2.2.2.1 j a).2.trans (h.2.2.2.1 j a).2⟩, fun j a => (g.2.2.2.2 j a).trans (h.2.2.2.2 j a)⟩
theorem FRc.sx {k d : Nat} {M r : gM} {A : aT} {ls : List Nat} {qs : Nat → List Nat} (h : FRc k d M r) (S : SX M k A ls qs) : SX r k A ls qs :=
  S.cong (h.2.1 2 (by omega)) (h.1 _ (by omega) (by omega) (by omega) (by omega) (by omega) (by omega) (by omega)) (h.1 _ (by omega) (by omega) (by omega) (by omega) (by omega) (by omega) (by omega)) (h.1 _ (by omega) (by omega) (by omega) (by omega) (by omega) (by omega) (by omega))
theorem FRc.rg {k d : Nat} {M r : gM} {A : aT} {ls : List Nat} {qs : Nat → List Nat} {f a b : Nat → Nat} (h : FRc k d M r) (R : RG M k A ls qs d f a b) : RG r k A ls qs d f a b := fun t ht u => by
  obtain ⟨r1, r2, r3⟩ := R t ht u
  exact ⟨by rw [(h.2.2.2.1 _ (by omega)).1]; exact r1, by rw [(h.2.2.2.1 _ (by omega)).2]; exact r2, r3⟩
theorem FRc.pr {k d : Nat} {M r : gM} {ls : List Nat} {f : Nat → Nat} (h : FRc k d M r) (R : PR M k ls d f) : PR r k ls d f := by
  obtain ⟨P, p1, p2, p3⟩ := R
  exact ⟨P, p1, by rw [h.2.2.1 d (Nat.le_refl _)]; exact p2, p3⟩
