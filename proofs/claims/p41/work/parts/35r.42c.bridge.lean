section P_35r_42c_bridge
/-! the reference's join over the same tables -/
section BR
variable {B : gM} {n : Nat} {A : aT} {ls : List Nat}
theorem br_cv (hW : WF A) (hR : RT B (B 70) A) (hS : Sq B ls) (hs : okS ls) (hB : Bs B n ls.length) {t d : Nat} (ht : t < A.1.length) (hd : d < ls.length) : cv B t d = if cI A ls t d < (aL A t).length then nI (cI A ls t d) else -1 := by
  have hn4 := hW.1
  have w := hW.2.2.2.2 t ht
  have w1 := w.1
  obtain ⟨e1, e2, _⟩ := hR.2.2.2 t ht
  have ed := hS.2 d hd
  obtain ⟨r, er, hr⟩ := n_columnOf (t := t) (w := (aL A t).length) (by omega) w1.2 e1 (B 74 d)
  have hc := (bs_cv hB (t := t) (by omega) d).1
  rw [er] at hc
  obtain rfl := Option.some.inj hc
  have l4 := hs.2.1 d hd
  have eqv : ∀ c, c < (aL A t).length → (B 73 (3 * t + c) = B 74 d ↔ (aL A t).getD c 0 = ls.getD d 0) := fun c hc => by
    have := w.2.1 c hc
    rw [e2 c hc, ed]
    exact ⟨fun z => nI_inj z (by omega) (by omega), fun z => by rw [z]⟩
  rcases hr with ⟨i, h1, h2, h3, h4⟩ | ⟨h1, h2⟩
  · have g := (eqv i h1).mp h3
    have : cI A ls t d = i := by
      unfold cI
      rcases Nat.lt_trichotomy (ix (ls.getD d 0) (aL A t)) i with q | q | q
      · exfalso
        have z := ix_get (x := ls.getD d 0) (l := aL A t) (by omega)
        exact h4 _ q ((eqv _ (by omega)).mpr z)
      · exact q
      · exact absurd g (ix_ne q h1)
    rw [this, if_pos h1]; exact h2
  · rw [h1]
    by_cases c : cI A ls t d < (aL A t).length
    · exfalso
      exact h2 _ c ((eqv _ c).mpr (ix_get c))
    · rw [if_neg c]
theorem br_hs (hW : WF A) (hR : RT B (B 70) A) {t : Nat} (ht : t < 4) : hs (B 70 0) t ↔ A.2.1.testBit t = true := by
  rw [hR.2.1]
  exact hs_nI hW.u ht
theorem br_inn (hW : WF A) (hR : RT B (B 70) A) (hS : Sq B ls) (hs : okS ls) (hB : Bs B n ls.length) {t d : Nat} (ht : t < A.1.length) (hd : d < ls.length) : inn B t d ↔ inB A ls t d = true := by
  have hn4 := hW.1
  have w := hW.2.2.2.2 t ht
  have w1 := w.1
  rw [inB_and]
  unfold inn
  rw [br_hs hW hR (by omega), br_cv hW hR hS hs hB ht hd]
  by_cases c : cI A ls t d < (aL A t).length
  · rw [if_pos c]
    exact ⟨fun z => ⟨z.1, c⟩, fun z => ⟨z.1, nI_m1 (by omega)⟩⟩
  · rw [if_neg c]
    exact ⟨fun z => absurd rfl z.2, fun z => absurd z.2 c⟩
theorem br_mn (hW : WF A) (hR : RT B (B 70) A) {t : Nat} (ht : t < A.1.length) : mn B t = (aK A t).length := by
  unfold mn
  rw [(hR.2.2.2 t ht).2.2.1, nIt (by have := hW.k12 t ht; omega)]
theorem br_lo (hS : Sq B ls) (hs : okS ls) {d : Nat} (hd : d < ls.length) : lo B d = ls.getD d 0 := by
  have := hs.2.1 d hd
  unfold lo
  rw [hS.2 d hd, nIt (by omega)]
theorem br_vl (hW : WF A) (hR : RT B (B 70) A) (hS : Sq B ls) (hs : okS ls) (hB : Bs B n ls.length) {t i d : Nat} (hd : d < ls.length) (h : inB A ls t d = true) (hi : i < (aK A t).length) : vl B t i d = nI (vA A ls t i d) := by
  have ht := inB_t hW h
  have w := hW.2.2.2.2 t ht
  have w1 := w.1
  have c := (inB_and.mp h).2
  have e : cn B t d = cI A ls t d := by
    unfold cn
    rw [br_cv hW hR hS hs hB ht hd, if_pos c, nIt (by omega)]
  unfold vl vA
  rw [e, (hR.2.2.2 t ht).2.2.2 i hi _ (by omega), if_pos c]
theorem br_FT (hW : WF A) (hR : RT B (B 70) A) (hS : Sq B ls) (hs : okS ls) (hB : Bs B n ls.length) {t i d : Nat} {F : Nat → Int32} {f : Nat → Nat} (hd : d ≤ ls.length) (ht : t < A.1.length) (hu : A.2.1.testBit t = true) (hi : i < (aK A t).length) (hF : ∀ e, e < d → F (ls.getD e 0) = nI (f e) ∧ f e ≤ 99) : FT B t i d F ↔ fA A ls t i d f := by
  have hn4 := hW.1
  unfold FT fA
  constructor
  · intro h e he hi'
    have v99 := vA_99 hW hi' hi
    rcases h e he with z | z
    · exfalso
      rw [br_cv hW hR hS hs hB ht (by omega), if_pos (inB_and.mp hi').2] at z
      exact nI_m1 (by have := (inB_and.mp hi').2; have := (hW.2.2.2.2 t ht).1; omega) z
    · rw [br_vl hW hR hS hs hB (by omega) hi' hi, br_lo hS hs (by omega), (hF e he).1] at z
      exact nI_inj z (by omega) (by have := (hF e he).2; omega)
  · intro h e he
    by_cases c : cI A ls t e < (aL A t).length
    · have hi' : inB A ls t e = true := inB_and.mpr ⟨hu, c⟩
      refine Or.inr ?_
      rw [br_vl hW hR hS hs hB (by omega) hi' hi, br_lo hS hs (by omega), (hF e he).1, h e he hi']
    · refine Or.inl ?_
      rw [br_cv hW hR hS hs hB ht (by omega), if_neg c]
/-- which keys the reference lays -/
theorem br_set (hW : WF A) (hR : RT B (B 70) A) (hS : Sq B ls) (hs : okS ls) (hB : Bs B n ls.length) {I : gM} {t d nk : Nat} {F : Nat → Int32} {f : Nat → Nat} (hd : d < ls.length) (h : inB A ls t d = true) (hF : ∀ e, e < d → F (ls.getD e 0) = nI (f e) ∧ f e ≤ 99) (hK : Ky B t d F I nk) {v : Nat} (hv : v < 1000) : (∃ j, j < nk ∧ I 76 (12 * (4 * d + t) + j) = nI v) ↔ ∃ i, i < (aK A t).length ∧ fA A ls t i d f ∧ vA A ls t i d = v := by
  have ht := inB_t hW h
  rw [← hK.2.2.2 (nI v)]
  constructor
  · rintro ⟨i, h1, h2, h3⟩
    rw [br_mn hW hR ht] at h1
    rw [br_vl hW hR hS hs hB hd h h1] at h3
    have := vA_99 hW h h1
    exact ⟨i, h1, (br_FT hW hR hS hs hB (by omega) ht (inB_and.mp h).1 h1 hF).mp h2, nI_inj h3 (by omega) (by omega)⟩
  · rintro ⟨i, h1, h2, h3⟩
    refine ⟨i, by rw [br_mn hW hR ht]; exact h1, (br_FT hW hR hS hs hB (by omega) ht (inB_and.mp h).1 h1 hF).mpr h2, ?_⟩
    rw [br_vl hW hR hS hs hB hd h h1, h3]
/-- each key laid is a number -/
theorem br_key (hW : WF A) (hR : RT B (B 70) A) (hS : Sq B ls) (hs : okS ls) (hB : Bs B n ls.length) {I : gM} {t d nk j : Nat} {F : Nat → Int32} (hd : d < ls.length) (h : inB A ls t d = true) (hK : Ky B t d F I nk) (hj : j < nk) : ∃ v, v ≤ 99 ∧ I 76 (12 * (4 * d + t) + j) = nI v := by
  have ht := inB_t hW h
  obtain ⟨i, h1, h2, h3⟩ := (hK.2.2.2 _).mpr ⟨j, hj, rfl⟩
  rw [br_mn hW hR ht] at h1
  refine ⟨vA A ls t i d, vA_99 hW h h1, ?_⟩
  rw [← br_vl hW hR hS hs hB hd h h1]; exact h3.symm
end BR
/-! rows found -/
def d4 (l P : Nat) : Nat := P / 2 ^ (21 - 7 * l) % 128
theorem d4_0 (P : Nat) : d4 0 P = P / 2097152 % 128 := rfl
theorem d4_1 (P : Nat) : d4 1 P = P / 16384 % 128 := rfl
theorem d4_2 (P : Nat) : d4 2 P = P / 128 % 128 := rfl
theorem d4_3 (P : Nat) : d4 3 P = P / 1 % 128 := rfl
theorem or_at {P g s : Nat} (hg : g < 128) (h : P / 2 ^ s % 128 = 0) : P ||| g * 2 ^ s = P + g * 2 ^ s := by
  have e1 : P = 2 ^ (s + 7) * (P / 2 ^ (s + 7)) + P % 2 ^ s := by
    have a := Nat.div_add_mod P (2 ^ s)
    have b := Nat.div_add_mod (P / 2 ^ s) 128
    rw [h, Nat.add_zero, Nat.div_div_eq_div_mul] at b
    have c : 2 ^ s * 128 = 2 ^ (s + 7) := by rw [Nat.pow_add]
    rw [c] at b
    conv => lhs; rw [← a, ← b, ← Nat.mul_assoc, c]
  have lt : P % 2 ^ s < 2 ^ s := Nat.mod_lt _ (Nat.two_pow_pos s)
  generalize P / 2 ^ (s + 7) = hi at e1
  generalize P % 2 ^ s = lo at *
  have p7 : 2 ^ (s + 7) = 2 ^ s * 128 := by rw [Nat.pow_add]
  have lt2 : 2 ^ s * g + lo < 2 ^ (s + 7) := by
    rw [p7]
    have : 2 ^ s * g + 2 ^ s ≤ 2 ^ s * 128 := by rw [← Nat.mul_succ]; exact Nat.mul_le_mul_left _ (by omega)
    omega
  rw [e1, Nat.two_pow_add_eq_or_of_lt (show lo < 2 ^ (s + 7) by omega), Nat.mul_comm g, Nat.or_assoc, Nat.or_comm lo, ← Nat.two_pow_add_eq_or_of_lt lt, ← Nat.two_pow_add_eq_or_of_lt lt2, ← Nat.two_pow_add_eq_or_of_lt (show lo < 2 ^ (s + 7) by omega)]
  omega
theorem or4 {P l g : Nat} (hP : P < 268435456) (hl : l < 4) (hg : g < 128) (h : d4 l P = 0) : ∃ P', nI P ||| (nI g <<< (((21 : Int32) - ((7 : Int32) * nI l)) &&& 31)) = nI P' ∧ P' < 268435456 ∧ d4 l P' = g ∧ ∀ l', l' < 4 → l' ≠ l → d4 l' P' = d4 l' P := by
  have hh := or_at hg h
  rcases (by omega : l = 0 ∨ l = 1 ∨ l = 2 ∨ l = 3) with rfl | rfl | rfl | rfl
  · rw [show (((21 : Int32) - ((7 : Int32) * nI 0)) &&& 31) = 21 by decide +kernel, pk_shlN 21 21 (by decide) (by omega), fa_or]
    rw [d4_0] at h
    refine ⟨P + g * 2 ^ 21, by rw [← hh], by omega, by rw [d4_0]; omega, fun l' h1 h2 => ?_⟩
    rcases (by omega : l' = 1 ∨ l' = 2 ∨ l' = 3) with rfl | rfl | rfl
    · rw [d4_1, d4_1]; omega
    · rw [d4_2, d4_2]; omega
    · rw [d4_3, d4_3]; omega
  · rw [show (((21 : Int32) - ((7 : Int32) * nI 1)) &&& 31) = 14 by decide +kernel, pk_shlN 14 14 (by decide) (by omega), fa_or]
    rw [d4_1] at h
    refine ⟨P + g * 2 ^ 14, by rw [← hh], by omega, by rw [d4_1]; omega, fun l' h1 h2 => ?_⟩
    rcases (by omega : l' = 0 ∨ l' = 2 ∨ l' = 3) with rfl | rfl | rfl
    · rw [d4_0, d4_0]; omega
    · rw [d4_2, d4_2]; omega
    · rw [d4_3, d4_3]; omega
  · rw [show (((21 : Int32) - ((7 : Int32) * nI 2)) &&& 31) = 7 by decide +kernel, pk_shlN 7 7 (by decide) (by omega), fa_or]
    rw [d4_2] at h
    refine ⟨P + g * 2 ^ 7, by rw [← hh], by omega, by rw [d4_2]; omega, fun l' h1 h2 => ?_⟩
    rcases (by omega : l' = 0 ∨ l' = 1 ∨ l' = 3) with rfl | rfl | rfl
    · rw [d4_0, d4_0]; omega
    · rw [d4_1, d4_1]; omega
    · rw [d4_3, d4_3]; omega
  · rw [show (((21 : Int32) - ((7 : Int32) * nI 3)) &&& 31) = 0 by decide +kernel, pk_shlN 0 0 (by decide) (by omega), fa_or]
    rw [d4_3] at h
    refine ⟨P + g * 2 ^ 0, by rw [← hh], by omega, by rw [d4_3]; omega, fun l' h1 h2 => ?_⟩
    rcases (by omega : l' = 0 ∨ l' = 1 ∨ l' = 2) with rfl | rfl | rfl
    · rw [d4_0, d4_0]; omega
    · rw [d4_1, d4_1]; omega
    · rw [d4_2, d4_2]; omega
/-- the numbers found ahead of a depth, packed -/
def PR (M : gM) (k : Nat) (ls : List Nat) (d : Nat) (f : Nat → Nat) : Prop := ∃ P, P < 268435456 ∧ M (k + 4) d = nI P ∧ (∀ e, e < d → d4 (ls.getD e 0) P = f e) ∧ ∀ l, l < 4 → (∀ e, e < d → ls.getD e 0 ≠ l) → d4 l P = 0
/-- what both have counted and found -/
def OUT (k : Nat) (ls : List Nat) (M I : gM) (J : Nat) : Prop := M k 0 = nI J ∧ I 62 26 = nI J ∧ M k 1 = I 62 27 ∧ (∀ e, e < 4 → M (k + 1) e = I 79 (e + 1)) ∧ ∀ j, j < J → ∃ P, P < 268435456 ∧ M (k + 3) j = nI P ∧ ∀ e, e < ls.length → I 80 (4 * j + ls.getD e 0) = nI (d4 (ls.getD e 0) P)
/-- what the class's search leaves, from a depth on -/
def FRc (k d : Nat) (M r : gM) : Prop := (∀ q, q ≠ k → q ≠ k + 1 → q ≠ k + 3 → q ≠ k + 4 → q ≠ k + 8 → q ≠ k + 9 → q ≠ k + 10 → r q = M q) ∧ (∀ j, 2 ≤ j → r k j = M k j) ∧ (∀ j, j ≤ d → r (k + 4) j = M (k + 4) j) ∧ (∀ j, j < 4 * (d + 1) → r (k + 8) j = M (k + 8) j ∧ r (k + 9) j = M (k + 9) j) ∧ ∀ j, j < 4 * d → r (k + 10) j = M (k + 10) j
theorem FRc.refl {k d : Nat} {M : gM} : FRc k d M M := ⟨fun _ _ _ _ _ _ _ _ => rfl, fun _ _ => rfl, fun _ _ => rfl, fun _ _ => ⟨rfl, rfl⟩, fun _ _ => rfl⟩
theorem FRc.trans {k d : Nat} {M N r : gM} (h : FRc k d M N) (g : FRc k d N r) : FRc k d M r :=
  ⟨fun q a b c d e f i => (g.1 q a b c d e f i).trans (h.1 q a b c d e f i), fun j a => (g.2.1 j a).trans (h.2.1 j a), fun j a => (g.2.2.1 j a).trans (h.2.2.1 j a), fun j a => ⟨(g.2.2.2.1 j a).1.trans (h.2.2.2.1 j a).1, (g.2.2.2.1 j a).2.trans (h.2.2.2.1 j a).2⟩, fun j a => (g.2.2.2.2 j a).trans (h.2.2.2.2 j a)⟩
theorem FRc.sx {k d : Nat} {M r : gM} {A : aT} {ls : List Nat} {qs : Nat → List Nat} (h : FRc k d M r) (S : SX M k A ls qs) : SX r k A ls qs :=
  S.cong (h.2.1 2 (by omega)) (h.1 _ (by omega) (by omega) (by omega) (by omega) (by omega) (by omega) (by omega)) (h.1 _ (by omega) (by omega) (by omega) (by omega) (by omega) (by omega) (by omega)) (h.1 _ (by omega) (by omega) (by omega) (by omega) (by omega) (by omega) (by omega))
theorem FRc.rg {k d : Nat} {M r : gM} {A : aT} {ls : List Nat} {qs : Nat → List Nat} {f a b : Nat → Nat} (h : FRc k d M r) (R : RG M k A ls qs d f a b) : RG r k A ls qs d f a b := fun t ht u => by
  obtain ⟨r1, r2, r3⟩ := R t ht u
  exact ⟨by rw [(h.2.2.2.1 _ (by omega)).1]; exact r1, by rw [(h.2.2.2.1 _ (by omega)).2]; exact r2, r3⟩
theorem FRc.pr {k d : Nat} {M r : gM} {ls : List Nat} {f : Nat → Nat} (h : FRc k d M r) (R : PR M k ls d f) : PR r k ls d f := by
  obtain ⟨P, p1, p2, p3⟩ := R
  exact ⟨P, p1, by rw [h.2.2.1 d (Nat.le_refl _)]; exact p2, p3⟩
end P_35r_42c_bridge
section P_35r_42d_both
/-! the search of both, side by side -/
section TW
variable {B R0 : gM} {n k : Nat} {A : aT} {ls : List Nat} {qs : Nat → List Nat}
def wg (A : aT) (ls : List Nat) (d : Nat) (b x : Nat → Nat) (t : Nat) : Nat := if inB A ls t d = true then b t - x t else 0
/-- where both stand in the loop of a depth: c leaps behind -/
def LI (B R0 : gM) (n k : Nat) (A : aT) (ls : List Nat) (qs : Nat → List Nat) (d : Nat) (F : Nat → Int32) (a b : Nat → Nat) (t0 J0 : Nat) (M0 : gM) (c : Nat) (M I : gM) (J : Nat) (x : Nat → Nat) : Prop :=
  FRc k d M0 M ∧ (∀ t, t < 4 → inB A ls t d = true → M (k + 10) (4 * d + t) = nI (12 * t + x t) ∧ a t ≤ x t ∧ x t < b t ∧ ∀ j, a t ≤ j → j < x t → uq A ls qs t d j < uq A ls qs t d (x t)) ∧ (∀ t, t < 4 → A.2.1.testBit t = true → inB A ls t d = false → M (k + 10) (4 * d + t) = nI (12 * t + a t)) ∧ c + (wg A ls d b x 0 + wg A ls d b x 1 + wg A ls d b x 2 + wg A ls d b x 3) ≤ 48 ∧
  MI false R0 I ∧ Cx B I ∧ DS B n d F I ∧ (∀ e, e < d → I 75 (ls.getD e 0) = F (ls.getD e 0)) ∧ J ≤ J0 + 12 ^ (ls.length - (d + 1)) * stf I d t0 ∧
  OUT k ls M I J ∧ ∀ t, t < n → inB A ls t d = true → kf I d t = nI (uq A ls qs t d (x t))
theorem wg_sum {d t : Nat} {b x : Nat → Nat} (ht : t < 4) (h : inB A ls t d = true) {y : Nat} : (wg A ls d b x 0 + wg A ls d b x 1 + wg A ls d b x 2 + wg A ls d b x 3) + (b t - y) = (wg A ls d b (fun s => if s = t then y else x s) 0 + wg A ls d b (fun s => if s = t then y else x s) 1 + wg A ls d b (fun s => if s = t then y else x s) 2 + wg A ls d b (fun s => if s = t then y else x s) 3) + (b t - x t) := by
  have e : ∀ s, s ≠ t → wg A ls d b (fun s => if s = t then y else x s) s = wg A ls d b x s := fun s hs => by
    unfold wg
    dsimp only
    rw [if_neg hs]
  have e1 : wg A ls d b (fun s => if s = t then y else x s) t = b t - y := by
    unfold wg
    dsimp only
    rw [if_pos h, if_pos rfl]
  have e2 : wg A ls d b x t = b t - x t := by
    unfold wg
    rw [if_pos h]
  rcases (by omega : t = 0 ∨ t = 1 ∨ t = 2 ∨ t = 3) with rfl | rfl | rfl | rfl
  · have := e 1 (by omega); have := e 2 (by omega); have := e 3 (by omega); omega
  · have := e 0 (by omega); have := e 2 (by omega); have := e 3 (by omega); omega
  · have := e 0 (by omega); have := e 1 (by omega); have := e 3 (by omega); omega
  · have := e 0 (by omega); have := e 1 (by omega); have := e 2 (by omega); omega
/-- one leap of both -/
theorem leap_two (hW : WF A) (hR : RT B (B 70) A) (hn : n = A.1.length) (hS : Sq B ls) (hs : okS ls) (hB : Bs B n ls.length) (hQ : QS A ls qs) {d : Nat} (hd : d < ls.length) {F : Nat → Int32} {f a b : Nat → Nat} (hF : ∀ e, e < d → F (ls.getD e 0) = nI (f e) ∧ f e ≤ 99) {M0 : gM} (SX0 : SX M0 k A ls qs) (RG0 : RG M0 k A ls qs d f a b) {t0 J0 c : Nat} {M I : gM} {J : Nat} {x : Nat → Nat} (h : LI B R0 n k A ls qs d F a b t0 J0 M0 c M I J x) (ht0 : t0 < n) (it0 : inn B t0 d) {t g : Nat} (ht : t < 4) (hi : inB A ls t d = true) (hg : uq A ls qs t d (x t) < g) (g100 : g ≤ 100) :
    ∃ r r9, ((fX1_isLeapt k (nI (4 * d + t)) (nI g) M = some (0, r) ∧ fX9_leaps (nI d) (nI t) (nI g) I = some (0, r9) ∧ FRc k d M0 r ∧ OUT k ls r r9 J) ∨ (fX1_isLeapt k (nI (4 * d + t)) (nI g) M = some (1, r) ∧ fX9_leaps (nI d) (nI t) (nI g) I = some (1, r9) ∧ ∃ x', LI B R0 n k A ls qs d F a b t0 J0 M0 (c + 1) r r9 J x')) := by
  obtain ⟨l1, l2, l3, l4, l5, l6, l7, l8, l9, l10, l11⟩ := h
  have tn : t < n := by rw [hn]; exact inB_t hW hi
  have u := (inB_and.mp hi).1
  have S := l1.sx SX0
  have RG1 := l1.rg RG0
  obtain ⟨r1, r2, r3, r4, _⟩ := RG1 t ht u
  obtain ⟨x1, x2, x3, x4⟩ := l2 t ht hi
  obtain ⟨y', r, e8, p1, p2, p3, p4, p5, p6, p7, p8⟩ := c_isLeapt hW hs hQ S hd hi (show g < 1000 by omega) x1 r2 (by omega) r4
  have h4 := hs.1
  have hn4 := hW.1
  have hset := RG1.set hW hQ hd hi
  have it : inn B t d := (br_inn hW hR hS hs hB (by omega) hd).mpr hi
  obtain ⟨u1, u2, u3⟩ := l7 t tn it
  have kv := l11 t tn hi
  have u99 := uq_99 hW hQ hd hi (show x t < (qs t).length by omega)
  obtain ⟨bt, r9, e9, M9, C9, S9, mu, sl, s12, so, z1, z2, z3, z4, z5⟩ := n_leaps2 hB l5 l6 (by omega) l7 tn it (nI g) (by rw [kv, tnI (by omega), tnI (by omega)]; omega)
  obtain ⟨st', bt', r9', e9', _, g1, g2, g3, g4, g5, _, _, _, g8⟩ := n_leaps l5 (by omega) ht (nI g) u1.1 u1.2.1 u3 (by omega)
  rw [e9] at e9'
  obtain ⟨rfl, rfl⟩ := Prod.mk.inj (Option.some.inj e9')
  have hsf : stf r9 d t = st' := by
    unfold stf
    rw [g8, if_pos rfl, nIt (by have := u1.1; omega)]
  have b76 : r9 76 = I 76 := z1 76 (by omega) (by omega)
  have b62 : ∀ j, j ≠ 27 → r9 62 j = I 62 j := z2
  have hset9 : ∀ v, v < 1000 → ((∃ j, j < nkf I d t ∧ I 76 (12 * (4 * d + t) + j) = nI v) ↔ ∃ j, a t ≤ j ∧ j < b t ∧ uq A ls qs t d j = v) := fun v hv => by
    rw [hset v]
    exact br_set hW hR hS hs hB hd hi hF u1 hv
  have FR : FRc k d M0 r := l1.trans ⟨fun q q1 q2 q3 q4 q5 q6 q7 => p5 q q1 q7, fun j hj => p8 j (by omega), fun j _ => by rw [p5 _ (by omega) (by omega)], fun j _ => ⟨by rw [p5 _ (by omega) (by omega)], by rw [p5 _ (by omega) (by omega)]⟩, fun j hj => by rw [p6, if_neg (by omega)]⟩
  have OU : OUT k ls r r9 J := by
    obtain ⟨o1, o2, o3, o4, o5⟩ := l10
    refine ⟨by rw [p8 0 (by omega)]; exact o1, by rw [b62 26 (by omega)]; exact o2, by rw [p7, z4, o3], fun e he => ?_, fun j hj => ?_⟩
    · rw [p5 _ (by omega) (by omega), z1 79 (by omega) (by omega)]; exact o4 e he
    · obtain ⟨P, P1, P2, P3⟩ := o5 j hj
      exact ⟨P, P1, by rw [p5 _ (by omega) (by omega)]; exact P2, fun e he => by rw [z1 80 (by omega) (by omega)]; exact P3 e he⟩
  refine ⟨r, r9, ?_⟩
  by_cases c1 : y' < b t
  · -- the class is not at its end
    have v99 := uq_99 hW hQ hd hi (show y' < (qs t).length by omega)
    obtain ⟨j1, j2, j3⟩ := (hset9 (uq A ls qs t d y') (by omega)).mpr ⟨y', by omega, c1, rfl⟩
    obtain ⟨b1, k1⟩ := z5 j1 j2 (by rw [j3, tnI (by omega), tnI (by omega)]; have := p4 c1; omega)
    rw [if_pos c1] at e8
    rw [b1] at e9
    refine Or.inr ⟨e8, e9, fun s => if s = t then y' else x s, FR, fun s h1 h2 => ?_, fun s h1 h2 h3 => ?_, ?_, M9, C9, ?_, fun e he => ?_, ?_, OU, fun s h1 h2 => ?_⟩
    · dsimp only
      by_cases q : s = t
      · subst q
        rw [if_pos rfl, p6, if_pos rfl]
        refine ⟨rfl, by omega, c1, fun j w1 w2 => ?_⟩
        have := p4 c1
        rcases Nat.lt_or_ge j (x s) with w | w
        · have := x4 j w1 w; omega
        · have := p3 j w w2; omega
      · rw [if_neg q, p6, if_neg (by omega)]
        exact l2 s h1 h2
    · have q : s ≠ t := fun q => by rw [q, hi] at h3; exact absurd h3 (by decide)
      rw [p6, if_neg (by omega)]
      exact l3 s h1 h2 h3
    · have := wg_sum (A := A) (ls := ls) (d := d) (b := b) (x := x) ht hi (y := y')
      have : x t < y' := by
        rcases Nat.lt_or_ge (x t) y' with w | w
        · exact w
        · have : y' = x t := by omega
          rw [this] at c1
          have := p4 (by omega)
          rw [show y' = x t by omega] at this
          omega
      omega
    · rcases S9 with ⟨_, q⟩ | q
      · exact q
      · rw [b1] at q; exact absurd q (by decide)
    · rw [z1 75 (by omega) (by omega)]; exact l8 e he
    · refine Nat.le_trans l9 (Nat.add_le_add_left (Nat.mul_le_mul_left _ ?_) _)
      by_cases q : t0 = t
      · subst q; omega
      · rw [so t0 (by omega) q]; exact Nat.le_refl _
    · dsimp only
      by_cases q : s = t
      · subst q
        rw [if_pos rfl]
        -- both the least
        have hst : st' < nkf I d s := by
          rcases g5 with ⟨_, q⟩ | ⟨q, _⟩
          · exact q
          · rw [b1] at q; exact absurd q (by decide)
        obtain ⟨w, w99, ew⟩ := br_key hW hR hS hs hB hd hi u1 hst
        have ekf : kf r9 d s = nI w := by
          unfold kf
          rw [hsf, b76]; exact ew
        obtain ⟨m, m1, m2, m3⟩ := (hset9 w (by omega)).mp ⟨st', hst, ew⟩
        have gw : g ≤ w := by
          have := g4 hst
          rw [ew, tnI (by omega), tnI (by omega)] at this
          omega
        have le1 : w ≤ uq A ls qs s d y' := by
          rw [ekf, j3, tnI (by omega), tnI (by omega)] at k1
          omega
        have my : y' ≤ m := by
          rcases Nat.lt_or_ge m y' with q | q
          · exfalso
            rcases Nat.lt_or_ge m (x s) with z | z
            · have := x4 m m1 z; omega
            · have := p3 m z q; omega
          · exact q
        have le2 := RG1.mono hW hs hQ hd hi (show a s ≤ y' by omega) my m2
        rw [ekf]
        congr 1
        omega
      · rw [if_neg q]
        have e := l11 s h1 h2
        rw [← e]
        unfold kf
        rw [so s (by omega) q, b76]
  · -- both are at their ends
    rw [if_neg c1] at e8
    have b0 : bt = 0 := by
      rcases g5 with ⟨_, q⟩ | ⟨q, _⟩
      · exfalso
        obtain ⟨w, w99, ew⟩ := br_key hW hR hS hs hB hd hi u1 q
        obtain ⟨m, m1, m2, m3⟩ := (hset9 w (by omega)).mp ⟨st', q, ew⟩
        have := g4 q
        rw [ew, tnI (by omega), tnI (by omega)] at this
        rcases Nat.lt_or_ge m (x t) with z | z
        · have := x4 m m1 z; omega
        · have := p3 m z (by omega); omega
      · exact q
    rw [b0] at e9
    exact Or.inl ⟨e8, e9, FR, OU⟩
end TW
end P_35r_42d_both
section P_35r_42e_search
/-! the search of both: the loop of a depth, all depths -/
theorem cs_step {rec : Int32 → gM → Option gM} {k d c : Nat} {M : gM} {g m bt : Int32} {r : gM} (hc : c < 48) (eg : fX1_greatestKey k (nI d) M = some g) (em : fX1_lowestBelow k (nI d) g M = some m) (hm : m ≠ -1) (el : fX1_isLeapt k ((nI d * 4) + m) g M = some (bt, r)) : lX1_search_19 rec k (nI d) (nI c, M) = if bt = 0 then some (.inl r) else lX1_search_19 rec k (nI d) (nI (c + 1), r) := by
  conv => lhs; unfold lX1_search_19
  rw [itO_eq]; dsimp only
  rw [if_neg (show ¬ (48 : Int32) ≤ nI c from mt (nI_leI (a := 48) (by omega) (by omega)).mp (by omega)), eg, obs, em, obs, if_neg hm]
  unfold bX1_search_63
  rw [if_neg hm, el, obs, nI_1]
  dsimp only
  by_cases c : bt = 0
  · rw [if_pos c, if_pos c, obs]; rfl
  · rw [if_neg c, if_neg c, obs]; rfl
theorem cs_found {rec : Int32 → gM → Option gM} {k d c : Nat} {M r4 : gM} {g m bt : Int32} {r : gM} (hc : c < 48) (eg : fX1_greatestKey k (nI d) M = some g) (em : fX1_lowestBelow k (nI d) g M = some (-1)) (ed : fX1_deepen rec k (nI d) g M = some r4) (e100 : fX1_lowestBelow k (nI d) 100 r4 = some m) (hm : m ≠ -1) (el : fX1_isLeapt k ((nI d * 4) + m) (g + 1) r4 = some (bt, r)) : lX1_search_19 rec k (nI d) (nI c, M) = if bt = 0 then some (.inl r) else lX1_search_19 rec k (nI d) (nI (c + 1), r) := by
  conv => lhs; unfold lX1_search_19
  rw [itO_eq]; dsimp only
  rw [if_neg (show ¬ (48 : Int32) ≤ nI c from mt (nI_leI (a := 48) (by omega) (by omega)).mp (by omega)), eg, obs, em, obs, if_pos rfl, ed, obs, e100, obs]
  unfold bX1_search_63
  rw [if_neg hm, el, obs, nI_1]
  dsimp only
  by_cases c : bt = 0
  · rw [if_pos c, if_pos c, obs]; rfl
  · rw [if_neg c, if_neg c, obs]; rfl
theorem rg_end {rec : Int32 → gM → Option gM} {v : Int32} {I : gM} : lX9_goes_19 rec v (0, I) = some I := by
  unfold lX9_goes_19
  rw [itO_eq]; dsimp only
  rw [if_pos rfl, obs]; rfl
theorem rg_step {rec : Int32 → gM → Option gM} {d : Nat} {I : gM} {g m bt : Int32} {r : gM} (eg : fX9_greatestKey (nI d) I = some g) (em : fX9_firstBehind (nI d) g I = some m) (hm : m ≠ -1) (el : fX9_leaps (nI d) m g I = some (bt, r)) : lX9_goes_19 rec (nI d) (1, I) = lX9_goes_19 rec (nI d) (bt, r) := by
  conv => lhs; unfold lX9_goes_19
  rw [itO_eq]; dsimp only
  rw [if_neg n10, eg, obs, em, obs, if_neg hm, el, obs]
  unfold bX9_goes_112
  rw [obs]; rfl
theorem rg_found {rec : Int32 → gM → Option gM} {d : Nat} {I I6 I8 r9 I11 : gM} {g m bt u5 u7 u10 : Int32} {r : gM} (eg : fX9_greatestKey (nI d) I = some g) (em : fX9_firstBehind (nI d) g I = some (-1)) (e5 : rI 4 (I 74) (nI d) = some u5) (e6 : wI I 75 4 u5 g = some I6) (e7 : rI 5 (I6 79) (nI d + 1) = some u7) (e8 : wI I6 79 5 (nI d + 1) (u7 + 1) = some I8) (e9 : rec (nI d + 1) I8 = some r9) (e10 : rI 4 (r9 74) (nI d) = some u10) (e11 : wI r9 75 4 u10 (-1) = some I11) (e12 : fX9_firstIn (nI d) I11 = some m) (el : fX9_leaps (nI d) m (g + 1) I11 = some (bt, r)) : lX9_goes_19 rec (nI d) (1, I) = lX9_goes_19 rec (nI d) (bt, r) := by
  conv => lhs; unfold lX9_goes_19
  rw [itO_eq]; dsimp only
  rw [if_neg n10, eg, obs, em, obs, if_pos rfl, e5, obs, e6, obs, e7, obs, e8, obs, e9, obs, e10, obs, e11, obs, e12, obs, el, obs]
  unfold bX9_goes_112
  rw [obs]; rfl
theorem leaps_st {I0 B I : gM} {n D d t : Nat} {f : Nat → Int32} (h : Bs B n D) (hM : MI false I0 I) (C : Cx B I) (hd : d < 4) (S : DS B n d f I) (ht : t < n) (q : inn B t d) {v : Int32} (hv : (kf I d t).toInt < v.toInt) {b : Int32} {r : gM} (e : fX9_leaps (nI d) (nI t) v I = some (b, r)) : stf I d t + 1 ≤ stf r d t := by
  obtain ⟨b', r', e', _, _, _, _, sl, _⟩ := n_leaps2 h hM C hd S ht q v hv
  rw [e] at e'
  obtain ⟨rfl, rfl⟩ := Prod.mk.inj (Option.some.inj e')
  exact sl
section TW2
variable {B R0 : gM} {n k : Nat} {A : aT} {ls : List Nat} {qs : Nat → List Nat}
theorem jn_go (hW : WF A) (hR : RT B (B 70) A) (hn : n = A.1.length) (hS : Sq B ls) (hs : okS ls) (hB : Bs B n ls.length) (hD : Dp B n ls.length) (hQ : QS A ls qs) : ∀ (w d : Nat), d + w + 1 = ls.length → ∀ (fc fr : Nat), w < fc → ls.length < fr + d → ∀ (M I : gM) (J : Nat) (f a b : Nat → Nat), SX M k A ls qs → RG M k A ls qs d f a b → PR M k ls d f → OUT k ls M I J → MI false R0 I → Cx B I → (∀ e, e < d → I 75 (ls.getD e 0) = nI (f e) ∧ f e ≤ 99) → (∀ e, e < d → GV B n e (I 75 (lo B e))) → J + 12 ^ (ls.length - d) ≤ 20736 →
    ∃ M' I' J', fX1_search fc k (nI d) M = some M' ∧ fX9_goes fr (nI d) I = some I' ∧ OUT k ls M' I' J' ∧ FRc k d M M' ∧ J' ≤ 20736 := by
  have h4 := hs.1
  have hn4 := hW.1
  intro w
  induction w using Nat.strongRecOn with
  | _ w ih =>
    intro d hdw fc fr hfc hfr M I J f a b S RG0 P0 O0 hM hC hF hGV hJ
    have hd : d < ls.length := by omega
    obtain ⟨fc, rfl⟩ : ∃ z, fc = z + 1 := ⟨fc - 1, by omega⟩
    obtain ⟨fr, rfl⟩ : ∃ z, fr = z + 1 := ⟨fr - 1, by omega⟩
    have inn_iff : ∀ t, t < n → (inn B t d ↔ inB A ls t d = true) := fun t ht => br_inn hW hR hS hs hB (by omega) hd
    have in_n : ∀ t, inB A ls t d = true → t < n := fun t h => by rw [hn]; exact inB_t hW h
    have lod : lo B d = ls.getD d 0 := br_lo hS hs hd
    have loe : ∀ e, e < ls.length → lo B e = ls.getD e 0 := fun e he => br_lo hS hs he
    have l4 := hs.2.1 d hd
    obtain ⟨t0, t1, t2, t3⟩ := least (hD.2 d hd)
    have i0 := (inn_iff t0 t1).mp t2
    -- both at the first keys
    obtain ⟨v, r2, e2, v01, M2, C2, K2, K20, F2, F3, F4⟩ := n_laysKeys hB hM hC (d := d) (by omega)
    obtain ⟨v8, r8, e8, g1, g2, g3⟩ := c_isOpened hW hs hQ S hd RG0
    have f75 : r2 75 = I 75 := F2 75 (by omega) (by omega) (by omega)
    have FR8 : FRc k d M r8 := ⟨fun q _ _ _ _ _ _ h => g1 q h, fun j _ => by rw [g1 k (by omega)], fun j _ => by rw [g1 _ (by omega)], fun j _ => ⟨by rw [g1 _ (by omega)], by rw [g1 _ (by omega)]⟩, fun j hj => g2 j (Or.inl hj)⟩
    have O8 : OUT k ls r8 r2 J := by
      obtain ⟨o1, o2, o3, o4, o5⟩ := O0
      refine ⟨by rw [g1 k (by omega)]; exact o1, by rw [F2 62 (by omega) (by omega) (by omega)]; exact o2, by rw [g1 k (by omega), F2 62 (by omega) (by omega) (by omega)]; exact o3, fun e he => by rw [g1 _ (by omega), F2 79 (by omega) (by omega) (by omega)]; exact o4 e he, fun j hj => ?_⟩
      obtain ⟨P, P1, P2, P3⟩ := o5 j hj
      exact ⟨P, P1, by rw [g1 _ (by omega)]; exact P2, fun e he => by rw [F2 80 (by omega) (by omega) (by omega)]; exact P3 e he⟩
    have hset : ∀ t, inB A ls t d = true → ∀ {nk : Nat}, Ky B t d (I 75) r2 nk → ∀ v, v < 1000 → ((∃ j, j < nk ∧ r2 76 (12 * (4 * d + t) + j) = nI v) ↔ ∃ j, a t ≤ j ∧ j < b t ∧ uq A ls qs t d j = v) := fun t h nk hK v hv => by
      rw [RG0.set hW hQ hd h v]
      exact br_set hW hR hS hs hB hd h (fun e he => hF e he) hK hv
    have eSc : fX1_search (fc + 1) k (nI d) M = if v8 = 0 then some r8 else ((lX1_search_19 (fun d I => fX1_search fc k d I) k (nI d) (nI 0, r8)).bind fun w7 => Sum.elim (fun w7_0 => some w7_0) (fun w7_1 => some w7_1) w7) := by
      show fX1_searchB (fun d I => fX1_search fc k d I) k (nI d) M = _
      unfold fX1_searchB
      rw [S.1, if_neg (mt (nI_leI (by omega) (by omega)).mp (by omega)), e8, obs]; rfl
    have eSr : fX9_goes (fr + 1) (nI d) I = (lX9_goes_19 (fun d I => fX9_goes fr d I) (nI d) (v, r2)).bind fun w15 => some w15 := by
      show fX9_goesB (fun d I => fX9_goes fr d I) (nI d) I = _
      unfold fX9_goesB
      rw [if_neg (show ¬ nI d = I 62 19 by rw [hC.2.1, hB.2.2.2.1]; exact fun z => by have := nI_inj z (by omega) (by omega); omega), e2, obs]
    rw [eSc, eSr]
    rcases g3 with ⟨rfl, g4, g5⟩ | ⟨rfl, t, z1, z2, z3⟩
    · -- each has a key
      have v1 : v = 1 := by
        rcases v01 with z | z
        · exfalso
          obtain ⟨t, y1, y2, y3⟩ := K20 z
          have yi := (inn_iff t y1).mp y2
          obtain ⟨nk, n1, _, _⟩ := K2 t y1 y2
          have : nk = 0 := nI_inj (n1.2.1.symm.trans y3) (by have := n1.1; omega) (by omega)
          subst this
          have ab := g5 t (by omega) yi
          obtain ⟨_, _, _, rb, _⟩ := RG0 t (by omega) (inB_and.mp yi).1
          have u99 := uq_99 hW hQ hd yi (show a t < (qs t).length by omega)
          obtain ⟨j, j1, _⟩ := (hset t yi n1 (uq A ls qs t d (a t)) (by omega)).mpr ⟨a t, Nat.le_refl _, ab, rfl⟩
          omega
        · exact z
      subst v1
      rw [if_neg n10]
      have L0' : LI B R0 n k A ls qs d (I 75) a b t0 J M 0 r8 r2 J a := by
        refine ⟨FR8, fun t ht hi => ?_, fun t ht hu hi => ?_, ?_, M2, C2, fun t ht hi => ?_, fun e he => by rw [f75], by omega, O8, fun t ht hi => ?_⟩
        · rw [g4 t ht, (RG0 t ht (inB_and.mp hi).1).1]
          exact ⟨rfl, Nat.le_refl _, g5 t ht hi, fun j h1 h2 => by omega⟩
        · rw [g4 t ht, (RG0 t ht hu).1]
        · have wl : ∀ t, t < 4 → wg A ls d b a t ≤ 12 := fun t ht => by
            unfold wg
            by_cases c : inB A ls t d = true
            · rw [if_pos c]
              have := (RG0 t ht (inB_and.mp c).1).2.2.2.1
              have := (hQ t ht (inB_and.mp c).1).1
              omega
            · rw [if_neg c]; omega
          have := wl 0 (by omega)
          have := wl 1 (by omega)
          have := wl 2 (by omega)
          have := wl 3 (by omega)
          omega
        · obtain ⟨nk, n1, n2, n3⟩ := K2 t ht hi
          have e1 : nkf r2 d t = nk := by
            unfold nkf
            rw [n1.2.1, nIt (by have := n1.1; omega)]
          have e0 : stf r2 d t = 0 := by
            unfold stf
            rw [n2]; rfl
          rw [e1, e0]
          exact ⟨n1, n3 rfl, n2⟩
        · have hit := (inn_iff t ht).mpr hi
          obtain ⟨nk, n1, n2, n3⟩ := K2 t ht hit
          have e0 : stf r2 d t = 0 := by
            unfold stf
            rw [n2]; rfl
          have n0 := n3 rfl
          obtain ⟨w, w99, ew⟩ := br_key hW hR hS hs hB hd hi n1 n0
          have ab := g5 t (by omega) hi
          obtain ⟨_, _, _, rb, _⟩ := RG0 t (by omega) (inB_and.mp hi).1
          have u99 := uq_99 hW hQ hd hi (show a t < (qs t).length by omega)
          obtain ⟨j, j1, j2⟩ := (hset t hi n1 (uq A ls qs t d (a t)) (by omega)).mpr ⟨a t, Nat.le_refl _, ab, rfl⟩
          obtain ⟨m, m1, m2, m3⟩ := (hset t hi n1 w (by omega)).mp ⟨0, n0, ew⟩
          have le1 := RG0.mono hW hs hQ hd hi (Nat.le_refl (a t)) m1 m2
          have le2 : w ≤ uq A ls qs t d (a t) := by
            rcases Nat.eq_zero_or_pos j with z | z
            · rw [z, ew] at j2
              have := nI_inj j2 (by omega) (by omega)
              omega
            · have := n1.2.2.1 0 j z j1
              rw [ew, j2, tnI (by omega), tnI (by omega)] at this
              omega
          show r2 76 (12 * (4 * d + t) + stf r2 d t) = _
          rw [e0, ew]
          congr 1
          omega
      have loop : ∀ (m c : Nat) (M1 I1 : gM) (J1 : Nat) (x : Nat → Nat), 48 - c = m → LI B R0 n k A ls qs d (I 75) a b t0 J M c M1 I1 J1 x → ∃ M' I' J', (∃ w, lX1_search_19 (fun d I => fX1_search fc k d I) k (nI d) (nI c, M1) = some w ∧ (w = .inl M' ∨ w = .inr M')) ∧ lX9_goes_19 (fun d I => fX9_goes fr d I) (nI d) (1, I1) = some I' ∧ OUT k ls M' I' J' ∧ FRc k d M M' ∧ J' ≤ 20736 := by
        intro m
        induction m using Nat.strongRecOn with
        | _ m ihm =>
          intro c M1 I1 J1 x hm hL
          obtain ⟨q1, q2, q3, q4, q5, q6, q7, q8, q9, q10, q11⟩ := id hL
          have S1 := q1.sx S
          have RG1 := q1.rg RG0
          have P1 := q1.pr P0
          have hx : AT M1 k A ls qs d x := fun t ht hi => ⟨(q2 t ht hi).1, by have := (q2 t ht hi).2.2.1; have := (RG0 t ht (inB_and.mp hi).1).2.2.2.1; omega⟩
          have t04 : t0 < 4 := by omega
          have hc : c < 48 := by
            have h0 : 1 ≤ wg A ls d b x t0 := by
              unfold wg
              rw [if_pos i0]
              have := (q2 t0 t04 i0).2.2.1
              omega
            rcases (by omega : t0 = 0 ∨ t0 = 1 ∨ t0 = 2 ∨ t0 = 3) with z | z | z | z <;> rw [z] at h0 <;> omega
          have hlt : 48 - (c + 1) < m := by rw [← hm]; exact Nat.sub_succ_lt_self 48 c hc
          have un : ∀ t, t < 4 → inB A ls t d = true → uq A ls qs t d (x t) ≤ 99 := fun t ht hi => uq_99 hW hQ hd hi (hx t ht hi).2
          -- the greatest key
          obtain ⟨g, eg, hg⟩ := c_greatestKey hW hs hQ S1 hd hx
          obtain ⟨g', rfl, gle, tg, tg4, tgi, tge⟩ : ∃ g', g = nI g' ∧ (∀ t, t < 4 → inB A ls t d = true → uq A ls qs t d (x t) ≤ g') ∧ ∃ t, t < 4 ∧ inB A ls t d = true ∧ uq A ls qs t d (x t) = g' := by
            rcases hg with ⟨_, z⟩ | z
            · rw [z t0 t04] at i0; exact absurd i0 (by decide)
            · exact z
          have g99 : g' ≤ 99 := by rw [← tge]; exact un tg tg4 tgi
          obtain ⟨gr, er, r1', r2', r3'⟩ := n_greatestKey hB q6 (by omega) q7
          have egr : gr = nI g' := by
            have a1 := r1' tg (in_n tg tgi) ((inn_iff tg (in_n tg tgi)).mpr tgi)
            rw [q11 tg (in_n tg tgi) tgi, tge, tnI (by omega)] at a1
            rcases r2' with z | ⟨t', y1, y2, y3⟩
            · rw [z, show ((-1 : Int32)).toInt = -1 by decide] at a1; omega
            · have yi := (inn_iff t' y1).mp y2
              rw [q11 t' y1 yi] at y3
              have := gle t' (by omega) yi
              rw [← y3, tnI (by have := un t' (by omega) yi; omega)] at a1
              rw [← y3]
              congr 1
              omega
          subst egr
          obtain ⟨ml, el, hml⟩ := c_lowestBelow hW hs hQ S1 hd hx (v := g') (by omega)
          obtain ⟨mr, emr, hmr⟩ := n_firstBehind hB q6 (by omega) q7 (nI g')
          have emm : mr = ml := by
            rcases hml with ⟨t, y1, y2, y3, y4, y5⟩ | ⟨y1, y2⟩ <;> rcases hmr with ⟨t', x1, x2, x3, x4, x5⟩ | ⟨x1, x2⟩
            · have xi := (inn_iff t' x1).mp x3
              rw [q11 t' x1 xi, tnI (by have := un t' (by omega) xi; omega), tnI (by omega)] at x4
              rw [y2, x2]
              rcases Nat.lt_trichotomy t t' with z | z | z
              · exfalso
                have := x5 t z ((inn_iff t (in_n t y3)).mpr y3)
                rw [q11 t (in_n t y3) y3, tnI (by omega), tnI (by have := un t y1 y3; omega)] at this
                omega
              · rw [z]
              · exfalso
                have := y5 t' z xi
                omega
            · exfalso
              have := x2 t (in_n t y3) ((inn_iff t (in_n t y3)).mpr y3)
              rw [q11 t (in_n t y3) y3, tnI (by omega), tnI (by have := un t y1 y3; omega)] at this
              omega
            · exfalso
              have xi := (inn_iff t' x1).mp x3
              rw [q11 t' x1 xi, tnI (by have := un t' (by omega) xi; omega), tnI (by omega)] at x4
              have := y2 t' (by omega) xi
              omega
            · rw [x1, y1]
          subst emm
          have J1le : J1 ≤ 20736 := by
            have s12 : stf I1 d t0 ≤ 12 := by
              obtain ⟨u1, u2, u3⟩ := q7 t0 t1 t2
              have := u1.1
              omega
            have y : 12 ^ (ls.length - (d + 1)) * stf I1 d t0 ≤ 12 ^ (ls.length - (d + 1)) * 12 := Nat.mul_le_mul_left _ s12
            have W12' : 12 ^ (ls.length - d) = 12 ^ (ls.length - (d + 1)) * 12 := by rw [show ls.length - d = ls.length - (d + 1) + 1 by omega, Nat.pow_succ]
            rw [W12'] at hJ
            exact Nat.le_trans q9 (Nat.le_trans (Nat.add_le_add_left y J) hJ)
          -- behind the leap of a table
          have go : ∀ {Y : Option (gM ⊕ gM)} {Z : Option gM} {bt bt' : Int32} {r r9 : gM} {J2 : Nat}, Y = (if bt = 0 then some (.inl r) else lX1_search_19 (fun d I => fX1_search fc k d I) k (nI d) (nI (c + 1), r)) → Z = lX9_goes_19 (fun d I => fX9_goes fr d I) (nI d) (bt', r9) → ((bt = 0 ∧ bt' = 0 ∧ FRc k d M r ∧ OUT k ls r r9 J2 ∧ J2 ≤ 20736) ∨ (bt = 1 ∧ bt' = 1 ∧ ∃ x', LI B R0 n k A ls qs d (I 75) a b t0 J M (c + 1) r r9 J2 x')) → ∃ M' I' J', (∃ w, Y = some w ∧ (w = .inl M' ∨ w = .inr M')) ∧ Z = some I' ∧ OUT k ls M' I' J' ∧ FRc k d M M' ∧ J' ≤ 20736 := by
            intro Y Z bt bt' r r9 J2 hY hZ h
            rcases h with ⟨rfl, rfl, h1, h2, h3⟩ | ⟨rfl, rfl, x', h1⟩
            · rw [if_pos rfl] at hY
              rw [rg_end] at hZ
              exact ⟨r, r9, J2, ⟨_, hY, Or.inl rfl⟩, hZ, h2, h1, h3⟩
            · rw [if_neg n10] at hY
              rw [hY, hZ]
              exact ihm (48 - (c + 1)) hlt (c + 1) r r9 J2 x' rfl h1
          by_cases c2 : mr = -1
          · subst c2
            -- all stand at one key
            have all : ∀ t, t < 4 → inB A ls t d = true → uq A ls qs t d (x t) = g' := fun t ht hi => by
              rcases hml with ⟨t', y1, y2, _⟩ | ⟨_, y2⟩
              · exact absurd y2.symm (nI_m1 (by omega))
              · have := y2 t ht hi
                have := gle t ht hi
                omega
            have allk : ∀ t, t < n → inn B t d → kf I1 d t = nI g' := fun t ht hi => by
              have := (inn_iff t ht).mp hi
              rw [q11 t ht this, all t (by omega) this]
            have gv : GV B n d (nI g') := fun t ht hi => by
              obtain ⟨i, i1, i2, i3⟩ := (q7.key (by omega) (by omega) ht hi).2
              exact ⟨i, i1, i3.trans (allk t ht hi)⟩
            obtain ⟨W, hWd⟩ : ∃ W, W = 12 ^ (ls.length - (d + 1)) := ⟨_, rfl⟩
            have W12 : 12 ^ (ls.length - d) = 12 * W := by rw [hWd, show ls.length - d = ls.length - (d + 1) + 1 by omega, Nat.pow_succ, Nat.mul_comm]
            have s12 : stf I1 d t0 < 12 := by
              obtain ⟨u1, u2, u3⟩ := q7 t0 t1 t2
              have := u1.1
              omega
            have JB : J1 + 12 ^ (ls.length - (d + 1)) ≤ 20736 := by
              rw [← hWd] at q9 ⊢
              have : W * stf I1 d t0 + W ≤ 12 * W := by rw [← Nat.mul_succ, Nat.mul_comm]; exact Nat.mul_le_mul_right _ (by omega)
              omega
            have W1 : 1 ≤ W := by rw [hWd]; exact Nat.pow_pos (by decide)
            have J1lt : J1 < 20736 := by rw [← hWd] at JB; omega
            -- the reference's memory with the number found
            have e74 : I1 74 d = nI (ls.getD d 0) := by rw [q6.2.2.2.2.2]; exact hS.2 d hd
            generalize hI5 : g_up (g_up I1 75 (ls.getD d 0) (nI g')) 79 (d + 1) (I1 79 (d + 1) + 1) = I5
            have z5 : ∀ q, q ≠ 75 → q ≠ 79 → I5 q = I1 q := fun q y1 y2 => by rw [← hI5, g_up_row y2, g_up_row y1]
            have f5 : ∀ j, I5 75 j = if j = ls.getD d 0 then nI g' else I1 75 j := fun j => by rw [← hI5, g_up_row (by omega), gu_in]
            have h79 : ∀ j, I5 79 j = if j = d + 1 then I1 79 (d + 1) + 1 else I1 79 j := fun j => by rw [← hI5, gu_in, g_up_row (by omega)]
            have M5 : MI false R0 I5 := by
              rw [← hI5]
              exact (q5.up (k := 75) rfl (lo := -1) (hi := 99) rfl (by rw [tnI (by omega)]; omega) (by rw [tnI (by omega)]; omega)).up (k := 79) rfl (lo := -2147483648) (hi := 2147483647) rfl (tTop _).1 (tTop _).2
            have C5 : Cx B I5 := by
              rw [← hI5]
              exact (q6.up (by omega) (by omega) (by omega) (by omega) (by omega)).up (by omega) (by omega) (by omega) (by omega) (by omega)
            have f5e : ∀ e, e < d → I5 75 (ls.getD e 0) = I1 75 (ls.getD e 0) := fun e he => by rw [f5, if_neg (hs.2.2 e d (by omega) hd (by omega))]
            have GV5 : ∀ e, e < d + 1 → GV B n e (I5 75 (lo B e)) := fun e he => by
              rw [loe e (by omega)]
              rcases (by omega : e < d ∨ e = d) with z | z
              · rw [f5e e z, q8 e z, ← loe e (by omega)]; exact hGV e z
              · rw [z, f5, if_pos rfl]; exact gv
            have eJ5 : I5 62 26 = nI J1 := by rw [z5 62 (by omega) (by omega)]; exact q10.2.1
            obtain ⟨r9, e9, M9, C9, ⟨J', eJ', J9, J9', _, _, _⟩, H1, H2, H3, H4⟩ := n_goes hB hD fr (d + 1) (by omega) (by omega) I5 J1 M5 C5 eJ5 JB GV5
            -- the class's memory with the number found
            obtain ⟨P, P28, Pe, Pf, Pz⟩ := P1
            have lz : d4 (ls.getD d 0) P = 0 := Pz _ l4 (fun e he => hs.2.2 e d (by omega) hd (by omega))
            obtain ⟨P', o1, o2, o3, o4⟩ := or4 P28 l4 (show g' < 128 by omega) lz
            generalize hM5 : g_up (g_up M1 (k + 1) d (M1 (k + 1) d + 1)) (k + 4) (d + 1) (nI P') = N5
            have y5 : ∀ q, q ≠ k + 1 → q ≠ k + 4 → N5 q = M1 q := fun q y1 y2 => by rw [← hM5, g_up_row y2, g_up_row y1]
            have y4 : ∀ j, N5 (k + 4) j = if j = d + 1 then nI P' else M1 (k + 4) j := fun j => by rw [← hM5, gu_in, g_up_row (by omega)]
            have y1 : ∀ j, N5 (k + 1) j = if j = d then M1 (k + 1) d + 1 else M1 (k + 1) j := fun j => by rw [← hM5, g_up_row (by omega), gu_in]
            have FN : FRc k d M1 N5 := ⟨fun q _ h1 _ h2 _ _ _ => y5 q h1 h2, fun j _ => by rw [y5 k (by omega) (by omega)], fun j hj => by rw [y4, if_neg (by omega)], fun j _ => ⟨by rw [y5 _ (by omega) (by omega)], by rw [y5 _ (by omega) (by omega)]⟩, fun j _ => by rw [y5 _ (by omega) (by omega)]⟩
            have S5 := FN.sx S1
            have RG5 := FN.rg RG1
            have f' : ∀ e, e < d + 1 → I5 75 (ls.getD e 0) = nI (if e = d then g' else f e) ∧ (if e = d then g' else f e) ≤ 99 := fun e he => by
              rcases (by omega : e < d ∨ e = d) with z | z
              · rw [if_neg (by omega), f5e e z, q8 e z]; exact hF e z
              · rw [if_pos z, z, f5, if_pos rfl]; exact ⟨rfl, g99⟩
            have PR5 : PR N5 k ls (d + 1) (fun e => if e = d then g' else f e) := by
              refine ⟨P', o2, by rw [y4, if_pos rfl], fun e he => ?_, fun l hl hne => ?_⟩
              · dsimp only
                rcases (by omega : e < d ∨ e = d) with z | z
                · rw [if_neg (by omega), o4 _ (hs.2.1 e (by omega)) (hs.2.2 e d (by omega) hd (by omega))]; exact Pf e z
                · rw [if_pos z, z]; exact o3
              · rw [o4 l hl (fun z => hne d (by omega) z.symm)]
                exact Pz l hl (fun e he => hne e (by omega))
            have O5 : OUT k ls N5 I5 J1 := by
              obtain ⟨w1, w2, w3, w4, w5⟩ := q10
              refine ⟨by rw [y5 k (by omega) (by omega)]; exact w1, eJ5, by rw [y5 k (by omega) (by omega), z5 62 (by omega) (by omega)]; exact w3, fun e he => ?_, fun j hj => ?_⟩
              · rw [y1, h79]
                by_cases z : e = d
                · rw [if_pos z, if_pos (by omega), w4 d (by omega)]
                · rw [if_neg z, if_neg (by omega)]; exact w4 e he
              · obtain ⟨Q, Q1, Q2, Q3⟩ := w5 j hj
                exact ⟨Q, Q1, by rw [y5 _ (by omega) (by omega)]; exact Q2, fun e he => by rw [z5 80 (by omega) (by omega)]; exact Q3 e he⟩
            -- the next depth
            have deep : ∃ r4, fX1_deepen (fun d I => fX1_search fc k d I) k (nI d) (nI g') M1 = some r4 ∧ OUT k ls r4 r9 J' ∧ FRc k d M1 r4 ∧ ∀ j, j < 4 * (d + 1) → r4 (k + 10) j = M1 (k + 10) j := by
              have eD : fX1_deepen (fun d I => fX1_search fc k d I) k (nI d) (nI g') M1 = if N5 k 2 ≤ nI (d + 1) then (if (20736 : Int32) ≤ N5 k 0 then some N5 else (rI 5 (N5 (k + 4)) (nI (d + 1))).bind fun u6 => (wI N5 (k + 3) 20736 (N5 k 0) u6).bind fun I7 => (pU I7 k 0 ((I7 k 0) + 1)).bind fun I8 => some I8) else (fX1_narrow k (nI d) (nI g') N5).bind fun r9 => (fX1_search fc k (nI (d + 1)) r9).bind fun r10 => some r10 := by
                unfold fX1_deepen
                rw [rI_n (by omega) (by omega), obs, wI_n (by omega) (by omega), obs, g_up_row (show k + 4 ≠ k + 1 by omega), rI_n (by omega) (by omega), obs, Pe, g_up_row (show k + 2 ≠ k + 1 by omega), rI_n (by omega) (by omega), obs, S1.2.1 d hd, o1, nI_1, wI_n (by omega) (by omega), obs, hM5]
              rw [eD, S5.1]
              by_cases hl : d + 1 = ls.length
              · -- a row
                rw [if_pos ((nI_leI (by omega) (by omega)).mpr (by omega)), O5.1, L20736, if_neg (mt (nI_leI (by omega) (by omega)).mp (by omega)), rI_n (by omega) (by omega), obs, y4, if_pos rfl, wI_n (by omega) (by omega), obs, pU_n, obs]
                obtain ⟨fr, rfl⟩ : ∃ z, fr = z + 1 := ⟨fr - 1, by omega⟩
                have e9' : fX9_goes (fr + 1) (nI (d + 1)) I5 = (fX9_takesRow I5).bind fun r1 => some r1 := by
                  show fX9_goesB (fun d I => fX9_goes fr d I) (nI (d + 1)) I5 = _
                  unfold fX9_goesB
                  rw [if_pos (show nI (d + 1) = I5 62 19 by rw [C5.2.1, hB.2.2.2.1, hl])]
                obtain ⟨rt, et, _, t26, t80, t80', tk, tj⟩ := n_takesRow M5 J1lt eJ5
                rw [et, obs, e9] at e9'
                obtain rfl := Option.some.inj e9'
                have : J' = J1 + 1 := nI_inj (eJ'.symm.trans t26) (by omega) (by omega)
                subst this
                have ek0 : g_up N5 (k + 3) J1 (nI P') k 0 = nI J1 := by rw [g_up_row (by omega)]; exact O5.1
                rw [ek0, nI_1]
                refine ⟨_, rfl, ⟨g_up_self, eJ', ?_, fun e he => ?_, fun j hj => ?_⟩, FN.trans ⟨fun q h1 _ h3 _ _ _ _ => by rw [g_up_row h1, g_up_row h3], fun j hj => by rw [g_up_ne (Or.inr (by omega)), g_up_row (by omega)], fun j _ => by rw [g_up_row (by omega), g_up_row (by omega)], fun j _ => ⟨by rw [g_up_row (by omega), g_up_row (by omega)], by rw [g_up_row (by omega), g_up_row (by omega)]⟩, fun j _ => by rw [g_up_row (by omega), g_up_row (by omega)]⟩, fun j _ => by rw [g_up_row (by omega), g_up_row (by omega), y5 _ (by omega) (by omega)]⟩
                · rw [g_up_ne (Or.inr (by decide)), g_up_row (by omega), tj 27 (by omega)]; exact O5.2.2.1
                · rw [g_up_row (by omega), g_up_row (by omega), tk 79 (by omega) (by omega)]; exact O5.2.2.2.1 e he
                · rcases (by omega : j < J1 ∨ j = J1) with z | z
                  · obtain ⟨Q, Q1, Q2, Q3⟩ := O5.2.2.2.2 j z
                    refine ⟨Q, Q1, by rw [g_up_row (by omega), g_up_ne (Or.inr (by omega))]; exact Q2, fun e he => ?_⟩
                    have := hs.2.1 e he
                    rw [t80' _ (Or.inl (by omega))]; exact Q3 e he
                  · subst z
                    refine ⟨P', o2, by rw [g_up_row (by omega), g_up_self], fun e he => ?_⟩
                    obtain ⟨PP, _, pe, pf, _⟩ := PR5
                    have ePP : PP = P' := by
                      rw [y4, if_pos rfl] at pe
                      exact (nI_inj pe (by omega) (by omega)).symm
                    rw [t80 _ (hs.2.1 e he), (f' e (by omega)).1, ← ePP, pf e (by omega)]
              · -- deeper
                rw [if_neg (mt (nI_leI (by omega) (by omega)).mp (by omega))]
                have k10 : ∀ j, N5 (k + 10) j = M1 (k + 10) j := fun j => by rw [y5 _ (by omega) (by omega)]
                obtain ⟨rn, a', b', en, RGn, fn, fn2⟩ := c_narrow hW hs hQ S5 (d := d) (x := x) (by omega) RG5 (v := g') (by omega) (fun t ht hi => by
                  obtain ⟨w1, w2, w3, w4⟩ := q2 t ht hi
                  refine ⟨by rw [k10]; exact w1, w2, w3, all t ht hi, fun j h1 h2 => ?_⟩
                  have := w4 j h1 h2
                  rw [all t ht hi] at this
                  exact this) (fun t ht hu hi => by rw [k10]; exact q3 t ht hu hi)
                have Sn := S5.cong (r := rn) (by rw [fn k (by omega) (by omega)]) (fn _ (by omega) (by omega)) (fn _ (by omega) (by omega)) (fn _ (by omega) (by omega))
                have On : OUT k ls rn I5 J1 := by
                  obtain ⟨w1, w2, w3, w4, w5⟩ := O5
                  refine ⟨by rw [fn k (by omega) (by omega)]; exact w1, w2, by rw [fn k (by omega) (by omega)]; exact w3, fun e he => by rw [fn _ (by omega) (by omega)]; exact w4 e he, fun j hj => ?_⟩
                  obtain ⟨Q, Q1, Q2, Q3⟩ := w5 j hj
                  exact ⟨Q, Q1, by rw [fn _ (by omega) (by omega)]; exact Q2, Q3⟩
                have PRn : PR rn k ls (d + 1) (fun e => if e = d then g' else f e) := by
                  obtain ⟨Q, Q1, Q2, Q3⟩ := PR5
                  exact ⟨Q, Q1, by rw [fn _ (by omega) (by omega)]; exact Q2, Q3⟩
                obtain ⟨M', I', J2, b1, b2, b3, b4, b5⟩ := ih (w - 1) (by omega) (d + 1) (by omega) fc fr (by omega) (by omega) rn I5 J1 _ a' b' Sn RGn PRn On M5 C5 (fun e he => f' e he) GV5 JB
                rw [e9] at b2
                obtain rfl := Option.some.inj b2
                have : J2 = J' := nI_inj (b3.2.1.symm.trans eJ') (by omega) (by omega)
                subst this
                rw [en, obs, b1, obs]
                obtain ⟨c1, c2, c3, c4, c5⟩ := b4
                refine ⟨M', rfl, b3, FN.trans ⟨fun q h1 h2 h3 h5 h8 h9 h10 => by rw [c1 q h1 h2 h3 h5 h8 h9 h10, fn q h8 h9], fun j hj => by rw [c2 j hj, fn k (by omega) (by omega)], fun j hj => by rw [c3 j (by omega), fn _ (by omega) (by omega)], fun j hj => ⟨by rw [(c4 j (by omega)).1, (fn2 j hj).1], by rw [(c4 j (by omega)).2, (fn2 j hj).2]⟩, fun j hj => by rw [c5 j (by omega), fn _ (by omega) (by omega)]⟩, fun j hj => by rw [c5 j hj, fn _ (by omega) (by omega), k10]⟩
            obtain ⟨r4, d1, d2, d3, d4'⟩ := deep
            have S4 := d3.sx S1
            -- behind the row or the rows: the first table goes on
            generalize hI11 : g_up r9 75 (ls.getD d 0) (-1) = I11
            have M11 : MI false R0 I11 := by rw [← hI11]; exact M9.up (k := 75) rfl (lo := -1) (hi := 99) rfl (by decide) (by decide)
            have C11 : Cx B I11 := by rw [← hI11]; exact C9.up (by omega) (by omega) (by omega) (by omega) (by omega)
            have z11 : ∀ q, q ≠ 75 → I11 q = r9 q := fun q y => by rw [← hI11, g_up_row y]
            have c7 : ∀ t, t < 4 → I11 77 (4 * d + t) = I1 77 (4 * d + t) ∧ I11 78 (4 * d + t) = I1 78 (4 * d + t) := fun t a => by
              rw [z11 77 (by omega), z11 78 (by omega)]
              have := H3 (4 * d + t) (by omega)
              rw [this.1, this.2, z5 77 (by omega) (by omega), z5 78 (by omega) (by omega)]; exact ⟨rfl, rfl⟩
            have sf : ∀ t, t < 4 → stf I11 d t = stf I1 d t ∧ nkf I11 d t = nkf I1 d t := fun t a => by
              unfold stf nkf
              rw [(c7 t a).1, (c7 t a).2]; exact ⟨rfl, rfl⟩
            have c6 : ∀ a, a < 48 * (d + 1) → I11 76 a = I1 76 a := fun a ha => by
              rw [z11 76 (by omega), H4 a ha, z5 76 (by omega) (by omega)]
            have S11 : DS B n d (I 75) I11 := fun t a q => by
              obtain ⟨u1, u2, u3⟩ := q7 t a q
              rw [(sf t (by omega)).1, (sf t (by omega)).2]
              exact ⟨u1.same (c7 t (by omega)).1 (fun j hj => c6 _ (by omega)), u2, (c7 t (by omega)).2.trans u3⟩
            have L11 : LI B R0 n k A ls qs d (I 75) a b t0 J' M c r4 I11 J' x := by
              refine ⟨q1.trans d3, fun t ht hi => ?_, fun t ht hu hi => ?_, q4, M11, C11, S11, fun e he => ?_, by omega, ?_, fun t ht hi => ?_⟩
              · rw [d4' _ (by omega)]; exact q2 t ht hi
              · rw [d4' _ (by omega)]; exact q3 t ht hu hi
              · rw [← hI11, g_up_ne (Or.inr (hs.2.2 e d (by omega) hd (by omega))), ← loe e (by omega), H2 e (by omega), loe e (by omega), f5e e he]; exact q8 e he
              · obtain ⟨w1, w2, w3, w4, w5⟩ := d2
                refine ⟨w1, by rw [z11 62 (by omega)]; exact w2, by rw [z11 62 (by omega)]; exact w3, fun e he => by rw [z11 79 (by omega)]; exact w4 e he, fun j hj => ?_⟩
                obtain ⟨Q, Q1, Q2, Q3⟩ := w5 j hj
                exact ⟨Q, Q1, Q2, fun e he => by rw [z11 80 (by omega)]; exact Q3 e he⟩
              · have e1 : kf I11 d t = kf I1 d t := by
                  unfold kf
                  have u := q7 t ht ((inn_iff t ht).mpr hi)
                  rw [(sf t (by omega)).1]
                  exact c6 _ (by have := u.1.1; have := u.2.1; omega)
                rw [e1]; exact q11 t ht hi
            have hx4 : AT r4 k A ls qs d x := fun t ht hi => ⟨by rw [d4' _ (by omega)]; exact (hx t ht hi).1, (hx t ht hi).2⟩
            have first0 : ∀ t', t' < t0 → inB A ls t' d = true → False := fun t' h1 h2 => t3 t' h1 ((inn_iff t' (by omega)).mpr h2)
            obtain ⟨m5, e5, h5⟩ := c_lowestBelow hW hs hQ S4 hd hx4 (v := 100) (by omega)
            have em5 : m5 = nI t0 := by
              rcases h5 with ⟨t, y1', y2', y3', y4', y5'⟩ | ⟨_, y2'⟩
              · rw [y2']
                rcases Nat.lt_trichotomy t t0 with z | z | z
                · exact absurd y3' (fun q => first0 t z q)
                · rw [z]
                · exfalso
                  have := y5' t0 z i0
                  have := un t0 t04 i0
                  omega
              · exfalso
                have := y2' t0 t04 i0
                have := un t0 t04 i0
                omega
            subst em5
            have ug := all t0 t04 i0
            obtain ⟨r, rr, hlp⟩ := leap_two hW hR hn hS hs hB hQ hd (fun e he => hF e he) S RG0 L11 t1 t2 t04 i0 (g := g' + 1) (by omega) (by omega)
            have e4t : (nI d * 4) + nI t0 = nI (4 * d + t0) := by rw [L4, nI_mul, nI_add]; congr 1; omega
            have eg1 : nI g' + 1 = nI (g' + 1) := nI_1 _
            have keyB : ∀ {bt bt' : Int32}, fX1_isLeapt k (nI (4 * d + t0)) (nI (g' + 1)) r4 = some (bt, r) → fX9_leaps (nI d) (nI t0) (nI (g' + 1)) I11 = some (bt', rr) → lX1_search_19 (fun d I => fX1_search fc k d I) k (nI d) (nI c, M1) = (if bt = 0 then some (.inl r) else lX1_search_19 (fun d I => fX1_search fc k d I) k (nI d) (nI (c + 1), r)) ∧ lX9_goes_19 (fun d I => fX9_goes fr d I) (nI d) (1, I1) = lX9_goes_19 (fun d I => fX9_goes fr d I) (nI d) (bt', rr) := by
              intro bt bt' w1 w2
              refine ⟨cs_found hc eg el d1 e5 (nI_m1 (by omega)) (by rw [e4t, eg1]; exact w1), ?_⟩
              refine rg_found er emr (show rI 4 (I1 74) (nI d) = some (nI (ls.getD d 0)) by rw [rI_n (by omega) (by omega), e74]) (wI_n (by omega) (by omega)) (show rI 5 (g_up I1 75 (ls.getD d 0) (nI g') 79) (nI d + 1) = some (I1 79 (d + 1)) by rw [nI_1, rI_n (by omega) (by omega), g_up_row (show 79 ≠ 75 by omega)]) (show wI _ 79 5 (nI d + 1) _ = some I5 by rw [nI_1, wI_n (by omega) (by omega), hI5]) (show fX9_goes fr (nI d + 1) I5 = some r9 by rw [nI_1]; exact e9) (show rI 4 (r9 74) (nI d) = some (nI (ls.getD d 0)) by rw [rI_n (by omega) (by omega), C9.2.2.2.2.2, hS.2 d hd]) (show wI r9 75 4 (nI (ls.getD d 0)) (-1) = some I11 by rw [wI_n (by omega) (by omega), hI11]) (n_firstIn hB C11 (by omega) t1 t2 t3) (by rw [eg1]; exact w2)
            rcases hlp with ⟨w1, w2, w3, w4⟩ | ⟨w1, w2, x', w3⟩
            · obtain ⟨kb1, kb2⟩ := keyB w1 w2
              exact go kb1 kb2 (Or.inl ⟨rfl, rfl, w3, w4, by omega⟩)
            · obtain ⟨kb1, kb2⟩ := keyB w1 w2
              refine go (J2 := J') kb1 kb2 (Or.inr ⟨rfl, rfl, x', ?_⟩)
              obtain ⟨v1, v2, v3, v4, v5, v6, v7, v8, v9, v10, v11⟩ := w3
              refine ⟨v1, v2, v3, v4, v5, v6, v7, v8, ?_, v10, v11⟩
              -- how many rows at most
              rw [← hWd] at q9 J9' ⊢
              have sl : stf I1 d t0 + 1 ≤ stf rr d t0 := by
                have q := leaps_st hB M11 C11 (by omega) S11 t1 t2 (v := nI (g' + 1)) (by
                  have e1 : kf I11 d t0 = kf I1 d t0 := by
                    unfold kf
                    have u := q7 t0 t1 t2
                    rw [(sf t0 (by omega)).1]
                    exact c6 _ (by have := u.1.1; have := u.2.1; omega)
                  rw [e1, allk t0 t1 t2, tnI (by omega), tnI (by omega)]; omega) w2
                rw [(sf t0 (by omega)).1] at q
                exact q
              have y : W * (stf I1 d t0 + 1) ≤ W * stf rr d t0 := Nat.mul_le_mul_left _ sl
              rw [Nat.mul_succ] at y
              omega
          · -- one is behind
            obtain ⟨t, y1, y2, y3, y4, y5⟩ := hml.resolve_right (fun z => c2 z.1)
            subst y2
            have e4t : (nI d * 4) + nI t = nI (4 * d + t) := by rw [L4, nI_mul, nI_add]; congr 1; omega
            obtain ⟨r, rr, hlp⟩ := leap_two hW hR hn hS hs hB hQ hd (fun e he => hF e he) S RG0 hL t1 t2 y1 y3 (g := g') y4 (by omega)
            rcases hlp with ⟨w1, w2, w3, w4⟩ | ⟨w1, w2, x', w3⟩
            · exact go (cs_step hc eg el (nI_m1 (by omega)) (by rw [e4t]; exact w1)) (rg_step er emr (nI_m1 (by omega)) w2) (Or.inl ⟨rfl, rfl, w3, w4, J1le⟩)
            · exact go (cs_step hc eg el (nI_m1 (by omega)) (by rw [e4t]; exact w1)) (rg_step er emr (nI_m1 (by omega)) w2) (Or.inr ⟨rfl, rfl, x', w3⟩)
      obtain ⟨M', I', J', ⟨w7, ew, hw⟩, el, hO, hFR, hJ'⟩ := loop 48 0 r8 r2 J a rfl L0'
      refine ⟨M', I', J', ?_, by rw [el, obs], hO, hFR, hJ'⟩
      rw [ew, obs]
      rcases hw with rfl | rfl
      · rfl
      · rfl
    · -- one has none
      have v0 : v = 0 := by
        rcases v01 with z | z
        · exact z
        · exfalso
          have ti := (inn_iff t (in_n t z2)).mpr z2
          obtain ⟨nk, n1, n2, n3⟩ := K2 t (in_n t z2) ti
          obtain ⟨w, w99, ew⟩ := br_key hW hR hS hs hB hd z2 n1 (n3 z)
          obtain ⟨m, m1, m2, m3⟩ := (hset t z2 n1 w (by omega)).mp ⟨0, n3 z, ew⟩
          omega
      subst v0
      rw [if_pos rfl, rg_end, obs]
      exact ⟨r8, r2, J, rfl, rfl, O8, FR8, Nat.le_trans (Nat.le_add_right _ _) hJ⟩
end TW2
end P_35r_42e_search
section P_35r_42f_seq8
/-! the class lays the letters in order -/
/-- the letters of a set, rising -/
def lup (m : Nat) : Nat → List Nat
  | 0 => []
  | l + 1 => if m.testBit l = true then lup m l ++ [l] else lup m l
def Sc (M : gM) (k : Nat) (ls : List Nat) : Prop := M k 2 = nI ls.length ∧ ∀ e, e < ls.length → M (k + 2) e = nI (ls.getD e 0)
theorem lup_mono (m : Nat) : ∀ {a b : Nat}, a ≤ b → (lup m a).length ≤ (lup m b).length
  | a, 0, h => by rw [Nat.le_zero.mp h]; exact Nat.le_refl _
  | a, b + 1, h => by
    rcases (by omega : a = b + 1 ∨ a ≤ b) with z | z
    · rw [z]; exact Nat.le_refl _
    · have := lup_mono m z
      conv => rhs; unfold lup
      split
      · rw [List.length_append]; show _ ≤ (lup m b).length + 1; omega
      · exact this
theorem c_addLetters {k m : Nat} {M : gM} {ls : List Nat} (hm : m < 16) (hl : ls.length + (lup m 4).length ≤ 4) (hS : Sc M k ls) : ∃ r, fX1_addLetters k (nI m) M = some r ∧ Sc r k (ls ++ lup m 4) ∧ (∀ q, q ≠ k → q ≠ k + 2 → r q = M q) ∧ ∀ j, j ≠ 2 → r k j = M k j := by
  have key : T (lX1_addLetters_2 k (nI m) (nI 0, M)) (fun r => Sc r k (ls ++ lup m 4) ∧ (∀ q, q ≠ k → q ≠ k + 2 → r q = M q) ∧ ∀ j, j ≠ 2 → r k j = M k j) := by
    unfold lX1_addLetters_2
    refine t_it (P := fun s => ∃ l, l ≤ 4 ∧ s.1 = nI l ∧ Sc s.2 k (ls ++ lup m l) ∧ (∀ q, q ≠ k → q ≠ k + 2 → s.2 q = M q) ∧ ∀ j, j ≠ 2 → s.2 k j = M k j) (μ := fun s => 20 - s.1.toInt.toNat) (fun s p => ?_) ⟨0, by omega, rfl, by show Sc M k (ls ++ []); rw [List.append_nil]; exact hS, fun _ _ _ => rfl, fun _ _ => rfl⟩
    obtain ⟨s1, N⟩ := s
    obtain ⟨l, hl4, e, p1, p2, p3⟩ := p
    dsimp only at e p1 p2 p3
    subst e
    dsimp only
    rw [L4]
    refine t_ite (fun c => ?_) (fun c => ?_)
    · have c := (nI_leI (by omega) (by omega)).mp c
      have : l = 4 := by omega
      subst this
      exact t_ret (show Sc N k _ ∧ _ from ⟨p1, p2, p3⟩)
    · have c := mt (nI_leI (a := 4) (b := l) (by omega) (by omega)).mpr c
      have mu : 20 - (nI l + 1).toInt.toNat < 20 - (nI l).toInt.toNat := by rw [nI_1, nIt (by omega), nIt (by omega)]; omega
      have hb := hs0_bit m hm l (by omega)
      unfold bX1_addLetters_43
      by_cases b : m.testBit l = true
      · have e1 : lup m (l + 1) = lup m l ++ [l] := if_pos b
        have l1 := lup_mono m (show l + 1 ≤ 4 by omega)
        rw [e1, List.length_append] at l1
        have l1 : (lup m l).length + 1 ≤ (lup m 4).length := l1
        obtain ⟨d1, d2⟩ := p1
        rw [List.length_append] at d1
        rw [if_neg (fun z => hb.mp z b), if_neg (show ¬ nI 4 ≤ N k 2 by rw [d1]; exact mt (nI_leI (by omega) (by omega)).mp (by omega))]
        refine t_be (by rw [d1]; exact wI_n (by omega) (by omega)) ?_
        refine t_be pU_n ?_
        refine t_nx ⟨l + 1, by omega, nI_1 l, ⟨?_, fun e he => ?_⟩, fun q h1 h2 => ?_, fun j hj => ?_⟩ mu
        · dsimp only
          rw [g_up_self, g_up_row (by omega), d1, nI_1, e1, ← List.append_assoc, lenA, List.length_append]
        · dsimp only
          rw [e1, ← List.append_assoc] at he ⊢
          rw [lenA, List.length_append] at he
          rw [g_up_row (by omega), gu_in]
          by_cases z : e = ls.length + (lup m l).length
          · rw [if_pos z, z, ← List.length_append, gd_eq]
          · rw [if_neg z, gd_lt (by rw [List.length_append]; omega)]
            exact d2 e (by rw [List.length_append]; omega)
        · dsimp only
          rw [g_up_row h1, g_up_row h2]; exact p2 q h1 h2
        · dsimp only
          rw [g_up_ne (Or.inr hj), g_up_row (by omega)]; exact p3 j hj
      · have e1 : lup m (l + 1) = lup m l := if_neg b
        rw [if_pos (hb.mpr b)]
        exact t_nx ⟨l + 1, by omega, nI_1 l, by rw [e1]; exact p1, p2, p3⟩ mu
  obtain ⟨r, e, h⟩ := key
  refine ⟨r, ?_, h⟩
  unfold fX1_addLetters
  rw [show (0 : Int32) = nI 0 from rfl, e, obs]
theorem c_letterOf {m s : Nat} (hm : m < 16) (hs' : s < 4) (h4 : sel 4 0 m s < 4) : fX1_letterOf (nI m) (nI s) = some (nI (sel 4 0 m s)) := by
  have key : T (lX1_letterOf_4 (nI m) (nI s, nI 0)) (Sum.elim (fun r => r = nI (sel 4 0 m s)) (fun _ : Unit => False)) := by
    unfold lX1_letterOf_4
    refine t_it (P := fun x => ∃ s' l f, x = (nI s', nI l) ∧ l + f = 4 ∧ s' < 4 ∧ sel f l m s' = sel 4 0 m s) (μ := fun x => 20 - x.2.toInt.toNat) (fun x p => ?_) ⟨s, 0, 4, rfl, rfl, hs', rfl⟩
    obtain ⟨s', l, f, rfl, h1, h2, h3⟩ := p
    cases f with
    | zero =>
      exfalso
      have : l = sel 4 0 m s := h3
      omega
    | succ f =>
      dsimp only
      have mu : 20 - (nI l + 1).toInt.toNat < 20 - (nI l).toInt.toNat := by rw [nI_1, nIt (by omega), nIt (by omega)]; omega
      have h3' : (if m.testBit l = true then (if s' = 0 then l else sel f (l + 1) m (s' - 1)) else sel f (l + 1) m s') = sel 4 0 m s := h3
      have hb := hs0_bit m hm l (by omega)
      rw [L4, if_neg (mt (nI_leI (by omega) (by omega)).mp (by omega))]
      unfold bX1_letterOf_26
      by_cases b : m.testBit l = true
      · rw [if_pos b] at h3'
        rw [if_neg (fun z => hb.mp z b)]
        by_cases z : s' = 0
        · rw [if_pos z] at h3'
          rw [z, if_pos (show nI 0 = 0 from rfl)]
          exact t_ret (show nI l = nI (sel 4 0 m s) by rw [h3'])
        · rw [if_neg z] at h3'
          rw [if_neg (show ¬ nI s' = 0 from fun q => z (nI_inj (b := 0) q (by omega) (by omega))), nI_dec (by omega)]
          exact t_nx ⟨s' - 1, l + 1, f, by rw [nI_1], by omega, by omega, h3'⟩ mu
      · rw [if_neg b] at h3'
        rw [if_pos (hb.mpr b)]
        exact t_nx ⟨s', l + 1, f, by rw [nI_1], by omega, h2, h3'⟩ mu
  obtain ⟨r, e, h⟩ := key
  unfold fX1_letterOf
  rw [show (nI s, (0 : Int32)) = (nI s, nI 0) from rfl, e, obs]
  rcases r with r | r
  · have h : r = nI (sel 4 0 m s) := h
    rw [h]; rfl
  · exact absurd h (fun z => z)
theorem and1_bit : ∀ m, m < 16 → ∀ l, l < 4 → nI m &&& ((1 : Int32) <<< (nI l &&& 31)) = nI (m &&& 2 ^ l) := by decide +kernel
theorem lup_one : ∀ m, m < 16 → ∀ l, l < 4 → m &&& 2 ^ l < 16 ∧ lup (m &&& 2 ^ l) 4 = if m.testBit l = true then [l] else [] := by decide +kernel
theorem blk_n : ∀ k, k < 4 → blk k = nI (byK k) := by decide +kernel
theorem c_seq {k o am : Nat} {M : gM} (ho : o < 24) (ha : am < 16) (h0 : M k 2 = 0) : ∃ r, lX1_findBy_20 k (nI am) (15, nI o, 0, M) = some r ∧ Sc r k (fl4 o am) ∧ (∀ q, q ≠ k → q ≠ k + 2 → r q = M q) ∧ ∀ j, j ≠ 2 → r k j = M k j := by
  have key : T (lX1_findBy_20 k (nI am) (nI 15, nI o, nI 0, M)) (fun r => Sc r k (fl4 o am) ∧ (∀ q, q ≠ k → q ≠ k + 2 → r q = M q) ∧ ∀ j, j ≠ 2 → r k j = M k j) := by
    unfold lX1_findBy_20
    refine t_it (P := fun s => ∃ c, s.1 = nI (lef o c).1 ∧ s.2.1 = nI (lef o c).2 ∧ s.2.2.1 = nI c ∧ c ≤ 4 ∧ Sc s.2.2.2 k (flt o am c) ∧ (∀ q, q ≠ k → q ≠ k + 2 → s.2.2.2 q = M q) ∧ ∀ j, j ≠ 2 → s.2.2.2 k j = M k j) (μ := fun s => 20 - s.2.2.1.toInt.toNat) (fun s p => ?_)
      ⟨0, rfl, rfl, rfl, by omega, ⟨h0, fun e he => absurd he (Nat.not_lt_zero _)⟩, fun _ _ _ => rfl, fun _ _ => rfl⟩
    obtain ⟨s1, s2, s3, N⟩ := s
    obtain ⟨c, e1, e2, e3, h1, S1, F1, F2⟩ := p
    dsimp only at e1 e2 e3 S1 F1 F2
    subst e1 e2 e3
    dsimp only
    rw [L4]
    refine t_ite (fun q => ?_) (fun q => ?_)
    · have q := (nI_leI (a := 4) (by omega) (by omega)).mp q
      obtain rfl : c = 4 := by omega
      exact t_ret (show Sc N k _ ∧ _ from ⟨S1, F1, F2⟩)
    · have q := mt (nI_leI (a := 4) (b := c) (by omega) (by omega)).mpr q
      obtain ⟨y1, y2, y3, y4, y5⟩ := ltr_ok o ho c (by omega)
      have by6 : byK c ≤ 6 ∧ 0 < byK c := by unfold byK; split <;> (try split) <;> omega
      have mu : 20 - (nI c + 1).toInt.toNat < 20 - (nI c).toInt.toNat := by rw [nI_1, nIt (by omega), nIt (by omega)]; omega
      have eb : rI 4 blk (nI c) = some (nI (byK c)) := by rw [rI_n (by omega) (by omega), blk_n c (by omega)]
      refine t_be eb ?_
      refine t_be (n_dV (by omega) (by omega) by6.2) ?_
      refine t_be (c_letterOf y2 y5 y1) ?_
      refine t_be eb ?_
      refine t_be (n_rM (by omega) (by omega) by6.2) ?_
      rw [show sel 4 0 (lef o c).1 ((lef o c).2 / byK c) = ltr o c from rfl, andn_bit _ y2 _ y1 y3, and1_bit am ha _ y1]
      obtain ⟨u1, u2⟩ := lup_one am ha _ y1
      have fl := flt_len o am c
      obtain ⟨r, er, r1, r2, r3⟩ := c_addLetters (k := k) (ls := flt o am c) u1 (by
        rw [u2]
        split
        · show _ + 1 ≤ 4; omega
        · show _ + 0 ≤ 4; omega) S1
      refine t_be er ?_
      have ef : flt o am (c + 1) = flt o am c ++ lup (am &&& 2 ^ ltr o c) 4 := by
        rw [u2]
        show (if am.testBit (ltr o c) = true then _ else _) = _
        by_cases b : am.testBit (ltr o c) = true
        · rw [if_pos b, if_pos b]
        · rw [if_neg b, if_neg b, List.append_nil]
      refine t_nx ⟨c + 1, rfl, rfl, nI_1 c, by omega, by rw [ef]; exact r1, fun q h1 h2 => ?_, fun j hj => ?_⟩ mu
      · dsimp only
        rw [r2 q h1 h2]; exact F1 q h1 h2
      · dsimp only
        rw [r3 j hj]; exact F2 j hj
  obtain ⟨r, e, h⟩ := key
  exact ⟨r, e, h⟩
end P_35r_42f_seq8
section P_35r_42g_open8
/-! the class lays the rows sorted -/
theorem c_fill {k0 n0 : Nat} {v : Int32} {M : gM} (hn : n0 < 1000) : ∃ r, fJ7_fill_53178 k0 n0 v M = some r ∧ (∀ q, q ≠ k0 → r q = M q) ∧ ∀ j, j < n0 → r k0 j = v := by
  have key : T (lJ7_fill_53178_5 k0 n0 v (nI n0) (nI 0, M)) (fun r => (∀ q, q ≠ k0 → r q = M q) ∧ ∀ j, j < n0 → r k0 j = v) := by
    unfold lJ7_fill_53178_5
    refine t_it (P := fun s => ∃ i, i ≤ n0 ∧ s.1 = nI i ∧ (∀ q, q ≠ k0 → s.2 q = M q) ∧ ∀ j, j < i → s.2 k0 j = v) (μ := fun s => 2000 - s.1.toInt.toNat) (fun s p => ?_) ⟨0, by omega, rfl, fun _ _ => rfl, fun j hj => absurd hj (Nat.not_lt_zero j)⟩
    obtain ⟨s1, N⟩ := s
    obtain ⟨i, hi, e, p1, p2⟩ := p
    dsimp only at e p1 p2
    subst e
    dsimp only
    refine t_ite (fun c => ?_) (fun c => ?_)
    · have c := (nI_leI (by omega) (by omega)).mp c
      have : i = n0 := by omega
      subst this
      exact t_ret (show (∀ q, q ≠ k0 → N q = M q) ∧ _ from ⟨p1, p2⟩)
    · have c := mt (nI_leI (a := n0) (b := i) (by omega) (by omega)).mpr c
      refine t_be (wI_n (by omega) (by omega)) ?_
      refine t_nx ⟨i + 1, by omega, nI_1 i, fun q hq => by dsimp only; rw [g_up_row hq]; exact p1 q hq, fun j hj => ?_⟩ (by show 2000 - (nI i + 1).toInt.toNat < 2000 - (nI i).toInt.toNat; rw [nI_1, nIt (by omega), nIt (by omega)]; omega)
      dsimp only
      rw [gu_in]
      rcases (by omega : j < i ∨ j = i) with z | z
      · rw [if_neg (by omega)]; exact p2 j z
      · rw [if_pos z]
  obtain ⟨r, e, h⟩ := key
  refine ⟨r, ?_, h⟩
  unfold fJ7_fill_53178
  rw [show ((0 : Int32), M) = (nI 0, M) from rfl, e, obs]
/-- the column of a letter in a table of the class -/
theorem c_colK {M : gM} {k1 : Nat} {A : aT} {t l : Nat} (hW : WF A) (hC : CT M k1 A) (ht : t < A.1.length) (hl : l < 4) : fX5_columnOf k1 (nI t) (nI l) M = some (if ix l (aL A t) < (aL A t).length then nI (ix l (aL A t)) else -1) := by
  have hn4 := hW.1
  have w := hW.2.2.2.2 t ht
  have w1 := w.1
  obtain ⟨e1, e2, _⟩ := hC.2.2.2 t ht
  have key : T (lX5_columnOf_2 k1 (nI t) (nI l) M (nI 0)) (Sum.elim (fun r => ix l (aL A t) < (aL A t).length ∧ r = nI (ix l (aL A t))) (fun _ : Unit => ¬ ix l (aL A t) < (aL A t).length)) := by
    unfold lX5_columnOf_2
    refine t_it (P := fun s => ∃ i, s = nI i ∧ i ≤ (aL A t).length ∧ ∀ c, c < i → (aL A t).getD c 0 ≠ l) (μ := fun s => 20 - s.toInt.toNat) (fun s p => ?_) ⟨0, rfl, by omega, fun c hc => by omega⟩
    obtain ⟨i, rfl, hi, hn⟩ := p
    refine t_be (rI_n (by omega) (by omega)) ?_
    rw [e1]
    refine t_ite (fun c => ?_) (fun c => ?_)
    · have c := (nI_leI (by omega) (by omega)).mp c
      refine t_ret (show ¬ ix l (aL A t) < (aL A t).length from fun z => hn _ (by omega) (ix_get z))
    · have c := mt (nI_leI (a := (aL A t).length) (b := i) (by omega) (by omega)).mpr c
      have hx := w.2.1 i (by omega)
      rw [L3, nI_mul, nI_add]
      refine t_be (rI_n (by omega) (by omega)) ?_
      rw [show t * 3 + i = 3 * t + i by omega, e2 i (by omega)]
      refine t_ite (fun z => ?_) (fun z => ?_)
      · have z := nI_inj z (by omega) (by omega)
        have : ix l (aL A t) = i := by
          rcases Nat.lt_trichotomy (ix l (aL A t)) i with q | q | q
          · exfalso; exact hn _ q (ix_get (by omega))
          · exact q
          · exact absurd z (ix_ne q (by omega))
        exact t_ret (show _ ∧ nI i = _ by rw [this]; exact ⟨by omega, rfl⟩)
      · rw [nI_1]
        refine t_nx ?_ (show 20 - (nI (i + 1)).toInt.toNat < 20 - (nI i).toInt.toNat by rw [nIt (by omega), nIt (by omega)]; omega)
        refine ⟨i + 1, rfl, by omega, fun c hc => ?_⟩
        by_cases d : c = i
        · rw [d]; exact fun y => z (by rw [y])
        · exact hn c (by omega)
  obtain ⟨r, er, h⟩ := key
  unfold fX5_columnOf
  rw [show (0 : Int32) = nI 0 from rfl, er, obs]
  rcases r with r | r
  · obtain ⟨h1, h2⟩ := h
    rw [if_pos h1, h2]; rfl
  · rw [if_neg h]; rfl
/-- a row with its columns in the order of the letters -/
def prm (c : Nat → Nat) (w q : Nat) : Nat := pk3 (if 0 < w then dgt (c 0) q else 0) (if 1 < w then dgt (c 1) q else 0) (if 2 < w then dgt (c 2) q else 0)
theorem dg127 {q c : Nat} (hq : q < 2097152) : dgt c q ≤ 127 := by
  unfold dgt
  split
  · omega
  · split <;> omega
theorem prm_dgt {c : Nat → Nat} {w q j : Nat} (hq : q < 2097152) (hj : j < w) (h2 : j ≤ 2) : dgt j (prm c w q) = dgt (c j) q := by
  have y : ∀ (i : Nat) (p : Prop) [Decidable p], (if p then dgt (c i) q else 0) < 128 := fun i p _ => by
    have := dg127 (q := q) (c := c i) hq
    split <;> omega
  obtain ⟨g0, g1, g2⟩ := dgt_pk (x := if 0 < w then dgt (c 0) q else 0) (y 1 (1 < w)) (y 2 (2 < w))
  unfold prm
  rcases (by omega : j = 0 ∨ j = 1 ∨ j = 2) with rfl | rfl | rfl
  · rw [g0, if_pos hj]
  · rw [g1, if_pos hj]
  · rw [g2, if_pos hj]
theorem prm_lt {c : Nat → Nat} {w q : Nat} (hq : q < 2097152) : prm c w q < 2097152 := by
  have y : ∀ (i : Nat) (p : Prop) [Decidable p], (if p then dgt (c i) q else 0) < 128 := fun i p _ => by
    have := dg127 (q := q) (c := c i) hq
    split <;> omega
  have a := y 0 (0 < w)
  have b := y 1 (1 < w)
  have d := y 2 (2 < w)
  unfold prm pk3
  omega
theorem c_perm {M : gM} {k w q : Nat} {c : Nat → Nat} (hw : w ≤ 3) (hq : q < 2097152) (hc : ∀ j, j < w → M (k + 6) j = nI (c j) ∧ c j < 3) : lX1_load_103 k (nI w) (nI q) M (nI 0, nI 0) = some (nI (prm c w q)) := by
  unfold lX1_load_103
  refine p_it (P := fun s => ∃ j, j ≤ w ∧ s = (nI (prm c j q), nI j)) (μ := fun s => 20 - s.2.toInt.toNat) (fun s p => ?_) ⟨0, by omega, rfl⟩
  obtain ⟨j, hj, rfl⟩ := p
  dsimp only
  refine t_ite (fun d => ?_) (fun d => ?_)
  · have d := (nI_leI (by omega) (by omega)).mp d
    have : j = w := by omega
    subst this
    exact t_ret rfl
  · have d := mt (nI_leI (a := w) (b := j) (by omega) (by omega)).mpr d
    obtain ⟨c1, c2⟩ := hc j (by omega)
    refine t_be (rI_n (by omega) (by omega)) ?_
    rw [c1, cell_v hq c2]
    have g : ∀ i, dgt (c i) q < 128 := fun i => by
      have := dg127 (q := q) (c := c i) hq
      omega
    have mu : 20 - (nI j + 1).toInt.toNat < 20 - (nI j).toInt.toNat := by rw [nI_1, nIt (by omega), nIt (by omega)]; omega
    refine t_nx ⟨j + 1, by omega, ?_⟩ mu
    rw [nI_1]
    refine Prod.ext ?_ rfl
    dsimp only
    rcases (by omega : j = 0 ∨ j = 1 ∨ j = 2) with rfl | rfl | rfl
    · rw [sh_0, show nI (prm c 0 q) = 0 from rfl, rv_1 (g 0)]; rfl
    · rw [sh_1, show prm c 1 q = pk3 (dgt (c 0) q) 0 0 from rfl, rv_2 (g 0) (g 1)]; rfl
    · rw [sh_2, show prm c 2 q = pk3 (dgt (c 0) q) (dgt (c 1) q) 0 from rfl, rv_3 (g 0) (g 1) (g 2)]; rfl
/-- sorted so far -/
def srL (l : List Nat) : Prop := ∀ i j, i < j → j < l.length → l.getD i 0 ≤ l.getD j 0
/-- a row comes to its place -/
theorem c_addSorted {M : gM} {k t q : Nat} {l : List Nat} (ht : t < 4) (hl : l.length ≤ 11) (hq : q < 2097152) (hlt : ∀ j, j < l.length → l.getD j 0 < 2097152) (hs : srL l) (e8 : M (k + 8) t = nI (12 * t)) (e9 : M (k + 9) t = nI (12 * t + l.length)) (e5 : ∀ j, j < l.length → M (k + 5) (12 * t + j) = nI (l.getD j 0)) :
    ∃ i r, fX1_addSorted k (nI t) (nI q) M = some r ∧ i ≤ l.length ∧ srL (insA i q l) ∧ r (k + 9) t = nI (12 * t + (insA i q l).length) ∧ (∀ j, j < (insA i q l).length → r (k + 5) (12 * t + j) = nI ((insA i q l).getD j 0)) ∧ (∀ x, x ≠ k + 5 → x ≠ k + 9 → r x = M x) ∧ (∀ a, a ≠ t → r (k + 9) a = M (k + 9) a) ∧ ∀ a, a < 12 * t ∨ 12 * t + 12 ≤ a → r (k + 5) a = M (k + 5) a := by
  have key : T (lX1_addSorted_7 k (nI t) (nI q) (nI (12 * t + l.length), M)) (fun r => ∃ i, r.1 = nI (12 * t + i) ∧ i ≤ l.length ∧ (∀ j, j < i → l.getD j 0 ≤ q) ∧ (∀ j, i ≤ j → j < l.length → q < l.getD j 0) ∧ (∀ x, x ≠ k + 5 → r.2 x = M x) ∧ ∀ a, r.2 (k + 5) a = if 12 * t + i < a ∧ a ≤ 12 * t + l.length then M (k + 5) (a - 1) else M (k + 5) a) := by
    unfold lX1_addSorted_7
    refine t_it (P := fun s => ∃ i, s.1 = nI (12 * t + i) ∧ i ≤ l.length ∧ (∀ j, i ≤ j → j < l.length → q < l.getD j 0) ∧ (∀ x, x ≠ k + 5 → s.2 x = M x) ∧ ∀ a, s.2 (k + 5) a = if 12 * t + i < a ∧ a ≤ 12 * t + l.length then M (k + 5) (a - 1) else M (k + 5) a) (μ := fun s => s.1.toInt.toNat) (fun s p => ?_) ⟨l.length, rfl, Nat.le_refl _, fun j a b => by omega, fun _ _ => rfl, fun a => by rw [if_neg (by omega)]⟩
    obtain ⟨s1, N⟩ := s
    obtain ⟨i, e, hi, p1, p2, p3⟩ := p
    dsimp only at e p2 p3
    subst e
    dsimp only
    refine t_be (rI_n (by omega) (by omega)) ?_
    rw [p2 (k + 8) (by omega), e8]
    refine t_ite (fun c => ?_) (fun c => ?_)
    · have c := (nI_leI (by omega) (by omega)).mp c
      have : i = 0 := by omega
      subst this
      exact t_ret ⟨0, rfl, by omega, fun j hj => by omega, p1, p2, p3⟩
    · have c := mt (nI_leI (a := 12 * t + i) (b := 12 * t) (by omega) (by omega)).mpr c
      rw [nI_s1 (by omega), show 12 * t + i - 1 = 12 * t + (i - 1) by omega]
      have ev : N (k + 5) (12 * t + (i - 1)) = nI (l.getD (i - 1) 0) := by rw [p3, if_neg (by omega)]; exact e5 _ (by omega)
      have lv := hlt (i - 1) (by omega)
      refine t_be (rI_n (by omega) (by omega)) ?_
      rw [ev]
      refine t_ite (fun d => ?_) (fun d => ?_)
      · have d := (nI_leI (by omega) (by omega)).mp d
        refine t_ret ⟨i, rfl, hi, fun j hj => ?_, p1, p2, p3⟩
        rcases (by omega : j < i - 1 ∨ j = i - 1) with z | z
        · have := hs j (i - 1) z (by omega)
          omega
        · rw [z]; exact d
      · have d := mt (nI_leI (a := l.getD (i - 1) 0) (b := q) (by omega) (by omega)).mpr d
        refine t_be (rI_n (by omega) (by omega)) ?_
        rw [ev]
        refine t_be (wI_n (by omega) (by omega)) ?_
        refine t_nx ⟨i - 1, ?_, by omega, fun j a b => ?_, fun x hx => ?_, fun a => ?_⟩ ?_
        · dsimp only
          rw [nI_dec (by omega), show 12 * t + i - 1 = 12 * t + (i - 1) by omega]
        · rcases (by omega : j = i - 1 ∨ i ≤ j) with z | z
          · rw [z]; omega
          · exact p1 j z b
        · dsimp only
          rw [g_up_row hx]; exact p2 x hx
        · dsimp only
          rw [gu_in, p3]
          by_cases z : a = 12 * t + i
          · rw [if_pos z, if_pos (by omega), z, show 12 * t + i - 1 = 12 * t + (i - 1) by omega]
            exact (e5 _ (by omega)).symm
          · rw [if_neg z]
            by_cases z2 : 12 * t + i < a ∧ a ≤ 12 * t + l.length
            · rw [if_pos z2, if_pos (by omega)]
            · rw [if_neg z2, if_neg (by omega)]
        · show (nI (12 * t + i) + (-1)).toInt.toNat < (nI (12 * t + i)).toInt.toNat
          rw [nI_dec (by omega), nIt (by omega), nIt (by omega)]; omega
  obtain ⟨r, e, i, h1, h2, h3, h4, h5, h6⟩ := key
  obtain ⟨r1, N⟩ := r
  dsimp only at h1 h5 h6
  subst h1
  have eN9 : ∀ {v : Int32} {j : Nat}, g_up N (k + 5) (12 * t + i) v (k + 9) j = M (k + 9) j := fun {v j} => by rw [g_up_row (by omega), h5 (k + 9) (by omega)]
  refine ⟨i, g_up (g_up N (k + 5) (12 * t + i) (nI q)) (k + 9) t (nI (12 * t + l.length + 1)), ?_, h2, fun a b hab hb => ?_, ?_, fun j hj => ?_, fun x hx1 hx2 => ?_, fun a ha => ?_, fun a ha => ?_⟩
  · unfold fX1_addSorted bX1_addSorted_49
    rw [rI_n (by omega) (by omega), obs, e9, e, obs]
    dsimp only
    rw [wI_n (by omega) (by omega), obs, rI_n (by omega) (by omega), obs, eN9, e9, nI_1, wI_n (by omega) (by omega), obs]
  · rw [insA_len] at hb
    rw [insA_get a h2, insA_get b h2]
    by_cases c1 : b < i
    · rw [if_pos (by omega), if_pos c1]; exact hs a b hab (by omega)
    · rw [if_neg c1]
      by_cases c2 : b = i
      · rw [if_pos c2, if_pos (by omega)]; exact h3 a (by omega)
      · rw [if_neg c2]
        by_cases d1 : a < i
        · rw [if_pos d1]
          have := h3 a d1
          have := h4 (b - 1) (by omega) (by omega)
          omega
        · rw [if_neg d1]
          by_cases d2 : a = i
          · rw [if_pos d2]; have := h4 (b - 1) (by omega) (by omega); omega
          · rw [if_neg d2]; exact hs (a - 1) (b - 1) (by omega) (by omega)
  · rw [g_up_self, insA_len]; rfl
  · rw [insA_len] at hj
    rw [g_up_row (by omega), gu_in, h6, insA_get j h2]
    by_cases c1 : j = i
    · rw [if_pos (by omega), if_neg (by omega), if_pos c1]
    · rw [if_neg (by omega)]
      by_cases c2 : j < i
      · rw [if_neg (by omega), if_pos c2]; exact e5 j (by omega)
      · rw [if_pos (by omega), if_neg c2, if_neg c1, show 12 * t + j - 1 = 12 * t + (j - 1) by omega]; exact e5 (j - 1) (by omega)
  · rw [g_up_row hx2, g_up_row hx1]; exact h5 x hx1
  · rw [g_up_ne (Or.inr ha)]; exact eN9
  · rw [g_up_row (by omega), g_up_ne (Or.inr (by omega)), h6, if_neg (by omega)]
/-- the rows of one table, sorted -/
def QT (A : aT) (ls : List Nat) (t m : Nat) (l : List Nat) : Prop := l.length = m ∧ srL l ∧ (∀ j, j < l.length → l.getD j 0 < 2097152) ∧ (∀ j, j < l.length → ∃ i, i < m ∧ ∀ d, d < ls.length → inB A ls t d = true → dgt (pA A ls t d) (l.getD j 0) = vA A ls t i d) ∧ ∀ i, i < m → ∃ j, j < l.length ∧ ∀ d, d < ls.length → inB A ls t d = true → dgt (pA A ls t d) (l.getD j 0) = vA A ls t i d
theorem c_load {M : gM} {k k1 : Nat} {A : aT} {ls : List Nat} {t : Nat} (hk : k1 + 4 < k) (hW : WF A) (hs : okS ls) (hC : CT M k1 A) (hS : Sc M k ls) (hu : A.2.1.testBit t = true) (e8 : M (k + 8) t = nI (12 * t)) (e9 : M (k + 9) t = nI (12 * t)) :
    ∃ l r, fX1_load k k1 (nI t) M = some r ∧ QT A ls t (aK A t).length l ∧ r (k + 9) t = nI (12 * t + l.length) ∧ (∀ j, j < l.length → r (k + 5) (12 * t + j) = nI (l.getD j 0)) ∧ (∀ d, d < ls.length → r (k + 7) (4 * d + t) = if inB A ls t d = true then nI (14 - 7 * pA A ls t d) else M (k + 7) (4 * d + t)) ∧ (∀ a, a % 4 ≠ t → r (k + 7) a = M (k + 7) a) ∧ (∀ x, x ≠ k + 5 → x ≠ k + 6 → x ≠ k + 7 → x ≠ k + 9 → r x = M x) ∧ (∀ a, a ≠ t → r (k + 9) a = M (k + 9) a) ∧ ∀ a, a < 12 * t ∨ 12 * t + 12 ≤ a → r (k + 5) a = M (k + 5) a := by
  have hn4 := hW.1
  have ht := used_t hW hu
  have w := hW.2.2.2.2 t ht
  have w1 := w.1
  have w4 := w.2.2.2.1
  have s4 := hs.1
  have p3 : ∀ d, d ≤ ls.length → pA A ls t d ≤ 3 := fun d hd => by
    rcases Nat.eq_zero_or_pos d with z | z
    · rw [z]; exact Nat.zero_le _
    · have q := pA_le (A := A) (ls := ls) (t := t) (d := d - 1)
      have e : pA A ls t d = if inB A ls t (d - 1) = true then pA A ls t (d - 1) + 1 else pA A ls t (d - 1) := by
        conv => lhs; rw [show d = d - 1 + 1 by omega]
        rfl
      by_cases b : inB A ls t (d - 1) = true
      · have := pA_2 hs w1.2 (by omega) b
        rw [e, if_pos b]; omega
      · rw [e, if_neg b]; omega
  -- where the letters are
  have k5 : T (lX1_load_5 k k1 (nI t) (nI 0, nI 0, M)) (fun r => r.1 = nI (pA A ls t ls.length) ∧ (∀ d, d < ls.length → r.2 (k + 7) (4 * d + t) = if inB A ls t d = true then nI (14 - 7 * pA A ls t d) else M (k + 7) (4 * d + t)) ∧ (∀ a, a % 4 ≠ t → r.2 (k + 7) a = M (k + 7) a) ∧ (∀ d, d < ls.length → inB A ls t d = true → r.2 (k + 6) (pA A ls t d) = nI (cI A ls t d)) ∧ ∀ x, x ≠ k + 6 → x ≠ k + 7 → r.2 x = M x) := by
    unfold lX1_load_5
    refine t_it (P := fun s => ∃ d, d ≤ ls.length ∧ s.1 = nI (pA A ls t d) ∧ s.2.1 = nI d ∧ (∀ e, e < d → s.2.2 (k + 7) (4 * e + t) = if inB A ls t e = true then nI (14 - 7 * pA A ls t e) else M (k + 7) (4 * e + t)) ∧ (∀ e, d ≤ e → s.2.2 (k + 7) (4 * e + t) = M (k + 7) (4 * e + t)) ∧ (∀ a, a % 4 ≠ t → s.2.2 (k + 7) a = M (k + 7) a) ∧ (∀ e, e < d → inB A ls t e = true → s.2.2 (k + 6) (pA A ls t e) = nI (cI A ls t e)) ∧ ∀ x, x ≠ k + 6 → x ≠ k + 7 → s.2.2 x = M x) (μ := fun s => 20 - s.2.1.toInt.toNat) (fun s p => ?_) ⟨0, by omega, rfl, rfl, fun e he => absurd he (Nat.not_lt_zero e), fun _ _ => rfl, fun _ _ => rfl, fun e he => absurd he (Nat.not_lt_zero e), fun _ _ _ => rfl⟩
    obtain ⟨s1, s2, N⟩ := s
    obtain ⟨d, hd, e1, e2, g1, g2, g3, g4, g5⟩ := p
    dsimp only at e1 e2 g1 g2 g3 g4 g5
    subst e1 e2
    dsimp only
    have eN : N k 2 = nI ls.length := by rw [g5 k (by omega) (by omega)]; exact hS.1
    refine t_ite (fun c => ?_) (fun c => ?_)
    · rw [eN] at c
      have c := (nI_leI (by omega) (by omega)).mp c
      have : d = ls.length := by omega
      subst this
      exact t_ret (show nI _ = _ ∧ _ from ⟨rfl, g1, g3, g4, g5⟩)
    · rw [eN] at c
      have c := mt (nI_leI (a := ls.length) (b := d) (by omega) (by omega)).mpr c
      have l4 := hs.2.1 d (by omega)
      have mu : 20 - (nI d + 1).toInt.toNat < 20 - (nI d).toInt.toNat := by rw [nI_1, nIt (by omega), nIt (by omega)]; omega
      refine t_be (rI_n (by omega) (by omega)) ?_
      rw [g5 (k + 2) (by omega) (by omega), hS.2 d (by omega)]
      have hCN : CT N k1 A := hC.cong (fun j _ => by rw [g5 k1 (by omega) (by omega)]) (g5 _ (by omega) (by omega)) (g5 _ (by omega) (by omega)) (g5 _ (by omega) (by omega)) (g5 _ (by omega) (by omega))
      refine t_be (c_colK hW hCN ht l4) ?_
      unfold bX1_load_68
      have hpd := p3 d hd
      by_cases b : inB A ls t d = true
      · have cb := (inB_and.mp b).2
        have cb' : ix (ls.getD d 0) (aL A t) < (aL A t).length := cb
        have p2 := pA_2 hs w1.2 (by omega) b
        rw [if_pos cb', if_neg (nI_m1 (by omega)), L3, if_neg (mt (nI_leI (by omega) (by omega)).mp (by omega)), L4, nI_mul, nI_add, show d * 4 + t = 4 * d + t by omega]
        have ev : (14 : Int32) - (7 : Int32) * nI (pA A ls t d) = nI (14 - 7 * pA A ls t d) := by
          rw [show (14 : Int32) = nI 14 from rfl, show (7 : Int32) = nI 7 from rfl, nI_mul, nI_sub (by omega)]
        rw [ev]
        refine t_be (wI_n (by omega) (by omega)) ?_
        refine t_be (wI_n (by omega) (by omega)) ?_
        have n7 : ∀ a, g_up (g_up N (k + 7) (4 * d + t) (nI (14 - 7 * pA A ls t d))) (k + 6) (pA A ls t d) (nI (ix (ls.getD d 0) (aL A t))) (k + 7) a = if a = 4 * d + t then nI (14 - 7 * pA A ls t d) else N (k + 7) a := fun a => by rw [g_up_row (by omega), gu_in]
        have n6 : ∀ a, g_up (g_up N (k + 7) (4 * d + t) (nI (14 - 7 * pA A ls t d))) (k + 6) (pA A ls t d) (nI (ix (ls.getD d 0) (aL A t))) (k + 6) a = if a = pA A ls t d then nI (ix (ls.getD d 0) (aL A t)) else N (k + 6) a := fun a => by rw [gu_in, g_up_row (by omega)]
        have ep : pA A ls t (d + 1) = pA A ls t d + 1 := if_pos b
        refine t_nx ⟨d + 1, by omega, by dsimp only; rw [ep, nI_1], nI_1 d, fun e he => ?_, fun e he => ?_, fun a ha => ?_, fun e he hi => ?_, fun x h1 h2 => by dsimp only; rw [g_up_row h1, g_up_row h2]; exact g5 x h1 h2⟩ mu
        · dsimp only
          rw [n7]
          rcases (by omega : e < d ∨ e = d) with z | z
          · rw [if_neg (by omega)]; exact g1 e z
          · rw [z, if_pos rfl, if_pos b]
        · dsimp only
          rw [n7, if_neg (by omega)]; exact g2 e (by omega)
        · dsimp only
          rw [n7, if_neg (by omega)]; exact g3 a ha
        · dsimp only
          rw [n6]
          rcases (by omega : e < d ∨ e = d) with z | z
          · have := pA_lt z hi
            rw [if_neg (by omega)]; exact g4 e z hi
          · rw [z, if_pos rfl]; rfl
      · have cb : ¬ ix (ls.getD d 0) (aL A t) < (aL A t).length := fun z => b (inB_and.mpr ⟨hu, z⟩)
        have ep : pA A ls t (d + 1) = pA A ls t d := if_neg b
        rw [if_neg cb, if_pos rfl]
        refine t_nx ⟨d + 1, by omega, by dsimp only; rw [ep], nI_1 d, fun e he => ?_, fun e he => g2 e (by omega), g3, fun e he hi => ?_, g5⟩ mu
        · rcases (by omega : e < d ∨ e = d) with z | z
          · exact g1 e z
          · rw [z, if_neg b]; exact g2 d (Nat.le_refl d)
        · rcases (by omega : e < d ∨ e = d) with z | z
          · exact g4 e z hi
          · rw [z] at hi; exact absurd hi b
  obtain ⟨⟨r1, N⟩, e5, f1, f2, f3, f4, f5⟩ := k5
  dsimp only at f1 f2 f3 f4 f5
  subst f1
  have hCN : CT N k1 A := hC.cong (fun j _ => by rw [f5 k1 (by omega) (by omega)]) (f5 _ (by omega) (by omega)) (f5 _ (by omega) (by omega)) (f5 _ (by omega) (by omega)) (f5 _ (by omega) (by omega))
  have hw3 := p3 ls.length (Nat.le_refl _)
  -- the columns by their places
  have cex : ∀ j, ∃ c, j < pA A ls t ls.length → (N (k + 6) j = nI c ∧ c < 3) ∧ ∀ d, d < ls.length → inB A ls t d = true → pA A ls t d = j → cI A ls t d = c := by
    intro j
    by_cases hj : j < pA A ls t ls.length
    · obtain ⟨e, he, hi, hp⟩ := pA_ex hj
      have ce := (inB_and.mp hi).2
      refine ⟨cI A ls t e, fun _ => ⟨⟨by rw [← hp]; exact f4 e he hi, by omega⟩, fun d hd hi' hp' => ?_⟩⟩
      rcases Nat.lt_trichotomy d e with z | z | z
      · have := pA_lt z hi'; omega
      · rw [z]
      · have := pA_lt z hi; omega
    · exact ⟨0, fun z => absurd z hj⟩
  have csp := fun j => Classical.choose_spec (cex j)
  generalize hcc : (fun j => Classical.choose (cex j)) = cc
  have csp : ∀ j, j < pA A ls t ls.length → (N (k + 6) j = nI (cc j) ∧ cc j < 3) ∧ ∀ d, d < ls.length → inB A ls t d = true → pA A ls t d = j → cI A ls t d = cc j := fun j hj => by
    rw [← hcc]; exact csp j hj
  have dig : ∀ i, i < (aK A t).length → ∀ d, d < ls.length → inB A ls t d = true → dgt (pA A ls t d) (prm cc (pA A ls t ls.length) ((aK A t).getD i 0)) = vA A ls t i d := fun i hi d hd hb => by
    have pl := pA_lt (show d < ls.length from hd) hb
    rw [prm_dgt (k_lt w i hi) pl (pA_2 hs w1.2 hd hb)]
    unfold vA
    rw [(csp _ pl).2 d hd hb rfl]
  have k77 : T (lX1_load_77 k k1 (nI t) (nI (pA A ls t ls.length)) (nI 0, N)) (fun r => ∃ l, QT A ls t (aK A t).length l ∧ r (k + 9) t = nI (12 * t + l.length) ∧ (∀ j, j < l.length → r (k + 5) (12 * t + j) = nI (l.getD j 0)) ∧ (∀ x, x ≠ k + 5 → x ≠ k + 9 → r x = N x) ∧ (∀ a, a ≠ t → r (k + 9) a = N (k + 9) a) ∧ ∀ a, a < 12 * t ∨ 12 * t + 12 ≤ a → r (k + 5) a = N (k + 5) a) := by
    unfold lX1_load_77
    refine t_it (P := fun s => ∃ m l, m ≤ (aK A t).length ∧ s.1 = nI m ∧ QT A ls t m l ∧ s.2 (k + 9) t = nI (12 * t + l.length) ∧ (∀ j, j < l.length → s.2 (k + 5) (12 * t + j) = nI (l.getD j 0)) ∧ (∀ x, x ≠ k + 5 → x ≠ k + 9 → s.2 x = N x) ∧ (∀ a, a ≠ t → s.2 (k + 9) a = N (k + 9) a) ∧ ∀ a, a < 12 * t ∨ 12 * t + 12 ≤ a → s.2 (k + 5) a = N (k + 5) a) (μ := fun s => 20 - s.1.toInt.toNat) (fun s p => ?_)
      ⟨0, [], by omega, rfl, ⟨rfl, fun i j _ hj => absurd hj (Nat.not_lt_zero j), fun j hj => absurd hj (Nat.not_lt_zero j), fun j hj => absurd hj (Nat.not_lt_zero j), fun j hj => absurd hj (Nat.not_lt_zero j)⟩, by dsimp only; rw [f5 _ (by omega) (by omega)]; exact e9, fun j hj => absurd hj (Nat.not_lt_zero j), fun _ _ _ => rfl, fun _ _ => rfl, fun _ _ => rfl⟩
    obtain ⟨s1, K⟩ := s
    obtain ⟨m, l, hm, e, ⟨q1, q2, q3, q4, q5⟩, g1, g2, g3, g4, g5⟩ := p
    dsimp only at e g1 g2 g3 g4 g5
    subst e
    dsimp only
    have hCK : CT K k1 A := hCN.cong (fun j _ => by rw [g3 k1 (by omega) (by omega)]) (g3 _ (by omega) (by omega)) (g3 _ (by omega) (by omega)) (g3 _ (by omega) (by omega)) (g3 _ (by omega) (by omega))
    have hCt := (hCK.2.2.2 t ht).2.2
    refine t_be (rI_n (by omega) (by omega)) ?_
    rw [hCt.1]
    refine t_ite (fun c => ?_) (fun c => ?_)
    · have c := (nI_leI (by omega) (by omega)).mp c
      have : m = (aK A t).length := by omega
      subst this
      exact t_ret ⟨l, ⟨q1, q2, q3, q4, q5⟩, g1, g2, g3, g4, g5⟩
    · have c := mt (nI_leI (a := (aK A t).length) (b := m) (by omega) (by omega)).mpr c
      have hml : m < (aK A t).length := by omega
      have mu : 20 - (nI m + 1).toInt.toNat < 20 - (nI m).toInt.toNat := by rw [nI_1, nIt (by omega), nIt (by omega)]; omega
      have kl := k_lt w m hml
      refine t_be (c_rowAt (by omega) w4 hCt hml) ?_
      refine t_be (show lX1_load_103 k _ _ K ((0 : Int32), (0 : Int32)) = _ from c_perm hw3 kl (fun j hj => by rw [g3 (k + 6) (by omega) (by omega)]; exact (csp j hj).1)) ?_
      obtain ⟨i, r, er, i1, i2, i3, i4, i5, i6, i7⟩ := c_addSorted (M := K) (k := k) (by omega) (show l.length ≤ 11 by omega) (prm_lt (c := cc) (w := pA A ls t ls.length) kl) q3 q2 (by rw [g3 (k + 8) (by omega) (by omega), f5 _ (by omega) (by omega)]; exact e8) g1 g2
      refine t_be er ?_
      refine t_nx ⟨m + 1, insA i (prm cc (pA A ls t ls.length) ((aK A t).getD m 0)) l, by omega, nI_1 m, ⟨by rw [insA_len, q1], i2, insA_all (P := fun x => x < 2097152) (prm_lt kl) q3 i1, fun j hj => ?_, fun a ha => ?_⟩, i3, i4, fun x h1 h2 => (i5 x h1 h2).trans (g3 x h1 h2), fun a ha => (i6 a ha).trans (g4 a ha), fun a ha => (i7 a ha).trans (g5 a ha)⟩ mu
      · rw [insA_len] at hj
        rw [insA_get j i1]
        by_cases c1 : j < i
        · rw [if_pos c1]
          obtain ⟨a, a1, a2⟩ := q4 j (by omega)
          exact ⟨a, by omega, a2⟩
        · rw [if_neg c1]
          by_cases c2 : j = i
          · rw [if_pos c2]
            exact ⟨m, by omega, dig m hml⟩
          · rw [if_neg c2]
            obtain ⟨a, a1, a2⟩ := q4 (j - 1) (by omega)
            exact ⟨a, by omega, a2⟩
      · rcases (by omega : a < m ∨ a = m) with z | z
        · obtain ⟨j, j1, j2⟩ := q5 a z
          by_cases c1 : j < i
          · refine ⟨j, by rw [insA_len]; omega, ?_⟩
            rw [insA_get j i1, if_pos c1]; exact j2
          · refine ⟨j + 1, by rw [insA_len]; omega, ?_⟩
            rw [insA_get (j + 1) i1, if_neg (by omega), if_neg (by omega), Nat.add_sub_cancel]; exact j2
        · refine ⟨i, by rw [insA_len]; omega, ?_⟩
          rw [insA_get i i1, if_neg (Nat.lt_irrefl i), if_pos rfl, z]
          exact dig m hml
  obtain ⟨r, e77, l, g1, g2, g3, g4, g5, g6⟩ := k77
  refine ⟨l, r, ?_, g1, g2, g3, fun d hd => ?_, fun a ha => ?_, fun x h5 h6 h7 h9 => ?_, fun a ha => ?_, fun a ha => ?_⟩
  · unfold fX1_load
    rw [show ((0 : Int32), (0 : Int32), M) = (nI 0, nI 0, M) from rfl, e5, obs]
    dsimp only
    rw [show ((0 : Int32), N) = (nI 0, N) from rfl, e77, obs]
  · rw [g4 (k + 7) (by omega) (by omega)]; exact f2 d hd
  · rw [g4 (k + 7) (by omega) (by omega)]; exact f3 a ha
  · rw [g4 x h5 h9]; exact f5 x h6 h7
  · rw [g5 a ha, f5 _ (by omega) (by omega)]
  · rw [g6 a ha, f5 _ (by omega) (by omega)]
end P_35r_42g_open8
