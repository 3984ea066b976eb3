/-! means: the sums of both, and the quotient -/
/-- nought, or normal and not far from one -/
def NM (u : UInt64) : Prop := dc u = .fin false 0 (-1074) ∨ ∃ c q, dc u = .fin false c q ∧ 4503599627370496 ≤ c ∧ c < 9007199254740992 ∧ -105 ≤ q ∧ q ≤ 1
theorem NM.nb {u : UInt64} (h : NM u) : NB u := by
  rcases h with h | ⟨c, q, h, h1, h2, h3, h4⟩
  · exact Or.inl h
  · exact Or.inr ⟨c, q, h, h1, h2, by omega, by omega⟩
theorem ddiv_I {u v : UInt64} {a b : Nat} (h : isI u a) (h' : isI v b) (hb : b ≠ 0) : ∃ w, gD (FP.ddiv u v) = some w ∧ NM w ∧ (a ≤ 127 * b → dc w = .fin false 0 (-1074) ∨ ∃ c q, dc w = .fin false c q ∧ 4503599627370496 ≤ c ∧ c < 9007199254740992 ∧ -105 ≤ q ∧ q ≤ -44) := by
  rcases h' with ⟨z, _⟩ | ⟨d, j, f1, f5, f2, f3, f4⟩
  · exact absurd z hb
  have dz : d ≠ 0 := by omega
  rcases h with ⟨_, h⟩ | ⟨c, i, e1, e5, e2, e3, e4⟩
  · have k : FP.Core.quotient FP.Core.b64 (dc u) (dc v) = .fin false 0 (-1074) := by
      rw [h, f1, quo_fin dz]
      unfold FP.Core.roundRatio
      rw [if_pos rfl, b64_qmin]; rfl
    obtain ⟨a, b⟩ := ez64 false
    rw [← k] at a b
    have e := ((b64_dc a).trans b).trans k
    exact ⟨_, b64_g a, Or.inl e, fun _ => Or.inl e⟩
  · obtain ⟨c', q', g1, g2, g3, g4, g5⟩ := quo64 (e := -(i : Int) - -(j : Int)) e2 e3 f2 f3 ⟨by omega, by omega⟩
    have k : FP.Core.quotient FP.Core.b64 (dc u) (dc v) = .fin false c' q' := by
      rw [e1, f1, quo_fin dz]
      exact g1
    obtain ⟨x, y⟩ := ed64 (CN64 g2 g3 (q := q') (by omega) (by omega)) false
    rw [← k] at x y
    have e := ((b64_dc x).trans y).trans k
    refine ⟨_, b64_g x, Or.inr ⟨c', q', e, g2, g3, by omega, by omega⟩, fun hab => Or.inr ⟨c', q', e, g2, g3, by omega, ?_⟩⟩
    have : j < i + 8 := by
      rcases Nat.lt_or_ge j (i + 8) with z | z
      · exact z
      · exfalso
        have h1 : 2 ^ (i + 8) ≤ 2 ^ j := Nat.pow_le_pow_right (by decide) z
        rw [Nat.pow_add] at h1
        have h2 : b * (2 ^ i * 2 ^ 8) ≤ b * 2 ^ j := Nat.mul_le_mul_left _ h1
        have h3 : a * 2 ^ i ≤ 127 * b * 2 ^ i := Nat.mul_le_mul_right _ hab
        rw [Nat.mul_assoc] at h3
        rw [← Nat.mul_assoc] at h2
        generalize b * 2 ^ i = X at *
        omega
    omega
theorem c_sum {k l J : Nat} {ls : List Nat} {M R : gM} (o : OUT k ls M R J) (hJ : J ≤ 20736) (hl : l < 4) : ∃ w, lX0_meanOf_5 k (nI l) M (FP.dconst0, 0) = some w ∧ isI w (suUp (fun j => rdg M k j l) J) := by
  have bd : ∀ j, suUp (fun j => rdg M k j l) j ≤ 127 * j := fun j => by
    induction j with
    | zero => exact Nat.le_refl _
    | succ j ih =>
      have := rdg_lt M k j l
      show suUp (fun j => rdg M k j l) j + rdg M k j l ≤ _
      omega
  have key : T (lX0_meanOf_5 k (nI l) M (FP.dconst0, 0)) (fun w => isI w (suUp (fun j => rdg M k j l) J)) := by
    unfold lX0_meanOf_5
    refine t_it (P := fun s => ∃ j, j ≤ J ∧ s.2 = nI j ∧ isI s.1 (suUp (fun j => rdg M k j l) j)) (μ := fun s => 30000 - s.2.toInt.toNat) (fun s p => ?_) ⟨0, Nat.zero_le _, rfl, Or.inl ⟨rfl, dc_0⟩⟩
    obtain ⟨s1, s2⟩ := s
    obtain ⟨j, hj, e1, h2⟩ := p
    dsimp only at e1 h2
    subst e1
    dsimp only
    refine t_ite (fun c => ?_) (fun c => ?_)
    · rw [o.1] at c
      have := (nI_leI (by omega) (by omega)).mp c
      have : j = J := by omega
      subst this
      exact t_ret h2
    · rw [o.1] at c
      have c' := mt (nI_leI (by omega) (by omega)).mpr c
      refine t_be (c_numberAt o hJ (by omega) hl) ?_
      have b := bd j
      have g := rdg_lt M k j l
      obtain ⟨w, ew, hw⟩ := dadd_I h2 (i2d_I (n := rdg M k j l) (by omega)) (by omega)
      refine t_be ew (t_nx ⟨j + 1, by omega, nI_1 j, hw⟩ ?_)
      show 30000 - (nI j + 1).toInt.toNat < 30000 - (nI j).toInt.toNat
      rw [nI_1, nIt (by omega), nIt (by omega)]; omega
  exact key
theorem n_sum {R : gM} {l J : Nat} {f : Nat → Nat} (hJ : J ≤ 20736) (eJ : R 62 26 = nI J) (hl : l < 4) (hf : ∀ j, j < J → R 80 (4 * j + l) = nI (f j)) (f128 : ∀ j, f j < 128) : ∃ w, lX9_meanOf_5 (nI l) R (0, 0) = some w ∧ w.toInt = suUp f J ∧ suUp f J ≤ 127 * J := by
  have bd : ∀ j, suUp f j ≤ 127 * j := fun j => by
    induction j with
    | zero => exact Nat.le_refl _
    | succ j ih =>
      have := f128 j
      show suUp f j + f j ≤ _
      omega
  have key : T (lX9_meanOf_5 (nI l) R (0, 0)) (fun w => w.toInt = suUp f J ∧ suUp f J ≤ 127 * J) := by
    unfold lX9_meanOf_5
    refine t_it (P := fun s : Int64 × Int32 => ∃ j : Nat, j ≤ J ∧ s.2 = nI j ∧ s.1.toInt = ((suUp f j : Nat) : Int)) (μ := fun s => 30000 - s.2.toInt.toNat) (fun s p => ?_) ⟨0, Nat.zero_le _, rfl, rfl⟩
    obtain ⟨s1, s2⟩ := s
    obtain ⟨j, hj, e1, h2⟩ := p
    dsimp only at e1 h2
    subst e1
    dsimp only
    refine t_ite (fun c => ?_) (fun c => ?_)
    · rw [eJ] at c
      have := (nI_leI (by omega) (by omega)).mp c
      have : j = J := by omega
      subst this
      exact t_ret ⟨h2, bd j⟩
    · rw [eJ] at c
      have c' := mt (nI_leI (by omega) (by omega)).mpr c
      refine t_be (n_numberOf (by omega) hl) ?_
      rw [hf j (by omega)]
      have b := bd j
      have g := f128 j
      have e64 : (nI (f j)).toInt64.toInt = f j := by rw [Int32.toInt_toInt64, tnI (by omega)]
      refine t_nx ⟨j + 1, by omega, nI_1 j, ?_⟩ ?_
      · show (s1 + (nI (f j)).toInt64).toInt = ((suUp f j + f j : Nat) : Int)
        rw [Int64.toInt_add, h2, e64, Int.bmod_eq_of_le (by omega) (by omega)]
        omega
      · show 30000 - (nI j + 1).toInt.toNat < 30000 - (nI j).toInt.toNat
        rw [nI_1, nIt (by omega), nIt (by omega)]; omega
  exact key
theorem two_mean {ls : List Nat} {M R : gM} {J l : Nat} (o : OUT 18 ls M R J) (hJ : J ≤ 20736) (h0 : 0 < J) (hl : l < 4) (hf : ∀ j, j < J → R 80 (4 * j + l) = nI (rdg M 18 j l)) : ∃ u, fX0_meanOf 18 (nI l) M = some u ∧ fX9_meanOf (nI l) R = some u ∧ NM u ∧ (dc u = .fin false 0 (-1074) ∨ ∃ c q, dc u = .fin false c q ∧ 4503599627370496 ≤ c ∧ c < 9007199254740992 ∧ -105 ≤ q ∧ q ≤ -44) := by
  obtain ⟨w, ew, hw⟩ := c_sum o hJ hl
  obtain ⟨w2, ew2, hw2, hb⟩ := n_sum (f := fun j => rdg M 18 j l) hJ o.2.1 hl hf (fun j => rdg_lt M 18 j l)
  have e := isI_uniq hw (l2d_I (by omega) hw2)
  obtain ⟨u, eu, hu, hu2⟩ := ddiv_I hw (i2d_I (n := J) (by omega)) (by omega)
  refine ⟨u, ?_, ?_, hu, hu2 hb⟩
  · unfold fX0_meanOf
    rw [ew, obs, o.1, if_neg (fun z => by have := (nI_leI (b := 0) (by omega) (by omega)).mp z; omega), eu, obs]
  · unfold fX9_meanOf
    have ew2 : lX9_meanOf_5 (nI l) R ((0 : Int64), (0 : Int32)) = some w2 := ew2
    rw [ew2, obs, o.2.1, ← e, eu, obs]
/-- both are asked for a mean -/
theorem two_has {I R R0 : gM} {A : aT} (h : InvB I) (hW : WF A) (hC : CT I 3 A) (hM : MI false R0 R) (hA : A9 R) (hR : RT R (R 70) A) (v : Int32) : (fX8_isAsked v I = some 0 ∧ ∃ r, fX9_hasMean v R = some (0, r)) ∨ (∃ l, l < 4 ∧ v = nI l ∧ (asA A).testBit l = true ∧ fX8_isAsked v I = some 1 ∧ ∃ R' J, fX9_joinsNow R = some R' ∧ OUT 18 (fl4 A.2.2 (asA A)) I R' J ∧ J ≤ 20736 ∧ MI false R0 R' ∧ GJ9 R' ∧ A9 R' ∧ RT R' (R' 70) A ∧ ((J = 0 ∧ fX9_hasMean v R = some (0, R')) ∨ (0 < J ∧ fX9_hasMean v R = some (1, R')))) := by
  rcases two_asked hW hC hM hR v with ⟨l, hl, rfl, hb, n, z1, z2⟩ | ⟨z1, z2⟩
  · refine Or.inr ⟨l, hl, rfl, hb, z1, ?_⟩
    obtain ⟨R', J, ej, o, hJ, hS, hQ, hll, M1, G1, fR, fj⟩ := cur_two h hW n hC hM hR
    obtain ⟨A1, R1⟩ := cur_more (I := I) (R0 := I) hW hA hR fR fj
    refine ⟨R', J, ej, o, hJ, M1, G1, A1, R1, ?_⟩
    unfold fX9_hasMean fX9_rowsNow
    rw [z2, obs, if_neg (by decide), ej, obs, obs, o.2.1]
    by_cases c : J = 0
    · exact Or.inl ⟨c, if_pos (show nI J ≤ 0 by rw [c]; decide)⟩
    · exact Or.inr ⟨by omega, if_neg (fun z => by have := (nI_leI (b := 0) (by omega) (by omega)).mp z; omega)⟩
  · refine Or.inl ⟨z1, R, ?_⟩
    unfold fX9_hasMean
    rw [z2, obs, if_pos rfl]
theorem eq_mean {I : gM} (h : InvB I) {v : Int32} {a : Int64} {b : Int64 × gM} (e1 : fX8_mean v I = some a) (e2 : fX9_mean v I = some b) : a = b.1 := by
  obtain ⟨A, hW, hC, hR⟩ := h.tab
  unfold fX8_mean at e1
  unfold fX9_mean at e2
  rcases two_has h hW hC h.mi h.1.2.1 hR v with ⟨z1, r, z2⟩ | ⟨l, hl, rfl, hb, z1, R', J, ej, o, hJ, M1, G1, A1, R1, z2⟩
  · rw [z1, obs, if_pos rfl] at e1
    rw [z2, obs, if_pos rfl] at e2
    cases e1; cases e2; rfl
  · rw [z1, obs, if_neg (by decide), o.1] at e1
    rcases z2 with ⟨hz, z2⟩ | ⟨hz, z2⟩
    · rw [if_pos (by rw [hz]; rfl)] at e1
      rw [z2, obs, if_pos rfl] at e2
      cases e1; cases e2; rfl
    · rw [if_neg (show ¬ nI J = 0 from fun z => by have := nI_inj (b := 0) z (by omega) (by omega); omega)] at e1
      rw [z2, obs, if_neg (show ¬ (1 : Int32) = 0 by decide)] at e2
      obtain ⟨u, f1, f2, f3, _⟩ := two_mean o hJ hz hl (fun j hj => (d99 M1 G1 A1 hW R1 o hJ hl hb hj).1)
      rw [f1, obs, c_bits f3.nb, obs] at e1
      rw [f2, obs, n_bits64 f3.nb, obs] at e2
      cases e1; cases e2; rfl
