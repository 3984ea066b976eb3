/-! the class lays the letters in order -/
/-- the letters of a set, rising -/
def lup (m : Nat) : Nat → List Nat
  | 0 => []
  | l + 1 => if m.testBit l = true then lup m l ++ [l] else lup m l
def Sc (M : gM) (k : Nat) (ls : List Nat) : Prop := M k 2 = nI ls.length ∧ ∀ e, e < ls.length → M (k + 2) e = nI (ls.getD e 0)
theorem lup_mono (m : Nat) : ∀ {a b : Nat}, a ≤ b → (lup m a).length ≤ (lup m b).length
  | a, 0, h => by rw [Nat.le_zero.mp h]; exact Nat.le_refl _
  | a, b + 1, h => by
    rcases (by omega : a = b + 1 ∨ a ≤ b) with z | z
    · rw [z]; exact Nat.le_refl _
    · have := lup_mono m z
      conv => rhs; unfold lup
      split
      · rw [List.length_append]; show _ ≤ (lup m b).length + 1; omega
      · exact this
theorem c_addLetters {k m : Nat} {M : gM} {ls : List Nat} (hm : m < 16) (hl : ls.length + (lup m 4).length ≤ 4) (hS : Sc M k ls) : ∃ r, fX1_addLetters k (nI m) M = some r ∧ Sc r k (ls ++ lup m 4) ∧ (∀ q, q ≠ k → q ≠ k + 2 → r q = M q) ∧ ∀ j, j ≠ 2 → r k j = M k j := by
  have key : T (lX1_addLetters_2 k (nI m) (nI 0, M)) (fun r => Sc r k (ls ++ lup m 4) ∧ (∀ q, q ≠ k → q ≠ k + 2 → r q = M q) ∧ ∀ j, j ≠ 2 → r k j = M k j) := by
    unfold lX1_addLetters_2
    refine t_it (P := fun s => ∃ l, l ≤ 4 ∧ s.1 = nI l ∧ Sc s.2 k (ls ++ lup m l) ∧ (∀ q, q ≠ k → q ≠ k + 2 → s.2 q = M q) ∧ ∀ j, j ≠ 2 → s.2 k j = M k j) (μ := fun s => 20 - s.1.toInt.toNat) (fun s p => ?_) ⟨0, by omega, rfl, by show Sc M k (ls ++ []); rw [List.append_nil]; exact hS, fun _ _ _ => rfl, fun _ _ => rfl⟩
    obtain ⟨s1, N⟩ := s
    obtain ⟨l, hl4, e, p1, p2, p3⟩ := p
    dsimp only at e p1 p2 p3
    subst e
    dsimp only
    rw [L4]
    refine t_ite (fun c => ?_) (fun c => ?_)
    · have c := (nI_leI (by omega) (by omega)).mp c
      have : l = 4 := by omega
      subst this
      exact t_ret (show Sc N k _ ∧ _ from ⟨p1, p2, p3⟩)
    · have c := mt (nI_leI (a := 4) (b := l) (by omega) (by omega)).mpr c
      have mu : 20 - (nI l + 1).toInt.toNat < 20 - (nI l).toInt.toNat := by rw [nI_1, nIt (by omega), nIt (by omega)]; omega
      have hb := hs0_bit m hm l (by omega)
      unfold bX1_addLetters_43
      by_cases b : m.testBit l = true
      · have e1 : lup m (l + 1) = lup m l ++ [l] := if_pos b
        have l1 := lup_mono m (show l + 1 ≤ 4 by omega)
        rw [e1, List.length_append] at l1
        have l1 : (lup m l).length + 1 ≤ (lup m 4).length := l1
        obtain ⟨d1, d2⟩ := p1
        rw [List.length_append] at d1
        rw [if_neg (fun z => hb.mp z b), if_neg (show ¬ nI 4 ≤ N k 2 by rw [d1]; exact mt (nI_leI (by omega) (by omega)).mp (by omega))]
        refine t_be (by rw [d1]; exact wI_n (by omega) (by omega)) ?_
        refine t_be pU_n ?_
        refine t_nx ⟨l + 1, by omega, nI_1 l, ⟨?_, fun e he => ?_⟩, fun q h1 h2 => ?_, fun j hj => ?_⟩ mu
        · dsimp only
          rw [g_up_self, g_up_row (by omega), d1, nI_1, e1, ← List.append_assoc, lenA, List.length_append]
        · dsimp only
          rw [e1, ← List.append_assoc] at he ⊢
          rw [lenA, List.length_append] at he
          rw [g_up_row (by omega), gu_in]
          by_cases z : e = ls.length + (lup m l).length
          · rw [if_pos z, z, ← List.length_append, gd_eq]
          · rw [if_neg z, gd_lt (by rw [List.length_append]; omega)]
            exact d2 e (by rw [List.length_append]; omega)
        · dsimp only
          rw [g_up_row h1, g_up_row h2]; exact p2 q h1 h2
        · dsimp only
          rw [g_up_ne (Or.inr hj), g_up_row (by omega)]; exact p3 j hj
      · have e1 : lup m (l + 1) = lup m l := if_neg b
        rw [if_pos (hb.mpr b)]
        exact t_nx ⟨l + 1, by omega, nI_1 l, by rw [e1]; exact p1, p2, p3⟩ mu
  obtain ⟨r, e, h⟩ := key
  refine ⟨r, ?_, h⟩
  unfold fX1_addLetters
  rw [show (0 : Int32) = nI 0 from rfl, e, obs]
theorem c_letterOf {m s : Nat} (hm : m < 16) (hs' : s < 4) (h4 : sel 4 0 m s < 4) : fX1_letterOf (nI m) (nI s) = some (nI (sel 4 0 m s)) := by
  have key : T (lX1_letterOf_4 (nI m) (nI s, nI 0)) (Sum.elim (fun r => r = nI (sel 4 0 m s)) (fun _ : Unit => False)) := by
    unfold lX1_letterOf_4
    refine t_it (P := fun x => ∃ s' l f, x = (nI s', nI l) ∧ l + f = 4 ∧ s' < 4 ∧ sel f l m s' = sel 4 0 m s) (μ := fun x => 20 - x.2.toInt.toNat) (fun x p => ?_) ⟨s, 0, 4, rfl, rfl, hs', rfl⟩
    obtain ⟨s', l, f, rfl, h1, h2, h3⟩ := p
    cases f with
    | zero =>
      exfalso
      have : l = sel 4 0 m s := h3
      omega
    | succ f =>
      dsimp only
      have mu : 20 - (nI l + 1).toInt.toNat < 20 - (nI l).toInt.toNat := by rw [nI_1, nIt (by omega), nIt (by omega)]; omega
      have h3' : (if m.testBit l = true then (if s' = 0 then l else sel f (l + 1) m (s' - 1)) else sel f (l + 1) m s') = sel 4 0 m s := h3
      have hb := hs0_bit m hm l (by omega)
      rw [L4, if_neg (mt (nI_leI (by omega) (by omega)).mp (by omega))]
      unfold bX1_letterOf_26
      by_cases b : m.testBit l = true
      · rw [if_pos b] at h3'
        rw [if_neg (fun z => hb.mp z b)]
        by_cases z : s' = 0
        · rw [if_pos z] at h3'
          rw [z, if_pos (show nI 0 = 0 from rfl)]
          exact t_ret (show nI l = nI (sel 4 0 m s) by rw [h3'])
        · rw [if_neg z] at h3'
          rw [if_neg (show ¬ nI s' = 0 from fun q => z (nI_inj (b := 0) q (by omega) (by omega))), nI_dec (by omega)]
          exact t_nx ⟨s' - 1, l + 1, f, by rw [nI_1], by omega, by omega, h3'⟩ mu
      · rw [if_neg b] at h3'
        rw [if_pos (hb.mpr b)]
        exact t_nx ⟨s', l + 1, f, by rw [nI_1], by omega, h2, h3'⟩ mu
  obtain ⟨r, e, h⟩ := key
  unfold fX1_letterOf
  rw [show (nI s, (0 : Int32)) = (nI s, nI 0) from rfl, e, obs]
  rcases r with r | r
  · have h : r = nI (sel 4 0 m s) := h
    rw [h]; rfl
  · exact absurd h (fun z => z)
theorem and1_bit : ∀ m, m < 16 → ∀ l, l < 4 → nI m &&& ((1 : Int32) <<< (nI l &&& 31)) = nI (m &&& 2 ^ l) := by decide +kernel
theorem lup_one : ∀ m, m < 16 → ∀ l, l < 4 → m &&& 2 ^ l < 16 ∧ lup (m &&& 2 ^ l) 4 = if m.testBit l = true then [l] else [] := by decide +kernel
theorem blk_n : ∀ k, k < 4 → blk k = nI (byK k) := by decide +kernel
theorem c_seq {k o am : Nat} {M : gM} (ho : o < 24) (ha : am < 16) (h0 : M k 2 = 0) : ∃ r, lX1_findBy_20 k (nI am) (15, nI o, 0, M) = some r ∧ Sc r k (fl4 o am) ∧ (∀ q, q ≠ k → q ≠ k + 2 → r q = M q) ∧ ∀ j, j ≠ 2 → r k j = M k j := by
  have key : T (lX1_findBy_20 k (nI am) (nI 15, nI o, nI 0, M)) (fun r => Sc r k (fl4 o am) ∧ (∀ q, q ≠ k → q ≠ k + 2 → r q = M q) ∧ ∀ j, j ≠ 2 → r k j = M k j) := by
    unfold lX1_findBy_20
    refine t_it (P := fun s => ∃ c, s.1 = nI (lef o c).1 ∧ s.2.1 = nI (lef o c).2 ∧ s.2.2.1 = nI c ∧ c ≤ 4 ∧ Sc s.2.2.2 k (flt o am c) ∧ (∀ q, q ≠ k → q ≠ k + 2 → s.2.2.2 q = M q) ∧ ∀ j, j ≠ 2 → s.2.2.2 k j = M k j) (μ := fun s => 20 - s.2.2.1.toInt.toNat) (fun s p => ?_)
      ⟨0, rfl, rfl, rfl, by omega, ⟨h0, fun e he => absurd he (Nat.not_lt_zero _)⟩, fun _ _ _ => rfl, fun _ _ => rfl⟩
    obtain ⟨s1, s2, s3, N⟩ := s
    obtain ⟨c, e1, e2, e3, h1, S1, F1, F2⟩ := p
    dsimp only at e1 e2 e3 S1 F1 F2
    subst e1 e2 e3
    dsimp only
    rw [L4]
    refine t_ite (fun q => ?_) (fun q => ?_)
    · have q := (nI_leI (a := 4) (by omega) (by omega)).mp q
      obtain rfl : c = 4 := by omega
      exact t_ret (show Sc N k _ ∧ _ from ⟨S1, F1, F2⟩)
    · have q := mt (nI_leI (a := 4) (b := c) (by omega) (by omega)).mpr q
      obtain ⟨y1, y2, y3, y4, y5⟩ := ltr_ok o ho c (by omega)
      have by6 : byK c ≤ 6 ∧ 0 < byK c := by unfold byK; split <;> (try split) <;> omega
      have mu : 20 - (nI c + 1).toInt.toNat < 20 - (nI c).toInt.toNat := by rw [nI_1, nIt (by omega), nIt (by omega)]; omega
      have eb : rI 4 blk (nI c) = some (nI (byK c)) := by rw [rI_n (by omega) (by omega), blk_n c (by omega)]
      refine t_be eb ?_
      refine t_be (n_dV (by omega) (by omega) by6.2) ?_
      refine t_be (c_letterOf y2 y5 y1) ?_
      refine t_be eb ?_
      refine t_be (n_rM (by omega) (by omega) by6.2) ?_
      rw [show sel 4 0 (lef o c).1 ((lef o c).2 / byK c) = ltr o c from rfl, andn_bit _ y2 _ y1 y3, and1_bit am ha _ y1]
      obtain ⟨u1, u2⟩ := lup_one am ha _ y1
      have fl := flt_len o am c
      obtain ⟨r, er, r1, r2, r3⟩ := c_addLetters (k := k) (ls := flt o am c) u1 (by
        rw [u2]
        split
        · show _ + 1 ≤ 4; omega
        · show _ + 0 ≤ 4; omega) S1
      refine t_be er ?_
      have ef : flt o am (c + 1) = flt o am c ++ lup (am &&& 2 ^ ltr o c) 4 := by
        rw [u2]
        show (if am.testBit (ltr o c) = true then _ else _) = _
        by_cases b : am.testBit (ltr o c) = true
        · rw [if_pos b, if_pos b]
        · rw [if_neg b, if_neg b, List.append_nil]
      refine t_nx ⟨c + 1, rfl, rfl, nI_1 c, by omega, by rw [ef]; exact r1, fun q h1 h2 => ?_, fun j hj => ?_⟩ mu
      · dsimp only
        rw [r2 q h1 h2]; exact F1 q h1 h2
      · dsimp only
        rw [r3 j hj]; exact F2 j hj
  obtain ⟨r, e, h⟩ := key
  exact ⟨r, e, h⟩
