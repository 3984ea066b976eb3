/-! projected -/
def mk (v : Nat) : Nat → Nat
  | 0 => 0
  | l + 1 => if v.testBit l = true then mk v l ||| 127 * 2 ^ (21 - 7 * l) else mk v l
theorem mk_lt : ∀ v, v < 16 → mk v 4 < 268435456 := by decide +kernel
theorem mk_bit : ∀ v, v < 16 → ∀ b, b < 28 → (mk v 4).testBit b = v.testBit (3 - b / 7) := by decide +kernel
theorem c_mask {v : Nat} (hv : v < 16) : lX0_unlike_5 (nI v) (0, 0) = some (nI (mk v 4)) := by
  unfold lX0_unlike_5
  refine p_it (P := fun s => ∃ l, l ≤ 4 ∧ s = (nI (mk v l), nI l)) (μ := fun s => 20 - s.2.toInt.toNat) (fun s p => ?_) ⟨0, by omega, rfl⟩
  obtain ⟨l, hl, rfl⟩ := p
  dsimp only
  refine t_ite (fun d => ?_) (fun d => ?_)
  · have := (nI_leI (a := 4) (by omega) (by omega)).mp d
    have : l = 4 := by omega
    subst this
    exact t_ret rfl
  · have := mt (nI_leI (a := 4) (b := l) (by omega) (by omega)).mpr d
    have mu : 20 - (nI (l + 1)).toInt.toNat < 20 - (nI l).toInt.toNat := by rw [nIt (by omega), nIt (by omega)]; omega
    have q := hs0_bit v hv l (by omega)
    unfold bX0_unlike_34
    rw [nI_1]
    have ms : mk v (l + 1) = if v.testBit l = true then mk v l ||| 127 * 2 ^ (21 - 7 * l) else mk v l := rfl
    by_cases b : v.testBit l = true
    · refine t_ite (fun z => absurd b (q.mp z)) (fun _ => ?_)
      have e : ((127 : Int32) <<< (((21 : Int32) - ((7 : Int32) * nI l)) &&& 31)) = nI (127 * 2 ^ (21 - 7 * l)) := by
        rcases (by omega : l = 0 ∨ l = 1 ∨ l = 2 ∨ l = 3) with rfl | rfl | rfl | rfl <;> decide +kernel
      rw [e, fa_or]
      exact t_nx ⟨l + 1, by omega, by rw [ms, if_pos b]⟩ mu
    · refine t_ite (fun _ => ?_) (fun z => absurd (q.mpr b) z)
      exact t_nx ⟨l + 1, by omega, by rw [ms, if_neg b]⟩ mu
theorem fa_and (a b : Nat) : nI a &&& nI b = nI (a &&& b) := by
  apply Int32.toBitVec_inj.1
  show BitVec.ofNat 32 a &&& BitVec.ofNat 32 b = BitVec.ofNat 32 (a &&& b)
  apply BitVec.eq_of_getLsbD_eq
  intro i hi
  simp [hi]
theorem d4_bit (l P i : Nat) : (d4 l P).testBit i = (decide (i < 7) && P.testBit (21 - 7 * l + i)) := by
  unfold d4
  rw [show (128 : Nat) = 2 ^ 7 from rfl, Nat.testBit_mod_two_pow, Nat.testBit_div_two_pow, Nat.add_comm i]
/-- the masked numbers of a row -/
def msk (v P : Nat) : Nat := P &&& mk v 4
theorem msk_lt {v : Nat} (hv : v < 16) (P : Nat) : msk v P < 268435456 := Nat.lt_of_le_of_lt Nat.and_le_right (mk_lt v hv)
theorem msk_eq {v P P' : Nat} (hv : v < 16) (h : P < 268435456) (h' : P' < 268435456) : msk v P = msk v P' ↔ ∀ l, l < 4 → v.testBit l = true → d4 l P = d4 l P' := by
  unfold msk
  constructor
  · intro e l hl hb
    refine Nat.eq_of_testBit_eq (fun i => ?_)
    rw [d4_bit, d4_bit]
    by_cases hi : i < 7
    · have b := congrArg (fun n => n.testBit (21 - 7 * l + i)) e
      have b : (P &&& mk v 4).testBit (21 - 7 * l + i) = (P' &&& mk v 4).testBit (21 - 7 * l + i) := b
      rw [Nat.testBit_and, Nat.testBit_and, mk_bit v hv _ (by omega), show 3 - (21 - 7 * l + i) / 7 = l by omega, hb, Bool.and_true, Bool.and_true] at b
      rw [b]
    · rw [decide_eq_false hi, Bool.false_and, Bool.false_and]
  · intro e
    refine Nat.eq_of_testBit_eq (fun b => ?_)
    rw [Nat.testBit_and, Nat.testBit_and]
    by_cases hb : b < 28
    · rw [mk_bit v hv b hb]
      cases hv4 : v.testBit (3 - b / 7) with
      | false => rw [Bool.and_false, Bool.and_false]
      | true =>
        have q := congrArg (fun n => n.testBit (b % 7)) (e (3 - b / 7) (by omega) hv4)
        have q : (d4 (3 - b / 7) P).testBit (b % 7) = (d4 (3 - b / 7) P').testBit (b % 7) := q
        rw [d4_bit, d4_bit, decide_eq_true (show b % 7 < 7 by omega), Bool.true_and, Bool.true_and, show 21 - 7 * (3 - b / 7) + b % 7 = b by omega] at q
        rw [q]
    · have p : 2 ^ 28 ≤ 2 ^ b := Nat.pow_le_pow_right (by decide) (by omega)
      rw [Nat.testBit_lt_two_pow (show P < 2 ^ b by omega), Nat.testBit_lt_two_pow (show P' < 2 ^ b by omega)]
/-- how many unlike ones there are among the first -/
noncomputable def ind (p : Prop) : Nat := @ite Nat p (Classical.propDecidable p) 1 0
theorem ind_t {p : Prop} (h : p) : ind p = 1 := @if_pos p (Classical.propDecidable p) h _ _ _
theorem ind_f {p : Prop} (h : ¬ p) : ind p = 0 := @if_neg p (Classical.propDecidable p) h _ _ _
theorem ind_iff {p q : Prop} (h : p ↔ q) : ind p = ind q := by rw [propext h]
noncomputable def ncA (Z : Nat → Nat) (J : Nat) : Nat := suUp (fun j => 1 - ind (∃ i, i < j ∧ Z i = Z j)) J
theorem suUp_add {p : Nat → Prop} {z : Nat} : ∀ {B : Nat}, z < B → suUp (fun n => ind (p n ∨ n = z)) B = suUp (fun n => ind (p n)) B + (1 - ind (p z))
  | 0, h => absurd h (Nat.not_lt_zero z)
  | B + 1, h => by
    show suUp (fun n => ind (p n ∨ n = z)) B + ind (p B ∨ B = z) = suUp (fun n => ind (p n)) B + ind (p B) + _
    rcases (by omega : z < B ∨ z = B) with c | c
    · rw [suUp_add c]
      have : ind (p B ∨ B = z) = ind (p B) := ind_iff ⟨fun y => y.elim id (fun w => by omega), Or.inl⟩
      rw [this]; omega
    · subst c
      have e : suUp (fun n => ind (p n ∨ n = z)) z = suUp (fun n => ind (p n)) z := suUp_cong (fun i hi => ind_iff ⟨fun y => y.elim id (fun w => by omega), Or.inl⟩)
      rw [e, ind_t (Or.inr rfl)]
      by_cases q : p z
      · rw [ind_t q]
      · rw [ind_f q]
theorem suUp_0 {p : Nat → Prop} (h : ∀ n, ¬ p n) : ∀ B, suUp (fun n => ind (p n)) B = 0
  | 0 => rfl
  | B + 1 => by
    show suUp (fun n => ind (p n)) B + ind (p B) = 0
    rw [suUp_0 h B, ind_f (h B)]
theorem ncA_set {Z : Nat → Nat} {B : Nat} : ∀ {J : Nat}, (∀ j, j < J → Z j < B) → ncA Z J = suUp (fun n => ind (∃ j, j < J ∧ Z j = n)) B
  | 0, _ => (suUp_0 (p := fun n => ∃ j, j < 0 ∧ Z j = n) (fun n ⟨j, hj, _⟩ => absurd hj (Nat.not_lt_zero j)) B).symm
  | J + 1, h => by
    have e : suUp (fun n => ind (∃ j, j < J + 1 ∧ Z j = n)) B = suUp (fun n => ind ((∃ j, j < J ∧ Z j = n) ∨ n = Z J)) B := suUp_cong (fun n _ => ind_iff (by
      constructor
      · rintro ⟨j, hj, hz⟩
        rcases (by omega : j < J ∨ j = J) with c | c
        · exact Or.inl ⟨j, c, hz⟩
        · rw [c] at hz; exact Or.inr hz.symm
      · rintro (⟨j, hj, hz⟩ | hz)
        · exact ⟨j, by omega, hz⟩
        · exact ⟨J, by omega, hz.symm⟩))
    rw [e, suUp_add (p := fun n => ∃ j, j < J ∧ Z j = n) (h J (by omega)), ← ncA_set (fun j hj => h j (by omega))]
    rfl
theorem ncA_le (Z : Nat → Nat) : ∀ J, ncA Z J ≤ J
  | 0 => Nat.le_refl _
  | J + 1 => by
    have := ncA_le Z J
    show ncA Z J + (1 - ind (∃ i, i < J ∧ Z i = Z J)) ≤ J + 1
    omega
/-- the class counts rows unlike the one ahead -/
theorem c_unlike {k J v : Nat} {M : gM} (hv : v < 16) (o : OK8 k M J) (hZ : ∀ j, j < J → 0 < j → ((∃ i, i < j ∧ msk v (kn (M (k + 3) i)) = msk v (kn (M (k + 3) j))) ↔ msk v (kn (M (k + 3) (j - 1))) = msk v (kn (M (k + 3) j)))) : fX0_unlike k (nI v) M = some (nI (ncA (fun j => msk v (kn (M (k + 3) j))) J)) := by
  have hJ := o.2.1
  have ra : ∀ j, j < J → fX1_rowAt k (nI j) M = some (nI (kn (M (k + 3) j))) := fun j hj => by
    unfold fX1_rowAt
    rw [if_neg (show ¬ nI j < 0 from fun z => absurd ((nI_ltI (b := 0) (by omega) (by omega)).mp z) (by omega)), o.1, if_neg (show ¬ nI J ≤ nI j from fun z => absurd ((nI_leI (by omega) (by omega)).mp z) (by omega)), rI_n (by omega) (by omega), obs, ← (o.2.2 j hj).1]
  have key : lX0_unlike_46 k (nI (mk v 4)) M (0, 0) = some (nI (ncA (fun j => msk v (kn (M (k + 3) j))) J)) := by
    unfold lX0_unlike_46
    refine p_it (P := fun s => ∃ j, j ≤ J ∧ s = (nI (ncA (fun j => msk v (kn (M (k + 3) j))) j), nI j)) (μ := fun s => 30000 - s.2.toInt.toNat) (fun s p => ?_) ⟨0, Nat.zero_le _, rfl⟩
    obtain ⟨j, hj, rfl⟩ := p
    dsimp only
    refine t_ite (fun c => ?_) (fun c => ?_)
    · rw [o.1] at c
      have := (nI_leI (by omega) (by omega)).mp c
      have : j = J := by omega
      rw [this]
      exact t_ret rfl
    · rw [o.1] at c
      have c' := mt (nI_leI (by omega) (by omega)).mpr c
      have mu : 30000 - (nI (j + 1)).toInt.toNat < 30000 - (nI j).toInt.toNat := by rw [nIt (by omega), nIt (by omega)]; omega
      have nc : ncA (fun j => msk v (kn (M (k + 3) j))) (j + 1) = ncA (fun j => msk v (kn (M (k + 3) j))) j + (1 - ind (∃ i, i < j ∧ msk v (kn (M (k + 3) i)) = msk v (kn (M (k + 3) j)))) := rfl
      unfold bX0_unlike_81 bX0_unlike_84
      rw [nI_1, nI_1]
      refine t_ite (fun z => ?_) (fun z => ?_)
      · have j0 := nI_inj (b := 0) z (by omega) (by omega)
        refine t_nx ⟨j + 1, by omega, ?_⟩ mu
        rw [nc, ind_f (fun ⟨i, hi, _⟩ => by omega)]
      · have j0 : 0 < j := by
          rcases Nat.eq_zero_or_pos j with y | y
          · exact absurd (by rw [y]; rfl) z
          · exact y
        rw [nI_s1 (by omega)]
        refine t_be (ra j (by omega)) (t_be (ra (j - 1) (by omega)) ?_)
        rw [fa_and, fa_and]
        have hz := hZ j (by omega) j0
        have l1 := msk_lt hv (kn (M (k + 3) j))
        have l2 := msk_lt hv (kn (M (k + 3) (j - 1)))
        refine t_ite (fun y => ?_) (fun y => ?_)
        · have y : msk v (kn (M (k + 3) j)) = msk v (kn (M (k + 3) (j - 1))) := nI_inj y (Nat.lt_trans l1 (by decide)) (Nat.lt_trans l2 (by decide))
          refine t_nx ⟨j + 1, by omega, ?_⟩ mu
          rw [nc, ind_t (hz.mpr y.symm)]; rfl
        · refine t_nx ⟨j + 1, by omega, ?_⟩ mu
          rw [nc, ind_f (fun w => y (congrArg nI (hz.mp w).symm))]
  unfold fX0_unlike
  rw [c_mask hv, obs, key, obs]
/-- rows in order have like beginnings side by side -/
theorem contig {k J v p : Nat} {M : gM} {ls : List Nat} (hv : v < 16) (o : OK8 k M J) (hs : okS ls) (hp : ∀ e, e < ls.length → (e < p ↔ v.testBit (ls.getD e 0) = true)) (hin : ∀ l, l < 4 → v.testBit l = true → ∃ e, e < ls.length ∧ ls.getD e 0 = l) (hL : ∀ i j, i < j → j < J → LX M k ls i j) {j : Nat} (hj : j < J) (j0 : 0 < j) : (∃ i, i < j ∧ msk v (kn (M (k + 3) i)) = msk v (kn (M (k + 3) j))) ↔ msk v (kn (M (k + 3) (j - 1))) = msk v (kn (M (k + 3) j)) := by
  have me : ∀ a b, a < J → b < J → (msk v (kn (M (k + 3) a)) = msk v (kn (M (k + 3) b)) ↔ ∀ e, e < ls.length → e < p → rdg M k a (ls.getD e 0) = rdg M k b (ls.getD e 0)) := fun a b ha hb => by
    rw [msk_eq hv (o.2.2 a ha).2 (o.2.2 b hb).2]
    constructor
    · intro h e he hep
      exact h _ (hs.2.1 e he) ((hp e he).mp hep)
    · intro h l hl hb
      obtain ⟨e, e1, e2⟩ := hin l hl hb
      have := h e e1 ((hp e e1).mpr (by rw [e2]; exact hb))
      rw [e2] at this
      exact this
  constructor
  · rintro ⟨i, hi, hz⟩
    rcases (by omega : i = j - 1 ∨ i < j - 1) with c | c
    · rw [← c]; exact hz
    · have h := (me i j (by omega) hj).mp hz
      rw [me (j - 1) j (by omega) hj]
      obtain ⟨e2, a1, a2, a3⟩ := hL i (j - 1) c (by omega)
      obtain ⟨e1, b1, b2, b3⟩ := hL (j - 1) j (by omega) hj
      intro e he hep
      rcases Nat.lt_or_ge e e1 with y | y
      · exact b3 e y
      · -- the first place at which they differ is no place of the beginning
        exfalso
        have q := h e1 b1 (by omega)
        rcases Nat.lt_trichotomy e1 e2 with z | z | z
        · have := a3 e1 z; omega
        · rw [z] at b2 q; omega
        · have := b3 e2 z
          have := h e2 a1 (by omega)
          omega
  · intro h
    exact ⟨j - 1, by omega, h⟩
