/-! given: which rows of a table a row of the join comes from -/
theorem smod_n : ∀ i, i < 31 → ((nI i &&& 31).toBitVec.smod 32).toNat = i := by decide +kernel
theorem bit_of {B i : Nat} (hB : B < 2 ^ 31) (hi : i < 31) : ((nI B >>> (nI i &&& 31)) &&& 1) = nI (B / 2 ^ i % 2) := by
  have h2 : B / 2 ^ i ≤ B := Nat.div_le_self _ _
  rw [pk_shrN hB _ i (smod_n i hi), pk_andN (by omega) 1 (by decide)]
theorem has_bit {B i : Nat} (hB : B < 2 ^ 31) (hi : i < 31) : hs (nI B) i ↔ B.testBit i = true := by
  unfold hs
  rw [bit_of hB hi, Nat.testBit_eq_decide_div_mod_eq, decide_eq_true_eq]
  have := Nat.mod_lt (B / 2 ^ i) (show 2 > 0 by decide)
  exact ⟨fun z => nI_inj (b := 1) z (by omega) (by omega), fun z => by rw [z]; rfl⟩
theorem shl_n {i : Nat} (hi : i < 31) : (1 : Int32) <<< (nI i &&& 31) = nI (2 ^ i) := by
  have p : 2 ^ i < 2 ^ 31 := Nat.pow_lt_pow_right (by decide) hi
  rw [show (1 : Int32) = nI 1 from rfl, pk_shlN _ i (smod_n i hi) (by omega), Nat.one_mul]
theorem or_tb {B i x : Nat} : (B ||| 2 ^ i).testBit x = (B.testBit x || decide (i = x)) := by rw [Nat.testBit_or, Nat.testBit_two_pow]
theorem orUp_at {f : Nat → Nat} {x : Nat} : ∀ {n : Nat}, (orUp f n).testBit x = true ↔ ∃ i, i < n ∧ (f i).testBit x = true
  | 0 => ⟨fun h => by rw [show orUp f 0 = 0 from rfl, Nat.zero_testBit] at h; exact absurd h (by decide), fun ⟨i, h, _⟩ => absurd h (Nat.not_lt_zero i)⟩
  | n + 1 => by
    show (orUp f n ||| f n).testBit x = true ↔ _
    rw [Nat.testBit_or, Bool.or_eq_true, orUp_at (n := n)]
    constructor
    · rintro (⟨i, h1, h2⟩ | h)
      · exact ⟨i, by omega, h2⟩
      · exact ⟨n, by omega, h⟩
    · rintro ⟨i, h1, h2⟩
      rcases (by omega : i < n ∨ i = n) with z | rfl
      · exact Or.inl ⟨i, z, h2⟩
      · exact Or.inr h2
theorem asA_of {A : aT} {t c : Nat} (ht : t < A.1.length) (hu : A.2.1.testBit t = true) (hc : c < (aL A t).length) : (asA A).testBit ((aL A t).getD c 0) = true := by
  refine orUp_at.mpr ⟨t, ht, ?_⟩
  rw [if_pos hu]
  exact orUp_at.mpr ⟨c, hc, Nat.testBit_two_pow_self⟩
/-- a row's numbers for the columns of a table, packed -/
def pK (f : Nat → Nat) (w : Nat) : Nat := pk3 (if 0 < w then f 0 else 0) (if 1 < w then f 1 else 0) (if 2 < w then f 2 else 0)
theorem pK_lt {f : Nat → Nat} {w : Nat} (h : ∀ c, f c < 128) : pK f w < 2097152 := by
  have a := h 0; have b := h 1; have c := h 2
  unfold pK pk3
  split <;> split <;> split <;> omega
theorem pK_eq {f : Nat → Nat} {w q : Nat} (h : ∀ c, f c < 128) (hw : 1 ≤ w ∧ w ≤ 3) (hq : kOK w q) : pK f w = q ↔ ∀ c, c < w → f c = dgt c q := by
  have y : ∀ (i : Nat) (p : Prop) [Decidable p], (if p then f i else 0) < 128 := fun i p _ => by
    have := h i
    split <;> omega
  obtain ⟨g0, g1, g2⟩ := dgt_pk (x := if 0 < w then f 0 else 0) (y 1 (1 < w)) (y 2 (2 < w))
  constructor
  · intro e c hc
    rw [← e]
    unfold pK
    rcases (by omega : c = 0 ∨ c = 1 ∨ c = 2) with rfl | rfl | rfl
    · rw [g0, if_pos hc]
    · rw [g1, if_pos hc]
    · rw [g2, if_pos hc]
  · intro e
    rw [← pk_dgt q]
    unfold pK
    have a : (if 0 < w then f 0 else 0) = dgt 0 q := by rw [if_pos (by omega)]; exact e 0 (by omega)
    have b : (if 1 < w then f 1 else 0) = dgt 1 q := by
      by_cases c : 1 < w
      · rw [if_pos c]; exact e 1 c
      · rw [if_neg c, hq.2.2.1 (by omega)]
    have d : (if 2 < w then f 2 else 0) = dgt 2 q := by
      by_cases c : 2 < w
      · rw [if_pos c]; exact e 2 c
      · rw [if_neg c, hq.2.2.2.2 (by omega)]
    rw [a, b, d]
theorem c_rowWithin {I : gM} {A : aT} {k t P : Nat} (hW : WF A) (hC : CT I k A) (ht : t < A.1.length) (hP : P < 268435456) : fX5_rowWithin k (nI t) (nI P) I = some (nI (pK (fun c => d4 ((aL A t).getD c 0) P) (aL A t).length)) := by
  have hn4 := hW.1
  have w := hW.2.2.2.2 t ht
  have w1 := w.1
  obtain ⟨e1, e2, _⟩ := hC.2.2.2 t ht
  have g : ∀ c, d4 ((aL A t).getD c 0) P < 128 := fun c => Nat.mod_lt _ (by decide)
  have key : lX5_rowWithin_5 k (nI t) (nI P) I (nI 0, nI 0) = some (nI (pK (fun c => d4 ((aL A t).getD c 0) P) (aL A t).length)) := by
    unfold lX5_rowWithin_5
    refine p_it (P := fun s => ∃ j, j ≤ (aL A t).length ∧ s = (nI (pK (fun c => d4 ((aL A t).getD c 0) P) j), nI j)) (μ := fun s => 20 - s.2.toInt.toNat) (fun s p => ?_) ⟨0, by omega, rfl⟩
    obtain ⟨j, hj, rfl⟩ := p
    dsimp only
    refine t_be (rI_n (by omega) (by omega)) ?_
    rw [e1]
    refine t_ite (fun d => ?_) (fun d => ?_)
    · have d := (nI_leI (by omega) (by omega)).mp d
      have : j = (aL A t).length := by omega
      rw [this]
      exact t_ret rfl
    · have d := mt (nI_leI (a := (aL A t).length) (b := j) (by omega) (by omega)).mpr d
      rw [L3, nI_mul, nI_add, Nat.mul_comm]
      refine t_be (rI_n (by omega) (by omega)) ?_
      have l4 := w.2.1 j (by omega)
      rw [e2 j (by omega), d4_v hP l4]
      have mu : 20 - (nI j + 1).toInt.toNat < 20 - (nI j).toInt.toNat := by rw [nI_1, nIt (by omega), nIt (by omega)]; omega
      refine t_nx ⟨j + 1, by omega, ?_⟩ mu
      rw [nI_1]
      refine Prod.ext ?_ rfl
      dsimp only
      have j3 : j = 0 ∨ j = 1 ∨ j = 2 := by omega
      clear d mu l4 e2 e1
      rcases j3 with rfl | rfl | rfl
      · rw [sh_0, show nI (pK (fun c => d4 ((aL A t).getD c 0) P) 0) = 0 from rfl, rv_1 (g 0)]; rfl
      · rw [sh_1, show pK (fun c => d4 ((aL A t).getD c 0) P) 1 = pk3 (d4 ((aL A t).getD 0 0) P) 0 0 from rfl, rv_2 (g 0) (g 1)]; rfl
      · rw [sh_2, show pK (fun c => d4 ((aL A t).getD c 0) P) 2 = pk3 (d4 ((aL A t).getD 0 0) P) (d4 ((aL A t).getD 1 0) P) 0 from rfl, rv_3 (g 0) (g 1) (g 2)]; rfl
  unfold fX5_rowWithin
  rw [show ((0 : Int32), (0 : Int32)) = (nI 0, nI 0) from rfl, key, obs]
/-- the rows i of table t from which one of the first j rows of the join comes -/
def GVN (A : aT) (t : Nat) (f : Nat → Nat → Nat) (j i : Nat) : Prop := ∃ j', j' < j ∧ ∀ c, c < (aL A t).length → f j' ((aL A t).getD c 0) = dgt c ((aK A t).getD i 0)
theorem c_given {ls : List Nat} {M R : gM} {A : aT} {J t : Nat} (hW : WF A) (hC : CT M 3 A) (o : OUT 18 ls M R J) (hJ : J ≤ 20736) (ht : t < A.1.length) (hu : A.2.1.testBit t = true) : ∃ B, B < 2 ^ (aK A t).length ∧ fX0_givenBits 18 3 (nI t) M = some (nI B) ∧ ∀ i, i < (aK A t).length → (B.testBit i = true ↔ GVN A t (rdg M 18) J i) := by
  have hn4 := hW.1
  have w := hW.2.2.2.2 t ht
  have w4 := w.2.2.2.1
  have hCt := (hC.2.2.2 t ht).2.2
  generalize hm : (aK A t).length = m at *
  have pm : 2 ^ m ≤ 2 ^ 12 := Nat.pow_le_pow_right (by decide) w4
  have pp : 0 < 2 ^ m := Nat.two_pow_pos m
  have key : T (lX0_givenBits_28 18 3 (nI t) (nI (2 ^ m - 1)) M (0, 0)) (fun r => ∃ B, B < 2 ^ m ∧ r = nI B ∧ ∀ i, i < m → (B.testBit i = true ↔ GVN A t (rdg M 18) J i)) := by
    unfold lX0_givenBits_28
    refine t_it (P := fun s => ∃ B j, B < 2 ^ m ∧ j ≤ J ∧ s = (nI B, nI j) ∧ ∀ i, i < m → (B.testBit i = true ↔ GVN A t (rdg M 18) j i)) (μ := fun s => 30000 - s.2.toInt.toNat) (fun s p => ?_) ⟨0, 0, pp, Nat.zero_le _, rfl, fun i hi => by
      rw [Nat.zero_testBit]
      exact ⟨fun z => absurd z (by decide), fun ⟨j, hj, _⟩ => absurd hj (Nat.not_lt_zero j)⟩⟩
    obtain ⟨B, j, hB, hj, rfl, hb⟩ := p
    dsimp only
    refine t_ite (fun c => ?_) (fun c => ?_)
    · rw [o.1] at c
      have := (nI_leI (by omega) (by omega)).mp c
      have : j = J := by omega
      subst this
      exact t_ret ⟨B, hB, rfl, hb⟩
    · rw [o.1] at c
      have c' := mt (nI_leI (by omega) (by omega)).mpr c
      have mu : 30000 - (nI j + 1).toInt.toNat < 30000 - (nI j).toInt.toNat := by rw [nI_1, nIt (by omega), nIt (by omega)]; omega
      refine t_ite (fun c1 => ?_) (fun c1 => ?_)
      · have e := nI_inj c1 (by omega) (by omega)
        refine t_ret ⟨B, hB, rfl, fun i hi => ?_⟩
        have full : B.testBit i = true := by rw [e, Nat.testBit_two_pow_sub_one]; exact decide_eq_true hi
        obtain ⟨j', h1, h2⟩ := (hb i hi).mp full
        exact ⟨fun _ => ⟨j', by omega, h2⟩, fun _ => full⟩
      · have od := o.dg (j := j) (by omega)
        have eR : fX1_rowAt 18 (nI j) M = some (nI (kn (M (18 + 3) j))) := by
          unfold fX1_rowAt
          rw [if_neg (show ¬ nI j < 0 from fun z => absurd ((nI_ltI (b := 0) (by omega) (by omega)).mp z) (by omega)), o.1, if_neg (show ¬ nI J ≤ nI j from fun z => absurd ((nI_leI (by omega) (by omega)).mp z) (by omega)), rI_n (by omega) (by omega), obs, ← od.1]
        refine t_be eR (t_be (c_rowWithin hW hC ht od.2.1) ?_)
        have dl : ∀ c, d4 ((aL A t).getD c 0) (kn (M (18 + 3) j)) < 128 := fun c => Nat.mod_lt _ (by decide)
        have kl := pK_lt (w := (aL A t).length) dl
        have eq : ∀ i, i < m → (pK (fun c => d4 ((aL A t).getD c 0) (kn (M (18 + 3) j))) (aL A t).length = (aK A t).getD i 0 ↔ ∀ c, c < (aL A t).length → rdg M 18 j ((aL A t).getD c 0) = dgt c ((aK A t).getD i 0)) := fun i hi => pK_eq dl w.1 (w.2.2.2.2.2 i (by omega))
        have gv : ∀ i, GVN A t (rdg M 18) (j + 1) i ↔ GVN A t (rdg M 18) j i ∨ ∀ c, c < (aL A t).length → rdg M 18 j ((aL A t).getD c 0) = dgt c ((aK A t).getD i 0) := fun i => by
          constructor
          · rintro ⟨j', h1, h2⟩
            rcases (by omega : j' < j ∨ j' = j) with z | rfl
            · exact Or.inl ⟨j', z, h2⟩
            · exact Or.inr h2
          · rintro (⟨j', h1, h2⟩ | h)
            · exact ⟨j', by omega, h2⟩
            · exact ⟨j, by omega, h⟩
        unfold bX0_givenBits_77
        rcases c_placeOf (by omega) (by omega) hCt kl (k_lt w) with ⟨x, x1, x2, x3⟩ | ⟨x1, x3⟩
        · refine t_be x3 ?_
          refine t_ite (fun z => absurd z (nI_ne1 (by omega))) (fun _ => ?_)
          rw [shl_n (by omega), fa_or]
          refine t_nx ⟨B ||| 2 ^ x, j + 1, Nat.or_lt_two_pow hB (Nat.pow_lt_pow_right (by decide) (by omega)), by omega, by rw [nI_1], fun i hi => ?_⟩ mu
          rw [or_tb, Bool.or_eq_true, hb i hi, gv i, decide_eq_true_eq]
          refine or_congr Iff.rfl ?_
          rw [← eq i hi, ← x2]
          constructor
          · intro z; rw [z]
          · intro z
            rcases Nat.lt_trichotomy x i with q | q | q
            · have := w.2.2.2.2.1 x i q (by omega); omega
            · exact q
            · have := w.2.2.2.2.1 i x q (by omega); omega
        · refine t_be x3 ?_
          refine t_ite (fun _ => ?_) (fun z => absurd rfl z)
          refine t_nx ⟨B, j + 1, hB, by omega, by rw [nI_1], fun i hi => ?_⟩ mu
          rw [hb i hi, gv i]
          refine ⟨Or.inl, fun z => ?_⟩
          rcases z with z | z
          · exact z
          · exact absurd ((eq i hi).mpr z).symm (x1 i (by omega))
  obtain ⟨r, er, B, hB, rfl, hb⟩ := key
  refine ⟨B, hB, ?_, hb⟩
  unfold fX0_givenBits
  rw [c_isUsed hW hC ht, obs, if_pos hu, if_neg n10, rI_n (by omega) (by omega), obs, show M (3 + 2) t = nI m from hm ▸ hCt.1, shl_n (by omega), nI_s1 (by omega), er, obs]
theorem n_isOf {R : gM} {A : aT} {t i j : Nat} (f : Nat → Nat) (hW : WF A) (hR : RT R (R 70) A) (ht : t < A.1.length) (hi : i < (aK A t).length) (hj : j < 20736) (hf : ∀ c, c < (aL A t).length → R 80 (4 * j + (aL A t).getD c 0) = nI (f ((aL A t).getD c 0)) ∧ f ((aL A t).getD c 0) < 128) : ∃ r, fX9_isOf (nI j) (nI t) (nI i) R = some r ∧ ((r = 1 ∧ ∀ c, c < (aL A t).length → f ((aL A t).getD c 0) = dgt c ((aK A t).getD i 0)) ∨ (r = 0 ∧ ¬ ∀ c, c < (aL A t).length → f ((aL A t).getD c 0) = dgt c ((aK A t).getD i 0))) := by
  have hn4 := hW.1
  have w := hW.2.2.2.2 t ht
  have w1 := w.1
  have w4 := w.2.2.2.1
  obtain ⟨e1, e2, _, e3⟩ := hR.2.2.2 t ht
  have key : T (lX9_isOf_6 (nI j) (nI t) (nI i) R (1, 0)) (fun r => (r = 1 ∧ ∀ c, c < (aL A t).length → f ((aL A t).getD c 0) = dgt c ((aK A t).getD i 0)) ∨ (r = 0 ∧ ¬ ∀ c, c < (aL A t).length → f ((aL A t).getD c 0) = dgt c ((aK A t).getD i 0))) := by
    unfold lX9_isOf_6
    refine t_it (P := fun s => ∃ x, x ≤ (aL A t).length ∧ s.2 = nI x ∧ ((s.1 = 1 ∧ ∀ c, c < x → f ((aL A t).getD c 0) = dgt c ((aK A t).getD i 0)) ∨ (s.1 = 0 ∧ ¬ ∀ c, c < (aL A t).length → f ((aL A t).getD c 0) = dgt c ((aK A t).getD i 0)))) (μ := fun s => 20 - s.2.toInt.toNat) (fun s p => ?_) ⟨0, by omega, rfl, Or.inl ⟨rfl, fun c hc => absurd hc (Nat.not_lt_zero c)⟩⟩
    obtain ⟨s1, s2⟩ := s
    obtain ⟨x, hx, h1, h2⟩ := p
    dsimp only at h1 h2
    subst h1
    dsimp only
    refine t_be (rI_n (by omega) (by omega)) ?_
    rw [e1]
    refine t_ite (fun d => ?_) (fun d => ?_)
    · have d := (nI_leI (by omega) (by omega)).mp d
      have : x = (aL A t).length := by omega
      subst this
      exact t_ret h2
    · have d := mt (nI_leI (a := (aL A t).length) (b := x) (by omega) (by omega)).mpr d
      have mu : 20 - (nI x + 1).toInt.toNat < 20 - (nI x).toInt.toNat := by rw [nI_1, nIt (by omega), nIt (by omega)]; omega
      unfold bX9_isOf_58 bX9_isOf_59
      refine t_ite (fun c => ?_) (fun c => ?_)
      · refine t_nx ⟨x + 1, by omega, nI_1 _, Or.inr ⟨rfl, ?_⟩⟩ mu
        rcases h2 with ⟨z, _⟩ | ⟨_, z⟩
        · rw [c] at z; exact absurd z (by decide)
        · exact z
      · have h2 : ∀ c, c < x → f ((aL A t).getD c 0) = dgt c ((aK A t).getD i 0) := by
          rcases h2 with ⟨_, z⟩ | ⟨z, _⟩
          · exact z
          · exact absurd z c
        have l4 := w.2.1 x (by omega)
        obtain ⟨f1, f2⟩ := hf x (by omega)
        rw [L3, nI_mul, nI_add]
        refine t_be (rI_n (by omega) (by omega)) ?_
        rw [e2 x (by omega)]
        refine t_be (n_numberOf hj l4) (t_be (n_rowAt t i) ?_)
        rw [f1, nI_add]
        refine t_be (rI_n (by omega) (by omega)) ?_
        rw [e3 i hi x (by omega), if_pos (show x < (aL A t).length by omega)]
        have kk := (w.2.2.2.2.2 i hi).d (c := x)
        refine t_ite (fun c => ?_) (fun c => ?_)
        · have c := nI_inj c (by omega) (by omega)
          refine t_nx ⟨x + 1, by omega, nI_1 _, Or.inl ⟨rfl, fun y hy => ?_⟩⟩ mu
          rcases (by omega : y < x ∨ y = x) with z | rfl
          · exact h2 y z
          · exact c
        · exact t_nx ⟨x + 1, by omega, nI_1 _, Or.inr ⟨rfl, fun z => c (by rw [z x (by omega)])⟩⟩ mu
  obtain ⟨r, er, q⟩ := key
  unfold fX9_isOf
  rw [er, obs]
  rcases q with ⟨rfl, q⟩ | ⟨rfl, q⟩
  · exact ⟨1, rfl, Or.inl ⟨rfl, q⟩⟩
  · exact ⟨0, rfl, Or.inr ⟨rfl, q⟩⟩
theorem n_given {R : gM} {A : aT} {t J : Nat} (f : Nat → Nat → Nat) (hW : WF A) (hR : RT R (R 70) A) (hJ : J ≤ 20736) (eJ : R 62 26 = nI J) (ht : t < A.1.length) (hu : A.2.1.testBit t = true) (hf : ∀ j, j < J → ∀ c, c < (aL A t).length → R 80 (4 * j + (aL A t).getD c 0) = nI (f j ((aL A t).getD c 0)) ∧ f j ((aL A t).getD c 0) < 128) : ∃ B, B < 2 ^ (aK A t).length ∧ fX9_givenBy (nI t) R = some (nI B) ∧ ∀ i, i < (aK A t).length → (B.testBit i = true ↔ GVN A t f J i) := by
  have hn4 := hW.1
  have w := hW.2.2.2.2 t ht
  have w4 := w.2.2.2.1
  have hRt := (hR.2.2.2 t ht).2.2
  have pm : 2 ^ (aK A t).length ≤ 2 ^ 12 := Nat.pow_le_pow_right (by decide) w4
  have key : T (lX9_givenBy_4 (nI t) R (0, 0)) (fun r => ∃ B, B < 2 ^ (aK A t).length ∧ r = nI B ∧ ∀ i, i < (aK A t).length → (B.testBit i = true ↔ GVN A t f J i)) := by
    unfold lX9_givenBy_4
    refine t_it (P := fun s => ∃ B x, x ≤ (aK A t).length ∧ B < 2 ^ x ∧ s = (nI B, nI x) ∧ ∀ i, i < x → (B.testBit i = true ↔ GVN A t f J i)) (μ := fun s => 30 - s.2.toInt.toNat) (fun s p => ?_) ⟨0, 0, Nat.zero_le _, by decide, rfl, fun i hi => absurd hi (Nat.not_lt_zero i)⟩
    obtain ⟨B, x, hx, hB, rfl, hb⟩ := p
    dsimp only
    refine t_be (n_many (by omega) R) ?_
    rw [hRt.1]
    refine t_ite (fun c => ?_) (fun c => ?_)
    · have := (nI_leI (by omega) (by omega)).mp c
      have : x = (aK A t).length := by omega
      subst this
      exact t_ret ⟨B, hB, rfl, hb⟩
    · have c' := mt (nI_leI (a := (aK A t).length) (b := x) (by omega) (by omega)).mpr c
      have mu : 30 - (nI x + 1).toInt.toNat < 30 - (nI x).toInt.toNat := by rw [nI_1, nIt (by omega), nIt (by omega)]; omega
      refine t_be (n_usedK hW hR (by omega)) ?_
      rw [if_pos hu]
      refine t_ite (fun z => absurd z n10) (fun _ => ?_)
      have px : 2 ^ x ≤ 2 ^ 12 := Nat.pow_le_pow_right (by decide) (by omega)
      have nb : B.testBit x = false := Nat.testBit_lt_two_pow hB
      have px1 : 2 ^ (x + 1) = 2 ^ x * 2 := Nat.pow_succ _ _
      refine t_bind (P := fun r => ∃ B', B' < 2 ^ (x + 1) ∧ r = nI B' ∧ (∀ i, i < x → B'.testBit i = B.testBit i) ∧ (B'.testBit x = true ↔ GVN A t f J x)) ?_ (fun r hr => ?_)
      · unfold lX9_givenBy_24
        refine t_it (P := fun s => ∃ B' j, j ≤ J ∧ B' < 2 ^ (x + 1) ∧ s = (nI B', nI j) ∧ (∀ i, i < x → B'.testBit i = B.testBit i) ∧ (B'.testBit x = true ↔ GVN A t f j x)) (μ := fun s => 30000 - s.2.toInt.toNat) (fun s p => ?_) ⟨B, 0, Nat.zero_le _, by omega, rfl, fun _ _ => rfl, by
          rw [nb]
          exact ⟨fun z => absurd z (by decide), fun ⟨j, hj, _⟩ => absurd hj (Nat.not_lt_zero j)⟩⟩
        obtain ⟨B', j, hj, hB', rfl, b1, b2⟩ := p
        dsimp only
        refine t_ite (fun c => ?_) (fun c => ?_)
        · rw [eJ] at c
          have := (nI_leI (by omega) (by omega)).mp c
          have : j = J := by omega
          subst this
          exact t_ret ⟨B', hB', rfl, b1, b2⟩
        · rw [eJ] at c
          have cj := mt (nI_leI (by omega) (by omega)).mpr c
          have mu2 : 30000 - (nI j + 1).toInt.toNat < 30000 - (nI j).toInt.toNat := by rw [nI_1, nIt (by omega), nIt (by omega)]; omega
          by_cases b : B'.testBit x = true
          · refine t_be (n_has1 ((has_bit (by omega) (by omega)).mpr b)) ?_
            refine t_ite (fun z => absurd z (by decide)) (fun _ => ?_)
            obtain ⟨j', z1, z2⟩ := b2.mp b
            exact t_ret ⟨B', hB', rfl, b1, fun _ => ⟨j', by omega, z2⟩, fun _ => b⟩
          · refine t_be (n_has0 (mt (has_bit (by omega) (by omega)).mp b)) ?_
            refine t_ite (fun _ => ?_) (fun z => absurd rfl z)
            obtain ⟨r, er, q⟩ := n_isOf (f j) hW hR ht (i := x) (j := j) (by omega) (by omega) (hf j (by omega))
            refine t_be er ?_
            unfold bX9_givenBy_60
            rcases q with ⟨rfl, q⟩ | ⟨rfl, q⟩
            · refine t_ite (fun z => absurd z (by decide)) (fun _ => ?_)
              rw [shl_n (by omega), fa_or]
              refine t_nx ⟨B' ||| 2 ^ x, j + 1, by omega, Nat.or_lt_two_pow hB' (by omega), by rw [nI_1], fun i hi => ?_, ?_⟩ mu2
              · rw [or_tb, show decide (x = i) = false from decide_eq_false (by omega), Bool.or_false]; exact b1 i hi
              · rw [or_tb, show decide (x = x) = true from decide_eq_true rfl, Bool.or_true]
                exact ⟨fun _ => ⟨j, by omega, q⟩, fun _ => rfl⟩
            · refine t_ite (fun _ => ?_) (fun z => absurd rfl z)
              refine t_nx ⟨B', j + 1, by omega, hB', by rw [nI_1, show (0 : Int32) = nI 0 from rfl, fa_or, Nat.or_zero], b1, ?_⟩ mu2
              refine ⟨fun z => absurd z b, fun ⟨j', z1, z2⟩ => ?_⟩
              rcases (by omega : j' < j ∨ j' = j) with z | rfl
              · exact b2.mpr ⟨j', z, z2⟩
              · exact absurd z2 q
      · obtain ⟨B', g1, rfl, g2, g3⟩ := hr
        unfold bX9_givenBy_68
        refine t_nx ⟨B', x + 1, by omega, g1, by rw [nI_1], fun i hi => ?_⟩ mu
        rcases (by omega : i < x ∨ i = x) with z | rfl
        · rw [g2 i z]; exact hb i z
        · exact g3
  obtain ⟨r, er, B, hB, rfl, hb⟩ := key
  unfold fX9_givenBy
  rw [er, obs]
  exact ⟨B, hB, rfl, hb⟩
/-- of a table that is not used no row is given -/
theorem c_given0 {M : gM} {A : aT} {t : Nat} (hW : WF A) (hC : CT M 3 A) (ht : t < A.1.length) (hu : ¬ A.2.1.testBit t = true) : fX0_givenBits 18 3 (nI t) M = some 0 := by
  unfold fX0_givenBits
  rw [c_isUsed hW hC ht, obs, if_neg hu, if_pos rfl]
theorem n_given0 {R : gM} {A : aT} {t : Nat} (hW : WF A) (hR : RT R (R 70) A) (ht : t < A.1.length) (hu : ¬ A.2.1.testBit t = true) : fX9_givenBy (nI t) R = some 0 := by
  have hn4 := hW.1
  have hRt := (hR.2.2.2 t ht).2.2
  have e : lX9_givenBy_4 (nI t) R (0, 0) = some 0 := by
    unfold lX9_givenBy_4
    refine it_r ?_
    dsimp only
    rw [n_many (by omega) R, obs]
    by_cases c : R 70 (2 + t) ≤ 0
    · rw [if_pos c]
    · rw [if_neg c, n_usedK hW hR (by omega), obs, if_neg hu, if_pos rfl]
  unfold fX9_givenBy
  rw [e, obs]
/-- given(t) of both, in the memory of the class and behind a join of the reference -/
theorem two_given {R0 R' M : gM} {A : aT} {J t : Nat} (hW : WF A) (hC : CT M 3 A) (M1 : MI false R0 R') (G1 : GJ9 R') (A1 : A9 R') (R1 : RT R' (R' 70) A) (o : OUT 18 (fl4 A.2.2 (asA A)) M R' J) (hJ : J ≤ 20736) (ht : t < A.1.length) : ∃ B, fX0_givenBits 18 3 (nI t) M = some (nI B) ∧ fX9_givenBy (nI t) R' = some (nI B) ∧ B < 2 ^ (aK A t).length := by
  by_cases hu : A.2.1.testBit t = true
  · obtain ⟨B, b1, b2, b3⟩ := c_given hW hC o hJ ht hu
    obtain ⟨B', b1', b2', b3'⟩ := n_given (rdg M 18) hW R1 hJ o.2.1 ht hu (fun j hj c hc => by
      have := d99 M1 G1 A1 hW R1 o hJ ((hW.2.2.2.2 t ht).2.1 c hc) (asA_of ht hu hc) hj
      exact ⟨this.1, by omega⟩)
    have : B = B' := Nat.eq_of_testBit_eq (fun i => by
      by_cases hi : i < (aK A t).length
      · rw [Bool.eq_iff_iff, b3 i hi, b3' i hi]
      · have p : 2 ^ (aK A t).length ≤ 2 ^ i := Nat.pow_le_pow_right (by decide) (by omega)
        rw [Nat.testBit_lt_two_pow (by omega), Nat.testBit_lt_two_pow (by omega)])
    subst this
    exact ⟨B, b2, b2', b1⟩
  · exact ⟨0, c_given0 hW hC ht hu, n_given0 hW R1 ht hu, Nat.two_pow_pos _⟩
/-- what the reference holds behind a join of the same tables -/
theorem cur_more {I R R0 R' : gM} {A : aT} (hW : WF A) (hA : A9 R) (hR : RT R (R 70) A) (fR : ∀ k, k ≠ 62 → k ≠ 74 → k ≠ 75 → k ≠ 76 → k ≠ 77 → k ≠ 78 → k ≠ 79 → k ≠ 80 → R' k = R k) (fj : ∀ j, j ≠ 19 → j ≠ 26 → j ≠ 27 → R' 62 j = R 62 j) : A9 R' ∧ RT R' (R' 70) A := by
  refine ⟨hA.join fR fj, ?_⟩
  rw [fR 70 (by omega) (by omega) (by omega) (by omega) (by omega) (by omega) (by omega) (by omega)]
  exact hR.cong (fj 17 (by omega) (by omega) (by omega)) (fR 72 (by omega) (by omega) (by omega) (by omega) (by omega) (by omega) (by omega) (by omega)) (fR 73 (by omega) (by omega) (by omega) (by omega) (by omega) (by omega) (by omega) (by omega)) hW.1 hW.k12 (fun _ _ => rfl)
theorem eq_given {I : gM} (h : InvB I) {v : Int32} {a : Int32} {b : Int32 × gM} (e1 : fX8_given v I = some a) (e2 : fX9_given v I = some b) : a = b.1 := by
  obtain ⟨A, hW, hC, hR⟩ := h.tab
  unfold fX8_given at e1
  unfold fX9_given at e2
  rcases c_isTable hW.1 hC.1 v with ⟨t, t1, rfl, z1⟩ | ⟨t1, z1⟩
  · rcases n_isTable hW.1 hR.1 (nI t) with ⟨t', t1', _, z2⟩ | ⟨t1', z2⟩
    · rw [z1, obs, if_neg (by decide)] at e1
      rw [z2, obs, if_neg (by decide)] at e2
      obtain ⟨R', J, ej, o, hJ, hS, hQ, hll, M1, G1, fR, fj⟩ := cur_two h hW (by omega) hC h.mi hR
      obtain ⟨A1, R1⟩ := cur_more (I := I) (R0 := I) hW h.1.2.1 hR fR fj
      obtain ⟨B, b1, b2, _⟩ := two_given hW hC M1 G1 A1 R1 o hJ t1
      rw [b1, obs] at e1
      rw [ej, obs, b2, obs] at e2
      cases e1; cases e2; rfl
    · exact absurd rfl (t1' t t1)
  · rcases n_isTable hW.1 hR.1 v with ⟨t', t1', q, z2⟩ | ⟨t1', z2⟩
    · exact absurd q (t1 t' t1')
    · rw [z1, obs, if_pos rfl] at e1
      rw [z2, obs, if_pos rfl] at e2
      cases e1; cases e2; rfl
