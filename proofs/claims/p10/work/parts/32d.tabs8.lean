/-! the class reads clauses -/
/-- what reading a clause ends in -/
def CR (w : Nat → Int32) (n t : Nat) (sp : Option ((List Nat × List (List Nat)) × Nat)) (r : Int32 × gM) : Prop :=
  (∃ x, sp = some x ∧ r.1 = 1 ∧ r.2 8 0 = nI (t + 1) ∧ ∃ p', C8 r.2 w n p' ∧ sk w n p' = sk w n x.2) ∨ (sp = none ∧ (r.1 = 0 ∨ (r.1 = 1 ∧ BS r.2 w n)))
noncomputable def kCl (t : Nat) : (gM ⊕ (gM ⊕ gM)) → Option (Int32 × gM) := fun w14 => Sum.elim (fun w14_0 => some ((0 : Int32), w14_0)) (Sum.elim (fun w14_1 => some ((1 : Int32), w14_1)) (fun w14_2 => (fX6_isRow 8 (nI t) w14_2).bind fun r15 => (bO r15.1).bind fun u16 => some (u16, r15.2))) w14
theorem BS.mv {M : gM} {w : Nat → Int32} {n : Nat} (h : BS M w n) : ∃ q, fX6_peek M = some (hr w n q, M) ∧ dg (hr w n q) ∧ C8 M w n q := by
  obtain ⟨q, h1, h2⟩ := h
  refine ⟨q, ?_, h2, h1⟩
  rw [c_peek h1, sk_dg h2, P6_same h1.2.2.1]
theorem c_rowsGo {w : Nat → Int32} {n t : Nat} {ls : List Nat} (ht : t < 4) (h1 : 1 ≤ ls.length) (h3 : ls.length ≤ 3) : ∀ (k : Nat) (rs : List (List Nat)) (p : Nat) (M : gM) (r : Int32 × gM), 1 ≤ k → k ≤ 12 → C8 M w n p → M 9 t = nI ls.length → M 8 0 = nI (t + 1) →
    (lX6_isClause_114 8 (nI t) (nI (13 - k), M)).bind (kCl t) = some r → CR w n t ((pRows w n ls.length k rs p).bind fun y => some ((ls, y.1), y.2)) r := by
  intro k
  induction k with
  | zero => intro rs p M r h; omega
  | succ k ih =>
    intro rs p M r _ hk hT e9 e8 h
    have fr : ∀ {r1 : Int32 × gM}, fX6_isRow 8 (nI t) M = some r1 → r1.2 9 t = nI ls.length ∧ r1.2 8 0 = nI (t + 1) := fun e => ⟨(xfX6_isRow _ _ _ e 9 t (Or.inl (by decide)) (by decide) (by decide)).trans e9, (xfX6_isRow _ _ _ e 8 0 (Or.inl (by decide)) (by decide) (by decide)).trans e8⟩
    by_cases k0 : k = 0
    · subst k0
      unfold lX6_isClause_114 at h
      rw [itO_eq] at h; dsimp only at h
      rw [if_pos (by decide), obs] at h
      change ((fX6_isRow 8 (nI t) M).bind fun r15 => (bO r15.1).bind fun u16 => some (u16, r15.2)) = some r at h
      obtain ⟨r1, e1, h⟩ := ob h
      have f := fr e1
      unfold pRows
      rcases c_isRow hT ht e9 h1 h3 e1 with ⟨x, s1, s2, s3⟩ | ⟨s1, s2 | ⟨s2, s3⟩⟩
      · rw [s2, bO_1, obs] at h
        cases h
        rw [s1, obs, if_neg (fun z => z.2 rfl), obs]
        exact Or.inl ⟨_, rfl, rfl, f.2, x.2, s3, (sk_sk s3.2.2.2.1).symm⟩
      · rw [s2, bO_0, obs] at h
        cases h
        rw [s1]
        exact Or.inr ⟨rfl, Or.inl rfl⟩
      · rw [s2, bO_1, obs] at h
        cases h
        rw [s1]
        exact Or.inr ⟨rfl, Or.inr ⟨rfl, s3⟩⟩
    · unfold lX6_isClause_114 at h
      rw [itO_eq] at h; dsimp only at h
      rw [L12, if_neg (mt (nI_leI (by omega) (by omega)).mp (by omega))] at h
      obtain ⟨y, ey, h⟩ := ob h
      obtain ⟨z, ez, ey⟩ := ob ey
      obtain ⟨r1, e1, ez⟩ := ob ez
      have f := fr e1
      unfold pRows
      rcases c_isRow hT ht e9 h1 h3 e1 with ⟨x, s1, s2, s3⟩ | ⟨s1, s2 | ⟨s2, s3⟩⟩
      · rw [if_neg (show ¬ r1.1 = 0 by rw [s2]; exact n10), c_peek s3, obs] at ez
        dsimp only at ez
        rw [s1, obs]
        have hs := sk_le (w := w) s3.2.2.2.1
        by_cases c : hr w n (sk w n x.2) = 47
        · have l1 := hr_lt (w := w) (n := n) (p := sk w n x.2) (by rw [c]; decide)
          rw [if_pos c, pU_n, obs, P6_2, nI_1, nI_1, P6_pU] at ez
          cases ez
          rw [if_pos ⟨c, k0⟩]
          refine ih (rs ++ [x.1]) (sk w n x.2 + 1) (P6 r1.2 (sk w n x.2 + 1)) r (by omega) (by omega) (s3.at (by omega)) (by rw [P6_k (by decide)]; exact f.1) (by rw [P6_k (by decide)]; exact f.2) ?_
          change itO _ (nI (13 - (k + 1) + 1), _) = some y at ey
          rw [show 13 - (k + 1) + 1 = 13 - k by omega] at ey
          exact (congrArg (fun o => Option.bind o (kCl t)) ey).trans h
        · rw [if_neg c] at ez
          cases ez
          cases ey
          change some ((1 : Int32), P6 r1.2 (sk w n x.2)) = some r at h
          cases h
          rw [if_neg (fun z => c z.1), obs]
          exact Or.inl ⟨_, rfl, rfl, by dsimp only; rw [P6_k (by decide)]; exact f.2, sk w n x.2, s3.at hs.2, rfl⟩
      · rw [if_pos s2] at ez
        cases ez
        cases ey
        change some ((0 : Int32), r1.2) = some r at h
        cases h
        rw [s1]
        exact Or.inr ⟨rfl, Or.inl rfl⟩
      · obtain ⟨q, b1, b2, b3⟩ := s3.mv
        rw [if_neg (show ¬ r1.1 = 0 by rw [s2]; exact n10), b1, obs] at ez
        dsimp only at ez
        rw [if_neg (fun z => by rw [z] at b2; exact absurd b2 (by decide))] at ez
        cases ez
        cases ey
        change some ((1 : Int32), r1.2) = some r at h
        cases h
        rw [s1]
        exact Or.inr ⟨rfl, Or.inr ⟨rfl, q, b3, b2⟩⟩
/-- behind the letters -/
theorem c_tail {w : Nat → Int32} {n p t : Nat} {ls : List Nat} {M : gM} {r : Int32 × gM} (ht : t < 4) (h3 : ls.length ≤ 3) (hT : C8 M w n p) (e9 : M 9 t = nI ls.length) (e8 : M 8 0 = nI (t + 1)) (h : bX6_isClause_66 8 (nI t) M = some r) :
    (¬ (ls ≠ [] ∧ hr w n (sk w n p) = 58) ∧ r.1 = 0) ∨ (ls ≠ [] ∧ hr w n (sk w n p) = 58 ∧ CR w n t (if dg (hr w n (sk w n (sk w n p + 1))) then (pRows w n ls.length 12 [] (sk w n (sk w n p + 1))).bind fun y => some ((ls, y.1), y.2) else some ((ls, []), sk w n (sk w n p + 1))) r) := by
  have hs := sk_le (w := w) hT.2.2.2.1
  unfold bX6_isClause_66 at h
  rw [if_neg (show ¬ nI t < 0 by rw [L0]; exact mt (nI_ltI (by omega) (by omega)).mp (by omega)), rI_n (by omega) (by omega), obs, e9] at h
  by_cases c1 : ls = []
  · rw [c1, if_pos (show nI ([] : List Nat).length = 0 from rfl)] at h
    cases h
    exact Or.inl ⟨fun z => z.1 c1, rfl⟩
  · have l1 : 1 ≤ ls.length := by
      rcases Nat.eq_zero_or_pos ls.length with z | z
      · exact absurd (List.eq_nil_of_length_eq_zero z) c1
      · exact z
    rw [if_neg (show ¬ nI ls.length = 0 from fun z => by have := nI_inj (b := 0) z (by omega) (by omega); omega), c_peek hT, obs] at h
    dsimp only at h
    by_cases c2 : hr w n (sk w n p) = 58
    · have l2 := hr_lt (w := w) (n := n) (p := sk w n p) (by rw [c2]; decide)
      have hT2 := hT.at (q := sk w n p + 1) (by omega)
      have hs2 := sk_le (w := w) hT2.2.2.2.1
      rw [if_pos c2, pU_n, obs, P6_2, nI_1, P6_pU, c_peek hT2, obs] at h
      dsimp only at h
      rw [n_isDigit6, obs, P6_P6] at h
      refine Or.inr ⟨c1, c2, ?_⟩
      by_cases c3 : dg (hr w n (sk w n (sk w n p + 1)))
      · rw [if_pos c3, if_neg n10] at h
        rw [if_pos c3]
        exact c_rowsGo ht l1 h3 12 [] _ (P6 M (sk w n (sk w n p + 1))) r (by omega) (by omega) (hT.at hs2.2) (by rw [P6_k (by decide)]; exact e9) (by rw [P6_k (by decide)]; exact e8) h
      · rw [if_neg c3, if_pos rfl] at h
        cases h
        rw [if_neg c3]
        exact Or.inl ⟨_, rfl, rfl, by dsimp only; rw [P6_k (by decide)]; exact e8, _, hT.at hs2.2, rfl⟩
    · rw [if_neg c2] at h
      cases h
      exact Or.inl ⟨fun z => c2 z.2, rfl⟩
/-- the letters told so far -/
def LsC (M : gM) (t : Nat) (ls : List Nat) : Prop := M 9 t = nI ls.length ∧ M 8 0 = nI (t + 1) ∧ ∀ c, c < ls.length → M 11 (3 * t + c) = nI (ls.getD c 0)
theorem c_columnOf {M : gM} {t l : Nat} {ls : List Nat} (ht : t < 4) (h3 : ls.length ≤ 3) (hL : LsC M t ls) (hl : l ≤ 3) (hls : ∀ x, x ∈ ls → x ≤ 3) : (l ∈ ls ∧ ∃ i, i < 3 ∧ fX5_columnOf 8 (nI t) (nI l) M = some (nI i)) ∨ (l ∉ ls ∧ fX5_columnOf 8 (nI t) (nI l) M = some (-1)) := by
  obtain ⟨e9, e8, e11⟩ := hL
  have key : T (lX5_columnOf_2 8 (nI t) (nI l) M (nI 0)) (Sum.elim (fun r => l ∈ ls ∧ ∃ i, i < 3 ∧ r = nI i) (fun _ : Unit => l ∉ ls)) := by
    unfold lX5_columnOf_2
    refine t_it (P := fun s => ∃ i, s = nI i ∧ i ≤ ls.length ∧ ∀ c, c < i → ls.getD c 0 ≠ l) (μ := fun s => 20 - s.toInt.toNat) (fun s p => ?_) ⟨0, rfl, by omega, fun c hc => by omega⟩
    obtain ⟨i, rfl, hi, hn⟩ := p
    refine t_be (rI_n (by omega) (by omega)) ?_
    rw [e9]
    refine t_ite (fun c => ?_) (fun c => ?_)
    · have c := (nI_leI (by omega) (by omega)).mp c
      refine t_ret (show l ∉ ls from fun z => ?_)
      obtain ⟨j, hj, ej⟩ := List.getElem_of_mem z
      refine hn j (by omega) ?_
      rw [List.getD_eq_getElem?_getD, List.getElem?_eq_getElem hj]; exact ej
    · have c := mt (nI_leI (a := ls.length) (b := i) (by omega) (by omega)).mpr c
      have hm : ls.getD i 0 ∈ ls := by rw [List.getD_eq_getElem?_getD, List.getElem?_eq_getElem (by omega)]; exact List.getElem_mem _
      have hx := hls _ hm
      rw [L3, nI_mul, nI_add]
      refine t_be (rI_n (by omega) (by omega)) ?_
      rw [show t * 3 + i = 3 * t + i by omega, e11 i (by omega)]
      refine t_ite (fun z => ?_) (fun z => ?_)
      · have z := nI_inj z (by omega) (by omega)
        exact t_ret (show l ∈ ls ∧ ∃ j, j < 3 ∧ nI i = nI j from ⟨z ▸ hm, i, by omega, rfl⟩)
      · rw [nI_1]
        refine t_nx ?_ (show 20 - (nI (i + 1)).toInt.toNat < 20 - (nI i).toInt.toNat by rw [nIt (by omega), nIt (by omega)]; omega)
        refine ⟨i + 1, rfl, by omega, fun c hc => ?_⟩
        by_cases d : c = i
        · rw [d]; exact fun y => z (by rw [y])
        · exact hn c (by omega)
  unfold fX5_columnOf
  obtain ⟨r, er, h⟩ := key
  rw [show (0 : Int32) = nI 0 from rfl, er, obs]
  cases r with
  | inl r =>
    obtain ⟨h1, i, hi, e⟩ := h
    exact Or.inl ⟨h1, i, hi, by rw [← e]; rfl⟩
  | inr r => exact Or.inr ⟨h, rfl⟩
theorem c_addLetter {M : gM} {t l : Nat} {ls : List Nat} (ht : t < 4) (h3 : ls.length ≤ 3) (hL : LsC M t ls) (hl : l ≤ 3) (hls : ∀ x, x ∈ ls → x ≤ 3) :
    ((ls.length = 3 ∨ l ∈ ls) ∧ fX5_addLetter 8 (nI l) M = some (0, M)) ∨ (¬ (ls.length = 3 ∨ l ∈ ls) ∧ ∃ N, fX5_addLetter 8 (nI l) M = some (1, N) ∧ LsC N t (ls ++ [l])) := by
  obtain ⟨e9, e8, e11⟩ := hL
  have em : M 8 0 - 1 = nI t := by rw [e8, nI_s1 (by omega), Nat.add_sub_cancel]
  unfold fX5_addLetter fX5_isTable
  rw [em, if_neg (show ¬ nI t < 0 by rw [L0]; exact mt (nI_ltI (by omega) (by omega)).mp (by omega)), e8, if_neg (mt (nI_leI (by omega) (by omega)).mp (by omega)), obs, if_neg n10, rI_n (by omega) (by omega), obs, e9]
  by_cases c1 : ls.length = 3
  · rw [L3, if_pos ((nI_leI (by omega) (by omega)).mpr (by omega))]
    exact Or.inl ⟨Or.inl c1, rfl⟩
  · rw [L3, if_neg (mt (nI_leI (by omega) (by omega)).mp (by omega))]
    rcases c_columnOf (l := l) ht h3 ⟨e9, e8, e11⟩ hl hls with ⟨m1, i, hi, e⟩ | ⟨m1, e⟩
    · rw [e, obs, if_neg (nI_m1 (by omega))]
      exact Or.inl ⟨Or.inr m1, rfl⟩
    · rw [e, obs, if_pos rfl, obs, nI_mul, nI_add, wI_n (by omega) (by omega), obs, g_up_row (show 9 ≠ 11 by decide), rI_n (by omega) (by omega), obs, e9, nI_1, wI_n (by omega) (by omega), obs]
      refine Or.inr ⟨fun z => z.elim c1 m1, _, rfl, ?_, ?_, fun c hc => ?_⟩
      · rw [g_up_self, List.length_append]; rfl
      · rw [g_up_row (by decide), g_up_row (by decide)]; exact e8
      · rw [List.length_append] at hc
        have hc : c < ls.length + 1 := hc
        rw [g_up_row (by decide), gu_in]
        by_cases d : c = ls.length
        · rw [if_pos (by omega), d, List.getD_eq_getElem?_getD, List.getElem?_append_right (Nat.le_refl _), Nat.sub_self]; rfl
        · rw [if_neg (by omega), e11 c (by omega), List.getD_eq_getElem?_getD, List.getD_eq_getElem?_getD, List.getElem?_append_left (by omega)]
