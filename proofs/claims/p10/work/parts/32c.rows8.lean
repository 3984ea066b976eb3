/-! the class reads rows -/
theorem sk_dg {w : Nat → Int32} {n p : Nat} (h : dg (hr w n p)) : sk w n p = p := by
  rw [sk, if_neg]
  intro z
  have := hr32.mpr z
  rw [this] at h
  exact absurd h (by decide)
/-- the reading stands at a digit behind a number -/
def BS (M : gM) (w : Nat → Int32) (n : Nat) : Prop := ∃ q, C8 M w n q ∧ dg (hr w n q)
noncomputable def kRw (t : Nat) : ((Int32 × Int32 × gM) ⊕ (gM ⊕ (gM ⊕ (Int32 × gM)))) → Option (gM ⊕ (gM ⊕ (Int32 × gM))) := fun y => Sum.elim (fun s' => lX6_isRow_5 8 (nI t) s') (fun r => some r) y
def FR (o : Option (gM ⊕ (gM ⊕ (Int32 × gM)))) : Prop := ∃ m, o = some (.inl m) ∨ o = some (.inr (.inl m))
theorem cr_end {M : gM} {t wd k : Nat} {ρ : Int32} (ht : t < 4) (e : M 9 t = nI wd) (hw : wd ≤ 3) (hk : k ≤ 3) (h : wd ≤ k) : lX6_isRow_5 8 (nI t) (ρ, nI k, M) = some (.inr (.inr (ρ, M))) := by
  unfold lX6_isRow_5
  rw [itO_eq]; dsimp only
  rw [rI_n (by omega) (by omega), obs, e, if_pos ((nI_leI (by omega) (by omega)).mpr h), obs]; rfl
theorem cr_0 {M : gM} {t wd : Nat} {ρ : Int32} (ht : t < 4) (e : M 9 t = nI wd) (hw : wd ≤ 3) (h : 1 ≤ wd) : lX6_isRow_5 8 (nI t) (ρ, nI 0, M) = (bX6_isRow_42 ρ (nI 0) M).bind (kRw t) := by
  conv => lhs; unfold lX6_isRow_5
  rw [itO_eq]; dsimp only
  rw [rI_n (by omega) (by omega), obs, e, if_neg (mt (nI_leI (by omega) (by omega)).mp (by omega)), if_pos (by decide)]; rfl
theorem cr_k {M : gM} {w : Nat → Int32} {n p t wd k : Nat} {ρ : Int32} (hT : C8 M w n p) (ht : t < 4) (e : M 9 t = nI wd) (hw : wd ≤ 3) (h1 : 1 ≤ k) (h : k < wd) :
    (∃ q, pMust w n 44 p = some q ∧ q ≤ n ∧ lX6_isRow_5 8 (nI t) (ρ, nI k, M) = (bX6_isRow_42 ρ (nI k) (P6 M q)).bind (kRw t)) ∨ (pMust w n 44 p = none ∧ FR (lX6_isRow_5 8 (nI t) (ρ, nI k, M))) := by
  have hs := sk_le (w := w) hT.2.2.2.1
  have hn := hT.2.1
  unfold pMust
  unfold lX6_isRow_5
  rw [itO_eq]; dsimp only
  rw [rI_n (by omega) (by omega), obs, e, if_neg (mt (nI_leI (by omega) (by omega)).mp (by omega)), L0, if_neg (mt (nI_leI (by omega) (by omega)).mp (by omega)), c_peek hT, obs]
  dsimp only
  by_cases c : hr w n (sk w n p) = 44
  · have l1 := hr_lt (w := w) (n := n) (p := sk w n p) (by rw [c]; decide)
    rw [if_pos c, if_pos c, pU_n, obs, P6_2, nI_1, P6_pU]
    exact Or.inl ⟨_, rfl, by omega, rfl⟩
  · rw [if_neg c, if_neg c, obs]
    exact Or.inr ⟨rfl, P6 M (sk w n p), Or.inl rfl⟩
theorem c_col {M : gM} {w : Nat → Int32} {n p t k : Nat} {ρ : Int32} (hT : C8 M w n p) : (∃ x, cNum w n p = some x ∧ ∃ ρ', (bX6_isRow_42 ρ (nI k) M).bind (kRw t) = lX6_isRow_5 8 (nI t) (ρ', nI (k + 1), P6 M x.2)) ∨ (cNum w n p = none ∧ FR ((bX6_isRow_42 ρ (nI k) M).bind (kRw t))) := by
  unfold bX6_isRow_42
  rcases c_number hT with ⟨x, e1, e2⟩ | ⟨e1, e2⟩
  · have := cNum_le e1
    refine Or.inl ⟨x, e1, ρ ||| (nI x.1 <<< (((14 : Int32) - ((7 : Int32) * nI k)) &&& 31)), ?_⟩
    rw [e2, obs, if_neg (nI_m1 (by omega)), obs, nI_1]; rfl
  · rw [e2, obs, if_pos rfl, obs]
    exact Or.inr ⟨e1, P6 M (sk w n p), Or.inr rfl⟩
/-- what reading a row ends in -/
def RR (w : Nat → Int32) (n : Nat) (sp : Option (List Nat × Nat)) (o : Option (gM ⊕ (gM ⊕ (Int32 × gM)))) : Prop :=
  (∃ x ρ M, sp = some x ∧ o = some (.inr (.inr (ρ, M))) ∧ C8 M w n x.2) ∨ (sp = none ∧ (FR o ∨ ∃ ρ M, o = some (.inr (.inr (ρ, M))) ∧ BS M w n))
theorem c_stuck {M : gM} {w : Nat → Int32} {n p t wd k : Nat} {ρ : Int32} (hT : C8 M w n p) (hd : dg (hr w n p)) (ht : t < 4) (e : M 9 t = nI wd) (hw : wd ≤ 3) (h1 : 1 ≤ k) (hk : k ≤ 3) : RR w n none (lX6_isRow_5 8 (nI t) (ρ, nI k, M)) := by
  refine Or.inr ⟨rfl, ?_⟩
  by_cases c : wd ≤ k
  · exact Or.inr ⟨ρ, M, cr_end ht e hw hk c, p, hT, hd⟩
  · rcases cr_k (ρ := ρ) hT ht e hw h1 (by omega) with ⟨q, e1, _⟩ | ⟨_, h⟩
    · unfold pMust at e1
      rw [sk_dg hd] at e1
      split at e1
      · rename_i z
        rw [z] at hd
        exact absurd hd (by decide)
      · cases e1
    · exact Or.inl h
theorem c_nCol {M : gM} {w : Nat → Int32} {n p t wd k : Nat} {ρ : Int32} (hT : C8 M w n p) (ht : t < 4) (e : M 9 t = nI wd) (hw : wd ≤ 3) (hk : k < 3) :
    (∃ v q ρ', pNum w n 99 p = some (v, q) ∧ q ≤ n ∧ (bX6_isRow_42 ρ (nI k) M).bind (kRw t) = lX6_isRow_5 8 (nI t) (ρ', nI (k + 1), P6 M q)) ∨ (pNum w n 99 p = none ∧ RR w n none ((bX6_isRow_42 ρ (nI k) M).bind (kRw t))) := by
  have eP : ∀ q, P6 M q 9 t = nI wd := fun q => by rw [P6_k (by decide)]; exact e
  rcases c_col (ρ := ρ) (k := k) (t := t) hT with ⟨x, e1, ρ', e2⟩ | ⟨e1, h⟩
  · have l := cNum_le e1
    rcases cNum_p (w := w) (n := n) (p := p) (hi := 99) with ⟨y, f1, f2, _⟩ | ⟨f1, f2⟩
    · rw [e1] at f2
      cases f2
      exact Or.inl ⟨x.1, x.2, ρ', f1, l.2, e2⟩
    · refine Or.inr ⟨f1, ?_⟩
      rw [e1] at f2
      rw [e2]
      rcases f2 with f2 | ⟨y, f2, f3⟩ | ⟨y, f2, f3⟩
      · cases f2
      · cases f2
        exact c_stuck (hT.at l.2) f3 ht (eP _) hw (by omega) (by omega)
      · cases f2; omega
  · rcases cNum_p (w := w) (n := n) (p := p) (hi := 99) with ⟨y, f1, f2, _⟩ | ⟨f1, _⟩
    · rw [e1] at f2; cases f2
    · exact Or.inr ⟨f1, Or.inr ⟨rfl, Or.inl h⟩⟩
theorem c_row5 {M : gM} {w : Nat → Int32} {n p t wd : Nat} {ρ : Int32} (hT : C8 M w n p) (ht : t < 4) (e : M 9 t = nI wd) (h1 : 1 ≤ wd) (hw : wd ≤ 3) : RR w n (pRow w n wd p) (lX6_isRow_5 8 (nI t) (ρ, nI 0, M)) := by
  have eP : ∀ q, P6 M q 9 t = nI wd := fun q => by rw [P6_k (by decide)]; exact e
  have rn : ∀ {o}, RR w n none o → ∀ {sp : Option (List Nat × Nat)}, sp = none → RR w n sp o := fun h _ hs => by rw [hs]; exact h
  rw [cr_0 ht e hw h1]
  unfold pRow
  rcases (c_nCol (ρ := ρ) (k := 0) hT ht e hw (by omega)).symm with ⟨e1, h⟩ | ⟨x, q1, ρ1, e1, l1, g1⟩
  · rw [e1]; exact h
  rw [e1, obs, g1]
  dsimp only
  by_cases c1 : wd ≤ 1
  · rw [if_pos c1, cr_end ht (eP _) hw (by omega) c1]
    exact Or.inl ⟨_, _, _, rfl, rfl, hT.at l1⟩
  rw [if_neg c1]
  rcases (cr_k (ρ := ρ1) (k := 1) (hT.at l1) ht (eP _) hw (by omega) (by omega)).symm with ⟨em, h⟩ | ⟨p2, em, l2, g2⟩
  · rw [em]; exact Or.inr ⟨rfl, Or.inl h⟩
  rw [em, obs, g2, P6_P6]
  rcases (c_nCol (ρ := ρ1) (k := 1) (hT.at l2) ht (eP _) hw (by omega)).symm with ⟨e2, h⟩ | ⟨y, q2, ρ2, e2, l3, g3⟩
  · rw [e2]; exact h
  rw [e2, obs, g3, P6_P6]
  dsimp only
  by_cases c2 : wd ≤ 2
  · rw [if_pos c2, cr_end ht (eP _) hw (by omega) c2]
    exact Or.inl ⟨_, _, _, rfl, rfl, hT.at l3⟩
  rw [if_neg c2]
  rcases (cr_k (ρ := ρ2) (k := 2) (hT.at l3) ht (eP _) hw (by omega) (by omega)).symm with ⟨em, h⟩ | ⟨p3, em, l4, g4⟩
  · rw [em]; exact Or.inr ⟨rfl, Or.inl h⟩
  rw [em, obs, g4, P6_P6]
  rcases (c_nCol (ρ := ρ2) (k := 2) (hT.at l4) ht (eP _) hw (by omega)).symm with ⟨e3, h⟩ | ⟨z, q3, ρ3, e3, l5, g5⟩
  · rw [e3]; exact h
  rw [e3, obs, g5, P6_P6, cr_end ht (eP _) hw (by omega) (by omega)]
  exact Or.inl ⟨_, _, _, rfl, rfl, hT.at l5⟩
theorem c_isRow {M : gM} {w : Nat → Int32} {n p t wd : Nat} (hT : C8 M w n p) (ht : t < 4) (e : M 9 t = nI wd) (h1 : 1 ≤ wd) (hw : wd ≤ 3) {r : Int32 × gM} (h : fX6_isRow 8 (nI t) M = some r) :
    (∃ x, pRow w n wd p = some x ∧ r.1 = 1 ∧ C8 r.2 w n x.2) ∨ (pRow w n wd p = none ∧ (r.1 = 0 ∨ (r.1 = 1 ∧ BS r.2 w n))) := by
  unfold fX6_isRow at h
  obtain ⟨w5, e5, h⟩ := ob h
  have ins : ∀ {ρ : Int32} {N : gM}, ((fX5_insert 8 (nI t) ρ N).bind fun r6 => some ((1 : Int32), r6)) = some r → r.1 = 1 ∧ (∀ j, r.2 1 j = N 1 j) ∧ ∀ j, r.2 2 j = N 2 j := by
    intro ρ N h
    obtain ⟨r6, e6, h⟩ := ob h
    cases h
    exact ⟨rfl, fun j => xfX5_insert _ _ _ _ e6 1 j (by decide) (by decide), fun j => xfX5_insert _ _ _ _ e6 2 j (by decide) (by decide)⟩
  rcases c_row5 (ρ := 0) hT ht e h1 hw with ⟨x, ρ, N, s1, s2, s3⟩ | ⟨s1, s2⟩
  · rw [show ((0 : Int32), (0 : Int32), M) = (0, nI 0, M) from rfl, s2] at e5
    cases e5
    obtain ⟨i1, i2, i3⟩ := ins h
    exact Or.inl ⟨x, s1, i1, s3.cong i2 i3⟩
  · refine Or.inr ⟨s1, ?_⟩
    rcases s2 with ⟨m, s2 | s2⟩ | ⟨ρ, N, s2, q, s3, s4⟩
    · rw [show ((0 : Int32), (0 : Int32), M) = (0, nI 0, M) from rfl, s2] at e5
      cases e5
      cases h
      exact Or.inl rfl
    · rw [show ((0 : Int32), (0 : Int32), M) = (0, nI 0, M) from rfl, s2] at e5
      cases e5
      cases h
      exact Or.inl rfl
    · rw [show ((0 : Int32), (0 : Int32), M) = (0, nI 0, M) from rfl, s2] at e5
      cases e5
      obtain ⟨i1, i2, i3⟩ := ins h
      exact Or.inr ⟨i1, q, s3.cong i2 i3, s4⟩
