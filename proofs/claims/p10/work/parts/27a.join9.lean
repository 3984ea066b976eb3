/-! the reference's join: letters, columns, keys -/
theorem n_has (x l : Int32) : fX9_has x l = some (if (x >>> (l &&& 31)) &&& 1 = 1 then 1 else 0) := by
  unfold fX9_has
  by_cases h : (x >>> (l &&& 31)) &&& 1 = 1
  · rw [if_pos h, if_pos h]
  · rw [if_neg h, if_neg h]
/-- a bit of a set -/
def hs (x : Int32) (l : Nat) : Prop := (x >>> (nI l &&& 31)) &&& 1 = 1
theorem n_has1 {x : Int32} {l : Nat} (h : hs x l) : fX9_has x (nI l) = some 1 := by rw [n_has]; exact congrArg some (if_pos h)
theorem n_has0 {x : Int32} {l : Nat} (h : ¬ hs x l) : fX9_has x (nI l) = some 0 := by rw [n_has]; exact congrArg some (if_neg h)
theorem bO_0 : bO 0 = some 0 := rfl
theorem bO_1 : bO 1 = some 1 := rfl
theorem n_isUsed1 {I : gM} {t : Nat} (h : hs (I 70 0) t) : fX9_isUsed (nI t) I = some 1 := by
  unfold fX9_isUsed
  rw [L0, rI_n (by omega) (by omega), obs, n_has1 h, obs, bO_1, obs]
theorem n_isUsed0 {I : gM} {t : Nat} (h : ¬ hs (I 70 0) t) : fX9_isUsed (nI t) I = some 0 := by
  unfold fX9_isUsed
  rw [show rI 331 (I 70) 0 = some (I 70 0) from rI_n (a := 0) (by omega) (by omega), obs, n_has0 h, obs, bO_0, obs]
/-- where a letter stands in a table, -1: nowhere -/
def CO (w : Nat) (lt : Nat → Int32) (l : Int32) (r : Int32) : Prop := (∃ i, i < w ∧ r = nI i ∧ lt i = l ∧ ∀ c, c < i → lt c ≠ l) ∨ (r = -1 ∧ ∀ c, c < w → lt c ≠ l)
theorem nI_m1 {i : Nat} (h : i < 2 ^ 31) : nI i ≠ -1 := fun e => by
  have := congrArg Int32.toInt e
  rw [tnI h] at this
  have : ((-1) : Int32).toInt = -1 := by decide
  omega
theorem n_columnOf {I : gM} {t w : Nat} (ht : t < 4) (hw : w ≤ 3) (e : I 72 t = nI w) (l : Int32) : ∃ r, fX9_columnOf (nI t) l I = some r ∧ CO w (fun c => I 73 (3 * t + c)) l r := by
  have key : T (lX9_columnOf_2 (nI t) l I (nI 0)) (Sum.elim (fun r => ∃ i, i < w ∧ r = nI i ∧ I 73 (3 * t + i) = l ∧ ∀ c, c < i → I 73 (3 * t + c) ≠ l) (fun _ : Unit => ∀ c, c < w → I 73 (3 * t + c) ≠ l)) := by
    unfold lX9_columnOf_2
    refine t_it (P := fun s => ∃ i, s = nI i ∧ i ≤ w ∧ ∀ c, c < i → I 73 (3 * t + c) ≠ l) (μ := fun s => 20 - s.toInt.toNat) (fun s p => ?_) ⟨0, rfl, by omega, fun c h => by omega⟩
    obtain ⟨i, rfl, h1, h2⟩ := p
    rw [rI_n (by omega) (by omega), obs, e]
    refine t_ite (fun c => ?_) (fun c => ?_)
    · have c := (nI_leI (by omega) (by omega)).mp c
      refine t_ret (show ∀ c, c < w → I 73 (3 * t + c) ≠ l from fun c' h => h2 c' (by omega))
    · have c := mt (nI_leI (a := w) (b := i) (by omega) (by omega)).mpr c
      rw [L3, nI_mul, nI_add, rI_n (by omega) (by omega), obs]
      refine t_ite (fun c2 => ?_) (fun c2 => ?_)
      · exact t_ret (show ∃ i', i' < w ∧ nI i = nI i' ∧ I 73 (3 * t + i') = l ∧ ∀ c, c < i' → I 73 (3 * t + c) ≠ l from ⟨i, by omega, rfl, c2, h2⟩)
      · rw [nI_1]
        refine t_ret (show _ ∧ _ from ⟨⟨i + 1, rfl, by omega, fun c' h => ?_⟩, ?_⟩)
        · rcases (by omega : c' < i ∨ c' = i) with q | q
          · exact h2 c' q
          · rw [q]; exact c2
        · show 20 - (nI (i + 1)).toInt.toNat < 20 - (nI i).toInt.toNat
          rw [nIt (by omega), nIt (by omega)]; omega
  obtain ⟨r, e1, h⟩ := key
  unfold fX9_columnOf
  rw [L0, e1, obs]
  rcases r with r | r
  · exact ⟨r, rfl, Or.inl h⟩
  · exact ⟨-1, rfl, Or.inr ⟨rfl, h⟩⟩
theorem CO.lt {w : Nat} (hw : w ≤ 3) {lt : Nat → Int32} {l r : Int32} (h : CO w lt l r) (hr : r ≠ -1) : ∃ c, c < w ∧ r = nI c ∧ lt c = l := by
  rcases h with ⟨i, h1, h2, h3, h4⟩ | ⟨h1, h2⟩
  · exact ⟨i, h1, h2, h3⟩
  · exact absurd h1 hr
/-- what the search does not change -/
def Cx (B I : gM) : Prop := I 62 17 = B 62 17 ∧ I 62 19 = B 62 19 ∧ I 70 = B 70 ∧ I 72 = B 72 ∧ I 73 = B 73 ∧ I 74 = B 74
theorem Cx.up {B I : gM} (C : Cx B I) {k j : Nat} {v : Int32} (h : k ≠ 62 ∨ (j ≠ 17 ∧ j ≠ 19)) (h0 : k ≠ 70) (h2 : k ≠ 72) (h3 : k ≠ 73) (h4 : k ≠ 74) : Cx B (g_up I k j v) := by
  obtain ⟨c1, c2, c3, c4, c5, c6⟩ := C
  refine ⟨?_, ?_, ?_, ?_, ?_, ?_⟩
  · rw [g_up_ne (by omega)]; exact c1
  · rw [g_up_ne (by omega)]; exact c2
  · rw [g_up_row (Ne.symm h0)]; exact c3
  · rw [g_up_row (Ne.symm h2)]; exact c4
  · rw [g_up_row (Ne.symm h3)]; exact c5
  · rw [g_up_row (Ne.symm h4)]; exact c6
theorem cg_columnOf {B I : gM} (C : Cx B I) (v l : Int32) : fX9_columnOf v l I = fX9_columnOf v l B := by
  obtain ⟨c1, c2, c3, c4, c5, c6⟩ := C
  unfold fX9_columnOf lX9_columnOf_2
  rw [c4, c5]
theorem cg_isUsed {B I : gM} (C : Cx B I) (v : Int32) : fX9_isUsed v I = fX9_isUsed v B := by
  unfold fX9_isUsed
  rw [C.2.2.1]
theorem cg_isIn {B I : gM} (C : Cx B I) (v d : Int32) : fX9_isIn v d I = fX9_isIn v d B := by
  unfold fX9_isIn
  rw [cg_isUsed C, C.2.2.2.2.2]
  simp only [cg_columnOf C]
/-- the base of a search: n tables, D letters -/
def Bs (B : gM) (n D : Nat) : Prop := n ≤ 4 ∧ D ≤ 4 ∧ B 62 17 = nI n ∧ B 62 19 = nI D ∧ (∀ t, t < 4 → ∃ m, m ≤ 12 ∧ B 70 (2 + t) = nI m) ∧ (∀ t, t < 4 → ∃ w, w ≤ 3 ∧ B 72 t = nI w) ∧ (∀ d, d < 4 → ∃ l, l < 4 ∧ B 74 d = nI l)
/-- a table's rows, the letter of a depth, its column in a table -/
def mn (B : gM) (t : Nat) : Nat := (B 70 (2 + t)).toInt.toNat
def lo (B : gM) (d : Nat) : Nat := (B 74 d).toInt.toNat
noncomputable def cv (B : gM) (t d : Nat) : Int32 := (fX9_columnOf (nI t) (B 74 d) B).getD 0
noncomputable def cn (B : gM) (t d : Nat) : Nat := (cv B t d).toInt.toNat
def inn (B : gM) (t d : Nat) : Prop := hs (B 70 0) t ∧ cv B t d ≠ -1
noncomputable def vl (B : gM) (t i d : Nat) : Int32 := B 70 (6 + 3 * (12 * t + i) + cn B t d)
theorem bs_mn {B : gM} {n D : Nat} (h : Bs B n D) {t : Nat} (ht : t < 4) : mn B t ≤ 12 ∧ B 70 (2 + t) = nI (mn B t) := by
  obtain ⟨m, h1, h2⟩ := h.2.2.2.2.1 t ht
  unfold mn
  rw [h2, nIt (by omega)]; exact ⟨h1, rfl⟩
theorem bs_lo {B : gM} {n D : Nat} (h : Bs B n D) {d : Nat} (hd : d < 4) : lo B d < 4 ∧ B 74 d = nI (lo B d) := by
  obtain ⟨m, h1, h2⟩ := h.2.2.2.2.2.2 d hd
  unfold lo
  rw [h2, nIt (by omega)]; exact ⟨h1, rfl⟩
theorem bs_cv {B : gM} {n D : Nat} (h : Bs B n D) {t : Nat} (ht : t < 4) (d : Nat) : fX9_columnOf (nI t) (B 74 d) B = some (cv B t d) ∧ (cv B t d = -1 ∨ (cv B t d = nI (cn B t d) ∧ cn B t d < 3)) := by
  obtain ⟨w, h1, h2⟩ := h.2.2.2.2.2.1 t ht
  obtain ⟨r, e, c⟩ := n_columnOf ht h1 h2 (B 74 d)
  unfold cn cv
  rw [e]
  refine ⟨rfl, ?_⟩
  show r = -1 ∨ (r = nI r.toInt.toNat ∧ r.toInt.toNat < 3)
  by_cases q : r = -1
  · exact Or.inl q
  · obtain ⟨i, i1, i2, i3⟩ := c.lt h1 q
    rw [i2, nIt (by omega)]; exact Or.inr ⟨rfl, by omega⟩
theorem n_isIn1 {B I : gM} {n D t d : Nat} (h : Bs B n D) (C : Cx B I) (ht : t < 4) (hd : d < 4) (q : inn B t d) : fX9_isIn (nI t) (nI d) I = some 1 := by
  rw [cg_isIn C]
  unfold fX9_isIn
  rw [n_isUsed1 q.1, obs, if_neg (by decide), rI_n (by omega) (by omega), obs, (bs_cv h ht d).1, obs, if_neg q.2]
theorem n_isIn0 {B I : gM} {n D t d : Nat} (h : Bs B n D) (C : Cx B I) (ht : t < 4) (hd : d < 4) (q : ¬ inn B t d) : fX9_isIn (nI t) (nI d) I = some 0 := by
  rw [cg_isIn C]
  unfold fX9_isIn
  by_cases u : hs (B 70 0) t
  · have q : cv B t d = -1 := Classical.byContradiction fun z => q ⟨u, z⟩
    rw [n_isUsed1 u, obs, if_neg (by decide), rI_n (by omega) (by omega), obs, (bs_cv h ht d).1, obs, if_pos q]
  · rw [n_isUsed0 u, obs, if_pos rfl]
/-- a row has the numbers found -/
def FT (B : gM) (t i d : Nat) (f : Nat → Int32) : Prop := ∀ e, e < d → cv B t e = -1 ∨ vl B t i e = f (lo B e)
theorem n_fits {B I : gM} {n D t i d : Nat} (h : Bs B n D) (C : Cx B I) (ht : t < 4) (hi : i < 12) (hd : d ≤ 4) : (FT B t i d (I 75) ∧ fX9_fits (nI t) (nI i) (nI d) I = some 1) ∨ (¬ FT B t i d (I 75) ∧ fX9_fits (nI t) (nI i) (nI d) I = some 0) := by
  have key : T (lX9_fits_6 (nI t) (nI i) (nI d) I (nI 1, nI 0)) (fun r => (FT B t i d (I 75) ∧ r = 1) ∨ (¬ FT B t i d (I 75) ∧ r = 0)) := by
    unfold lX9_fits_6
    refine t_it (P := fun s => ∃ k, s.2 = nI k ∧ k ≤ d ∧ ((FT B t i k (I 75) ∧ s.1 = 1) ∨ (¬ FT B t i k (I 75) ∧ s.1 = 0))) (μ := fun s => 20 - s.2.toInt.toNat) (fun s p => ?_) ⟨0, rfl, by omega, Or.inl ⟨fun e he => by omega, rfl⟩⟩
    obtain ⟨s1, s2⟩ := s
    obtain ⟨k, e1, h1, h2⟩ := p
    dsimp only at e1 h2
    subst e1
    refine t_ite (fun c => ?_) (fun c => ?_)
    · have c := (nI_leI (by omega) (by omega)).mp c
      obtain rfl : k = d := by omega
      exact t_ret (show (FT B t i k (I 75) ∧ s1 = 1) ∨ (¬ FT B t i k (I 75) ∧ s1 = 0) from h2)
    · have c := mt (nI_leI (a := d) (b := k) (by omega) (by omega)).mpr c
      show T ((rI 4 (I 74) (nI k)).bind _) _
      rw [rI_n (by omega) (by omega), obs, cg_columnOf C, C.2.2.2.2.2, (bs_cv h ht k).1, obs]
      have nx : ∀ v : Int32, ((FT B t i (k + 1) (I 75) ∧ v = 1) ∨ (¬ FT B t i (k + 1) (I 75) ∧ v = 0)) → T (some (.inl (v, nI k + 1)) : Option ((Int32 × Int32) ⊕ Int32)) (LQ (fun s : Int32 × Int32 => ∃ k, s.2 = nI k ∧ k ≤ d ∧ ((FT B t i k (I 75) ∧ s.1 = 1) ∨ (¬ FT B t i k (I 75) ∧ s.1 = 0))) (20 - (nI k).toInt.toNat) (fun s => 20 - s.2.toInt.toNat) (fun r => (FT B t i d (I 75) ∧ r = 1) ∨ (¬ FT B t i d (I 75) ∧ r = 0))) := fun v hv => by
        refine t_ret (show _ ∧ _ from ⟨⟨k + 1, nI_1 k, by omega, hv⟩, ?_⟩)
        show 20 - (nI k + 1).toInt.toNat < 20 - (nI k).toInt.toNat
        rw [nI_1, nIt (by omega), nIt (by omega)]; omega
      have up : ∀ {P : Prop}, ((cv B t k = -1 ∨ vl B t i k = I 75 (lo B k)) ↔ P) → (FT B t i (k + 1) (I 75) ↔ FT B t i k (I 75) ∧ P) := fun {P} hP => by
        constructor
        · intro q; exact ⟨fun e he => q e (by omega), hP.mp (q k (by omega))⟩
        · rintro ⟨q1, q2⟩ e he
          rcases (by omega : e < k ∨ e = k) with z | z
          · exact q1 e z
          · rw [z]; exact hP.mpr q2
      refine t_ite (fun c1 => ?_) (fun c1 => ?_)
      · have h3 : ¬ FT B t i k (I 75) := by
          rcases h2 with h2 | h2
          · exact absurd (show (1 : Int32) = 0 from h2.2 ▸ c1) (by decide)
          · exact h2.1
        exact nx 0 (Or.inr ⟨fun q => h3 (fun e he => q e (by omega)), rfl⟩)
      · have h3 : FT B t i k (I 75) := by
          rcases h2 with h2 | h2
          · exact h2.1
          · exact absurd h2.2 c1
        refine t_ite (fun c2 => ?_) (fun c2 => ?_)
        · exact nx 1 (Or.inl ⟨(up (P := True) ⟨fun _ => trivial, fun _ => Or.inl c2⟩).mpr ⟨h3, trivial⟩, rfl⟩)
        · obtain ⟨q1, q2⟩ := (bs_cv h ht k).2.resolve_left c2
          have q3 := bs_lo h (d := k) (by omega)
          rw [n_rowAt, obs, q1, nI_add]
          refine t_be (rI_n (by omega) (by omega)) (t_be rfl ?_)
          rw [q3.2, C.2.2.1]
          refine t_be (rI_n (by omega) (by omega)) ?_
          have hv : ∀ P : Prop, (vl B t i k = I 75 (lo B k) ↔ P) → ((cv B t k = -1 ∨ vl B t i k = I 75 (lo B k)) ↔ P) := fun P z => ⟨fun y => z.mp (y.resolve_left c2), fun y => Or.inr (z.mpr y)⟩
          refine t_ite (fun c3 => ?_) (fun c3 => ?_)
          · exact nx 1 (Or.inl ⟨(up (hv True ⟨fun _ => trivial, fun _ => c3⟩)).mpr ⟨h3, trivial⟩, rfl⟩)
          · exact nx 0 (Or.inr ⟨fun q => ((up (hv False ⟨c3, False.elim⟩)).mp q).2, rfl⟩)
  obtain ⟨r, e, h⟩ := key
  unfold fX9_fits
  rw [L1, L0, e, obs]
  rcases h with h | h
  · rw [h.2, bO_1, obs]; exact Or.inl ⟨h.1, rfl⟩
  · rw [h.2, bO_0, obs]; exact Or.inr ⟨h.1, rfl⟩
