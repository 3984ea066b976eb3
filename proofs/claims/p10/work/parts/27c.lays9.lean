/-! the reference's join: the keys of all tables at a depth -/
/-- the keys of a table at a depth -/
def Ky (B : gM) (t d : Nat) (f : Nat → Int32) (I : gM) (nk : Nat) : Prop := nk ≤ 12 ∧ I 77 (4 * d + t) = nI nk ∧ KS (I 76) (4 * d + t) nk (fun v => ∃ i, i < mn B t ∧ FT B t i d f ∧ vl B t i d = v)
theorem Ky.same {B : gM} {t d : Nat} {f : Nat → Int32} {I I' : gM} {nk : Nat} (h : Ky B t d f I nk) (h7 : I' 77 (4 * d + t) = I 77 (4 * d + t)) (h6 : ∀ j, j < 12 → I' 76 (12 * (4 * d + t) + j) = I 76 (12 * (4 * d + t) + j)) : Ky B t d f I' nk :=
  ⟨h.1, h7.trans h.2.1, h.2.2.same (fun j q => h6 j (by have := h.1; omega))⟩
theorem vl_rg {I0 B I : gM} {n D t i d : Nat} (h : Bs B n D) (hM : MI false I0 I) (C : Cx B I) (ht : t < 4) (hi : i < 12) (q : cv B t d ≠ -1) : -1 ≤ (vl B t i d).toInt ∧ (vl B t i d).toInt ≤ 99 := by
  have c3 := ((bs_cv h ht d).2.resolve_left q).2
  have := hM.at (k := 70) (j := 6 + 3 * (12 * t + i) + cn B t d) (lo := -1) (hi := 99) (by
    show rgNow _ = _
    unfold rgNow
    rw [if_neg (by omega), if_neg (by omega), if_pos (by omega)])
  rw [C.2.2.1] at this; exact this
theorem n_laysKeys60 {I0 B I : gM} {n D t d : Nat} (h : Bs B n D) (hM : MI false I0 I) (C : Cx B I) (ht : t < 4) (hd : d < 4) (q : inn B t d) (e : I 77 (4 * d + t) = nI 0) : T (lX9_laysKeys_60 (nI d) (nI t) (nI (4 * d + t)) (nI (cn B t d)) (nI 0, I)) (fun r => MI false I0 r ∧ Cx B r ∧ (∃ nk, Ky B t d (I 75) r nk) ∧ (∀ j, j ≠ 4 * d + t → r 77 j = I 77 j) ∧ (∀ k, k ≠ 76 → k ≠ 77 → r k = I k) ∧ ∀ a, (a < 12 * (4 * d + t) ∨ 12 * (4 * d + t) + 12 ≤ a) → r 76 a = I 76 a) := by
  obtain ⟨m1, m2⟩ := bs_mn h ht
  have c3 := (bs_cv h ht d).2.resolve_left q.2
  unfold lX9_laysKeys_60
  refine t_it (P := fun s => ∃ i, s.1 = nI i ∧ i ≤ mn B t ∧ MI false I0 s.2 ∧ Cx B s.2 ∧ (∃ nk, nk ≤ i ∧ s.2 77 (4 * d + t) = nI nk ∧ KS (s.2 76) (4 * d + t) nk (fun v => ∃ i', i' < i ∧ FT B t i' d (I 75) ∧ vl B t i' d = v)) ∧ (∀ j, j ≠ 4 * d + t → s.2 77 j = I 77 j) ∧ (∀ k, k ≠ 76 → k ≠ 77 → s.2 k = I k) ∧ ∀ a, (a < 12 * (4 * d + t) ∨ 12 * (4 * d + t) + 12 ≤ a) → s.2 76 a = I 76 a) (μ := fun s => 20 - s.1.toInt.toNat) (fun s p => ?_)
    ⟨0, rfl, by omega, hM, C, ⟨0, by omega, e, ⟨fun i j a b => by omega, fun v => ⟨fun ⟨i, a, _⟩ => by omega, fun ⟨j, a, _⟩ => by omega⟩⟩⟩, fun _ _ => rfl, fun _ _ _ => rfl, fun _ _ => rfl⟩
  obtain ⟨s1, s2⟩ := s
  obtain ⟨i, e1, h1, hM2, C2, ⟨nk, k1, k2, k3⟩, f1, f2, f3⟩ := p
  dsimp only at e1 hM2 C2 k2 k3 f1 f2 f3
  subst e1
  dsimp only
  rw [n_many ht, obs, C2.2.2.1, m2]
  refine t_ite (fun c => ?_) (fun c => ?_)
  · have c := (nI_leI (by omega) (by omega)).mp c
    obtain rfl : i = mn B t := by omega
    exact t_ret (show MI false I0 s2 ∧ Cx B s2 ∧ (∃ nk, Ky B t d (I 75) s2 nk) ∧ (∀ j, j ≠ 4 * d + t → s2 77 j = I 77 j) ∧ (∀ k, k ≠ 76 → k ≠ 77 → s2 k = I k) ∧ ∀ a, (a < 12 * (4 * d + t) ∨ 12 * (4 * d + t) + 12 ≤ a) → s2 76 a = I 76 a from ⟨hM2, C2, ⟨nk, by omega, k2, k3⟩, f1, f2, f3⟩)
  · have c := mt (nI_leI (a := mn B t) (b := i) (by omega) (by omega)).mpr c
    have n75 : s2 75 = I 75 := f2 75 (by omega) (by omega)
    have mu : 20 - (nI i + 1).toInt.toNat < 20 - (nI i).toInt.toNat := by rw [nI_1, nIt (by omega), nIt (by omega)]; omega
    rcases n_fits h C2 ht (i := i) (by omega) (d := d) (by omega) with ⟨y, e2⟩ | ⟨y, e2⟩
    · rw [e2, obs, if_neg (by decide), n_rowAt, obs, nI_add]
      refine t_be (rI_n (by omega) (by omega)) ?_
      show T ((fX9_takesKey (nI (4 * d + t)) (vl B t i d) s2).bind _) _
      obtain ⟨r, n', e3, r1, r2, r3, r4, r5, r6⟩ := n_takesKey (c := 4 * d + t) (by omega) (n := nk) (by omega) k2 (vl B t i d) k3
      refine t_be e3 ?_
      have b77 : ∀ j, r 77 j = if j = 4 * d + t then nI n' else s2 77 j := r2
      have hM3 : MI false I0 r := hM2.cells (fun z => by
        by_cases z1 : z = 76
        · subst z1
          refine Or.inr ⟨rfl, fun j => ?_⟩
          rcases r6 j with w | ⟨b, w⟩
          · rw [w]; exact vl_rg h hM2 C2 ht (by omega) q.2
          · rw [w]; exact hM2.at (k := 76) (j := b) rfl
        · by_cases z2 : z = 77
          · subst z2
            refine Or.inr ⟨rfl, fun j => ?_⟩
            rw [r2]
            by_cases z3 : j = 4 * d + t
            · rw [if_pos z3, tnI (by omega)]
              show (0 : Int) ≤ (n' : Int) ∧ (n' : Int) ≤ 12
              omega
            · rw [if_neg z3]; exact hM2.at (k := 77) (j := j) rfl
          · exact Or.inl (r4 z z1 z2))
      refine t_nx ?_ mu
      dsimp only
      refine ⟨i + 1, nI_1 i, by omega, hM3, ?_, ⟨n', by omega, by rw [r2, if_pos rfl], r3.iff (fun v => ?_)⟩, fun j hj => by rw [r2, if_neg hj]; exact f1 j hj, fun k y1 y2 => (r4 k y1 y2).trans (f2 k y1 y2), fun a ha => (r5 a ha).trans (f3 a ha)⟩
      · obtain ⟨C1, C2, C3, C4, C5, C6⟩ := C2
        exact ⟨by rw [r4 62 (by omega) (by omega)]; exact C1, by rw [r4 62 (by omega) (by omega)]; exact C2, by rw [r4 70 (by omega) (by omega)]; exact C3, by rw [r4 72 (by omega) (by omega)]; exact C4, by rw [r4 73 (by omega) (by omega)]; exact C5, by rw [r4 74 (by omega) (by omega)]; exact C6⟩
      · rw [n75] at y
        constructor
        · rintro ⟨i', a, b, c'⟩
          rcases (by omega : i' < i ∨ i' = i) with z | z
          · exact Or.inl ⟨i', z, b, c'⟩
          · subst z; exact Or.inr c'.symm
        · rintro (⟨i', a, b, c'⟩ | z)
          · exact ⟨i', by omega, b, c'⟩
          · exact ⟨i, by omega, y, z.symm⟩
    · rw [e2, obs, if_pos rfl]
      rw [n75] at y
      refine t_nx ?_ mu
      dsimp only
      refine ⟨i + 1, nI_1 i, by omega, hM2, C2, ⟨nk, by omega, k2, k3.iff (fun v => ?_)⟩, f1, f2, f3⟩
      constructor
      · rintro ⟨i', a, b, c'⟩
        rcases (by omega : i' < i ∨ i' = i) with z | z
        · exact ⟨i', z, b, c'⟩
        · subst z; exact absurd b y
      · rintro ⟨i', a, b, c'⟩
        exact ⟨i', by omega, b, c'⟩
/-- behind the laying of keys -/
theorem n_laysKeys {I0 B I : gM} {n D d : Nat} (h : Bs B n D) (hM : MI false I0 I) (C : Cx B I) (hd : d < 4) : ∃ v r, fX9_laysKeys (nI d) I = some (v, r) ∧ (v = 0 ∨ v = 1) ∧ MI false I0 r ∧ Cx B r ∧ (∀ t, t < n → inn B t d → ∃ nk, Ky B t d (I 75) r nk ∧ r 78 (4 * d + t) = nI 0 ∧ (v = 1 → 0 < nk)) ∧ (v = 0 → ∃ t, t < n ∧ inn B t d ∧ r 77 (4 * d + t) = nI 0) ∧ (∀ k, k ≠ 76 → k ≠ 77 → k ≠ 78 → r k = I k) ∧ (∀ c, c < 4 * d → r 77 c = I 77 c ∧ r 78 c = I 78 c) ∧ ∀ a, a < 48 * d → r 76 a = I 76 a := by
  have n4 : n ≤ 4 := h.1
  have key : T (lX9_laysKeys_4 (nI d) (nI 1, nI 0, I)) (fun w => (w.1 = 0 ∨ w.1 = 1) ∧ MI false I0 w.2 ∧ Cx B w.2 ∧ (∀ t, t < n → inn B t d → ∃ nk, Ky B t d (I 75) w.2 nk ∧ w.2 78 (4 * d + t) = nI 0 ∧ (w.1 = 1 → 0 < nk)) ∧ (w.1 = 0 → ∃ t, t < n ∧ inn B t d ∧ w.2 77 (4 * d + t) = nI 0) ∧ (∀ k, k ≠ 76 → k ≠ 77 → k ≠ 78 → w.2 k = I k) ∧ (∀ c, c < 4 * d → w.2 77 c = I 77 c ∧ w.2 78 c = I 78 c) ∧ ∀ a, a < 48 * d → w.2 76 a = I 76 a) := by
    unfold lX9_laysKeys_4
    refine t_it (P := fun s => ∃ t, s.2.1 = nI t ∧ t ≤ n ∧ (s.1 = 0 ∨ s.1 = 1) ∧ MI false I0 s.2.2 ∧ Cx B s.2.2 ∧ (∀ t', t' < t → inn B t' d → ∃ nk, Ky B t' d (I 75) s.2.2 nk ∧ s.2.2 78 (4 * d + t') = nI 0 ∧ (s.1 = 1 → 0 < nk)) ∧ (s.1 = 0 → ∃ t', t' < t ∧ inn B t' d ∧ s.2.2 77 (4 * d + t') = nI 0) ∧ (∀ k, k ≠ 76 → k ≠ 77 → k ≠ 78 → s.2.2 k = I k) ∧ (∀ c, c < 4 * d → s.2.2 77 c = I 77 c ∧ s.2.2 78 c = I 78 c) ∧ ∀ a, a < 48 * d → s.2.2 76 a = I 76 a) (μ := fun s => 20 - s.2.1.toInt.toNat) (fun s p => ?_)
      ⟨0, rfl, by omega, Or.inr rfl, hM, C, fun t' a => by omega, fun z => absurd (show nI 1 = 0 from z) (by decide), fun _ _ _ _ => rfl, fun _ _ => ⟨rfl, rfl⟩, fun _ _ => rfl⟩
    obtain ⟨s1, s2, s3⟩ := s
    obtain ⟨t, e1, h1, h2, hM2, C2, p1, p1', p2, p3, p4⟩ := p
    dsimp only at e1 h2 hM2 C2 p1 p1' p2 p3 p4
    subst e1
    dsimp only
    have tn : s3 62 17 = nI n := C2.1.trans h.2.2.1
    refine t_ite (fun c => ?_) (fun c => ?_)
    · rw [tn] at c
      have c := (nI_leI (by omega) (by omega)).mp c
      obtain rfl : t = n := by omega
      exact t_ret ⟨h2, hM2, C2, p1, p1', p2, p3, p4⟩
    · rw [tn] at c
      have c := mt (nI_leI (a := n) (b := t) (by omega) (by omega)).mpr c
      have mu : 20 - (nI t + 1).toInt.toNat < 20 - (nI t).toInt.toNat := by rw [nI_1, nIt (by omega), nIt (by omega)]; omega
      rw [a4]
      refine t_be (wI_n (by omega) (by omega)) ?_
      refine t_be (wI_n (by omega) (by omega)) ?_
      have hM3 : MI false I0 (g_up (g_up s3 77 (4 * d + t) 0) 78 (4 * d + t) 0) := (hM2.up (k := 77) rfl (lo := 0) (hi := 12) rfl (by decide) (by decide)).up (k := 78) rfl (lo := 0) (hi := 12) rfl (by decide) (by decide)
      have C3 : Cx B (g_up (g_up s3 77 (4 * d + t) 0) 78 (4 * d + t) 0) := (C2.up (by omega) (by omega) (by omega) (by omega) (by omega)).up (by omega) (by omega) (by omega) (by omega) (by omega)
      have q77 : ∀ j, j ≠ 4 * d + t → g_up (g_up s3 77 (4 * d + t) 0) 78 (4 * d + t) 0 77 j = s3 77 j := fun j hj => by rw [g_up_row (by omega), g_up_ne (Or.inr hj)]
      have q78 : ∀ j, j ≠ 4 * d + t → g_up (g_up s3 77 (4 * d + t) 0) 78 (4 * d + t) 0 78 j = s3 78 j := fun j hj => by rw [g_up_ne (Or.inr hj), g_up_row (by omega)]
      have qz : ∀ k, k ≠ 77 → k ≠ 78 → g_up (g_up s3 77 (4 * d + t) 0) 78 (4 * d + t) 0 k = s3 k := fun k y1 y2 => by rw [g_up_row y2, g_up_row y1]
      have qs : g_up (g_up s3 77 (4 * d + t) 0) 78 (4 * d + t) 0 77 (4 * d + t) = nI 0 ∧ g_up (g_up s3 77 (4 * d + t) 0) 78 (4 * d + t) 0 78 (4 * d + t) = nI 0 := ⟨by rw [g_up_row (by omega), g_up_self]; rfl, by rw [g_up_self]; rfl⟩
      generalize g_up (g_up s3 77 (4 * d + t) 0) 78 (4 * d + t) 0 = s4 at *
      by_cases q : inn B t d
      · refine t_be (n_isIn1 h C3 (by omega) hd q) ?_
        rw [if_neg (by decide)]
        refine t_be (rI_n (by omega) (by omega)) ?_
        have cc := bs_cv h (t := t) (by omega) d
        rw [cg_columnOf C3, C3.2.2.2.2.2]
        refine t_be cc.1 ?_
        rw [(cc.2.resolve_left q.2).1]
        refine t_bind (n_laysKeys60 h hM3 C3 (by omega) hd q qs.1) (fun w pw => ?_)
        obtain ⟨w1, w2, ⟨nk, w3⟩, w4, w5, w6⟩ := pw
        rw [show s4 75 = I 75 by rw [qz 75 (by omega) (by omega)]; exact p2 75 (by omega) (by omega) (by omega)] at w3
        have old : ∀ v : Int32, (v = 1 → s1 = 1) → ∀ t', t' < t → inn B t' d → ∃ nk, Ky B t' d (I 75) w nk ∧ w 78 (4 * d + t') = nI 0 ∧ (v = 1 → 0 < nk) := fun v hv t' a b => by
          obtain ⟨n2, z1, z2, z3⟩ := p1 t' a b
          refine ⟨n2, z1.same ?_ ?_, ?_, fun y => z3 (hv y)⟩
          · rw [w4 _ (by omega), q77 _ (by omega)]
          · intro j hj
            rw [w6 _ (by omega), qz 76 (by omega) (by omega)]
          · rw [w5 78 (by omega) (by omega), q78 _ (by omega)]; exact z2
        have nx : ∀ v : Int32, (v = 0 ∨ v = 1) → (v = 1 → s1 = 1 ∧ 0 < nk) → (v = 0 → ∃ t', t' < t + 1 ∧ inn B t' d ∧ w 77 (4 * d + t') = nI 0) → T (some (.inl (v, nI t + 1, w)) : Option ((Int32 × Int32 × gM) ⊕ (Int32 × gM))) (LQ (fun s => ∃ t, s.2.1 = nI t ∧ t ≤ n ∧ (s.1 = 0 ∨ s.1 = 1) ∧ MI false I0 s.2.2 ∧ Cx B s.2.2 ∧ (∀ t', t' < t → inn B t' d → ∃ nk, Ky B t' d (I 75) s.2.2 nk ∧ s.2.2 78 (4 * d + t') = nI 0 ∧ (s.1 = 1 → 0 < nk)) ∧ (s.1 = 0 → ∃ t', t' < t ∧ inn B t' d ∧ s.2.2 77 (4 * d + t') = nI 0) ∧ (∀ k, k ≠ 76 → k ≠ 77 → k ≠ 78 → s.2.2 k = I k) ∧ (∀ c, c < 4 * d → s.2.2 77 c = I 77 c ∧ s.2.2 78 c = I 78 c) ∧ ∀ a, a < 48 * d → s.2.2 76 a = I 76 a) (20 - (nI t).toInt.toNat) (fun s => 20 - s.2.1.toInt.toNat) (fun w => (w.1 = 0 ∨ w.1 = 1) ∧ MI false I0 w.2 ∧ Cx B w.2 ∧ (∀ t, t < n → inn B t d → ∃ nk, Ky B t d (I 75) w.2 nk ∧ w.2 78 (4 * d + t) = nI 0 ∧ (w.1 = 1 → 0 < nk)) ∧ (w.1 = 0 → ∃ t, t < n ∧ inn B t d ∧ w.2 77 (4 * d + t) = nI 0) ∧ (∀ k, k ≠ 76 → k ≠ 77 → k ≠ 78 → w.2 k = I k) ∧ (∀ c, c < 4 * d → w.2 77 c = I 77 c ∧ w.2 78 c = I 78 c) ∧ ∀ a, a < 48 * d → w.2 76 a = I 76 a)) := fun v hv hv1 hv0 => by
          refine t_nx ?_ mu
          dsimp only
          refine ⟨t + 1, nI_1 t, by omega, hv, w1, w2, fun t' a b => ?_, hv0, fun k y1 y2 y3 => ?_, fun c hc => ?_, fun a ha => ?_⟩
          · rcases (by omega : t' < t ∨ t' = t) with z | z
            · exact old v (fun y => (hv1 y).1) t' z b
            · subst z; exact ⟨nk, w3, by rw [w5 78 (by omega) (by omega)]; exact qs.2, fun y => (hv1 y).2⟩
          · exact (w5 k y1 y2).trans ((qz k y2 y3).trans (p2 k y1 y2 y3))
          · exact ⟨(w4 c (by omega)).trans ((q77 c (by omega)).trans (p3 c hc).1), (by rw [w5 78 (by omega) (by omega), q78 c (by omega)]; exact (p3 c hc).2)⟩
          · show w 76 a = I 76 a
            rw [w6 a (by omega), qz 76 (by omega) (by omega)]; exact p4 a ha
        have oldz : s1 = 0 → ∃ t', t' < t + 1 ∧ inn B t' d ∧ w 77 (4 * d + t') = nI 0 := fun z => by
          obtain ⟨t', y1, y2, y3⟩ := p1' z
          exact ⟨t', by omega, y2, by rw [w4 _ (by omega), q77 _ (by omega)]; exact y3⟩
        refine t_ite (fun c1 => ?_) (fun c1 => ?_)
        · exact nx 0 (Or.inl rfl) (fun y => absurd y (by decide)) (fun _ => oldz c1)
        · refine t_be (rI_n (by omega) (by omega)) ?_
          rw [w3.2.1]
          refine t_ite (fun c2 => ?_) (fun c2 => ?_)
          · have c2 := (nI_leI (b := 0) (by have := w3.1; omega) (by omega)).mp c2
            exact nx 0 (Or.inl rfl) (fun y => absurd y (by decide)) (fun _ => ⟨t, by omega, q, by rw [w3.2.1, show nk = 0 by omega]⟩)
          · have c2 := mt (nI_leI (a := nk) (b := 0) (by have := w3.1; omega) (by omega)).mpr c2
            exact nx 1 (Or.inr rfl) (fun _ => ⟨h2.resolve_left c1, by omega⟩) (fun y => absurd y (by decide))
      · refine t_be (n_isIn0 h C3 (by omega) hd q) ?_
        rw [if_pos rfl]
        refine t_nx ?_ mu
        dsimp only
        refine ⟨t + 1, nI_1 t, by omega, h2, hM3, C3, fun t' a b => ?_, fun z => ?_, fun k y1 y2 y3 => ?_, fun c hc => ?_, fun a ha => ?_⟩
        · rcases (by omega : t' < t ∨ t' = t) with z | z
          · obtain ⟨n2, z1, z2, z3⟩ := p1 t' z b
            exact ⟨n2, z1.same (q77 _ (by omega)) (fun j hj => by rw [qz 76 (by omega) (by omega)]), by rw [q78 _ (by omega)]; exact z2, z3⟩
          · subst z; exact absurd b q
        · obtain ⟨t', y1, y2, y3⟩ := p1' z
          exact ⟨t', by omega, y2, by rw [q77 _ (by omega)]; exact y3⟩
        · exact (qz k y2 y3).trans (p2 k y1 y2 y3)
        · exact ⟨(q77 c (by omega)).trans (p3 c hc).1, (q78 c (by omega)).trans (p3 c hc).2⟩
        · show s4 76 a = I 76 a
          rw [qz 76 (by omega) (by omega)]; exact p4 a ha
  obtain ⟨w, e, w1, w2⟩ := key
  refine ⟨w.1, w.2, ?_, w1, w2⟩
  unfold fX9_laysKeys
  rw [L1, L0, e, obs]
  rcases w1 with z | z
  · rw [z, bO_0, obs]
  · rw [z, bO_1, obs]
