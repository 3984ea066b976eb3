theorem c_isFitting {I : gM} {k t wd c : Nat} (ht : t < 4) (e : I (k + 1) t = nI wd) (hw : wd ≤ 3) (hc : c < 3) (v : Int32) : (colOK c wd v ∧ fX5_isFitting k (nI t) (nI c) v I = some 1) ∨ (¬ colOK c wd v ∧ fX5_isFitting k (nI t) (nI c) v I = some 0) := by
  unfold fX5_isFitting bX5_isFitting_24
  rw [rI_n ht (by omega), obs, e]
  by_cases d : wd ≤ c
  · rw [if_pos ((nI_leI (by omega) (by omega)).mpr d)]
    by_cases d2 : v = -1
    · rw [if_pos d2]; exact Or.inl ⟨.b d d2, rfl⟩
    · rw [if_neg d2]; exact Or.inr ⟨fun z => d2 (z.2 d), rfl⟩
  · rw [if_neg (mt (nI_leI (by omega) (by omega)).mp d)]
    by_cases d2 : v < 0
    · have d2' := (iLT (a := v) (b := 0) rfl t0i).mp d2
      rw [if_pos d2]; exact Or.inr ⟨fun z => by have := (z.1 (by omega)).1; omega, rfl⟩
    · have d2' := mt (iLT (a := v) (b := 0) rfl t0i).mpr d2
      rw [if_neg d2]
      by_cases d3 : (100 : Int32) ≤ v
      · have d3' := (iLE (a := 100) (b := v) (by decide : (100 : Int32).toInt = 100) rfl).mp d3
        rw [if_pos d3]; exact Or.inr ⟨fun z => by have := (z.1 (by omega)).2; omega, rfl⟩
      · have d3' := mt (iLE (a := 100) (b := v) (by decide : (100 : Int32).toInt = 100) rfl).mpr d3
        rw [if_neg d3]; exact Or.inl ⟨.a (by omega) ⟨by omega, by omega⟩, rfl⟩
/-- a row is among those of a table -/
def inK (l : List Nat) (q : Nat) : Prop := ∃ i, i < l.length ∧ l.getD i 0 = q
theorem n_hasK {I : gM} {A : aT} {t : Nat} {x y z : Int32} (hW : WF A) (hR : RT I (I 70) A) (ht : t < A.1.length) (hr : rowOK (aL A t).length x y z) : (inK (aK A t) (kyz x y z) ∧ fX9_hasRow (nI t) x y z I = some 1) ∨ (¬ inK (aK A t) (kyz x y z) ∧ fX9_hasRow (nI t) x y z I = some 0) := by
  obtain ⟨w1, _, _, w4, w5, w6⟩ := hW.2.2.2.2 t ht
  have hn4 := hW.1
  have hRt := (hR.2.2.2 t ht).2.2
  obtain ⟨i, h1, h2⟩ := n_hasRow (by omega) w4 hRt.1 x y z
  obtain ⟨p1, p2⟩ := cl_pos hRt w1.1 w6 w5 hr h1
  by_cases c : i < (aK A t).length ∧ cm9 (I 70) t i x y z = 0
  · rw [if_pos c] at h2
    exact Or.inl ⟨⟨i, p2.mp c⟩, h2⟩
  · rw [if_neg c] at h2
    refine Or.inr ⟨fun ⟨j, hj, e⟩ => c (p2.mpr ?_), h2⟩
    have := p1.eq (posK.at w5 hj e)
    subst this
    exact ⟨hj, e⟩
theorem c_has {I : gM} {k : Nat} {A : aT} {t : Nat} {q : Nat} (hW : WF A) (hC : CT I k A) (ht : t < A.1.length) (hq : q < 2097152) : (inK (aK A t) q ∧ ∃ i, i < 12 ∧ fX5_placeOf k (nI t) (nI q) I = some (nI i)) ∨ (¬ inK (aK A t) q ∧ fX5_placeOf k (nI t) (nI q) I = some (-1)) := by
  have w := hW.2.2.2.2 t ht
  have hn4 := hW.1
  have w4 := w.2.2.2.1
  rcases c_placeOf (by omega) w4 (hC.2.2.2 t ht).2.2 hq (k_lt w) with ⟨i, a, b, c⟩ | ⟨a, b⟩
  · exact Or.inl ⟨⟨i, a, b⟩, i, by omega, c⟩
  · exact Or.inr ⟨fun ⟨i, p, q⟩ => a i p q, b⟩
/-- why a row can't be put in or taken away, as both tell it -/
def whyR (A : aT) (s : Nat) (t : Nat) (x y z : Int32) (r : Int32) : Prop :=
  (¬ rowOK (aL A t).length x y z ∧ r = 1) ∨ (rowOK (aL A t).length x y z ∧ inK (aK A t) (kyz x y z) ∧ r = if s = 0 then 2 else -1) ∨ (rowOK (aL A t).length x y z ∧ ¬ inK (aK A t) (kyz x y z) ∧ r = if s = 0 then (if (aK A t).length = 12 then 3 else -1) else 2)
theorem whyR.eq {A : aT} {s t : Nat} {x y z r r' : Int32} (h : whyR A s t x y z r) (h' : whyR A s t x y z r') : r = r' := by
  rcases h with ⟨a, b⟩ | ⟨a, c, b⟩ | ⟨a, c, b⟩ <;> rcases h' with ⟨a', b'⟩ | ⟨a', c', b'⟩ | ⟨a', c', b'⟩
  · rw [b, b']
  · exact absurd a' a
  · exact absurd a' a
  · exact absurd a a'
  · rw [b, b']
  · exact absurd c c'
  · exact absurd a a'
  · exact absurd c' c
  · rw [b, b']
theorem c_refPT {I : gM} {k : Nat} {A : aT} {s t : Nat} (hW : WF A) (hC : CT I k A) (hs : s < 2) (ht : t < A.1.length) (x y z : Int32) : ∃ r, fX5_refusal k (nI s) (nI t) x y z I = some r ∧ whyR A s t x y z r := by
  have w := hW.2.2.2.2 t ht
  have hn4 := hW.1
  have w3 := w.1.2
  have w4 := w.2.2.2.1
  have ew := (hC.2.2.2 t ht).1
  unfold fX5_refusal
  have e1 : fX5_isTable k (nI t) I = some 1 := by
    rcases c_isTable hn4 hC.1 (nI t) with ⟨_, _, _, z⟩ | ⟨z, _⟩
    · exact z
    · exact absurd rfl (z t ht)
  rw [hC.1, if_neg (fun q => by have := nI_inj (b := 0) q (by omega) (by omega); omega), if_neg (fun q => by have := nI_inj (b := 3) q (by omega) (by omega); omega), e1, obs, if_neg n10, if_neg (fun q => by have := nI_inj (b := 2) q (by omega) (by omega); omega)]
  have f0 : (colOK 0 (aL A t).length x ∧ fX5_isFitting k (nI t) 0 x I = some 1) ∨ (¬ colOK 0 (aL A t).length x ∧ fX5_isFitting k (nI t) 0 x I = some 0) := c_isFitting (c := 0) (by omega) ew w3 (by omega) x
  have f1 : (colOK 1 (aL A t).length y ∧ fX5_isFitting k (nI t) 1 y I = some 1) ∨ (¬ colOK 1 (aL A t).length y ∧ fX5_isFitting k (nI t) 1 y I = some 0) := c_isFitting (c := 1) (by omega) ew w3 (by omega) y
  have f2 : (colOK 2 (aL A t).length z ∧ fX5_isFitting k (nI t) 2 z I = some 1) ∨ (¬ colOK 2 (aL A t).length z ∧ fX5_isFitting k (nI t) 2 z I = some 0) := c_isFitting (c := 2) (by omega) ew w3 (by omega) z
  have bad : ¬ rowOK (aL A t).length x y z → ∃ r, some (1 : Int32) = some r ∧ whyR A s t x y z r := fun h => ⟨1, rfl, Or.inl ⟨h, rfl⟩⟩
  rcases f0 with ⟨g0, e⟩ | ⟨g0, e⟩
  · rw [e, obs, if_neg n10]
    rcases f1 with ⟨g1, e⟩ | ⟨g1, e⟩
    · rw [e, obs, if_neg n10]
      rcases f2 with ⟨g2, e⟩ | ⟨g2, e⟩
      · rw [e, obs, if_neg n10]
        have hr : rowOK (aL A t).length x y z := ⟨g0.1 (by have := w.1.1; omega), g1, g2⟩
        obtain ⟨rk, rb, _⟩ := row_k hr
        rw [n_packed rb.1 rb.2.1 rb.2.2, obs]
        unfold bX5_refusal_127 bX5_refusal_141
        rcases c_has (q := kyz x y z) hW hC ht rk.lt with ⟨h1, i, hi, e⟩ | ⟨h1, e⟩
        · rw [e, obs, if_neg (nI_m1 (by omega))]
          by_cases c : s = 0
          · subst c
            rw [if_neg (by decide), if_neg (by decide)]
            exact ⟨_, rfl, Or.inr (Or.inl ⟨hr, h1, by rw [if_pos rfl]⟩)⟩
          · have : s = 1 := by omega
            subst this
            rw [if_pos (show nI 1 = 1 from rfl), if_pos rfl, if_neg (by decide)]
            exact ⟨_, rfl, Or.inr (Or.inl ⟨hr, h1, by rw [if_neg (by decide)]⟩)⟩
        · rw [e, obs, if_pos rfl]
          by_cases c : s = 0
          · subst c
            rw [if_neg (by decide), if_pos rfl, if_pos (show nI 0 = 0 from rfl), rI_n (by omega) (by omega), obs, (hC.2.2.2 t ht).2.2.1]
            by_cases d : (aK A t).length = 12
            · rw [d, if_neg (by decide)]
              exact ⟨_, rfl, Or.inr (Or.inr ⟨hr, h1, by rw [if_pos rfl, if_pos d]⟩)⟩
            · rw [if_pos (show nI (aK A t).length < (12 : Int32) from (nI_ltI (b := 12) (by omega) (by omega)).mpr (by omega))]
              exact ⟨_, rfl, Or.inr (Or.inr ⟨hr, h1, by rw [if_pos rfl, if_neg d]⟩)⟩
          · have : s = 1 := by omega
            subst this
            rw [if_pos (show nI 1 = 1 from rfl), if_neg (by decide)]
            exact ⟨_, rfl, Or.inr (Or.inr ⟨hr, h1, by rw [if_neg (by decide)]⟩)⟩
      · rw [e, obs, if_pos rfl]
        exact bad (fun q => g2 q.2.2)
    · rw [e, obs, if_pos rfl]
      exact bad (fun q => g1 q.2.1)
  · rw [e, obs, if_pos rfl]
    refine bad (fun q => g0 ⟨fun _ => q.1, fun q' => by have := w.1.1; omega⟩)
theorem n_refPT {I : gM} {A : aT} {s t : Nat} (hW : WF A) (hR : RT I (I 70) A) (hs : s < 2) (ht : t < A.1.length) (x y z : Int32) : ∃ r, fX9_whyNot (nI s) (nI t) x y z I = some r ∧ whyR A s t x y z r := by
  have w := hW.2.2.2.2 t ht
  have hn4 := hW.1
  have w3 := w.1.2
  have w4 := w.2.2.2.1
  have hRt := (hR.2.2.2 t ht).2.2
  have ew := (hR.2.2.2 t ht).1
  unfold fX9_whyNot
  have hh : ∀ b, fX9_hasRow (nI t) x y z I = some b → rowOK (aL A t).length x y z → (b = 1 → inK (aK A t) (kyz x y z)) ∧ (b = 0 → ¬ inK (aK A t) (kyz x y z)) := by
    intro b eb hr
    rcases n_hasK hW hR ht hr with ⟨h1, h2⟩ | ⟨h1, h2⟩
    · rw [eb] at h2; cases h2
      exact ⟨fun _ => h1, fun q => absurd q n10⟩
    · rw [eb] at h2; cases h2
      exact ⟨fun q => absurd q (by decide), fun _ => h1⟩
  by_cases c : s = 0
  · subst c
    rw [if_pos (show nI 0 = 0 from rfl)]
    rcases n_whyPut hn4 hR.1 ht w3 ew w4 hRt.1 x y z with ⟨a, b⟩ | ⟨a, e, b⟩ | ⟨a, e, m, b⟩ | ⟨a, e, m, b⟩
    · rw [b, obs]; exact ⟨_, rfl, Or.inl ⟨a, rfl⟩⟩
    · rw [b, obs]; exact ⟨_, rfl, Or.inr (Or.inl ⟨a, (hh _ e a).1 rfl, by rw [if_pos rfl]⟩)⟩
    · rw [b, obs]; exact ⟨_, rfl, Or.inr (Or.inr ⟨a, (hh _ e a).2 rfl, by rw [if_pos rfl, if_pos m]⟩)⟩
    · rw [b, obs]; exact ⟨_, rfl, Or.inr (Or.inr ⟨a, (hh _ e a).2 rfl, by rw [if_pos rfl, if_neg (by omega)]⟩)⟩
  · have : s = 1 := by omega
    subst this
    rw [if_neg (by decide), if_pos (show nI 1 = 1 from rfl)]
    rcases n_whyTake hn4 hR.1 ht w3 ew w4 hRt.1 x y z with ⟨a, b⟩ | ⟨a, e, b⟩ | ⟨a, e, b⟩
    · rw [b, obs]; exact ⟨_, rfl, Or.inl ⟨a, rfl⟩⟩
    · rw [b, obs]; exact ⟨_, rfl, Or.inr (Or.inr ⟨a, (hh _ e a).2 rfl, by rw [if_neg (by decide)]⟩)⟩
    · rw [b, obs]; exact ⟨_, rfl, Or.inr (Or.inl ⟨a, (hh _ e a).1 rfl, by rw [if_neg (by decide)]⟩)⟩
theorem whyR.rg {A : aT} {s t : Nat} {x y z r : Int32} (h : whyR A s t x y z r) : r = 0 ∨ r = 1 ∨ r = 2 ∨ r = 3 ∨ r = -1 := by
  rcases h with ⟨_, b⟩ | ⟨_, _, b⟩ | ⟨_, _, b⟩
  · exact Or.inr (Or.inl b)
  · split at b
    · exact Or.inr (Or.inr (Or.inl b))
    · exact Or.inr (Or.inr (Or.inr (Or.inr b)))
  · split at b
    · split at b
      · exact Or.inr (Or.inr (Or.inr (Or.inl b)))
      · exact Or.inr (Or.inr (Or.inr (Or.inr b)))
    · exact Or.inr (Or.inr (Or.inl b))
/-- both refuse for the same reason -/
theorem why_both {I0 I : gM} {k : Nat} {A : aT} (hM : MI false I0 I) (hW : WF A) (hC : CT I k A) (hR : RT I (I 70) A) {s : Nat} (hs : s < 4) (a x y z : Int32) : ∃ r, fX5_refusal k (nI s) a x y z I = some r ∧ fX9_whyNot (nI s) a x y z I = some r ∧ (r = 0 ∨ r = 1 ∨ r = 2 ∨ r = 3 ∨ r = -1) ∧ (r = -1 → ∃ w', Act9 A.1.length (I 72) (I 70) (nI s) a x y z w') := by
  have hn4 := hW.1
  have fin : ∀ r, fX9_whyNot (nI s) a x y z I = some r → r = -1 → ∃ w', Act9 A.1.length (I 72) (I 70) (nI s) a x y z w' := fun r e q => n_can hM hn4 hR.1 (by rw [e, q])
  have noT : (∀ t, t < A.1.length → a ≠ nI t) → fX9_isTable a I = some 0 := fun h => by
    rcases n_isTable hn4 hR.1 a with ⟨t, ht, e, _⟩ | ⟨_, e⟩
    · exact absurd e (h t ht)
    · exact e
  by_cases n0 : A.1.length = 0
  · have e1 : fX5_refusal k (nI s) a x y z I = some 0 := by
      unfold fX5_refusal
      rw [hC.1, n0, if_pos (show nI 0 = 0 from rfl)]
    have e2 : fX9_whyNot (nI s) a x y z I = some 0 := by
      have e3 := noT (fun t ht => by omega)
      unfold fX9_whyNot fX9_whyPut fX9_whyTake
      simp only [e3, obs, n_areTables hn4 hR.1, n0, ↓reduceIte]
      by_cases c0 : nI s = 0
      · rw [if_pos c0]
      · rw [if_neg c0]
        by_cases c1 : nI s = 1
        · rw [if_pos c1]
        · rw [if_neg c1]
          by_cases c2 : nI s = 2
          · rw [if_pos c2]
          · rw [if_neg c2]
    exact ⟨0, e1, e2, Or.inl rfl, fun q => absurd q (by decide)⟩
  by_cases c3 : s = 3
  · subst c3
    -- the order
    have key : ∃ r, fX5_refusal k (nI 3) a x y z I = some r ∧ fX9_whyNot (nI 3) a x y z I = some r ∧ (r = 0 ∨ r = 1 ∨ r = 2 ∨ r = 3 ∨ r = -1) := by
      unfold fX5_refusal fX9_whyNot
      rw [hC.1, if_neg (fun q => by have := nI_inj (b := 0) q (by omega) (by omega); omega), if_pos (show nI 3 = 3 from rfl), if_neg (show ¬ nI 3 = 0 by decide), if_neg (show ¬ nI 3 = 1 by decide), if_neg (show ¬ nI 3 = 2 by decide), n_areTables hn4 hR.1, obs, if_neg n0, if_neg n10, hC.2.2.1, show rI 331 (I 70) 1 = some (I 70 1) from rI_n (a := 1) (by omega) (by omega), hR.2.2.1]
      rcases n_in a 0 23 with ⟨a1, a2, e⟩ | ⟨a1, e⟩
      · have t23 : (23 : Int32).toInt = 23 := by decide
        rw [t0i] at a1
        rw [t23] at a2
        rw [e, obs, if_neg n10, obs, if_neg (mt (iLT (a := a) (b := 0) rfl t0i).mp (by omega)), if_pos ((iLT (a := a) (b := 24) rfl (by decide : (24 : Int32).toInt = 24)).mpr (by omega))]
        by_cases d : a = nI A.2.2
        · rw [if_pos d, if_pos d.symm]; exact ⟨_, rfl, rfl, Or.inr (Or.inr (Or.inl rfl))⟩
        · rw [if_neg d, if_neg (fun q => d q.symm)]; exact ⟨_, rfl, rfl, Or.inr (Or.inr (Or.inr (Or.inr rfl)))⟩
      · rw [e, obs, if_pos rfl]
        by_cases d : a < 0
        · rw [if_pos d]; exact ⟨_, rfl, rfl, Or.inr (Or.inl rfl)⟩
        · rw [if_neg d]
          have d' := mt (iLT (a := a) (b := 0) rfl t0i).mpr d
          have : ¬ a < 24 := fun q => a1 (by
            have q' := (iLT (a := a) (b := 24) rfl (by decide : (24 : Int32).toInt = 24)).mp q
            have t23 : (23 : Int32).toInt = 23 := by decide
            rw [t0i, t23]; omega)
          rw [if_neg this]; exact ⟨_, rfl, rfl, Or.inr (Or.inl rfl)⟩
    obtain ⟨r, e1, e2, e3⟩ := key
    exact ⟨r, e1, e2, e3, fin r e2⟩
  rcases c_isTable hn4 hC.1 a with ⟨t, ht, ea, e⟩ | ⟨hno, e⟩
  · subst ea
    by_cases c2 : s = 2
    · subst c2
      have e9 : fX9_isTable (nI t) I = some 1 := by
        rcases n_isTable hn4 hR.1 (nI t) with ⟨_, _, _, z⟩ | ⟨z, _⟩
        · exact z
        · exact absurd rfl (z t ht)
      have key : ∃ r, fX5_refusal k (nI 2) (nI t) x y z I = some r ∧ fX9_whyNot (nI 2) (nI t) x y z I = some r ∧ (r = 0 ∨ r = 1 ∨ r = 2 ∨ r = 3 ∨ r = -1) := by
        unfold fX5_refusal fX9_whyNot
        rw [hC.1, if_neg (fun q => by have := nI_inj (b := 0) q (by omega) (by omega); omega), if_neg (show ¬ nI 2 = 3 by decide), e, obs, if_neg n10, if_pos (show nI 2 = 2 from rfl), if_neg (show ¬ nI 2 = 0 by decide), if_neg (show ¬ nI 2 = 1 by decide), if_pos (show nI 2 = 2 from rfl), e9, obs, if_neg n10, hC.2.1, show rI 331 (I 70) 0 = some (I 70 0) from rI_n (a := 0) (by omega) (by omega), obs, hR.2.1]
        by_cases d : nI A.2.1 = (1 : Int32) <<< (nI t &&& 31)
        · rw [if_pos d]; exact ⟨_, rfl, rfl, Or.inr (Or.inr (Or.inl rfl))⟩
        · rw [if_neg d]; exact ⟨_, rfl, rfl, Or.inr (Or.inr (Or.inr (Or.inr rfl)))⟩
      obtain ⟨r, e1, e2, e3⟩ := key
      exact ⟨r, e1, e2, e3, fin r e2⟩
    · obtain ⟨r, e1, h1⟩ := c_refPT (s := s) hW hC (by omega) ht x y z
      obtain ⟨r', e2, h2⟩ := n_refPT (s := s) hW hR (by omega) ht x y z
      have := h1.eq h2
      subst this
      exact ⟨r, e1, e2, h1.rg, fin r e2⟩
  · have e9 := noT hno
    have e1 : fX5_refusal k (nI s) a x y z I = some 0 := by
      unfold fX5_refusal
      rw [hC.1, if_neg (fun q => by have := nI_inj (b := 0) q (by omega) (by omega); omega), if_neg (show ¬ nI s = 3 from fun q => c3 (nI_inj (b := 3) q (by omega) (by omega))), e, obs, if_pos rfl]
    have e2 : fX9_whyNot (nI s) a x y z I = some 0 := by
      unfold fX9_whyNot fX9_whyPut fX9_whyTake
      simp only [e9, obs, ↓reduceIte]
      rcases (by omega : s = 0 ∨ s = 1 ∨ s = 2) with rfl | rfl | rfl
      · rw [if_pos (show nI 0 = 0 from rfl)]
      · rw [if_neg (by decide), if_pos (show nI 1 = 1 from rfl)]
      · rw [if_neg (by decide), if_neg (by decide), if_pos (show nI 2 = 2 from rfl)]
    exact ⟨0, e1, e2, Or.inl rfl, fun q => absurd q (by decide)⟩
