theorem rA_n {s : Nat} (h : s < 4) : rA 4 (nI s) = some (54 + 2 * s) := by
  have e := tnI (n := s) (by omega)
  unfold rA
  rw [if_pos (by omega), e]; rfl
/-- scripts told to both -/
theorem text1_both {I : gM} (hR : TPR I) (h8 : MI true I I) (hA : A9 I) (hc : I 0 14 = I 62 12) : ∃ a b, fX8_text 1 I = some a ∧ fX9_text 1 a.2 = some b ∧ a.1 = b.1 ∧ MI true I a.2 ∧ MI false a.2 b.2 ∧ A9 b.2 ∧ TPR b.2 ∧ b.2 0 14 = b.2 62 12 := by
  obtain ⟨n, hn, t1, t2, t3⟩ := hR
  obtain ⟨a, ea, _, hMa⟩ := tfX8_text 1 I h8
  have hMa9 : MI false a.2 a.2 := hMa.re
  have k62 := hMa.hi (k := 62) (by decide)
  have k63 := hMa.hi (k := 63) (by decide)
  obtain ⟨b, eb, hMb, hAb, b63, hb⟩ := n_text1 hMa9 (A9.hi hMa hA)
  obtain ⟨sc, hsc, esc⟩ := h8.n (k := 62) (j := 12) (hi := 4) rfl
  rw [k62] at hb
  rw [k63] at b63
  have c0 : ∀ k, k < 62 → b.2 k = a.2 k := fun k hk => hMb.lo hk
  have go : ∀ A : Int32 × gM, A = a → fX8_textOfScript I = some A → a.1 = b.1 ∧ TPR b.2 ∧ b.2 0 14 = b.2 62 12 := by
    intro A hA' es
    unfold fX8_textOfScript at es
    rw [hc] at es
    by_cases c4 : (4 : Int32) ≤ I 62 12
    · rw [if_pos c4] at es
      cases es
      subst hA'
      rcases hb with ⟨b1, b2, b3, _⟩ | ⟨z, _⟩
      · refine ⟨b1.symm, ⟨n, hn, ?_, by rw [b2]; exact t2, fun j hj => ?_⟩, ?_⟩
        · rw [c0 1 (by decide)]; exact t1
        · rw [c0 2 (by decide), b63]; exact t3 j hj
        · rw [c0 0 (by decide), b3]; exact hc
      · exact absurd c4 z
    · rw [if_neg c4] at es
      have l4 : sc < 4 := by
        rw [esc] at c4
        have := mt (nI_leI (a := 4) (b := sc) (by omega) (by omega)).mpr c4
        omega
      obtain ⟨r1, e1, es⟩ := ob es
      have f1 := xfX6_readScript _ _ e1
      obtain ⟨q, eq, hq⟩ := n_readScript (I := a.2) (s := sc) (by omega) hn (by rw [k62]; exact t2)
      rw [← esc] at eq
      rw [k63] at hq
      rcases c_readScript ⟨t1, hn, t3⟩ h8 e1 with ⟨x, s1, s2, s3⟩ | ⟨s1, s2⟩
      · rw [if_pos s2, f1 0 14 (Or.inl (by decide)) (Or.inl (by decide)) (by decide), hc, esc, rA_n l4, obs] at es
        obtain ⟨r3, e3, es⟩ := ob es
        have f3 := xfX4_copyFrom _ _ _ e3
        rw [pU_n, obs, pU_n, obs] at es
        have r014 : r3 0 14 = nI sc := by rw [f3 0 14 (Or.inl (by omega)) (by omega), f1 0 14 (Or.inl (by decide)) (Or.inl (by decide)) (by decide), hc, esc]
        rw [g_up_row (show 0 ≠ 1 by decide), r014, nI_1] at es
        cases es
        subst hA'
        rcases hb with ⟨_, _, _, b4⟩ | ⟨_, b2, b3, b4, _⟩
        · exfalso
          obtain ⟨s', z1, z2⟩ := b4 c4
          rw [eq] at z1
          cases z1
          rcases hq with ⟨y1, _⟩ | ⟨_, _, y2, _⟩
          · rw [s1] at y1; cases y1
          · exact z2 y2
        · refine ⟨?_, ⟨0, by omega, ?_, by rw [b2]; rfl, fun j hj => absurd hj (Nat.not_lt_zero j)⟩, ?_⟩
          · rw [b4, esc, g_up_self, nI_s1 (by omega)]; rfl
          · rw [c0 1 (by decide)]
            dsimp only
            rw [g_up_row (by decide), g_up_self]; rfl
          · rw [c0 0 (by decide), b3, esc, nI_1]
            dsimp only
            rw [g_up_self]
      · rw [if_neg s2] at es
        cases es
        subst hA'
        rcases hb with ⟨b1, b2, b3, _⟩ | ⟨_, _, _, _, s', z1, z2⟩
        · refine ⟨b1.symm, ⟨n, hn, ?_, by rw [b2]; exact t2, fun j hj => ?_⟩, ?_⟩
          · rw [c0 1 (by decide)]
            exact (f1 1 0 (Or.inr (by decide)) (Or.inl (by decide)) (by decide)).trans t1
          · rw [c0 2 (by decide), b63]
            exact ⟨(f1 2 j (Or.inl (by decide)) (Or.inl (by decide)) (by decide)).trans (t3 j hj).1, (t3 j hj).2⟩
          · rw [c0 0 (by decide), b3]
            exact (f1 0 14 (Or.inl (by decide)) (Or.inl (by decide)) (by decide)).trans hc
        · exfalso
          rw [eq] at z1
          cases z1
          rcases hq with ⟨_, y1⟩ | ⟨_, y1, _⟩
          · exact y1 z2
          · rw [s1] at y1; cases y1
  have ea' : ∃ A, A = a ∧ fX8_textOfScript I = some A := by
    unfold fX8_text at ea
    rw [if_neg (by decide), if_pos rfl] at ea
    obtain ⟨s, es, ea⟩ := ob ea
    cases ea
    exact ⟨s, rfl, es⟩
  obtain ⟨A, hA', es⟩ := ea'
  obtain ⟨g1, g2, g3⟩ := go A hA' es
  exact ⟨a, b, ea, eb, g1, hMa, hMb, hAb, g2, g3⟩
/-- what the two objects keep in common: the tapes, how many scripts -/
def Inv0 (I : gM) : Prop := MI true I I ∧ A9 I ∧ TPR I ∧ I 0 14 = I 62 12
theorem MI.both {I a b : gM} (h1 : MI true I a) (h2 : MI false a b) : MI true b b := ⟨h2.1, fun _ _ => rfl⟩
/-- nothing of that is touched -/
theorem Inv0.keep {I a b : gM} (h : Inv0 I) (h1 : MI true I a) (h2 : MI false a b) (hA : A9 b) (x1 : a 1 0 = I 1 0) (x2 : ∀ j, a 2 j = I 2 j) (x3 : a 0 14 = I 0 14) (y1 : b 62 2 = a 62 2) (y2 : b 62 12 = a 62 12) (y3 : ∀ j, b 63 j = a 63 j) : Inv0 b := by
  obtain ⟨_, _, ⟨n, hn, t1, t2, t3⟩, hc⟩ := h
  have k62 := h1.hi (k := 62) (by decide)
  have k63 := h1.hi (k := 63) (by decide)
  refine ⟨h1.both h2, hA, ⟨n, hn, ?_, ?_, fun j hj => ?_⟩, ?_⟩
  · rw [h2.lo (by decide), x1]; exact t1
  · rw [y1, k62]; exact t2
  · rw [h2.lo (k := 2) (by decide), x2, y3, k63]; exact t3 j hj
  · rw [h2.lo (k := 0) (by decide), x3, hc, y2, k62]
/-- the class's object alone was asked -/
theorem Inv0.id8 {I b : gM} (h : Inv0 I) (h2 : MI false I b) (hA : A9 b) (y1 : b 62 2 = I 62 2) (y2 : b 62 12 = I 62 12) (y3 : ∀ j, b 63 j = I 63 j) : Inv0 b := h.keep h.1 h2 hA rfl (fun _ => rfl) rfl y1 y2 y3
theorem mi_fe9 {I0 I : gM} (h : MI false I0 I) {n : Nat} {l : List Int32} (hn : n + l.length ≤ 400) (hl : ∀ b, b ∈ l → 1 ≤ b.toInt ∧ b.toInt ≤ 255) : MI false I0 (fe 62 2 63 I n l) := by
  refine ⟨fun k j => ?_, fun k hk => ?_⟩
  · by_cases c : k = 62 ∧ j = 2
    · rw [c.1, c.2, fe_len]
      show (0 : Int) ≤ (nI (n + l.length)).toInt ∧ (nI (n + l.length)).toInt ≤ 400
      rw [tnI (by omega)]; omega
    · by_cases d : k = 63
      · subst d
        rw [fe_y (show 63 ≠ 62 by decide)]
        unfold wt
        by_cases e : n ≤ j ∧ j < n + l.length
        · rw [if_pos e, List.getD_eq_getElem?_getD, List.getElem?_eq_getElem (show j - n < l.length by omega)]
          have := hl _ (List.getElem_mem (show j - n < l.length by omega))
          show (-1 : Int) ≤ _ ∧ _ ≤ (255 : Int)
          dsimp only [Option.getD_some]
          omega
        · rw [if_neg e]; exact h.1 63 j
      · have e : fe 62 2 63 I n l k j = I k j := by
          unfold fe
          rw [if_neg c, if_neg d]
        rw [e]; exact h.1 k j
  · rw [fe_k (fun z => by subst z; cases hk) (fun z => by subst z; cases hk)]; exact h.2 k hk
theorem t_feed9 {I0 I : gM} (hM : MI false I0 I) (hA : A9 I) (v1 v2 v3 v4 v5 : Int32) : T (fX9_feed v1 v2 v3 v4 v5 I) (fun r => MI false I0 r.2 ∧ A9 r.2) := by
  obtain ⟨n, hn, e⟩ := hM.tp
  have a := n_feed9 v1 v2 v3 v4 v5 hn e
  by_cases c : n + (nz (by5 v1 v2 v3 v4 v5)).length ≤ 400
  · rw [if_pos c] at a
    have hA2 : A9 (fe 62 2 63 I n (nz (by5 v1 v2 v3 v4 v5))) := hA.same (fe_j (by decide) (by decide)) (fe_j (by decide) (by decide)) (fe_j (by decide) (by decide)) (fun k hk => fe_k (by omega) (by omega))
    exact ⟨_, a, mi_fe9 hM c (fun b hb => by5_rg hb), hA2⟩
  · rw [if_neg c] at a
    exact ⟨_, a, hM, hA⟩
theorem both_feed {I : gM} (h : Inv0 I) (v1 v2 v3 v4 v5 : Int32) : ∃ a b, fX8_feed v1 v2 v3 v4 v5 I = some a ∧ fX9_feed v1 v2 v3 v4 v5 a.2 = some b ∧ Inv0 b.2 ∧ a.1 = b.1 := by
  obtain ⟨hM, hA, hT, hc⟩ := h
  obtain ⟨v, A, B, e1, e2, hT2, hk, hj1, hj2⟩ := feed_both v1 v2 v3 v4 v5 hT
  obtain ⟨a', e1', _, hMa⟩ := tfX8_feed v1 v2 v3 v4 v5 I hM
  rw [e1] at e1'
  cases e1'
  obtain ⟨b', e2', hMb, hAb⟩ := t_feed9 hMa.re (A9.hi hMa hA) v1 v2 v3 v4 v5
  rw [e2] at e2'
  cases e2'
  refine ⟨_, _, e1, e2, ⟨hMa.both hMb, hAb, hT2, ?_⟩, rfl⟩
  dsimp only
  rw [hk 0 (by decide) (by decide) (by decide) (by decide), hj2 12 (by decide)]; exact hc
theorem both_end {I : gM} (h : Inv0 I) (v : Int32) : ∃ a b, fX8_end v I = some a ∧ fX9_end v a.2 = some b ∧ Inv0 b.2 ∧ a.1 = b.1 := by
  obtain ⟨hM, hA, ⟨n, hn, t1, t2, t3⟩, hc⟩ := h
  obtain ⟨a, e1, _, hMa⟩ := tfX8_end v I hM
  obtain ⟨b, e2, _, hMb⟩ := tfX9_end v a.2 hMa.re
  have k62 := hMa.hi (k := 62) (by decide)
  have k63 := hMa.hi (k := 63) (by decide)
  have hAb : A9 b.2 := by
    have f := xfX9_end _ _ e2
    exact (A9.hi hMa hA).same (f _ _ (Or.inr (by decide))) (f _ _ (Or.inr (by decide))) (f _ _ (Or.inr (by decide))) (fun k hk => funext fun j => f k j (Or.inl (by omega)))
  refine ⟨a, b, e1, e2, ?_⟩
  have hin := n_in v 0 (I 62 2)
  unfold fX8_end at e1
  unfold fX9_end at e2
  rw [k62] at e2
  by_cases c : 0 ≤ v.toInt ∧ v.toInt ≤ (n : Int)
  · have hl : nI v.toInt.toNat = v := (nI_self c.1).symm
    rw [if_neg (mt (iLT (a := v) (b := 0) rfl (by decide : (0 : Int32).toInt = 0)).mp (by omega)), t1, if_pos ((iLE (a := v) (b := nI n) rfl (tnI (by omega))).mpr c.2), pU_n, obs] at e1
    cases e1
    have e5 : fX9_in v 0 (I 62 2) = some 1 := by
      rcases hin with ⟨_, _, q⟩ | ⟨q, _⟩
      · exact q
      · exact absurd ⟨c.1, by rw [t2, tnI (by omega)]; exact c.2⟩ q
    rw [e5, obs, if_neg n10, pU_n, obs] at e2
    cases e2
    refine ⟨⟨hMa.both hMb, hAb, ⟨v.toInt.toNat, by omega, ?_, ?_, fun j hj => ?_⟩, ?_⟩, rfl⟩
    · dsimp only
      rw [g_up_row (by decide), g_up_self]; exact hl.symm
    · dsimp only
      rw [g_up_self]; exact hl.symm
    · dsimp only
      rw [g_up_row (by decide), g_up_row (by decide), g_up_row (by decide), g_up_row (by decide)]
      exact t3 j (by omega)
    · dsimp only
      rw [g_up_row (by decide), g_up_row (by decide), g_up_ne (Or.inr (by decide)), g_up_row (by decide)]; exact hc
  · have e5 : fX9_in v 0 (I 62 2) = some 0 := by
      rcases hin with ⟨q1, q2, _⟩ | ⟨_, q⟩
      · rw [t2, tnI (by omega)] at q2
        exact absurd ⟨q1, q2⟩ c
      · exact q
    rw [e5, obs, if_pos rfl] at e2
    cases e2
    have ea : a = (0, I) := by
      by_cases c1 : v < 0
      · rw [if_pos c1] at e1
        exact (Option.some.inj e1).symm
      · have c1' := mt (iLT (a := v) (b := 0) rfl (by decide : (0 : Int32).toInt = 0)).mpr c1
        rw [if_neg c1, t1, if_neg (mt (iLE (a := v) (b := nI n) rfl (tnI (by omega))).mp (by omega))] at e1
        exact (Option.some.inj e1).symm
    subst ea
    exact ⟨⟨hM, hA, ⟨n, hn, t1, t2, t3⟩, hc⟩, rfl⟩
theorem both_text {I : gM} (h : Inv0 I) (v : Int32) : ∃ a b, fX8_text v I = some a ∧ fX9_text v a.2 = some b ∧ Inv0 b.2 := by
  obtain ⟨hM, hA, hT, hc⟩ := h
  by_cases c0 : v = 0
  · subst c0
    obtain ⟨a, b, e1, e2, h1, h2, h3, h4, h5, h6⟩ := text0_both hT hM hA
    exact ⟨a, b, e1, e2, h1.both h2, h3, h4, by rw [h5, h6]; exact hc⟩
  · by_cases c1 : v = 1
    · subst c1
      obtain ⟨a, b, e1, e2, _, h1, h2, h3, h4, h5⟩ := text1_both hT hM hA hc
      exact ⟨a, b, e1, e2, h1.both h2, h3, h4, h5⟩
    · have e : fX8_text v I = some (-1, I) := by
        unfold fX8_text
        rw [if_neg c0, if_neg c1]
      exact ⟨_, _, e, n_textN c0 c1, hM, hA, hT, hc⟩
