/-- the tape's length as a number -/
theorem MI.tp {I0 I : gM} (h : MI false I0 I) : ∃ n, n ≤ 400 ∧ I 62 2 = nI n := h.n (k := 62) (j := 2) (hi := 400) rfl
theorem n_readAllM {I0 I : gM} (hM : MI false I0 I) {n : Nat} (hn : n ≤ 400) (e : I 62 2 = nI n) : ∃ r, fX9_readAll I = some r ∧ MI false I0 r.2 ∧ ((pTabs (I 63) n 4 [] 0 = none ∧ r.1 ≠ -1) ∨ ∃ x, pTabs (I 63) n 4 [] 0 = some x ∧ r.1 = -1 ∧ 1 ≤ x.length ∧ TsC r.2 x) := by
  have hT : TP9 (P9 I 0) n 0 := ⟨by rw [P9_j (by decide)]; exact e, hn, P9_3, by omega⟩
  have es : fX9_readAll (P9 I 0) = fX9_readAll I := by
    unfold fX9_readAll fX9_begins
    rw [pU_n, pU_n, show g_up (P9 I 0) 62 3 0 = g_up I 62 3 0 from P9_P9 (p := 0) (q := 0)]
  obtain ⟨r, er, h⟩ := n_readAll hT
  rw [es] at er
  rw [P9_k (by decide)] at h
  obtain ⟨r', er', _, hM'⟩ := tfX9_readAll I hM
  rw [er] at er'
  cases er'
  exact ⟨r, er, hM', h⟩
/-- the tables are told, or nothing but the reading has changed -/
theorem n_text0 {I0 I : gM} (hM : MI false I0 I) (hA : A9 I) {n : Nat} (hn : n ≤ 400) (e : I 62 2 = nI n) : ∃ r, fX9_text 0 I = some r ∧ MI false I0 r.2 ∧ A9 r.2 ∧ r.2 63 = I 63 ∧ r.2 62 12 = I 62 12 ∧
    ((pTabs (I 63) n 4 [] 0 = none ∧ r.1 = -1 ∧ r.2 62 2 = I 62 2) ∨ ∃ x, pTabs (I 63) n 4 [] 0 = some x ∧ r.1 = nI x.length ∧ r.2 62 2 = 0) := by
  obtain ⟨r, er, hMr, h⟩ := n_readAllM hM hn e
  have f := xfX9_readAll _ er
  unfold fX9_text
  rw [if_pos rfl, er, obs]
  rcases h with ⟨e1, h1⟩ | ⟨x, e1, h1, _, hC⟩
  · rw [if_neg h1]
    unfold bX9_text_22
    rw [if_neg (by decide)]
    refine ⟨_, rfl, hMr, hA.frame (fun q j h1 h2 h3 h4 h5 _ _ => f q j (by omega) (by omega) (by omega) h2 h3 h4 h5), ?_, ?_, Or.inl ⟨e1, rfl, ?_⟩⟩
    · exact funext fun j => f 63 j (Or.inl (by decide)) (Or.inl (by decide)) (Or.inl (by decide)) (by decide) (by decide) (by decide) (by decide)
    · exact f 62 12 (Or.inr (by decide)) (Or.inr (by decide)) (Or.inr (by decide)) (by decide) (by decide) (by decide) (by decide)
    · exact f 62 2 (Or.inr (by decide)) (Or.inr (by decide)) (Or.inr (by decide)) (by decide) (by decide) (by decide) (by decide)
  · rw [if_pos h1, pU_n, obs]
    have hM2 : MI false I0 (g_up r.2 62 2 0) := hMr.up (k := 62) rfl (lo := 0) (hi := 400) rfl (by decide) (by decide)
    have hC2 : TsC (g_up r.2 62 2 0) x := ⟨by rw [g_up_ne (Or.inr (by decide))]; exact hC.1, hC.2.1, fun i tb hi => by
      obtain ⟨o1, c1, c2, c3, c4⟩ := hC.2.2 i tb hi
      refine ⟨o1, ?_, fun c hc => ?_, ?_, fun j hj c hc => ?_⟩
      · rw [g_up_row (by decide)]; exact c1
      · rw [g_up_row (by decide)]; exact c2 c hc
      · rw [g_up_row (by decide)]; exact c3
      · rw [g_up_row (by decide)]; exact c4 j hj c hc⟩
    obtain ⟨s, es, hMs, hAs, _⟩ := n_takeTables hM2 hC2
    have fs := xfX9_takeTables _ es
    rw [es, obs]
    refine ⟨_, rfl, hMs, hAs, ?_, ?_, Or.inr ⟨x, e1, rfl, ?_⟩⟩
    · refine funext fun j => ?_
      rw [fs 63 j (Or.inl (by decide)) (by decide) (by decide) (by decide) (Or.inl (by decide)) (Or.inl (by decide)), g_up_row (by decide)]
      exact f 63 j (Or.inl (by decide)) (Or.inl (by decide)) (Or.inl (by decide)) (by decide) (by decide) (by decide) (by decide)
    · rw [fs 62 12 (Or.inr (by decide)) (by decide) (by decide) (by decide) (Or.inr (by decide)) (Or.inr (by decide)), g_up_ne (Or.inr (by decide))]
      exact f 62 12 (Or.inr (by decide)) (Or.inr (by decide)) (Or.inr (by decide)) (by decide) (by decide) (by decide) (by decide)
    · rw [fs 62 2 (Or.inr (by decide)) (by decide) (by decide) (by decide) (Or.inr (by decide)) (Or.inr (by decide)), g_up_self]
theorem n_text1 {I0 I : gM} (hM : MI false I0 I) (hA : A9 I) : ∃ r, fX9_text 1 I = some r ∧ MI false I0 r.2 ∧ A9 r.2 ∧ r.2 63 = I 63 ∧
    ((r.1 = -1 ∧ r.2 62 2 = I 62 2 ∧ r.2 62 12 = I 62 12 ∧ (¬ (4 : Int32) ≤ I 62 12 → ∃ s, fX9_readScript (I 62 12) I = some s ∧ s.1 ≠ -1)) ∨
     (¬ (4 : Int32) ≤ I 62 12 ∧ r.2 62 2 = 0 ∧ r.2 62 12 = I 62 12 + 1 ∧ r.1 = I 62 12 ∧ ∃ s, fX9_readScript (I 62 12) I = some s ∧ s.1 = -1)) := by
  unfold fX9_text
  rw [if_neg (by decide)]
  unfold bX9_text_22
  rw [if_pos rfl]
  obtain ⟨sc, hs, esc⟩ := hM.n (k := 62) (j := 12) (hi := 4) rfl
  by_cases c : (4 : Int32) ≤ I 62 12
  · rw [if_pos c]
    exact ⟨_, rfl, hM, hA, rfl, Or.inl ⟨rfl, rfl, rfl, fun h => absurd c h⟩⟩
  · rw [if_neg c]
    have c4 : sc < 4 := by
      rw [esc] at c
      have := mt (nI_leI (a := 4) (b := sc) (by omega) (by omega)).mpr c
      omega
    obtain ⟨s, es, _, hMs⟩ := tfX9_readScript (I 62 12) I hM (by rw [esc, tnI (by omega)]; omega)
    have f := xfX9_readScript _ _ es
    have hAs : A9 s.2 := hA.frame (fun q j h1 h2 h3 h4 h5 h6 h7 => f q j (by omega) (by omega) h7 h6)
    have f63 : s.2 63 = I 63 := funext fun j => f 63 j (Or.inl (by decide)) (Or.inl (by decide)) (by decide) (by decide)
    have f12 : s.2 62 12 = I 62 12 := f 62 12 (Or.inr (by decide)) (Or.inr (by decide)) (by decide) (by decide)
    rw [es, obs]
    by_cases c2 : s.1 = -1
    · rw [if_pos c2, pU_n, obs, pU_n, obs, g_up_self, g_up_ne (Or.inr (by decide)), f12]
      have hM2 : MI false I0 (g_up (g_up s.2 62 2 0) 62 12 (I 62 12 + 1)) := (hMs.up (k := 62) (j := 2) rfl (lo := 0) (hi := 400) rfl (by decide) (by decide)).up (k := 62) (j := 12) rfl (lo := 0) (hi := 4) rfl (by rw [esc, nI_1, tnI (by omega)]; omega) (by rw [esc, nI_1, tnI (by omega)]; omega)
      refine ⟨_, rfl, hM2, hAs.frame (fun q j h1 _ _ _ _ _ _ => by dsimp only; rw [g_up_ne (by omega), g_up_ne (by omega)]), ?_, Or.inr ⟨c, ?_, ?_, ?_, s, rfl, c2⟩⟩
      · dsimp only; rw [g_up_row (by decide), g_up_row (by decide)]; exact f63
      · dsimp only; rw [g_up_ne (Or.inr (by decide)), g_up_self]
      · dsimp only; rw [g_up_self]
      · show I 62 12 + 1 - 1 = I 62 12
        rw [esc, nI_1, nI_s1 (by omega), Nat.add_sub_cancel]
    · rw [if_neg c2]
      exact ⟨_, rfl, hMs, hAs, f63, Or.inl ⟨rfl, f 62 2 (Or.inr (by decide)) (Or.inr (by decide)) (by decide) (by decide), f12, fun _ => ⟨s, rfl, c2⟩⟩⟩
theorem n_textN {I : gM} {v : Int32} (h0 : v ≠ 0) (h1 : v ≠ 1) : fX9_text v I = some (-1, I) := by
  unfold fX9_text
  rw [if_neg h0]
  unfold bX9_text_22
  rw [if_neg h1]
theorem t_text9 {I0 I : gM} (hM : MI false I0 I) (hA : A9 I) (v : Int32) : T (fX9_text v I) (fun r => MI false I0 r.2 ∧ A9 r.2) := by
  by_cases c0 : v = 0
  · subst c0
    obtain ⟨n, hn, e⟩ := hM.tp
    obtain ⟨r, er, h1, h2, _⟩ := n_text0 hM hA hn e
    exact ⟨r, er, h1, h2⟩
  · by_cases c1 : v = 1
    · subst c1
      obtain ⟨r, er, h1, h2, _⟩ := n_text1 hM hA
      exact ⟨r, er, h1, h2⟩
    · rw [n_textN c0 c1]
      exact t_ret ⟨hM, hA⟩
theorem t_log9 {I0 I : gM} (hM : MI false I0 I) (v1 v2 : Int32) : T (fX9_log v1 v2 I) (fun _ => True) := by
  obtain ⟨m, hm, em⟩ := hM.n (k := 70) (j := 150) (hi := 60) rfl
  have er : ∀ {f : Int32 → Option Int32} {Q : Int32 → Prop}, T (f (nI m)) Q → T ((rI 331 (I 70) (150 : Int32)).bind f) Q := fun h => t_be ((rI_n (a := 150) (by omega) (by omega)).trans (congrArg some em)) h
  unfold fX9_log
  refine er ?_
  rcases n_in v1 0 (nI m - 1) with ⟨a1, a2, e⟩ | ⟨_, e⟩
  · refine t_be e ?_
    rw [if_neg n10]
    rcases n_in v2 0 2 with ⟨b1, b2, e⟩ | ⟨_, e⟩
    · refine t_be e ?_
      rw [if_neg n10]
      refine er ?_
      have m1 : 1 ≤ m := by
        rcases Nat.eq_zero_or_pos m with z | z
        · subst z
          have : (nI 0 - 1 : Int32).toInt = -1 := by decide
          have z0 : (0 : Int32).toInt = 0 := rfl
          omega
        · exact z
      rw [nI_s1 m1, tnI (by omega)] at a2
      have z0 : (0 : Int32).toInt = 0 := rfl
      have z2 : (2 : Int32).toInt = 2 := rfl
      rw [nI_s1 m1, nI_self (x := v1) (by omega), nI_self (x := v2) (by omega), nI_sub (by omega), L3, nI_mul, L151, nI_add, nI_add]
      refine t_be (rI_n (by omega) (by omega)) ?_
      exact t_ret trivial
    · refine t_be e ?_
      rw [if_pos rfl]; exact t_ret trivial
  · refine t_be e ?_
    rw [if_pos rfl]; exact t_ret trivial
