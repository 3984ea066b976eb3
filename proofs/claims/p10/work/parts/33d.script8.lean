noncomputable def kSs : (Int32 × gM) → Option (Int32 × gM) := fun w7 => bX6_readScript_58 w7.1 w7.2
/-- what follows a step, as the grammar has it -/
def pNextS (w : Nat → Int32) (n k : Nat) (ss : List (Nat × Nat × List Nat)) (q : Nat) : Option (List (Nat × Nat × List Nat)) :=
  if hr w n q = 59 ∧ k ≠ 0 then pScr w n k ss (q + 1) else if hr w n q = -1 then some ss else none
theorem cs_bad0 {M : gM} {m : Nat} {r : Int32 × gM} {I0 : gM} (hM : MI true I0 M) (h : (lX6_readScript_17 51 (0, nI m, M)).bind kSs = some r) : r.1 ≠ -1 := by
  unfold lX6_readScript_17 at h
  rw [itO_eq] at h; dsimp only at h
  rw [if_pos rfl, obs] at h
  change some (M 1 2, M) = some r at h
  cases h
  intro e
  have := (hM.at (k := 1) (j := 2) (lo := 0) (hi := 400) rfl).1
  dsimp only at e
  rw [e] at this
  exact absurd this (by decide)
theorem cs_badS {M : gM} {m : Nat} {r : Int32 × gM} {w : Nat → Int32} {n : Nat} (hB : BS M w n) (h : (lX6_readScript_17 51 (1, nI m, M)).bind kSs = some r) : r.1 ≠ -1 := by
  obtain ⟨q, b1, b2, b3⟩ := hB.mv
  have b4 : hr w n q ≠ -1 := dg_ne b2
  have b5 := b3.2.1
  have b6 := b3.2.2.2.1
  have fin : ∀ {r : Int32 × gM}, kSs (1, M) = some r → r.1 ≠ -1 := by
    intro r h
    unfold kSs bX6_readScript_58 at h
    rw [if_neg n10, b1, obs] at h
    dsimp only at h
    rw [if_neg b4, b3.2.2.1] at h
    cases h
    exact nI_m1 (by omega)
  unfold lX6_readScript_17 at h
  rw [itO_eq] at h; dsimp only at h
  rw [if_neg n10] at h
  by_cases c : (12 : Int32) ≤ nI m
  · rw [if_pos c, obs] at h
    exact fin h
  · rw [if_neg c, b1, obs] at h
    dsimp only at h
    rw [if_neg (fun z => by rw [z] at b2; exact absurd b2 (by decide)), obs] at h
    exact fin h
theorem c_stepsGo {w : Nat → Int32} {n : Nat} {I0 : gM} : ∀ (k : Nat) (ss : List (Nat × Nat × List Nat)) (p : Nat) (M : gM) (r : Int32 × gM), k ≤ 11 → ss.length + k = 12 → C8 M w n p → ScK M 51 ss → MI true I0 M →
    (lX6_readScript_17 51 (1, nI ss.length, M)).bind kSs = some r → (∃ x, pNextS w n k ss (sk w n p) = some x ∧ r.1 = -1 ∧ ScK r.2 51 x) ∨ (pNextS w n k ss (sk w n p) = none ∧ r.1 ≠ -1) := by
  intro k
  induction k with
  | zero =>
    intro ss p M r hk hl hT hS hM h
    have hs := sk_le (w := w) hT.2.2.2.1
    have hn := hT.2.1
    unfold lX6_readScript_17 at h
    rw [itO_eq] at h; dsimp only at h
    rw [if_neg n10, L12, if_pos ((nI_leI (by omega) (by omega)).mpr (by omega)), obs] at h
    change bX6_readScript_58 1 M = some r at h
    unfold bX6_readScript_58 at h
    rw [if_neg n10, c_peek hT, obs] at h
    dsimp only at h
    unfold pNextS
    rw [if_neg (fun z => z.2 rfl)]
    by_cases c : hr w n (sk w n p) = -1
    · rw [if_pos c] at h
      cases h
      rw [if_pos c]
      exact Or.inl ⟨_, rfl, rfl, hS.mv _⟩
    · rw [if_neg c, P6_2] at h
      cases h
      rw [if_neg c]
      exact Or.inr ⟨rfl, nI_m1 (by omega)⟩
  | succ k ih =>
    intro ss p M r hk hl hT hS hM h
    have hs := sk_le (w := w) hT.2.2.2.1
    have hn := hT.2.1
    have hT1 := hT.at (q := sk w n p) hs.2
    unfold lX6_readScript_17 at h
    rw [itO_eq] at h; dsimp only at h
    rw [if_neg n10, L12, if_neg (mt (nI_leI (by omega) (by omega)).mp (by omega)), c_peek hT, obs] at h
    dsimp only at h
    unfold pNextS
    by_cases c1 : hr w n (sk w n p) = 59
    · have l1 := hr_lt (w := w) (n := n) (p := sk w n p) (by rw [c1]; decide)
      rw [if_pos c1, pU_n, obs, P6_2, nI_1, P6_pU] at h
      rw [if_pos ⟨c1, by omega⟩]
      unfold pScr
      obtain ⟨y, ey, h⟩ := ob h
      obtain ⟨z, ez, ey⟩ := ob ey
      obtain ⟨r6, e6, ez⟩ := ob ez
      cases ez
      change lX6_readScript_17 51 (r6.1, nI ss.length + 1, r6.2) = some y at ey
      rw [nI_1] at ey
      have h : (lX6_readScript_17 51 (r6.1, nI (ss.length + 1), r6.2)).bind kSs = some r := (congrArg (fun o => Option.bind o kSs) ey).trans h
      have hMP : MI true I0 (P6 M (sk w n p + 1)) := hM.up (k := 1) rfl (lo := 0) (hi := 400) rfl (by rw [tnI (by omega)]; omega) (by rw [tnI (by omega)]; omega)
      obtain ⟨r6', e6', _, hM6⟩ := tfX6_isStep 51 (P6 M (sk w n p + 1)) kX4_51 hMP
      rw [e6] at e6'
      cases e6'
      rcases c_isStep (hT.at (q := sk w n p + 1) (by omega)) hMP (hS.mv _) (by omega) e6 with ⟨x, s1, s2, s3, p', s4, s5⟩ | ⟨s1, s2 | ⟨s2, s3⟩⟩
      · rw [s1, obs]
        rw [s2] at h
        have q := ih (ss ++ [x.1]) p' r6.2 r (by omega) (by rw [ln1]; omega) s4 s3 hM6 (by rw [ln1]; exact h)
        rw [s5] at q
        exact q
      · rw [s1]
        rw [s2] at h
        exact Or.inr ⟨rfl, cs_bad0 hM6 h⟩
      · rw [s1]
        rw [s2] at h
        exact Or.inr ⟨rfl, cs_badS s3 h⟩
    · rw [if_neg c1, obs] at h
      change bX6_readScript_58 1 (P6 M (sk w n p)) = some r at h
      unfold bX6_readScript_58 at h
      rw [if_neg n10, c_peek hT1, obs, sk_sk hT.2.2.2.1] at h
      dsimp only at h
      rw [if_neg (fun z => c1 z.1)]
      by_cases c : hr w n (sk w n p) = -1
      · rw [if_pos c] at h
        cases h
        rw [if_pos c]
        exact Or.inl ⟨_, rfl, rfl, (hS.mv _).mv _⟩
      · rw [if_neg c, P6_2] at h
        cases h
        rw [if_neg c]
        exact Or.inr ⟨rfl, nI_m1 (by omega)⟩
theorem c_readScript {M : gM} {w : Nat → Int32} {n : Nat} {I0 : gM} (hB : B8 M w n) (hM : MI true I0 M) {r : Int32 × gM} (h : fX6_readScript 51 M = some r) : (∃ x, pScr w n 12 [] 0 = some x ∧ r.1 = -1 ∧ ScK r.2 51 x) ∨ (pScr w n 12 [] 0 = none ∧ r.1 ≠ -1) := by
  unfold fX6_readScript fX4_clear at h
  rw [pU_n, obs, pU_n, obs, obs] at h
  change (fX6_isStep 51 (g_up (P6 M 0) 51 0 0)).bind _ = some r at h
  have hMP : MI true I0 (g_up (P6 M 0) 51 0 0) := (hM.up (k := 1) (j := 2) (v := nI 0) rfl (lo := 0) (hi := 400) rfl (by decide) (by decide)).up (k := 51) rfl (lo := 0) (hi := 12) rfl (by decide) (by decide)
  have hT : C8 (g_up (P6 M 0) 51 0 0) w n 0 := hB.c.cong (fun j => by rw [g_up_row (by decide)]) (fun j => by rw [g_up_row (by decide)])
  have hS : ScK (g_up (P6 M 0) 51 0 0) 51 [] := ⟨by rw [g_up_self]; rfl, by decide, fun a ha => absurd ha (Nat.not_lt_zero a)⟩
  obtain ⟨r3, e3, h⟩ := ob h
  obtain ⟨r3', e3', _, hM3⟩ := tfX6_isStep 51 (g_up (P6 M 0) 51 0 0) kX4_51 hMP
  rw [e3] at e3'
  cases e3'
  have h : (lX6_readScript_17 51 (r3.1, nI 1, r3.2)).bind kSs = some r := h
  unfold pScr
  rcases c_isStep hT hMP hS (by decide) e3 with ⟨x, s1, s2, s3, p', s4, s5⟩ | ⟨s1, s2 | ⟨s2, s3⟩⟩
  · rw [s1, obs]
    rw [s2] at h
    have q := c_stepsGo 11 [x.1] p' r3.2 r (by omega) rfl s4 s3 hM3 h
    rw [s5] at q
    exact q
  · rw [s1]
    rw [s2] at h
    exact Or.inr ⟨rfl, cs_bad0 hM3 h⟩
  · rw [s1]
    rw [s2] at h
    exact Or.inr ⟨rfl, cs_badS s3 h⟩
