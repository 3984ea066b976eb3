theorem MI.re {b b' : Bool} {I0 I : gM} (h : MI b I0 I) : MI b' I I := ⟨h.1, fun _ _ => rfl⟩
theorem MI.hi {I0 I : gM} (h : MI true I0 I) {k : Nat} (hk : 62 ≤ k) : I k = I0 k := h.2 k (Nat.ble_eq_true_of_le hk)
theorem MI.lo {I0 I : gM} (h : MI false I0 I) {k : Nat} (hk : k < 62) : I k = I0 k := h.2 k (Bool.eq_false_iff.mpr (fun z => by have := Nat.le_of_ble_eq_true z; omega))
theorem A9.hi {I0 I : gM} (h : MI true I0 I) (hA : A9 I0) : A9 I := hA.same (by rw [h.hi (by decide)]) (by rw [h.hi (by decide)]) (by rw [h.hi (by decide)]) (fun k hk => h.hi (by omega))
/-- the class's tape beside the signs of w -/
def B8 (M : gM) (w : Nat → Int32) (n : Nat) : Prop := M 1 0 = nI n ∧ n ≤ 400 ∧ ∀ j, j < n → M 2 j = bc (w j) ∧ 1 ≤ (w j).toInt ∧ (w j).toInt ≤ 255
theorem B8.c {M : gM} {w : Nat → Int32} {n : Nat} (h : B8 M w n) : C8 (P6 M 0) w n 0 := ⟨by rw [P6_j (by decide)]; exact h.1, h.2.1, P6_2, by omega, fun j hj => by rw [P6_k (by decide)]; exact h.2.2 j hj⟩
theorem c_readTables {M : gM} {w : Nat → Int32} {n : Nat} {I0 : gM} (hB : B8 M w n) (hM : MI true I0 M) {r : Int32 × gM} (h : fX6_readTables 8 M = some r) : (∃ x, pTabs w n 4 [] 0 = some x ∧ r.1 = -1) ∨ (pTabs w n 4 [] 0 = none ∧ r.1 ≠ -1) := by
  unfold fX6_readTables at h
  rw [pU_n, obs] at h
  change (fX5_clear 8 (P6 M 0)).bind _ = some r at h
  have hMP : MI true I0 (P6 M 0) := hM.up (k := 1) rfl (lo := 0) (hi := 400) rfl (by decide) (by decide)
  obtain ⟨r2, e2, h⟩ := ob h
  obtain ⟨r2', e2', hM2⟩ := tfX5_clear 8 (P6 M 0) kX5_8 hMP
  rw [e2] at e2'
  cases e2'
  have f := xfX5_clear _ _ e2
  have e8 : r2 8 0 = nI 0 := by
    unfold fX5_clear at e2
    rw [pU_n, obs, pU_n, obs, pU_n, obs] at e2
    obtain ⟨r4, e4, e2⟩ := ob e2
    obtain ⟨r5, e5, e2⟩ := ob e2
    cases e2
    rw [zfJ7_fill_53178 _ _ _ _ e5 8 (by decide), zfJ7_fill_53178 _ _ _ _ e4 8 (by decide), g_up_ne (Or.inr (by decide)), g_up_ne (Or.inr (by decide)), g_up_self]; rfl
  have hT := hB.c.cong (fun j => f 1 j (Or.inl (by decide)) (Or.inl (by decide)) (Or.inl (by decide)) (by decide) (by decide)) (fun j => f 2 j (Or.inl (by decide)) (Or.inl (by decide)) (Or.inl (by decide)) (by decide) (by decide))
  obtain ⟨r3, e3, h⟩ := ob h
  obtain ⟨r3', e3', _, hM3⟩ := tfX6_isClause 8 r2 kX5_8 hM2
  rw [e3] at e3'
  cases e3'
  have h : (lX6_readTables_17 8 (r3.1, nI 1, r3.2)).bind kTs = some r := h
  unfold pTabs
  rcases c_isClause (t := 0) (by omega) hT e8 e3 with ⟨x, s1, s2, s3, p', s4, s5⟩ | ⟨s1, s2 | ⟨s2, s3⟩⟩
  · rw [s1, obs]
    rw [s2] at h
    have q := c_tabsGo 3 [x.1] p' r3.2 r (by omega) rfl s4 s3 hM3 h
    rw [s5] at q
    exact q
  · rw [s1]
    rw [s2] at h
    exact Or.inr ⟨rfl, c_bad0 hM3 h⟩
  · rw [s1]
    rw [s2] at h
    exact Or.inr ⟨rfl, c_badS s3 h⟩
/-- tables told to both -/
theorem text0_both {I : gM} (hR : TPR I) (h8 : MI true I I) (hA : A9 I) : ∃ a b, fX8_text 0 I = some a ∧ fX9_text 0 a.2 = some b ∧ MI true I a.2 ∧ MI false a.2 b.2 ∧ A9 b.2 ∧ TPR b.2 ∧ b.2 0 14 = I 0 14 ∧ b.2 62 12 = I 62 12 := by
  obtain ⟨n, hn, t1, t2, t3⟩ := hR
  obtain ⟨a, ea, _, hMa⟩ := tfX8_text 0 I h8
  have hMa9 : MI false a.2 a.2 := hMa.re
  have k62 := hMa.hi (k := 62) (by decide)
  have k63 := hMa.hi (k := 63) (by decide)
  obtain ⟨b, eb, hMb, hAb, b63, b12, hb⟩ := n_text0 hMa9 (A9.hi hMa hA) hn (by rw [k62]; exact t2)
  rw [k62] at b12 hb
  rw [k63] at b63 hb
  have c0 : ∀ k, k < 62 → b.2 k = a.2 k := fun k hk => hMb.lo hk
  refine ⟨a, b, ea, eb, hMa, hMb, hAb, ?_, ?_, b12⟩
  · unfold fX8_text fX8_textOfTables at ea
    rw [if_pos rfl] at ea
    obtain ⟨s, es, ea⟩ := ob ea
    cases ea
    obtain ⟨r1, e1, es⟩ := ob es
    have f1 := xfX6_readTables _ _ e1
    have g10 : r1.2 1 0 = I 1 0 := f1 1 0 (Or.inr (by decide)) (Or.inl (by decide)) (Or.inl (by decide)) (Or.inl (by decide)) (by decide) (by decide) (by decide) (by decide)
    have g2 : ∀ j, r1.2 2 j = I 2 j := fun j => f1 2 j (Or.inl (by decide)) (Or.inl (by decide)) (Or.inl (by decide)) (Or.inl (by decide)) (by decide) (by decide) (by decide) (by decide)
    rcases c_readTables ⟨t1, hn, t3⟩ h8 e1 with ⟨x, s1, s2⟩ | ⟨s1, s2⟩
    · rcases hb with ⟨z, _⟩ | ⟨y, _, _, b2⟩
      · rw [s1] at z; cases z
      · rw [if_pos s2] at es
        obtain ⟨r2, e2, es⟩ := ob es
        rw [pU_n, obs] at es
        obtain ⟨r4, e4, es⟩ := ob es
        obtain ⟨r5, e5, es⟩ := ob es
        rw [pU_n, obs] at es
        obtain ⟨r7, e7, es⟩ := ob es
        cases es
        refine ⟨0, by omega, ?_, b2, fun j hj => absurd hj (Nat.not_lt_zero j)⟩
        rw [c0 1 (by decide)]
        dsimp only
        rw [xfX8_renew _ e7 1 0 (Or.inl (by decide)) (by decide) (Or.inl (by decide)) (Or.inl (by decide)) (by decide) (by decide) (by decide) (by decide) (by decide) (by decide) (by decide) (by decide) (by decide) (Or.inl (by decide)), g_up_row (by decide), xfX3_clear _ e5 1 0 (Or.inl (by decide)) (Or.inl (by decide)), xfX2_clear _ _ e4 1 0 (Or.inl (by decide)) (Or.inl (by decide)), g_up_self]; rfl
    · rcases hb with ⟨_, _, b2⟩ | ⟨y, z, _⟩
      · rw [if_neg s2] at es
        cases es
        refine ⟨n, hn, ?_, by rw [b2]; exact t2, fun j hj => ?_⟩
        · rw [c0 1 (by decide)]; exact g10.trans t1
        · rw [c0 2 (by decide), b63]
          exact ⟨(g2 j).trans (t3 j hj).1, (t3 j hj).2⟩
      · rw [s1] at z; cases z
  · rw [c0 0 (by decide)]
    unfold fX8_text fX8_textOfTables at ea
    rw [if_pos rfl] at ea
    obtain ⟨s, es, ea⟩ := ob ea
    cases ea
    obtain ⟨r1, e1, es⟩ := ob es
    have f1 := xfX6_readTables _ _ e1 0 14 (Or.inl (by decide)) (Or.inl (by decide)) (Or.inl (by decide)) (Or.inl (by decide)) (by decide) (by decide) (by decide) (by decide)
    by_cases s2 : r1.1 = -1
    · rw [if_pos s2] at es
      obtain ⟨r2, e2, es⟩ := ob es
      rw [pU_n, obs] at es
      obtain ⟨r4, e4, es⟩ := ob es
      obtain ⟨r5, e5, es⟩ := ob es
      rw [pU_n, obs] at es
      obtain ⟨r7, e7, es⟩ := ob es
      cases es
      dsimp only
      rw [xfX8_renew _ e7 0 14 (Or.inl (by decide)) (by decide) (Or.inl (by decide)) (Or.inl (by decide)) (by decide) (by decide) (by decide) (by decide) (by decide) (by decide) (by decide) (by decide) (by decide) (Or.inl (by decide)), g_up_ne (Or.inr (by decide)), xfX3_clear _ e5 0 14 (Or.inl (by decide)) (Or.inl (by decide)), xfX2_clear _ _ e4 0 14 (Or.inl (by decide)) (Or.inl (by decide)), g_up_row (by decide), xfX5_copyFrom _ _ _ e2 0 14 (Or.inl (by decide)) (Or.inl (by decide)) (Or.inl (by decide)) (by decide) (by decide) (by decide) (by decide), f1]
    · rw [if_neg s2] at es
      cases es
      exact f1
