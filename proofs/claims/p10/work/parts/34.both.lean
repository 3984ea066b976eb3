theorem xfX9_mean (v1 : Int32) (I : gM) {r : Int64 × gM} (h : fX9_mean v1 I = some r) (q j : Nat) (cq0 : q ≠ 62 ∨ j ≠ 19) (cq1 : q ≠ 74) (cq2 : q ≠ 62 ∨ j ≠ 26) (cq3 : q ≠ 62 ∨ j ≠ 27) (cq4 : q ≠ 75) (cq5 : q ≠ 79) (cq6 : q ≠ 80) (cq7 : q ≠ 77) (cq8 : q ≠ 78) (cq9 : q ≠ 76) : r.2 q j = I q j := by
  unfold fX9_mean at h
  obtain ⟨r1, e1, h⟩ := ob h
  have f := xfX9_hasMean _ _ e1 q j cq0 cq1 cq2 cq3 cq4 cq5 cq6 cq7 cq8 cq9
  rcases oi h with ⟨_, h⟩ | ⟨_, h⟩
  · cases h; exact f
  · obtain ⟨r2, _, h⟩ := ob h
    obtain ⟨r3, _, h⟩ := ob h
    cases h; exact f
theorem xfX9_meanAs (v1 v2 : Int32) (I : gM) {r : Int32 × gM} (h : fX9_meanAs v1 v2 I = some r) (q j : Nat) (cq0 : q ≠ 62 ∨ j ≠ 19) (cq1 : q ≠ 74) (cq2 : q ≠ 62 ∨ j ≠ 26) (cq3 : q ≠ 62 ∨ j ≠ 27) (cq4 : q ≠ 75) (cq5 : q ≠ 79) (cq6 : q ≠ 80) (cq7 : q ≠ 77) (cq8 : q ≠ 78) (cq9 : q ≠ 76) : r.2 q j = I q j := by
  unfold fX9_meanAs at h
  obtain ⟨r1, _, h⟩ := ob h
  rcases oi h with ⟨_, h⟩ | ⟨_, h⟩
  · cases h; rfl
  · obtain ⟨r2, e2, h⟩ := ob h
    have f := xfX9_hasMean _ _ e2 q j cq0 cq1 cq2 cq3 cq4 cq5 cq6 cq7 cq8 cq9
    rcases oi h with ⟨_, h⟩ | ⟨_, h⟩
    · cases h; exact f
    · rcases oi h with ⟨_, h⟩ | ⟨_, h⟩
      · obtain ⟨_, _, h⟩ := ob h
        obtain ⟨_, _, h⟩ := ob h
        obtain ⟨_, _, h⟩ := ob h
        cases h; exact f
      · obtain ⟨_, _, h⟩ := ob h
        cases h; exact f
theorem xfX9_spread (v1 : Int32) (I : gM) {r : Int64 × gM} (h : fX9_spread v1 I = some r) (q j : Nat) (cq0 : q ≠ 62 ∨ j ≠ 19) (cq1 : q ≠ 74) (cq2 : q ≠ 62 ∨ j ≠ 26) (cq3 : q ≠ 62 ∨ j ≠ 27) (cq4 : q ≠ 75) (cq5 : q ≠ 79) (cq6 : q ≠ 80) (cq7 : q ≠ 77) (cq8 : q ≠ 78) (cq9 : q ≠ 76) : r.2 q j = I q j := by
  unfold fX9_spread at h
  obtain ⟨r1, e1, h⟩ := ob h
  have f := xfX9_hasMean _ _ e1 q j cq0 cq1 cq2 cq3 cq4 cq5 cq6 cq7 cq8 cq9
  rcases oi h with ⟨_, h⟩ | ⟨_, h⟩
  · cases h; exact f
  · obtain ⟨_, _, h⟩ := ob h
    obtain ⟨_, _, h⟩ := ob h
    obtain ⟨_, _, h⟩ := ob h
    obtain ⟨_, _, h⟩ := ob h
    cases h; exact f
theorem xfX9_skew (v1 : Int32) (I : gM) {r : Int32 × gM} (h : fX9_skew v1 I = some r) (q j : Nat) (cq0 : q ≠ 62 ∨ j ≠ 19) (cq1 : q ≠ 74) (cq2 : q ≠ 62 ∨ j ≠ 26) (cq3 : q ≠ 62 ∨ j ≠ 27) (cq4 : q ≠ 75) (cq5 : q ≠ 79) (cq6 : q ≠ 80) (cq7 : q ≠ 77) (cq8 : q ≠ 78) (cq9 : q ≠ 76) (cq10 : q ≠ 82) (cq11 : q ≠ 84) (cq12 : q ≠ 83) : r.2 q j = I q j := by
  unfold fX9_skew at h
  obtain ⟨r1, e1, h⟩ := ob h
  have f := xfX9_hasMean _ _ e1 q j cq0 cq1 cq2 cq3 cq4 cq5 cq6 cq7 cq8 cq9
  rcases oi h with ⟨_, h⟩ | ⟨_, h⟩
  · cases h; exact f
  · obtain ⟨r2, e2, h⟩ := ob h
    have f2 := xfX9_counts _ e2 q j cq0 cq1 cq2 cq3 cq4 cq5 cq6 cq7 cq8 cq9 cq10 cq11 cq12
    obtain ⟨_, _, h⟩ := ob h
    obtain ⟨_, _, h⟩ := ob h
    obtain ⟨_, _, h⟩ := ob h
    obtain ⟨_, _, h⟩ := ob h
    cases h; exact f2.trans f
/-- the tables are as they were behind the count without one -/
theorem n_without70 {I : gM} {v : Int32} {r : Int32 × gM} (h : fX9_without v I = some r) : r.2 70 = I 70 := by
  unfold fX9_without at h
  obtain ⟨r1, _, h⟩ := ob h
  rcases oi h with ⟨_, h⟩ | ⟨_, h⟩
  · cases h; rfl
  · rw [L0, rI_n (by decide) (by decide), obs] at h
    rcases oi h with ⟨_, h⟩ | ⟨_, h⟩
    · cases h; rfl
    · rw [obs, obs, wI_n (by decide) (by decide), obs] at h
      obtain ⟨r6, e6, h⟩ := ob h
      rw [wI_n (by decide) (by decide), obs] at h
      cases h
      funext j
      dsimp only
      rw [gu_in]
      by_cases c : j = 0
      · rw [if_pos c, c]
      · rw [if_neg c, xfX9_rowsNow _ e6 70 j (Or.inl (by decide)) (by decide) (Or.inl (by decide)) (Or.inl (by decide)) (by decide) (by decide) (by decide) (by decide) (by decide) (by decide), gu_in, if_neg c]
theorem both_fault {I : gM} (h : Inv0 I) (v1 : Int32) : ∃ a b, fX8_fault v1 I = some a ∧ fX9_fault v1 a.2 = some b ∧ Inv0 b.2 := by
  obtain ⟨a, e1, _, hMa⟩ := tfX8_fault v1 I h.1
  obtain ⟨b, e2, _, hMb⟩ := tfX9_fault v1 a.2 hMa.re
  have f9 := xfX9_fault _ _ e2
  have hAb : A9 b.2 := (A9.hi hMa h.2.1).same (f9 62 17 (Or.inr (by decide)) (Or.inr (by decide)) (Or.inr (by decide)) (by decide) (by decide) (by decide) (by decide) (by decide) (by decide)) (f9 62 29 (Or.inr (by decide)) (Or.inr (by decide)) (Or.inr (by decide)) (by decide) (by decide) (by decide) (by decide) (by decide) (by decide)) (f9 62 42 (Or.inr (by decide)) (Or.inr (by decide)) (Or.inr (by decide)) (by decide) (by decide) (by decide) (by decide) (by decide) (by decide)) (fun k hk => by
    rcases hk with rfl | rfl | rfl | rfl
    · exact funext fun j => f9 70 j (Or.inl (by decide)) (Or.inl (by decide)) (Or.inl (by decide)) (by decide) (by decide) (by decide) (by decide) (by decide) (by decide)
    · exact funext fun j => f9 72 j (Or.inl (by decide)) (Or.inl (by decide)) (Or.inl (by decide)) (by decide) (by decide) (by decide) (by decide) (by decide) (by decide)
    · exact funext fun j => f9 81 j (Or.inl (by decide)) (Or.inl (by decide)) (Or.inl (by decide)) (by decide) (by decide) (by decide) (by decide) (by decide) (by decide)
    · exact funext fun j => f9 89 j (Or.inl (by decide)) (Or.inl (by decide)) (Or.inl (by decide)) (by decide) (by decide) (by decide) (by decide) (by decide) (by decide))
  have f8 := xfX8_fault _ _ e1
  exact ⟨a, b, e1, e2, h.keep hMa hMb hAb (f8 1 0 (Or.inr (by decide)) (Or.inl (by decide)) (Or.inl (by decide)) (Or.inl (by decide)) (by decide) (by decide) (by decide) (by decide) (Or.inl (by decide)) (by decide)) (fun j => f8 2 j (Or.inl (by decide)) (Or.inl (by decide)) (Or.inl (by decide)) (Or.inl (by decide)) (by decide) (by decide) (by decide) (by decide) (Or.inl (by decide)) (by decide)) (f8 0 14 (Or.inl (by decide)) (Or.inl (by decide)) (Or.inl (by decide)) (Or.inl (by decide)) (by decide) (by decide) (by decide) (by decide) (Or.inl (by decide)) (by decide)) (f9 62 2 (Or.inr (by decide)) (Or.inr (by decide)) (Or.inr (by decide)) (by decide) (by decide) (by decide) (by decide) (by decide) (by decide)) (f9 62 12 (Or.inr (by decide)) (Or.inr (by decide)) (Or.inr (by decide)) (by decide) (by decide) (by decide) (by decide) (by decide) (by decide)) (fun j => f9 63 j (Or.inl (by decide)) (Or.inl (by decide)) (Or.inl (by decide)) (by decide) (by decide) (by decide) (by decide) (by decide) (by decide))⟩
theorem both_rule {I : gM} (h : Inv0 I) (v1 : Int32) : ∃ a b, fX8_rule v1 I = some a ∧ fX9_rule v1 I = some b ∧ Inv0 I := by
  obtain ⟨a, e1, _⟩ := tfX8_rule v1 I h.1
  have hMa := h.1
  obtain ⟨b, e2, _⟩ := tfX9_rule v1 I hMa.re
  exact ⟨a, b, e1, e2, h⟩
theorem both_cell {I : gM} (h : Inv0 I) (v1 : Int32) (v2 : Int32) (v3 : Int32) : ∃ a b, fX8_cell v1 v2 v3 I = some a ∧ fX9_cell v1 v2 v3 I = some b ∧ Inv0 I := by
  obtain ⟨a, e1, _⟩ := tfX8_cell v1 v2 v3 I h.1
  have hMa := h.1
  obtain ⟨b, e2, _⟩ := tfX9_cell v1 v2 v3 I hMa.re
  exact ⟨a, b, e1, e2, h⟩
theorem both_rows {I : gM} (h : Inv0 I) : ∃ a b, fX8_rows I = some a ∧ fX9_rows I = some b ∧ Inv0 b.2 := by
  obtain ⟨a, e1, _⟩ := tfX8_rows  I h.1
  have hMa := h.1
  obtain ⟨b, e2, _, hMb⟩ := tfX9_rows  I hMa.re
  have f9 := xfX9_rows _ e2
  have hAb : A9 b.2 := (A9.hi hMa h.2.1).same (f9 62 17 (Or.inr (by decide)) (by decide) (Or.inr (by decide)) (Or.inr (by decide)) (by decide) (by decide) (by decide) (by decide) (by decide) (by decide)) (f9 62 29 (Or.inr (by decide)) (by decide) (Or.inr (by decide)) (Or.inr (by decide)) (by decide) (by decide) (by decide) (by decide) (by decide) (by decide)) (f9 62 42 (Or.inr (by decide)) (by decide) (Or.inr (by decide)) (Or.inr (by decide)) (by decide) (by decide) (by decide) (by decide) (by decide) (by decide)) (fun k hk => by
    rcases hk with rfl | rfl | rfl | rfl
    · exact funext fun j => f9 70 j (Or.inl (by decide)) (by decide) (Or.inl (by decide)) (Or.inl (by decide)) (by decide) (by decide) (by decide) (by decide) (by decide) (by decide)
    · exact funext fun j => f9 72 j (Or.inl (by decide)) (by decide) (Or.inl (by decide)) (Or.inl (by decide)) (by decide) (by decide) (by decide) (by decide) (by decide) (by decide)
    · exact funext fun j => f9 81 j (Or.inl (by decide)) (by decide) (Or.inl (by decide)) (Or.inl (by decide)) (by decide) (by decide) (by decide) (by decide) (by decide) (by decide)
    · exact funext fun j => f9 89 j (Or.inl (by decide)) (by decide) (Or.inl (by decide)) (Or.inl (by decide)) (by decide) (by decide) (by decide) (by decide) (by decide) (by decide))
  exact ⟨a, b, e1, e2, h.keep hMa hMb hAb rfl (fun _ => rfl) rfl (f9 62 2 (Or.inr (by decide)) (by decide) (Or.inr (by decide)) (Or.inr (by decide)) (by decide) (by decide) (by decide) (by decide) (by decide) (by decide)) (f9 62 12 (Or.inr (by decide)) (by decide) (Or.inr (by decide)) (Or.inr (by decide)) (by decide) (by decide) (by decide) (by decide) (by decide) (by decide)) (fun j => f9 63 j (Or.inl (by decide)) (by decide) (Or.inl (by decide)) (Or.inl (by decide)) (by decide) (by decide) (by decide) (by decide) (by decide) (by decide))⟩
theorem both_row {I : gM} (h : Inv0 I) (v1 : Int32) (v2 : Int32) : ∃ a b, fX8_row v1 v2 I = some a ∧ fX9_row v1 v2 I = some b ∧ Inv0 b.2 := by
  obtain ⟨a, e1, _⟩ := tfX8_row v1 v2 I h.1
  have hMa := h.1
  obtain ⟨b, e2, _, hMb⟩ := tfX9_row v1 v2 I hMa.re
  have f9 := xfX9_row _ _ _ e2
  have hAb : A9 b.2 := (A9.hi hMa h.2.1).same (f9 62 17 (Or.inr (by decide)) (by decide) (Or.inr (by decide)) (Or.inr (by decide)) (by decide) (by decide) (by decide) (by decide) (by decide) (by decide)) (f9 62 29 (Or.inr (by decide)) (by decide) (Or.inr (by decide)) (Or.inr (by decide)) (by decide) (by decide) (by decide) (by decide) (by decide) (by decide)) (f9 62 42 (Or.inr (by decide)) (by decide) (Or.inr (by decide)) (Or.inr (by decide)) (by decide) (by decide) (by decide) (by decide) (by decide) (by decide)) (fun k hk => by
    rcases hk with rfl | rfl | rfl | rfl
    · exact funext fun j => f9 70 j (Or.inl (by decide)) (by decide) (Or.inl (by decide)) (Or.inl (by decide)) (by decide) (by decide) (by decide) (by decide) (by decide) (by decide)
    · exact funext fun j => f9 72 j (Or.inl (by decide)) (by decide) (Or.inl (by decide)) (Or.inl (by decide)) (by decide) (by decide) (by decide) (by decide) (by decide) (by decide)
    · exact funext fun j => f9 81 j (Or.inl (by decide)) (by decide) (Or.inl (by decide)) (Or.inl (by decide)) (by decide) (by decide) (by decide) (by decide) (by decide) (by decide)
    · exact funext fun j => f9 89 j (Or.inl (by decide)) (by decide) (Or.inl (by decide)) (Or.inl (by decide)) (by decide) (by decide) (by decide) (by decide) (by decide) (by decide))
  exact ⟨a, b, e1, e2, h.keep hMa hMb hAb rfl (fun _ => rfl) rfl (f9 62 2 (Or.inr (by decide)) (by decide) (Or.inr (by decide)) (Or.inr (by decide)) (by decide) (by decide) (by decide) (by decide) (by decide) (by decide)) (f9 62 12 (Or.inr (by decide)) (by decide) (Or.inr (by decide)) (Or.inr (by decide)) (by decide) (by decide) (by decide) (by decide) (by decide) (by decide)) (fun j => f9 63 j (Or.inl (by decide)) (by decide) (Or.inl (by decide)) (Or.inl (by decide)) (by decide) (by decide) (by decide) (by decide) (by decide) (by decide))⟩
theorem both_leaps {I : gM} (h : Inv0 I) : ∃ a b, fX8_leaps I = some a ∧ fX9_leaps_ I = some b ∧ Inv0 b.2 := by
  obtain ⟨a, e1, _⟩ := tfX8_leaps  I h.1
  have hMa := h.1
  obtain ⟨b, e2, hMb⟩ := tfX9_leaps_  I hMa.re
  have f9 := xfX9_leaps_ _ e2
  have hAb : A9 b.2 := (A9.hi hMa h.2.1).same (f9 62 17 (Or.inr (by decide)) (by decide) (Or.inr (by decide)) (Or.inr (by decide)) (by decide) (by decide) (by decide) (by decide) (by decide) (by decide)) (f9 62 29 (Or.inr (by decide)) (by decide) (Or.inr (by decide)) (Or.inr (by decide)) (by decide) (by decide) (by decide) (by decide) (by decide) (by decide)) (f9 62 42 (Or.inr (by decide)) (by decide) (Or.inr (by decide)) (Or.inr (by decide)) (by decide) (by decide) (by decide) (by decide) (by decide) (by decide)) (fun k hk => by
    rcases hk with rfl | rfl | rfl | rfl
    · exact funext fun j => f9 70 j (Or.inl (by decide)) (by decide) (Or.inl (by decide)) (Or.inl (by decide)) (by decide) (by decide) (by decide) (by decide) (by decide) (by decide)
    · exact funext fun j => f9 72 j (Or.inl (by decide)) (by decide) (Or.inl (by decide)) (Or.inl (by decide)) (by decide) (by decide) (by decide) (by decide) (by decide) (by decide)
    · exact funext fun j => f9 81 j (Or.inl (by decide)) (by decide) (Or.inl (by decide)) (Or.inl (by decide)) (by decide) (by decide) (by decide) (by decide) (by decide) (by decide)
    · exact funext fun j => f9 89 j (Or.inl (by decide)) (by decide) (Or.inl (by decide)) (Or.inl (by decide)) (by decide) (by decide) (by decide) (by decide) (by decide) (by decide))
  exact ⟨a, b, e1, e2, h.keep hMa hMb hAb rfl (fun _ => rfl) rfl (f9 62 2 (Or.inr (by decide)) (by decide) (Or.inr (by decide)) (Or.inr (by decide)) (by decide) (by decide) (by decide) (by decide) (by decide) (by decide)) (f9 62 12 (Or.inr (by decide)) (by decide) (Or.inr (by decide)) (Or.inr (by decide)) (by decide) (by decide) (by decide) (by decide) (by decide) (by decide)) (fun j => f9 63 j (Or.inl (by decide)) (by decide) (Or.inl (by decide)) (Or.inl (by decide)) (by decide) (by decide) (by decide) (by decide) (by decide) (by decide))⟩
theorem both_beginnings {I : gM} (h : Inv0 I) (v1 : Int32) : ∃ a b, fX8_beginnings v1 I = some a ∧ fX9_beginnings v1 I = some b ∧ Inv0 b.2 := by
  obtain ⟨a, e1, _⟩ := tfX8_beginnings v1 I h.1
  have hMa := h.1
  obtain ⟨b, e2, hMb⟩ := tfX9_beginnings v1 I hMa.re
  have f9 := xfX9_beginnings _ _ e2
  have hAb : A9 b.2 := (A9.hi hMa h.2.1).same (f9 62 17 (Or.inr (by decide)) (by decide) (Or.inr (by decide)) (Or.inr (by decide)) (by decide) (by decide) (by decide) (by decide) (by decide) (by decide)) (f9 62 29 (Or.inr (by decide)) (by decide) (Or.inr (by decide)) (Or.inr (by decide)) (by decide) (by decide) (by decide) (by decide) (by decide) (by decide)) (f9 62 42 (Or.inr (by decide)) (by decide) (Or.inr (by decide)) (Or.inr (by decide)) (by decide) (by decide) (by decide) (by decide) (by decide) (by decide)) (fun k hk => by
    rcases hk with rfl | rfl | rfl | rfl
    · exact funext fun j => f9 70 j (Or.inl (by decide)) (by decide) (Or.inl (by decide)) (Or.inl (by decide)) (by decide) (by decide) (by decide) (by decide) (by decide) (by decide)
    · exact funext fun j => f9 72 j (Or.inl (by decide)) (by decide) (Or.inl (by decide)) (Or.inl (by decide)) (by decide) (by decide) (by decide) (by decide) (by decide) (by decide)
    · exact funext fun j => f9 81 j (Or.inl (by decide)) (by decide) (Or.inl (by decide)) (Or.inl (by decide)) (by decide) (by decide) (by decide) (by decide) (by decide) (by decide)
    · exact funext fun j => f9 89 j (Or.inl (by decide)) (by decide) (Or.inl (by decide)) (Or.inl (by decide)) (by decide) (by decide) (by decide) (by decide) (by decide) (by decide))
  exact ⟨a, b, e1, e2, h.keep hMa hMb hAb rfl (fun _ => rfl) rfl (f9 62 2 (Or.inr (by decide)) (by decide) (Or.inr (by decide)) (Or.inr (by decide)) (by decide) (by decide) (by decide) (by decide) (by decide) (by decide)) (f9 62 12 (Or.inr (by decide)) (by decide) (Or.inr (by decide)) (Or.inr (by decide)) (by decide) (by decide) (by decide) (by decide) (by decide) (by decide)) (fun j => f9 63 j (Or.inl (by decide)) (by decide) (Or.inl (by decide)) (Or.inl (by decide)) (by decide) (by decide) (by decide) (by decide) (by decide) (by decide))⟩
theorem both_best {I : gM} (h : Inv0 I) (v1 : Int32) : ∃ a b, fX8_best v1 I = some a ∧ fX9_best v1 a.2 = some b ∧ Inv0 b.2 := by
  obtain ⟨a, e1, hMa⟩ := tfX8_best v1 I h.1
  obtain ⟨b, e2, hMb⟩ := tfX9_best v1 a.2 hMa.re
  have f9 := xfX9_best _ _ e2
  have hAb : A9 b.2 := (A9.hi hMa h.2.1).same (f9 62 17 (Or.inr (by decide)) (Or.inr (by decide)) (Or.inr (by decide)) (by decide) (Or.inr (by decide)) (Or.inr (by decide)) (by decide) (by decide) (by decide) (by decide) (by decide) (by decide) (Or.inr (by decide))) (f9 62 29 (Or.inr (by decide)) (Or.inr (by decide)) (Or.inr (by decide)) (by decide) (Or.inr (by decide)) (Or.inr (by decide)) (by decide) (by decide) (by decide) (by decide) (by decide) (by decide) (Or.inr (by decide))) (f9 62 42 (Or.inr (by decide)) (Or.inr (by decide)) (Or.inr (by decide)) (by decide) (Or.inr (by decide)) (Or.inr (by decide)) (by decide) (by decide) (by decide) (by decide) (by decide) (by decide) (Or.inr (by decide))) (fun k hk => by
    rcases hk with rfl | rfl | rfl | rfl
    · exact funext fun j => f9 70 j (Or.inl (by decide)) (Or.inl (by decide)) (Or.inl (by decide)) (by decide) (Or.inl (by decide)) (Or.inl (by decide)) (by decide) (by decide) (by decide) (by decide) (by decide) (by decide) (Or.inl (by decide))
    · exact funext fun j => f9 72 j (Or.inl (by decide)) (Or.inl (by decide)) (Or.inl (by decide)) (by decide) (Or.inl (by decide)) (Or.inl (by decide)) (by decide) (by decide) (by decide) (by decide) (by decide) (by decide) (Or.inl (by decide))
    · exact funext fun j => f9 81 j (Or.inl (by decide)) (Or.inl (by decide)) (Or.inl (by decide)) (by decide) (Or.inl (by decide)) (Or.inl (by decide)) (by decide) (by decide) (by decide) (by decide) (by decide) (by decide) (Or.inl (by decide))
    · exact funext fun j => f9 89 j (Or.inl (by decide)) (Or.inl (by decide)) (Or.inl (by decide)) (by decide) (Or.inl (by decide)) (Or.inl (by decide)) (by decide) (by decide) (by decide) (by decide) (by decide) (by decide) (Or.inl (by decide)))
  have f8 := xfX8_best _ _ e1
  exact ⟨a, b, e1, e2, h.keep hMa hMb hAb (f8 1 0 (Or.inl (by decide)) (by decide) (Or.inl (by decide)) (Or.inl (by decide)) (by decide) (by decide) (by decide) (by decide) (by decide) (by decide) (by decide) (by decide) (by decide) (Or.inl (by decide)) (Or.inl (by decide)) (Or.inl (by decide)) (Or.inl (by decide))) (fun j => f8 2 j (Or.inl (by decide)) (by decide) (Or.inl (by decide)) (Or.inl (by decide)) (by decide) (by decide) (by decide) (by decide) (by decide) (by decide) (by decide) (by decide) (by decide) (Or.inl (by decide)) (Or.inl (by decide)) (Or.inl (by decide)) (Or.inl (by decide))) (f8 0 14 (Or.inl (by decide)) (by decide) (Or.inl (by decide)) (Or.inl (by decide)) (by decide) (by decide) (by decide) (by decide) (by decide) (by decide) (by decide) (by decide) (by decide) (Or.inl (by decide)) (Or.inl (by decide)) (Or.inl (by decide)) (Or.inl (by decide))) (f9 62 2 (Or.inr (by decide)) (Or.inr (by decide)) (Or.inr (by decide)) (by decide) (Or.inr (by decide)) (Or.inr (by decide)) (by decide) (by decide) (by decide) (by decide) (by decide) (by decide) (Or.inr (by decide))) (f9 62 12 (Or.inr (by decide)) (Or.inr (by decide)) (Or.inr (by decide)) (by decide) (Or.inr (by decide)) (Or.inr (by decide)) (by decide) (by decide) (by decide) (by decide) (by decide) (by decide) (Or.inr (by decide))) (fun j => f9 63 j (Or.inl (by decide)) (Or.inl (by decide)) (Or.inl (by decide)) (by decide) (Or.inl (by decide)) (Or.inl (by decide)) (by decide) (by decide) (by decide) (by decide) (by decide) (by decide) (Or.inl (by decide)))⟩
theorem both_plain {I : gM} (h : Inv0 I) : ∃ a b, fX8_plain I = some a ∧ fX9_plain I = some b ∧ Inv0 I := by
  obtain ⟨a, e1, _⟩ := tfX8_plain  I h.1
  have hMa := h.1
  obtain ⟨b, e2, _⟩ := tfX9_plain  I hMa.re
  exact ⟨a, b, e1, e2, h⟩
theorem both_given {I : gM} (h : Inv0 I) (v1 : Int32) : ∃ a b, fX8_given v1 I = some a ∧ fX9_given v1 I = some b ∧ Inv0 b.2 := by
  obtain ⟨a, e1, _⟩ := tfX8_given v1 I h.1
  have hMa := h.1
  obtain ⟨b, e2, hMb⟩ := tfX9_given v1 I hMa.re
  have f9 := xfX9_given _ _ e2
  have hAb : A9 b.2 := (A9.hi hMa h.2.1).same (f9 62 17 (Or.inr (by decide)) (by decide) (Or.inr (by decide)) (Or.inr (by decide)) (by decide) (by decide) (by decide) (by decide) (by decide) (by decide)) (f9 62 29 (Or.inr (by decide)) (by decide) (Or.inr (by decide)) (Or.inr (by decide)) (by decide) (by decide) (by decide) (by decide) (by decide) (by decide)) (f9 62 42 (Or.inr (by decide)) (by decide) (Or.inr (by decide)) (Or.inr (by decide)) (by decide) (by decide) (by decide) (by decide) (by decide) (by decide)) (fun k hk => by
    rcases hk with rfl | rfl | rfl | rfl
    · exact funext fun j => f9 70 j (Or.inl (by decide)) (by decide) (Or.inl (by decide)) (Or.inl (by decide)) (by decide) (by decide) (by decide) (by decide) (by decide) (by decide)
    · exact funext fun j => f9 72 j (Or.inl (by decide)) (by decide) (Or.inl (by decide)) (Or.inl (by decide)) (by decide) (by decide) (by decide) (by decide) (by decide) (by decide)
    · exact funext fun j => f9 81 j (Or.inl (by decide)) (by decide) (Or.inl (by decide)) (Or.inl (by decide)) (by decide) (by decide) (by decide) (by decide) (by decide) (by decide)
    · exact funext fun j => f9 89 j (Or.inl (by decide)) (by decide) (Or.inl (by decide)) (Or.inl (by decide)) (by decide) (by decide) (by decide) (by decide) (by decide) (by decide))
  exact ⟨a, b, e1, e2, h.keep hMa hMb hAb rfl (fun _ => rfl) rfl (f9 62 2 (Or.inr (by decide)) (by decide) (Or.inr (by decide)) (Or.inr (by decide)) (by decide) (by decide) (by decide) (by decide) (by decide) (by decide)) (f9 62 12 (Or.inr (by decide)) (by decide) (Or.inr (by decide)) (Or.inr (by decide)) (by decide) (by decide) (by decide) (by decide) (by decide) (by decide)) (fun j => f9 63 j (Or.inl (by decide)) (by decide) (Or.inl (by decide)) (Or.inl (by decide)) (by decide) (by decide) (by decide) (by decide) (by decide) (by decide))⟩
theorem both_without {I : gM} (h : Inv0 I) (v1 : Int32) : ∃ a b, fX8_without v1 I = some a ∧ fX9_without v1 a.2 = some b ∧ Inv0 b.2 := by
  obtain ⟨a, e1, _, hMa⟩ := tfX8_without v1 I h.1
  obtain ⟨b, e2, _, hMb⟩ := tfX9_without v1 a.2 hMa.re
  have f9 := xfX9_without _ _ e2
  have hAb : A9 b.2 := (A9.hi hMa h.2.1).same (f9 62 17 (by decide) (Or.inr (by decide)) (by decide) (Or.inr (by decide)) (Or.inr (by decide)) (by decide) (by decide) (by decide) (by decide) (by decide) (by decide)) (f9 62 29 (by decide) (Or.inr (by decide)) (by decide) (Or.inr (by decide)) (Or.inr (by decide)) (by decide) (by decide) (by decide) (by decide) (by decide) (by decide)) (f9 62 42 (by decide) (Or.inr (by decide)) (by decide) (Or.inr (by decide)) (Or.inr (by decide)) (by decide) (by decide) (by decide) (by decide) (by decide) (by decide)) (fun k hk => by
    rcases hk with rfl | rfl | rfl | rfl
    · exact n_without70 e2
    · exact funext fun j => f9 72 j (by decide) (Or.inl (by decide)) (by decide) (Or.inl (by decide)) (Or.inl (by decide)) (by decide) (by decide) (by decide) (by decide) (by decide) (by decide)
    · exact funext fun j => f9 81 j (by decide) (Or.inl (by decide)) (by decide) (Or.inl (by decide)) (Or.inl (by decide)) (by decide) (by decide) (by decide) (by decide) (by decide) (by decide)
    · exact funext fun j => f9 89 j (by decide) (Or.inl (by decide)) (by decide) (Or.inl (by decide)) (Or.inl (by decide)) (by decide) (by decide) (by decide) (by decide) (by decide) (by decide))
  have f8 := xfX8_without _ _ e1
  exact ⟨a, b, e1, e2, h.keep hMa hMb hAb (f8 1 0 (Or.inl (by decide)) (Or.inl (by decide)) (Or.inl (by decide)) (by decide) (by decide) (by decide) (by decide) (Or.inl (by decide)) (by decide) (Or.inl (by decide)) (Or.inl (by decide)) (by decide) (by decide) (by decide) (by decide) (by decide) (by decide) (by decide) (by decide) (by decide)) (fun j => f8 2 j (Or.inl (by decide)) (Or.inl (by decide)) (Or.inl (by decide)) (by decide) (by decide) (by decide) (by decide) (Or.inl (by decide)) (by decide) (Or.inl (by decide)) (Or.inl (by decide)) (by decide) (by decide) (by decide) (by decide) (by decide) (by decide) (by decide) (by decide) (by decide)) (f8 0 14 (Or.inl (by decide)) (Or.inl (by decide)) (Or.inl (by decide)) (by decide) (by decide) (by decide) (by decide) (Or.inl (by decide)) (by decide) (Or.inl (by decide)) (Or.inl (by decide)) (by decide) (by decide) (by decide) (by decide) (by decide) (by decide) (by decide) (by decide) (by decide)) (f9 62 2 (by decide) (Or.inr (by decide)) (by decide) (Or.inr (by decide)) (Or.inr (by decide)) (by decide) (by decide) (by decide) (by decide) (by decide) (by decide)) (f9 62 12 (by decide) (Or.inr (by decide)) (by decide) (Or.inr (by decide)) (Or.inr (by decide)) (by decide) (by decide) (by decide) (by decide) (by decide) (by decide)) (fun j => f9 63 j (by decide) (Or.inl (by decide)) (by decide) (Or.inl (by decide)) (Or.inl (by decide)) (by decide) (by decide) (by decide) (by decide) (by decide) (by decide))⟩
theorem both_projected {I : gM} (h : Inv0 I) (v1 : Int32) : ∃ a b, fX8_projected v1 I = some a ∧ fX9_projected v1 a.2 = some b ∧ Inv0 b.2 := by
  obtain ⟨a, e1, hMa⟩ := tfX8_projected v1 I h.1
  obtain ⟨b, e2, hMb, hAb⟩ := n_projected hMa.re (A9.hi hMa h.2.1) v1
  have f9 := xfX9_projected _ _ e2
  have f8 := xfX8_projected _ _ e1
  exact ⟨a, b, e1, e2, h.keep hMa hMb hAb (f8 1 0 (Or.inl (by decide)) (by decide) (Or.inl (by decide)) (Or.inl (by decide)) (by decide) (by decide) (by decide) (by decide) (by decide) (by decide) (by decide) (by decide) (by decide)) (fun j => f8 2 j (Or.inl (by decide)) (by decide) (Or.inl (by decide)) (Or.inl (by decide)) (by decide) (by decide) (by decide) (by decide) (by decide) (by decide) (by decide) (by decide) (by decide)) (f8 0 14 (Or.inl (by decide)) (by decide) (Or.inl (by decide)) (Or.inl (by decide)) (by decide) (by decide) (by decide) (by decide) (by decide) (by decide) (by decide) (by decide) (by decide)) (f9 62 2 (Or.inr (by decide)) (by decide) (Or.inr (by decide)) (Or.inr (by decide)) (by decide) (by decide) (by decide) (by decide) (by decide) (by decide) (by decide) (by decide) (by decide) (by decide)) (f9 62 12 (Or.inr (by decide)) (by decide) (Or.inr (by decide)) (Or.inr (by decide)) (by decide) (by decide) (by decide) (by decide) (by decide) (by decide) (by decide) (by decide) (by decide) (by decide)) (fun j => f9 63 j (Or.inl (by decide)) (by decide) (Or.inl (by decide)) (Or.inl (by decide)) (by decide) (by decide) (by decide) (by decide) (by decide) (by decide) (by decide) (by decide) (by decide) (by decide))⟩
theorem both_times {I : gM} (h : Inv0 I) (v1 : Int32) (v2 : Int32) : ∃ a b, fX8_times v1 v2 I = some a ∧ fX9_times v1 v2 a.2 = some b ∧ Inv0 b.2 := by
  obtain ⟨a, e1, hMa⟩ := tfX8_times v1 v2 I h.1
  obtain ⟨b, e2, hMb⟩ := tfX9_times v1 v2 a.2 hMa.re
  have f9 := xfX9_times _ _ _ e2
  have hAb : A9 b.2 := (A9.hi hMa h.2.1).same (f9 62 17 (Or.inr (by decide)) (by decide) (Or.inr (by decide)) (Or.inr (by decide)) (by decide) (by decide) (by decide) (by decide) (by decide) (by decide) (by decide) (by decide) (by decide)) (f9 62 29 (Or.inr (by decide)) (by decide) (Or.inr (by decide)) (Or.inr (by decide)) (by decide) (by decide) (by decide) (by decide) (by decide) (by decide) (by decide) (by decide) (by decide)) (f9 62 42 (Or.inr (by decide)) (by decide) (Or.inr (by decide)) (Or.inr (by decide)) (by decide) (by decide) (by decide) (by decide) (by decide) (by decide) (by decide) (by decide) (by decide)) (fun k hk => by
    rcases hk with rfl | rfl | rfl | rfl
    · exact funext fun j => f9 70 j (Or.inl (by decide)) (by decide) (Or.inl (by decide)) (Or.inl (by decide)) (by decide) (by decide) (by decide) (by decide) (by decide) (by decide) (by decide) (by decide) (by decide)
    · exact funext fun j => f9 72 j (Or.inl (by decide)) (by decide) (Or.inl (by decide)) (Or.inl (by decide)) (by decide) (by decide) (by decide) (by decide) (by decide) (by decide) (by decide) (by decide) (by decide)
    · exact funext fun j => f9 81 j (Or.inl (by decide)) (by decide) (Or.inl (by decide)) (Or.inl (by decide)) (by decide) (by decide) (by decide) (by decide) (by decide) (by decide) (by decide) (by decide) (by decide)
    · exact funext fun j => f9 89 j (Or.inl (by decide)) (by decide) (Or.inl (by decide)) (Or.inl (by decide)) (by decide) (by decide) (by decide) (by decide) (by decide) (by decide) (by decide) (by decide) (by decide))
  have f8 := xfX8_times _ _ _ e1
  exact ⟨a, b, e1, e2, h.keep hMa hMb hAb (f8 1 0 (by decide)) (fun j => f8 2 j (by decide)) (f8 0 14 (by decide)) (f9 62 2 (Or.inr (by decide)) (by decide) (Or.inr (by decide)) (Or.inr (by decide)) (by decide) (by decide) (by decide) (by decide) (by decide) (by decide) (by decide) (by decide) (by decide)) (f9 62 12 (Or.inr (by decide)) (by decide) (Or.inr (by decide)) (Or.inr (by decide)) (by decide) (by decide) (by decide) (by decide) (by decide) (by decide) (by decide) (by decide) (by decide)) (fun j => f9 63 j (Or.inl (by decide)) (by decide) (Or.inl (by decide)) (Or.inl (by decide)) (by decide) (by decide) (by decide) (by decide) (by decide) (by decide) (by decide) (by decide) (by decide))⟩
theorem both_distinct {I : gM} (h : Inv0 I) (v1 : Int32) (v2 : Int32) : ∃ a b, fX8_distinct v1 v2 I = some a ∧ fX9_distinct v1 v2 a.2 = some b ∧ Inv0 b.2 := by
  obtain ⟨a, e1, hMa⟩ := tfX8_distinct v1 v2 I h.1
  obtain ⟨b, e2, _, hMb⟩ := tfX9_distinct v1 v2 a.2 hMa.re
  have f9 := xfX9_distinct _ _ _ e2
  have hAb : A9 b.2 := (A9.hi hMa h.2.1).same (f9 62 17 (Or.inr (by decide)) (by decide) (Or.inr (by decide)) (Or.inr (by decide)) (by decide) (by decide) (by decide) (by decide) (by decide) (by decide) (by decide) (by decide) (by decide)) (f9 62 29 (Or.inr (by decide)) (by decide) (Or.inr (by decide)) (Or.inr (by decide)) (by decide) (by decide) (by decide) (by decide) (by decide) (by decide) (by decide) (by decide) (by decide)) (f9 62 42 (Or.inr (by decide)) (by decide) (Or.inr (by decide)) (Or.inr (by decide)) (by decide) (by decide) (by decide) (by decide) (by decide) (by decide) (by decide) (by decide) (by decide)) (fun k hk => by
    rcases hk with rfl | rfl | rfl | rfl
    · exact funext fun j => f9 70 j (Or.inl (by decide)) (by decide) (Or.inl (by decide)) (Or.inl (by decide)) (by decide) (by decide) (by decide) (by decide) (by decide) (by decide) (by decide) (by decide) (by decide)
    · exact funext fun j => f9 72 j (Or.inl (by decide)) (by decide) (Or.inl (by decide)) (Or.inl (by decide)) (by decide) (by decide) (by decide) (by decide) (by decide) (by decide) (by decide) (by decide) (by decide)
    · exact funext fun j => f9 81 j (Or.inl (by decide)) (by decide) (Or.inl (by decide)) (Or.inl (by decide)) (by decide) (by decide) (by decide) (by decide) (by decide) (by decide) (by decide) (by decide) (by decide)
    · exact funext fun j => f9 89 j (Or.inl (by decide)) (by decide) (Or.inl (by decide)) (Or.inl (by decide)) (by decide) (by decide) (by decide) (by decide) (by decide) (by decide) (by decide) (by decide) (by decide))
  have f8 := xfX8_distinct _ _ _ e1
  exact ⟨a, b, e1, e2, h.keep hMa hMb hAb (f8 1 0 (by decide)) (fun j => f8 2 j (by decide)) (f8 0 14 (by decide)) (f9 62 2 (Or.inr (by decide)) (by decide) (Or.inr (by decide)) (Or.inr (by decide)) (by decide) (by decide) (by decide) (by decide) (by decide) (by decide) (by decide) (by decide) (by decide)) (f9 62 12 (Or.inr (by decide)) (by decide) (Or.inr (by decide)) (Or.inr (by decide)) (by decide) (by decide) (by decide) (by decide) (by decide) (by decide) (by decide) (by decide) (by decide)) (fun j => f9 63 j (Or.inl (by decide)) (by decide) (Or.inl (by decide)) (Or.inl (by decide)) (by decide) (by decide) (by decide) (by decide) (by decide) (by decide) (by decide) (by decide) (by decide))⟩
theorem both_tells {I : gM} (h : Inv0 I) (v1 : Int32) (v2 : Int32) : ∃ a b, fX8_tells v1 v2 I = some a ∧ fX9_tells v1 v2 a.2 = some b ∧ Inv0 b.2 := by
  obtain ⟨a, e1, _, hMa⟩ := tfX8_tells v1 v2 I h.1
  obtain ⟨b, e2, hMb, hAb⟩ := n_tells hMa.re (A9.hi hMa h.2.1) v1 v2
  have f9 := xfX9_tells _ _ _ e2
  have f8 := xfX8_tells _ _ _ e1
  exact ⟨a, b, e1, e2, h.keep hMa hMb hAb (f8 1 0 (by decide)) (fun j => f8 2 j (by decide)) (f8 0 14 (by decide)) (f9 62 2 (Or.inr (by decide)) (by decide) (Or.inr (by decide)) (Or.inr (by decide)) (by decide) (by decide) (by decide) (by decide) (by decide) (by decide) (by decide)) (f9 62 12 (Or.inr (by decide)) (by decide) (Or.inr (by decide)) (Or.inr (by decide)) (by decide) (by decide) (by decide) (by decide) (by decide) (by decide) (by decide)) (fun j => f9 63 j (Or.inl (by decide)) (by decide) (Or.inl (by decide)) (Or.inl (by decide)) (by decide) (by decide) (by decide) (by decide) (by decide) (by decide) (by decide))⟩
theorem both_behind {I : gM} (h : Inv0 I) (v1 : Int32) (v2 : Int32) (v3 : Int32) (v4 : Int32) : ∃ a b, fX8_behind v1 v2 v3 v4 I = some a ∧ fX9_behind v1 v2 v3 v4 I = some b ∧ Inv0 b.2 := by
  obtain ⟨a, e1, _⟩ := tfX8_behind v1 v2 v3 v4 I h.1
  have hMa := h.1
  obtain ⟨b, e2, hMb⟩ := tfX9_behind v1 v2 v3 v4 I hMa.re
  have f9 := xfX9_behind _ _ _ _ _ e2
  have hAb : A9 b.2 := (A9.hi hMa h.2.1).same (f9 62 17 (by decide) (Or.inr (by decide)) (by decide) (Or.inr (by decide)) (Or.inr (by decide)) (by decide) (by decide) (by decide) (by decide) (by decide) (by decide)) (f9 62 29 (by decide) (Or.inr (by decide)) (by decide) (Or.inr (by decide)) (Or.inr (by decide)) (by decide) (by decide) (by decide) (by decide) (by decide) (by decide)) (f9 62 42 (by decide) (Or.inr (by decide)) (by decide) (Or.inr (by decide)) (Or.inr (by decide)) (by decide) (by decide) (by decide) (by decide) (by decide) (by decide)) (fun k hk => by
    rcases hk with rfl | rfl | rfl | rfl
    · exact funext fun j => f9 70 j (by decide) (Or.inl (by decide)) (by decide) (Or.inl (by decide)) (Or.inl (by decide)) (by decide) (by decide) (by decide) (by decide) (by decide) (by decide)
    · exact funext fun j => f9 72 j (by decide) (Or.inl (by decide)) (by decide) (Or.inl (by decide)) (Or.inl (by decide)) (by decide) (by decide) (by decide) (by decide) (by decide) (by decide)
    · exact funext fun j => f9 81 j (by decide) (Or.inl (by decide)) (by decide) (Or.inl (by decide)) (Or.inl (by decide)) (by decide) (by decide) (by decide) (by decide) (by decide) (by decide)
    · exact funext fun j => f9 89 j (by decide) (Or.inl (by decide)) (by decide) (Or.inl (by decide)) (Or.inl (by decide)) (by decide) (by decide) (by decide) (by decide) (by decide) (by decide))
  exact ⟨a, b, e1, e2, h.keep hMa hMb hAb rfl (fun _ => rfl) rfl (f9 62 2 (by decide) (Or.inr (by decide)) (by decide) (Or.inr (by decide)) (Or.inr (by decide)) (by decide) (by decide) (by decide) (by decide) (by decide) (by decide)) (f9 62 12 (by decide) (Or.inr (by decide)) (by decide) (Or.inr (by decide)) (Or.inr (by decide)) (by decide) (by decide) (by decide) (by decide) (by decide) (by decide)) (fun j => f9 63 j (by decide) (Or.inl (by decide)) (by decide) (Or.inl (by decide)) (Or.inl (by decide)) (by decide) (by decide) (by decide) (by decide) (by decide) (by decide))⟩
theorem both_has {I : gM} (h : Inv0 I) (v1 : Int32) (v2 : Int32) (v3 : Int32) (v4 : Int32) : ∃ a b, fX8_has v1 v2 v3 v4 I = some a ∧ fX9_has_ v1 v2 v3 v4 I = some b ∧ Inv0 b.2 := by
  obtain ⟨a, e1, _⟩ := tfX8_has v1 v2 v3 v4 I h.1
  have hMa := h.1
  obtain ⟨b, e2, _, hMb⟩ := tfX9_has_ v1 v2 v3 v4 I hMa.re
  have f9 := xfX9_has_ _ _ _ _ _ e2
  have hAb : A9 b.2 := (A9.hi hMa h.2.1).same (f9 62 17 (by decide) (Or.inr (by decide)) (by decide) (Or.inr (by decide)) (Or.inr (by decide)) (by decide) (by decide) (by decide) (by decide) (by decide) (by decide)) (f9 62 29 (by decide) (Or.inr (by decide)) (by decide) (Or.inr (by decide)) (Or.inr (by decide)) (by decide) (by decide) (by decide) (by decide) (by decide) (by decide)) (f9 62 42 (by decide) (Or.inr (by decide)) (by decide) (Or.inr (by decide)) (Or.inr (by decide)) (by decide) (by decide) (by decide) (by decide) (by decide) (by decide)) (fun k hk => by
    rcases hk with rfl | rfl | rfl | rfl
    · exact funext fun j => f9 70 j (by decide) (Or.inl (by decide)) (by decide) (Or.inl (by decide)) (Or.inl (by decide)) (by decide) (by decide) (by decide) (by decide) (by decide) (by decide)
    · exact funext fun j => f9 72 j (by decide) (Or.inl (by decide)) (by decide) (Or.inl (by decide)) (Or.inl (by decide)) (by decide) (by decide) (by decide) (by decide) (by decide) (by decide)
    · exact funext fun j => f9 81 j (by decide) (Or.inl (by decide)) (by decide) (Or.inl (by decide)) (Or.inl (by decide)) (by decide) (by decide) (by decide) (by decide) (by decide) (by decide)
    · exact funext fun j => f9 89 j (by decide) (Or.inl (by decide)) (by decide) (Or.inl (by decide)) (Or.inl (by decide)) (by decide) (by decide) (by decide) (by decide) (by decide) (by decide))
  exact ⟨a, b, e1, e2, h.keep hMa hMb hAb rfl (fun _ => rfl) rfl (f9 62 2 (by decide) (Or.inr (by decide)) (by decide) (Or.inr (by decide)) (Or.inr (by decide)) (by decide) (by decide) (by decide) (by decide) (by decide) (by decide)) (f9 62 12 (by decide) (Or.inr (by decide)) (by decide) (Or.inr (by decide)) (Or.inr (by decide)) (by decide) (by decide) (by decide) (by decide) (by decide) (by decide)) (fun j => f9 63 j (by decide) (Or.inl (by decide)) (by decide) (Or.inl (by decide)) (Or.inl (by decide)) (by decide) (by decide) (by decide) (by decide) (by decide) (by decide))⟩
theorem both_mean {I : gM} (h : Inv0 I) (v1 : Int32) : ∃ a b, fX8_mean v1 I = some a ∧ fX9_mean v1 I = some b ∧ Inv0 b.2 := by
  obtain ⟨a, e1, _⟩ := t_mean8 v1 I h.1
  have hMa := h.1
  obtain ⟨b, e2, hMb, hAb⟩ := t_mean9 hMa.re (A9.hi hMa h.2.1) v1
  have f9 := xfX9_mean _ _ e2
  exact ⟨a, b, e1, e2, h.keep hMa hMb hAb rfl (fun _ => rfl) rfl (f9 62 2 (Or.inr (by decide)) (by decide) (Or.inr (by decide)) (Or.inr (by decide)) (by decide) (by decide) (by decide) (by decide) (by decide) (by decide)) (f9 62 12 (Or.inr (by decide)) (by decide) (Or.inr (by decide)) (Or.inr (by decide)) (by decide) (by decide) (by decide) (by decide) (by decide) (by decide)) (fun j => f9 63 j (Or.inl (by decide)) (by decide) (Or.inl (by decide)) (Or.inl (by decide)) (by decide) (by decide) (by decide) (by decide) (by decide) (by decide))⟩
theorem both_meanAs {I : gM} (h : Inv0 I) (v1 : Int32) (v2 : Int32) : ∃ a b, fX8_meanAs v1 v2 I = some a ∧ fX9_meanAs v1 v2 I = some b ∧ Inv0 b.2 := by
  obtain ⟨a, e1, _⟩ := t_meanAs8 v1 v2 I h.1
  have hMa := h.1
  obtain ⟨b, e2, hMb, hAb⟩ := t_meanAs9 hMa.re (A9.hi hMa h.2.1) v1 v2
  have f9 := xfX9_meanAs _ _ _ e2
  exact ⟨a, b, e1, e2, h.keep hMa hMb hAb rfl (fun _ => rfl) rfl (f9 62 2 (Or.inr (by decide)) (by decide) (Or.inr (by decide)) (Or.inr (by decide)) (by decide) (by decide) (by decide) (by decide) (by decide) (by decide)) (f9 62 12 (Or.inr (by decide)) (by decide) (Or.inr (by decide)) (Or.inr (by decide)) (by decide) (by decide) (by decide) (by decide) (by decide) (by decide)) (fun j => f9 63 j (Or.inl (by decide)) (by decide) (Or.inl (by decide)) (Or.inl (by decide)) (by decide) (by decide) (by decide) (by decide) (by decide) (by decide))⟩
theorem both_spread {I : gM} (h : Inv0 I) (v1 : Int32) : ∃ a b, fX8_spread v1 I = some a ∧ fX9_spread v1 I = some b ∧ Inv0 b.2 := by
  obtain ⟨a, e1, _⟩ := t_spread8 v1 I h.1
  have hMa := h.1
  obtain ⟨b, e2, hMb, hAb⟩ := t_spread9 hMa.re (A9.hi hMa h.2.1) v1
  have f9 := xfX9_spread _ _ e2
  exact ⟨a, b, e1, e2, h.keep hMa hMb hAb rfl (fun _ => rfl) rfl (f9 62 2 (Or.inr (by decide)) (by decide) (Or.inr (by decide)) (Or.inr (by decide)) (by decide) (by decide) (by decide) (by decide) (by decide) (by decide)) (f9 62 12 (Or.inr (by decide)) (by decide) (Or.inr (by decide)) (Or.inr (by decide)) (by decide) (by decide) (by decide) (by decide) (by decide) (by decide)) (fun j => f9 63 j (Or.inl (by decide)) (by decide) (Or.inl (by decide)) (Or.inl (by decide)) (by decide) (by decide) (by decide) (by decide) (by decide) (by decide))⟩
theorem both_skew {I : gM} (h : Inv0 I) (v1 : Int32) : ∃ a b, fX8_skew v1 I = some a ∧ fX9_skew v1 a.2 = some b ∧ Inv0 b.2 := by
  obtain ⟨a, e1, hMa, ha41⟩ := t_skew8 v1 I h.1
  obtain ⟨b, e2, hMb, hAb⟩ := t_skew9 hMa.re (A9.hi hMa h.2.1) v1
  have f9 := xfX9_skew _ _ e2
  exact ⟨a, b, e1, e2, h.keep hMa hMb hAb (by rw [ha41 1 (by decide)]) (fun j => by rw [ha41 2 (by decide)]) (by rw [ha41 0 (by decide)]) (f9 62 2 (Or.inr (by decide)) (by decide) (Or.inr (by decide)) (Or.inr (by decide)) (by decide) (by decide) (by decide) (by decide) (by decide) (by decide) (by decide) (by decide) (by decide)) (f9 62 12 (Or.inr (by decide)) (by decide) (Or.inr (by decide)) (Or.inr (by decide)) (by decide) (by decide) (by decide) (by decide) (by decide) (by decide) (by decide) (by decide) (by decide)) (fun j => f9 63 j (Or.inl (by decide)) (by decide) (Or.inl (by decide)) (Or.inl (by decide)) (by decide) (by decide) (by decide) (by decide) (by decide) (by decide) (by decide) (by decide) (by decide))⟩
theorem both_put {I : gM} (h : Inv0 I) (v1 : Int32) (v2 : Int32) (v3 : Int32) (v4 : Int32) : ∃ a b, fX8_put v1 v2 v3 v4 I = some a ∧ fX9_put v1 v2 v3 v4 a.2 = some b ∧ Inv0 b.2 := by
  obtain ⟨a, e1, _, hMa⟩ := tfX8_put v1 v2 v3 v4 I h.1
  obtain ⟨b, e2, hMb, hAb⟩ := n_put hMa.re (A9.hi hMa h.2.1) v1 v2 v3 v4
  have f9 := xfX9_put _ _ _ _ _ e2
  have f8 := xfX8_put _ _ _ _ _ e1
  exact ⟨a, b, e1, e2, h.keep hMa hMb hAb (f8 1 0 (by decide) (Or.inl (by decide)) (Or.inl (by decide)) (by decide) (by decide) (Or.inl (by decide)) (Or.inl (by decide)) (Or.inl (by decide)) (by decide) (Or.inl (by decide)) (Or.inl (by decide)) (by decide) (by decide) (by decide) (by decide) (by decide) (by decide) (by decide) (by decide) (by decide) (Or.inl (by decide)) (by decide) (Or.inl (by decide)) (Or.inl (by decide)) (by decide)) (fun j => f8 2 j (by decide) (Or.inl (by decide)) (Or.inl (by decide)) (by decide) (by decide) (Or.inl (by decide)) (Or.inl (by decide)) (Or.inl (by decide)) (by decide) (Or.inl (by decide)) (Or.inl (by decide)) (by decide) (by decide) (by decide) (by decide) (by decide) (by decide) (by decide) (by decide) (by decide) (Or.inl (by decide)) (by decide) (Or.inl (by decide)) (Or.inl (by decide)) (by decide)) (f8 0 14 (by decide) (Or.inl (by decide)) (Or.inl (by decide)) (by decide) (by decide) (Or.inl (by decide)) (Or.inl (by decide)) (Or.inl (by decide)) (by decide) (Or.inl (by decide)) (Or.inl (by decide)) (by decide) (by decide) (by decide) (by decide) (by decide) (by decide) (by decide) (by decide) (by decide) (Or.inl (by decide)) (by decide) (Or.inl (by decide)) (Or.inl (by decide)) (by decide)) (f9 62 2 (by decide) (Or.inr (by decide)) (by decide) (Or.inr (by decide)) (by decide) (Or.inr (by decide)) (Or.inr (by decide)) (by decide) (by decide) (by decide) (by decide) (by decide) (by decide) (by decide)) (f9 62 12 (by decide) (Or.inr (by decide)) (by decide) (Or.inr (by decide)) (by decide) (Or.inr (by decide)) (Or.inr (by decide)) (by decide) (by decide) (by decide) (by decide) (by decide) (by decide) (by decide)) (fun j => f9 63 j (by decide) (Or.inl (by decide)) (by decide) (Or.inl (by decide)) (by decide) (Or.inl (by decide)) (Or.inl (by decide)) (by decide) (by decide) (by decide) (by decide) (by decide) (by decide) (by decide))⟩
theorem both_take {I : gM} (h : Inv0 I) (v1 : Int32) (v2 : Int32) (v3 : Int32) (v4 : Int32) : ∃ a b, fX8_take v1 v2 v3 v4 I = some a ∧ fX9_take v1 v2 v3 v4 a.2 = some b ∧ Inv0 b.2 := by
  obtain ⟨a, e1, _, hMa⟩ := tfX8_take v1 v2 v3 v4 I h.1
  obtain ⟨b, e2, hMb, hAb⟩ := n_take hMa.re (A9.hi hMa h.2.1) v1 v2 v3 v4
  have f9 := xfX9_take _ _ _ _ _ e2
  have f8 := xfX8_take _ _ _ _ _ e1
  exact ⟨a, b, e1, e2, h.keep hMa hMb hAb (f8 1 0 (by decide) (Or.inl (by decide)) (Or.inl (by decide)) (by decide) (by decide) (Or.inl (by decide)) (Or.inl (by decide)) (Or.inl (by decide)) (by decide) (Or.inl (by decide)) (Or.inl (by decide)) (by decide) (by decide) (by decide) (by decide) (by decide) (by decide) (by decide) (by decide) (by decide) (Or.inl (by decide)) (by decide) (Or.inl (by decide)) (Or.inl (by decide)) (by decide)) (fun j => f8 2 j (by decide) (Or.inl (by decide)) (Or.inl (by decide)) (by decide) (by decide) (Or.inl (by decide)) (Or.inl (by decide)) (Or.inl (by decide)) (by decide) (Or.inl (by decide)) (Or.inl (by decide)) (by decide) (by decide) (by decide) (by decide) (by decide) (by decide) (by decide) (by decide) (by decide) (Or.inl (by decide)) (by decide) (Or.inl (by decide)) (Or.inl (by decide)) (by decide)) (f8 0 14 (by decide) (Or.inl (by decide)) (Or.inl (by decide)) (by decide) (by decide) (Or.inl (by decide)) (Or.inl (by decide)) (Or.inl (by decide)) (by decide) (Or.inl (by decide)) (Or.inl (by decide)) (by decide) (by decide) (by decide) (by decide) (by decide) (by decide) (by decide) (by decide) (by decide) (Or.inl (by decide)) (by decide) (Or.inl (by decide)) (Or.inl (by decide)) (by decide)) (f9 62 2 (by decide) (Or.inr (by decide)) (by decide) (Or.inr (by decide)) (by decide) (Or.inr (by decide)) (Or.inr (by decide)) (by decide) (by decide) (by decide) (by decide) (by decide) (by decide) (by decide)) (f9 62 12 (by decide) (Or.inr (by decide)) (by decide) (Or.inr (by decide)) (by decide) (Or.inr (by decide)) (Or.inr (by decide)) (by decide) (by decide) (by decide) (by decide) (by decide) (by decide) (by decide)) (fun j => f9 63 j (by decide) (Or.inl (by decide)) (by decide) (Or.inl (by decide)) (by decide) (Or.inl (by decide)) (Or.inl (by decide)) (by decide) (by decide) (by decide) (by decide) (by decide) (by decide) (by decide))⟩
theorem both_use {I : gM} (h : Inv0 I) (v1 : Int32) : ∃ a b, fX8_use v1 I = some a ∧ fX9_use v1 a.2 = some b ∧ Inv0 b.2 := by
  obtain ⟨a, e1, _, hMa⟩ := tfX8_use v1 I h.1
  obtain ⟨b, e2, hMb, hAb⟩ := n_use hMa.re (A9.hi hMa h.2.1) v1
  have f9 := xfX9_use _ _ e2
  have f8 := xfX8_use _ _ e1
  exact ⟨a, b, e1, e2, h.keep hMa hMb hAb (f8 1 0 (by decide) (Or.inl (by decide)) (Or.inl (by decide)) (by decide) (by decide) (Or.inl (by decide)) (Or.inl (by decide)) (Or.inl (by decide)) (by decide) (Or.inl (by decide)) (Or.inl (by decide)) (by decide) (by decide) (by decide) (by decide) (by decide) (by decide) (by decide) (by decide) (by decide) (Or.inl (by decide)) (by decide) (Or.inl (by decide)) (Or.inl (by decide)) (by decide)) (fun j => f8 2 j (by decide) (Or.inl (by decide)) (Or.inl (by decide)) (by decide) (by decide) (Or.inl (by decide)) (Or.inl (by decide)) (Or.inl (by decide)) (by decide) (Or.inl (by decide)) (Or.inl (by decide)) (by decide) (by decide) (by decide) (by decide) (by decide) (by decide) (by decide) (by decide) (by decide) (Or.inl (by decide)) (by decide) (Or.inl (by decide)) (Or.inl (by decide)) (by decide)) (f8 0 14 (by decide) (Or.inl (by decide)) (Or.inl (by decide)) (by decide) (by decide) (Or.inl (by decide)) (Or.inl (by decide)) (Or.inl (by decide)) (by decide) (Or.inl (by decide)) (Or.inl (by decide)) (by decide) (by decide) (by decide) (by decide) (by decide) (by decide) (by decide) (by decide) (by decide) (Or.inl (by decide)) (by decide) (Or.inl (by decide)) (Or.inl (by decide)) (by decide)) (f9 62 2 (by decide) (Or.inr (by decide)) (by decide) (Or.inr (by decide)) (by decide) (Or.inr (by decide)) (Or.inr (by decide)) (by decide) (by decide) (by decide) (by decide) (by decide) (by decide) (by decide)) (f9 62 12 (by decide) (Or.inr (by decide)) (by decide) (Or.inr (by decide)) (by decide) (Or.inr (by decide)) (Or.inr (by decide)) (by decide) (by decide) (by decide) (by decide) (by decide) (by decide) (by decide)) (fun j => f9 63 j (by decide) (Or.inl (by decide)) (by decide) (Or.inl (by decide)) (by decide) (Or.inl (by decide)) (Or.inl (by decide)) (by decide) (by decide) (by decide) (by decide) (by decide) (by decide) (by decide))⟩
theorem both_order {I : gM} (h : Inv0 I) (v1 : Int32) : ∃ a b, fX8_order v1 I = some a ∧ fX9_order v1 a.2 = some b ∧ Inv0 b.2 := by
  obtain ⟨a, e1, hMa⟩ := tfX8_order v1 I h.1
  obtain ⟨b, e2, hMb, hAb⟩ := n_order hMa.re (A9.hi hMa h.2.1) v1
  have f9 := xfX9_order _ _ e2
  have f8 := xfX8_order _ _ e1
  exact ⟨a, b, e1, e2, h.keep hMa hMb hAb (f8 1 0 (by decide) (Or.inl (by decide)) (Or.inl (by decide)) (by decide) (by decide) (Or.inl (by decide)) (Or.inl (by decide)) (Or.inl (by decide)) (by decide) (Or.inl (by decide)) (Or.inl (by decide)) (by decide) (by decide) (by decide) (by decide) (by decide) (by decide) (by decide) (by decide) (by decide) (Or.inl (by decide)) (by decide) (Or.inl (by decide)) (Or.inl (by decide)) (by decide)) (fun j => f8 2 j (by decide) (Or.inl (by decide)) (Or.inl (by decide)) (by decide) (by decide) (Or.inl (by decide)) (Or.inl (by decide)) (Or.inl (by decide)) (by decide) (Or.inl (by decide)) (Or.inl (by decide)) (by decide) (by decide) (by decide) (by decide) (by decide) (by decide) (by decide) (by decide) (by decide) (Or.inl (by decide)) (by decide) (Or.inl (by decide)) (Or.inl (by decide)) (by decide)) (f8 0 14 (by decide) (Or.inl (by decide)) (Or.inl (by decide)) (by decide) (by decide) (Or.inl (by decide)) (Or.inl (by decide)) (Or.inl (by decide)) (by decide) (Or.inl (by decide)) (Or.inl (by decide)) (by decide) (by decide) (by decide) (by decide) (by decide) (by decide) (by decide) (by decide) (by decide) (Or.inl (by decide)) (by decide) (Or.inl (by decide)) (Or.inl (by decide)) (by decide)) (f9 62 2 (by decide) (Or.inr (by decide)) (by decide) (Or.inr (by decide)) (by decide) (Or.inr (by decide)) (Or.inr (by decide)) (by decide) (by decide) (by decide) (by decide) (by decide) (by decide) (by decide)) (f9 62 12 (by decide) (Or.inr (by decide)) (by decide) (Or.inr (by decide)) (by decide) (Or.inr (by decide)) (Or.inr (by decide)) (by decide) (by decide) (by decide) (by decide) (by decide) (by decide) (by decide)) (fun j => f9 63 j (by decide) (Or.inl (by decide)) (by decide) (Or.inl (by decide)) (by decide) (Or.inl (by decide)) (Or.inl (by decide)) (by decide) (by decide) (by decide) (by decide) (by decide) (by decide) (by decide))⟩
theorem both_ways {I : gM} (h : Inv0 I) (v1 : Int32) (v2 : Int64) (J : gN) : ∃ a b, fX8_ways v1 v2 I J = some a ∧ fX9_ways v1 v2 a.2.1 a.2.2 = some b ∧ Inv0 b.2.1 := by
  obtain ⟨a, e1, _, hMa⟩ := tfX8_ways v1 v2 I J h.1
  obtain ⟨b, e2, hMb, hAb⟩ := n_ways hMa.re (A9.hi hMa h.2.1) v1 v2 a.2.2
  have f8 := xfX8_ways _ _ _ _ e1
  have f9 := xfX9_ways _ _ _ _ e2
  exact ⟨a, b, e1, e2, h.keep hMa hMb hAb (f8 1 0 (by decide) (Or.inl (by decide)) (Or.inl (by decide)) (by decide) (by decide) (Or.inl (by decide)) (Or.inl (by decide)) (Or.inl (by decide)) (by decide) (Or.inl (by decide)) (Or.inl (by decide)) (by decide) (by decide) (by decide) (by decide) (by decide) (by decide) (by decide) (by decide) (by decide) (Or.inl (by decide)) (by decide) (Or.inl (by decide)) (Or.inl (by decide))) (fun j => f8 2 j (by decide) (Or.inl (by decide)) (Or.inl (by decide)) (by decide) (by decide) (Or.inl (by decide)) (Or.inl (by decide)) (Or.inl (by decide)) (by decide) (Or.inl (by decide)) (Or.inl (by decide)) (by decide) (by decide) (by decide) (by decide) (by decide) (by decide) (by decide) (by decide) (by decide) (Or.inl (by decide)) (by decide) (Or.inl (by decide)) (Or.inl (by decide))) (f8 0 14 (by decide) (Or.inl (by decide)) (Or.inl (by decide)) (by decide) (by decide) (Or.inl (by decide)) (Or.inl (by decide)) (Or.inl (by decide)) (by decide) (Or.inl (by decide)) (Or.inl (by decide)) (by decide) (by decide) (by decide) (by decide) (by decide) (by decide) (by decide) (by decide) (by decide) (Or.inl (by decide)) (by decide) (Or.inl (by decide)) (Or.inl (by decide))) (f9 62 2 (by decide) (Or.inr (by decide)) (by decide) (Or.inr (by decide)) (by decide) (Or.inr (by decide)) (Or.inr (by decide)) (by decide) (by decide) (by decide) (by decide) (by decide) (by decide)) (f9 62 12 (by decide) (Or.inr (by decide)) (by decide) (Or.inr (by decide)) (by decide) (Or.inr (by decide)) (Or.inr (by decide)) (by decide) (by decide) (by decide) (by decide) (by decide) (by decide)) (fun j => f9 63 j (by decide) (Or.inl (by decide)) (by decide) (Or.inl (by decide)) (by decide) (Or.inl (by decide)) (Or.inl (by decide)) (by decide) (by decide) (by decide) (by decide) (by decide) (by decide))⟩
theorem both_status {I : gM} (h : Inv0 I) (v1 : Int32) : ∃ a b, fX8_status v1 I = some a ∧ fX9_status v1 I = some b ∧ Inv0 I := by
  obtain ⟨a, e1, _⟩ := tfX8_status v1 I h.1
  have hMa := h.1
  obtain ⟨b, e2, _⟩ := tfX9_status v1 I hMa.re
  exact ⟨a, b, e1, e2, h⟩
theorem both_undo {I : gM} (h : Inv0 I) : ∃ a b, fX8_undo I = some a ∧ fX9_undo a.2 = some b ∧ Inv0 b.2 := by
  obtain ⟨a, e1, _, hMa⟩ := tfX8_undo  I h.1
  obtain ⟨b, e2, hMb, hAb⟩ := n_undoA hMa.re (A9.hi hMa h.2.1) 
  have f9 := xfX9_undo _ e2
  have f8 := xfX8_undo _ e1
  exact ⟨a, b, e1, e2, h.keep hMa hMb hAb (f8 1 0 (Or.inl (by decide)) (Or.inl (by decide)) (by decide) (by decide) (Or.inl (by decide)) (Or.inl (by decide)) (Or.inl (by decide)) (Or.inl (by decide)) (Or.inl (by decide)) (by decide) (Or.inl (by decide)) (Or.inl (by decide)) (by decide) (by decide) (by decide) (by decide) (by decide) (by decide) (by decide) (by decide) (by decide) (Or.inl (by decide))) (fun j => f8 2 j (Or.inl (by decide)) (Or.inl (by decide)) (by decide) (by decide) (Or.inl (by decide)) (Or.inl (by decide)) (Or.inl (by decide)) (Or.inl (by decide)) (Or.inl (by decide)) (by decide) (Or.inl (by decide)) (Or.inl (by decide)) (by decide) (by decide) (by decide) (by decide) (by decide) (by decide) (by decide) (by decide) (by decide) (Or.inl (by decide))) (f8 0 14 (Or.inl (by decide)) (Or.inl (by decide)) (by decide) (by decide) (Or.inl (by decide)) (Or.inl (by decide)) (Or.inl (by decide)) (Or.inl (by decide)) (Or.inl (by decide)) (by decide) (Or.inl (by decide)) (Or.inl (by decide)) (by decide) (by decide) (by decide) (by decide) (by decide) (by decide) (by decide) (by decide) (by decide) (Or.inl (by decide))) (f9 62 2 (Or.inr (by decide)) (by decide)) (f9 62 12 (Or.inr (by decide)) (by decide)) (fun j => f9 63 j (Or.inl (by decide)) (by decide))⟩
theorem both_log {I : gM} (h : Inv0 I) (v1 : Int32) (v2 : Int32) : ∃ a b, fX8_log v1 v2 I = some a ∧ fX9_log v1 v2 I = some b ∧ Inv0 I := by
  obtain ⟨a, e1, _⟩ := tfX8_log v1 v2 I h.1
  have hMa := h.1
  obtain ⟨b, e2, _⟩ := t_log9 hMa.re v1 v2
  exact ⟨a, b, e1, e2, h⟩
theorem both_would {I : gM} (h : Inv0 I) (v1 : Int32) (v2 : Int32) (v3 : Int32) (v4 : Int32) (v5 : Int32) : ∃ a b, fX8_would v1 v2 v3 v4 v5 I = some a ∧ fX9_would v1 v2 v3 v4 v5 a.2 = some b ∧ Inv0 b.2 := by
  obtain ⟨a, e1, hMa⟩ := tfX8_would v1 v2 v3 v4 v5 I h.1
  obtain ⟨b, e2, hMb, hAb⟩ := n_would hMa.re (A9.hi hMa h.2.1) v1 v2 v3 v4 v5
  have f9 := xfX9_would _ _ _ _ _ _ e2
  have f8 := xfX8_would _ _ _ _ _ _ e1
  exact ⟨a, b, e1, e2, h.keep hMa hMb hAb (f8 1 0 (Or.inl (by decide)) (Or.inl (by decide)) (Or.inl (by decide)) (by decide) (by decide) (by decide) (by decide) (Or.inl (by decide)) (by decide) (Or.inl (by decide)) (Or.inl (by decide)) (by decide) (by decide) (by decide) (by decide) (by decide) (by decide) (by decide) (by decide) (by decide)) (fun j => f8 2 j (Or.inl (by decide)) (Or.inl (by decide)) (Or.inl (by decide)) (by decide) (by decide) (by decide) (by decide) (Or.inl (by decide)) (by decide) (Or.inl (by decide)) (Or.inl (by decide)) (by decide) (by decide) (by decide) (by decide) (by decide) (by decide) (by decide) (by decide) (by decide)) (f8 0 14 (Or.inl (by decide)) (Or.inl (by decide)) (Or.inl (by decide)) (by decide) (by decide) (by decide) (by decide) (Or.inl (by decide)) (by decide) (Or.inl (by decide)) (Or.inl (by decide)) (by decide) (by decide) (by decide) (by decide) (by decide) (by decide) (by decide) (by decide) (by decide)) (f9 62 2 (by decide) (by decide) (Or.inr (by decide)) (by decide) (Or.inr (by decide)) (Or.inr (by decide)) (by decide) (by decide) (by decide) (by decide) (by decide) (by decide)) (f9 62 12 (by decide) (by decide) (Or.inr (by decide)) (by decide) (Or.inr (by decide)) (Or.inr (by decide)) (by decide) (by decide) (by decide) (by decide) (by decide) (by decide)) (fun j => f9 63 j (by decide) (by decide) (Or.inl (by decide)) (by decide) (Or.inl (by decide)) (Or.inl (by decide)) (by decide) (by decide) (by decide) (by decide) (by decide) (by decide))⟩
theorem both_step {I : gM} (h : Inv0 I) (v1 : Int32) (v2 : Int32) (v3 : Int32) : ∃ a b, fX8_step v1 v2 v3 I = some a ∧ fX9_step v1 v2 v3 I = some b ∧ Inv0 I := by
  obtain ⟨a, e1, _⟩ := tfX8_step v1 v2 v3 I h.1
  have hMa := h.1
  obtain ⟨b, e2, _⟩ := tfX9_step v1 v2 v3 I hMa.re
  exact ⟨a, b, e1, e2, h⟩
theorem both_run {I : gM} (h : Inv0 I) (v1 : Int32) (v2 : Int32) : ∃ a b, fX8_run v1 v2 I = some a ∧ fX9_run v1 v2 a.2 = some b ∧ Inv0 b.2 := by
  obtain ⟨a, e1, hMa⟩ := tfX8_run v1 v2 I h.1
  obtain ⟨b, e2, hMb, hAb⟩ := n_run hMa.re (A9.hi hMa h.2.1) v1 v2
  have f9 := xfX9_run _ _ _ e2
  have f8 := xfX8_run _ _ _ e1
  exact ⟨a, b, e1, e2, h.keep hMa hMb hAb (f8 1 0 (Or.inl (by decide)) (Or.inl (by decide)) (Or.inl (by decide)) (by decide) (by decide) (by decide) (by decide) (Or.inl (by decide)) (by decide) (Or.inl (by decide)) (Or.inl (by decide)) (by decide) (by decide) (by decide) (by decide) (by decide) (by decide) (by decide) (by decide) (by decide)) (fun j => f8 2 j (Or.inl (by decide)) (Or.inl (by decide)) (Or.inl (by decide)) (by decide) (by decide) (by decide) (by decide) (Or.inl (by decide)) (by decide) (Or.inl (by decide)) (Or.inl (by decide)) (by decide) (by decide) (by decide) (by decide) (by decide) (by decide) (by decide) (by decide) (by decide)) (f8 0 14 (Or.inl (by decide)) (Or.inl (by decide)) (Or.inl (by decide)) (by decide) (by decide) (by decide) (by decide) (Or.inl (by decide)) (by decide) (Or.inl (by decide)) (Or.inl (by decide)) (by decide) (by decide) (by decide) (by decide) (by decide) (by decide) (by decide) (by decide) (by decide)) (f9 62 2 (by decide) (by decide) (by decide) (Or.inr (by decide)) (Or.inr (by decide)) (by decide) (Or.inr (by decide)) (Or.inr (by decide)) (by decide) (by decide) (by decide) (by decide) (by decide) (by decide)) (f9 62 12 (by decide) (by decide) (by decide) (Or.inr (by decide)) (Or.inr (by decide)) (by decide) (Or.inr (by decide)) (Or.inr (by decide)) (by decide) (by decide) (by decide) (by decide) (by decide) (by decide)) (fun j => f9 63 j (by decide) (by decide) (by decide) (Or.inl (by decide)) (Or.inl (by decide)) (by decide) (Or.inl (by decide)) (Or.inl (by decide)) (by decide) (by decide) (by decide) (by decide) (by decide) (by decide))⟩
theorem both_perform {I : gM} (h : Inv0 I) (v1 : Int32) : ∃ a b, fX8_perform v1 I = some a ∧ fX9_perform v1 a.2 = some b ∧ Inv0 b.2 := by
  obtain ⟨a, e1, hMa⟩ := tfX8_perform v1 I h.1
  obtain ⟨b, e2, hMb, hAb⟩ := n_perform hMa.re (A9.hi hMa h.2.1) v1
  have f9 := xfX9_perform _ _ e2
  have f8 := xfX8_perform _ _ e1
  exact ⟨a, b, e1, e2, h.keep hMa hMb hAb (f8 1 0 (by decide) (Or.inl (by decide)) (Or.inl (by decide)) (by decide) (by decide) (Or.inl (by decide)) (Or.inl (by decide)) (Or.inl (by decide)) (by decide) (Or.inl (by decide)) (Or.inl (by decide)) (by decide) (by decide) (by decide) (by decide) (by decide) (by decide) (by decide) (by decide) (by decide) (Or.inl (by decide)) (by decide) (Or.inl (by decide)) (Or.inl (by decide))) (fun j => f8 2 j (by decide) (Or.inl (by decide)) (Or.inl (by decide)) (by decide) (by decide) (Or.inl (by decide)) (Or.inl (by decide)) (Or.inl (by decide)) (by decide) (Or.inl (by decide)) (Or.inl (by decide)) (by decide) (by decide) (by decide) (by decide) (by decide) (by decide) (by decide) (by decide) (by decide) (Or.inl (by decide)) (by decide) (Or.inl (by decide)) (Or.inl (by decide))) (f8 0 14 (by decide) (Or.inl (by decide)) (Or.inl (by decide)) (by decide) (by decide) (Or.inl (by decide)) (Or.inl (by decide)) (Or.inl (by decide)) (by decide) (Or.inl (by decide)) (Or.inl (by decide)) (by decide) (by decide) (by decide) (by decide) (by decide) (by decide) (by decide) (by decide) (by decide) (Or.inl (by decide)) (by decide) (Or.inl (by decide)) (Or.inl (by decide))) (f9 62 2 (by decide) (by decide) (Or.inr (by decide)) (Or.inr (by decide)) (by decide) (Or.inr (by decide)) (Or.inr (by decide)) (by decide) (by decide) (by decide) (by decide) (by decide) (by decide)) (f9 62 12 (by decide) (by decide) (Or.inr (by decide)) (Or.inr (by decide)) (by decide) (Or.inr (by decide)) (Or.inr (by decide)) (by decide) (by decide) (by decide) (by decide) (by decide) (by decide)) (fun j => f9 63 j (by decide) (by decide) (Or.inl (by decide)) (Or.inl (by decide)) (by decide) (Or.inl (by decide)) (Or.inl (by decide)) (by decide) (by decide) (by decide) (by decide) (by decide) (by decide))⟩
theorem both_most {I : gM} (h : Inv0 I) (v1 : Int32) : ∃ a b, fX8_most v1 I = some a ∧ fX9_most v1 a.2 = some b ∧ Inv0 b.2 := by
  obtain ⟨a, e1, hMa⟩ := tfX8_most v1 I h.1
  obtain ⟨b, e2, hMb, hAb⟩ := n_most hMa.re (A9.hi hMa h.2.1) v1
  have f9 := xfX9_most _ _ e2
  have f8 := xfX8_most _ _ e1
  exact ⟨a, b, e1, e2, h.keep hMa hMb hAb (f8 1 0 (by decide) (Or.inl (by decide)) (by decide) (Or.inl (by decide)) (Or.inl (by decide)) (by decide) (by decide) (by decide) (by decide) (by decide) (by decide) (by decide) (by decide) (by decide) (Or.inl (by decide)) (Or.inl (by decide)) (Or.inl (by decide)) (Or.inl (by decide))) (fun j => f8 2 j (by decide) (Or.inl (by decide)) (by decide) (Or.inl (by decide)) (Or.inl (by decide)) (by decide) (by decide) (by decide) (by decide) (by decide) (by decide) (by decide) (by decide) (by decide) (Or.inl (by decide)) (Or.inl (by decide)) (Or.inl (by decide)) (Or.inl (by decide))) (f8 0 14 (by decide) (Or.inl (by decide)) (by decide) (Or.inl (by decide)) (Or.inl (by decide)) (by decide) (by decide) (by decide) (by decide) (by decide) (by decide) (by decide) (by decide) (by decide) (Or.inl (by decide)) (Or.inl (by decide)) (Or.inl (by decide)) (Or.inl (by decide))) (f9 62 2 (Or.inr (by decide)) (by decide) (Or.inr (by decide)) (Or.inr (by decide)) (by decide) (by decide) (by decide) (by decide) (by decide) (by decide) (by decide) (Or.inr (by decide)) (Or.inr (by decide)) (Or.inr (by decide))) (f9 62 12 (Or.inr (by decide)) (by decide) (Or.inr (by decide)) (Or.inr (by decide)) (by decide) (by decide) (by decide) (by decide) (by decide) (by decide) (by decide) (Or.inr (by decide)) (Or.inr (by decide)) (Or.inr (by decide))) (fun j => f9 63 j (Or.inl (by decide)) (by decide) (Or.inl (by decide)) (Or.inl (by decide)) (by decide) (by decide) (by decide) (by decide) (by decide) (by decide) (by decide) (Or.inl (by decide)) (Or.inl (by decide)) (Or.inl (by decide)))⟩
theorem both_image {I : gM} (h : Inv0 I) : ∃ a b, fX8_image I = some a ∧ fX9_image a.2 = some b ∧ Inv0 b.2 := by
  obtain ⟨a, e1, _, hMa⟩ := tfX8_image  I h.1
  obtain ⟨b, e2, hMb, hAb⟩ := n_image hMa.re (A9.hi hMa h.2.1) 
  have f9 := xfX9_image _ e2
  have f8 := xfX8_image _ e1
  exact ⟨a, b, e1, e2, h.keep hMa hMb hAb (f8 1 0 (Or.inl (by decide)) (Or.inl (by decide)) (Or.inl (by decide)) (by decide) (by decide) (by decide) (by decide) (by decide) (Or.inl (by decide)) (Or.inl (by decide)) (Or.inl (by decide))) (fun j => f8 2 j (Or.inl (by decide)) (Or.inl (by decide)) (Or.inl (by decide)) (by decide) (by decide) (by decide) (by decide) (by decide) (Or.inl (by decide)) (Or.inl (by decide)) (Or.inl (by decide))) (f8 0 14 (Or.inl (by decide)) (Or.inl (by decide)) (Or.inl (by decide)) (by decide) (by decide) (by decide) (by decide) (by decide) (Or.inl (by decide)) (Or.inl (by decide)) (Or.inr (by decide))) (f9 62 2 (by decide) (Or.inr (by decide)) (Or.inr (by decide)) (by decide) (Or.inr (by decide)) (Or.inr (by decide)) (by decide) (by decide) (by decide) (by decide) (by decide) (by decide)) (f9 62 12 (by decide) (Or.inr (by decide)) (Or.inr (by decide)) (by decide) (Or.inr (by decide)) (Or.inr (by decide)) (by decide) (by decide) (by decide) (by decide) (by decide) (by decide)) (fun j => f9 63 j (by decide) (Or.inl (by decide)) (Or.inl (by decide)) (by decide) (Or.inl (by decide)) (Or.inl (by decide)) (by decide) (by decide) (by decide) (by decide) (by decide) (by decide))⟩
theorem both_back {I : gM} (h : Inv0 I) : ∃ a b, fX8_back I = some a ∧ fX9_back a.2 = some b ∧ Inv0 b.2 := by
  obtain ⟨a, e1, _, hMa⟩ := tfX8_back  I h.1
  obtain ⟨b, e2, hMb, hAb⟩ := n_back hMa.re (A9.hi hMa h.2.1) 
  have f9 := xfX9_back _ e2
  have f8 := xfX8_back _ e1
  exact ⟨a, b, e1, e2, h.keep hMa hMb hAb (f8 1 0 (Or.inl (by decide)) (Or.inl (by decide)) (Or.inl (by decide)) (by decide) (by decide) (by decide) (by decide) (by decide) (Or.inl (by decide)) (Or.inl (by decide)) (Or.inl (by decide)) (Or.inl (by decide)) (Or.inl (by decide)) (by decide) (Or.inl (by decide)) (Or.inl (by decide)) (by decide) (by decide) (by decide) (by decide) (by decide) (by decide) (by decide) (by decide) (by decide) (Or.inl (by decide))) (fun j => f8 2 j (Or.inl (by decide)) (Or.inl (by decide)) (Or.inl (by decide)) (by decide) (by decide) (by decide) (by decide) (by decide) (Or.inl (by decide)) (Or.inl (by decide)) (Or.inl (by decide)) (Or.inl (by decide)) (Or.inl (by decide)) (by decide) (Or.inl (by decide)) (Or.inl (by decide)) (by decide) (by decide) (by decide) (by decide) (by decide) (by decide) (by decide) (by decide) (by decide) (Or.inl (by decide))) (f8 0 14 (Or.inl (by decide)) (Or.inl (by decide)) (Or.inl (by decide)) (by decide) (by decide) (by decide) (by decide) (by decide) (Or.inl (by decide)) (Or.inl (by decide)) (Or.inl (by decide)) (Or.inl (by decide)) (Or.inl (by decide)) (by decide) (Or.inl (by decide)) (Or.inl (by decide)) (by decide) (by decide) (by decide) (by decide) (by decide) (by decide) (by decide) (by decide) (by decide) (Or.inl (by decide))) (f9 62 2 (by decide) (Or.inr (by decide)) (Or.inr (by decide)) (by decide) (Or.inr (by decide)) (Or.inr (by decide)) (by decide) (by decide) (by decide) (by decide) (by decide) (by decide)) (f9 62 12 (by decide) (Or.inr (by decide)) (Or.inr (by decide)) (by decide) (Or.inr (by decide)) (Or.inr (by decide)) (by decide) (by decide) (by decide) (by decide) (by decide) (by decide)) (fun j => f9 63 j (by decide) (Or.inl (by decide)) (Or.inl (by decide)) (by decide) (Or.inl (by decide)) (Or.inl (by decide)) (by decide) (by decide) (by decide) (by decide) (by decide) (by decide))⟩
theorem both_count {I : gM} (h : Inv0 I) (v1 : Int32) : ∃ a b, fX8_count v1 I = some a ∧ fX9_count v1 I = some b ∧ Inv0 I := by
  obtain ⟨a, e1, _⟩ := tfX8_count v1 I h.1
  have hMa := h.1
  obtain ⟨b, e2, _⟩ := tfX9_count v1 I hMa.re
  exact ⟨a, b, e1, e2, h⟩
