section P_34_both
theorem xfX9_mean (v1 : Int32) (I : gM) {r : Int64 × gM} (h : fX9_mean v1 I = some r) (q j : Nat) (cq0 : q ≠ 62 ∨ j ≠ 19) (cq1 : q ≠ 74) (cq2 : q ≠ 62 ∨ j ≠ 26) (cq3 : q ≠ 62 ∨ j ≠ 27) (cq4 : q ≠ 75) (cq5 : q ≠ 79) (cq6 : q ≠ 80) (cq7 : q ≠ 77) (cq8 : q ≠ 78) (cq9 : q ≠ 76) : r.2 q j = I q j := by
  unfold fX9_mean at h
  obtain ⟨r1, e1, h⟩ := ob h
  have f := xfX9_hasMean _ _ e1 q j cq0 cq1 cq2 cq3 cq4 cq5 cq6 cq7 cq8 cq9
  rcases oi h with ⟨_, h⟩ | ⟨_, h⟩
  · cases h; exact f
  · obtain ⟨r2, _, h⟩ := ob h
    obtain ⟨r3, _, h⟩ := ob h
    cases h; exact f
theorem xfX9_meanAs (v1 v2 : Int32) (I : gM) {r : Int32 × gM} (h : fX9_meanAs v1 v2 I = some r) (q j : Nat) (cq0 : q ≠ 62 ∨ j ≠ 19) (cq1 : q ≠ 74) (cq2 : q ≠ 62 ∨ j ≠ 26) (cq3 : q ≠ 62 ∨ j ≠ 27) (cq4 : q ≠ 75) (cq5 : q ≠ 79) (cq6 : q ≠ 80) (cq7 : q ≠ 77) (cq8 : q ≠ 78) (cq9 : q ≠ 76) : r.2 q j = I q j := by
  unfold fX9_meanAs at h
  obtain ⟨r1, _, h⟩ := ob h
  rcases oi h with ⟨_, h⟩ | ⟨_, h⟩
  · cases h; rfl
  · obtain ⟨r2, e2, h⟩ := ob h
    have f := xfX9_hasMean _ _ e2 q j cq0 cq1 cq2 cq3 cq4 cq5 cq6 cq7 cq8 cq9
    rcases oi h with ⟨_, h⟩ | ⟨_, h⟩
    · cases h; exact f
    · rcases oi h with ⟨_, h⟩ | ⟨_, h⟩
      · obtain ⟨_, _, h⟩ := ob h
        obtain ⟨_, _, h⟩ := ob h
        obtain ⟨_, _, h⟩ := ob h
        cases h; exact f
      · obtain ⟨_, _, h⟩ := ob h
        cases h; exact f
theorem xfX9_spread (v1 : Int32) (I : gM) {r : Int64 × gM} (h : fX9_spread v1 I = some r) (q j : Nat) (cq0 : q ≠ 62 ∨ j ≠ 19) (cq1 : q ≠ 74) (cq2 : q ≠ 62 ∨ j ≠ 26) (cq3 : q ≠ 62 ∨ j ≠ 27) (cq4 : q ≠ 75) (cq5 : q ≠ 79) (cq6 : q ≠ 80) (cq7 : q ≠ 77) (cq8 : q ≠ 78) (cq9 : q ≠ 76) : r.2 q j = I q j := by
  unfold fX9_spread at h
  obtain ⟨r1, e1, h⟩ := ob h
  have f := xfX9_hasMean _ _ e1 q j cq0 cq1 cq2 cq3 cq4 cq5 cq6 cq7 cq8 cq9
  rcases oi h with ⟨_, h⟩ | ⟨_, h⟩
  · cases h; exact f
  · obtain ⟨_, _, h⟩ := ob h
    obtain ⟨_, _, h⟩ := ob h
    obtain ⟨_, _, h⟩ := ob h
    obtain ⟨_, _, h⟩ := ob h
    cases h; exact f
theorem xfX9_skew (v1 : Int32) (I : gM) {r : Int32 × gM} (h : fX9_skew v1 I = some r) (q j : Nat) (cq0 : q ≠ 62 ∨ j ≠ 19) (cq1 : q ≠ 74) (cq2 : q ≠ 62 ∨ j ≠ 26) (cq3 : q ≠ 62 ∨ j ≠ 27) (cq4 : q ≠ 75) (cq5 : q ≠ 79) (cq6 : q ≠ 80) (cq7 : q ≠ 77) (cq8 : q ≠ 78) (cq9 : q ≠ 76) (cq10 : q ≠ 82) (cq11 : q ≠ 84) (cq12 : q ≠ 83) : r.2 q j = I q j := by
  unfold fX9_skew at h
  obtain ⟨r1, e1, h⟩ := ob h
  have f := xfX9_hasMean _ _ e1 q j cq0 cq1 cq2 cq3 cq4 cq5 cq6 cq7 cq8 cq9
  rcases oi h with ⟨_, h⟩ | ⟨_, h⟩
  · cases h; exact f
  · obtain ⟨r2, e2, h⟩ := ob h
    have f2 := xfX9_counts _ e2 q j cq0 cq1 cq2 cq3 cq4 cq5 cq6 cq7 cq8 cq9 cq10 cq11 cq12
    obtain ⟨_, _, h⟩ := ob h
    obtain ⟨_, _, h⟩ := ob h
    obtain ⟨_, _, h⟩ := ob h
    obtain ⟨_, _, h⟩ := ob h
    cases h; exact f2.trans f
/-- the tables are as they were behind the count without one -/
theorem n_without70 {I : gM} {v : Int32} {r : Int32 × gM} (h : fX9_without v I = some r) : r.2 70 = I 70 := by
  unfold fX9_without at h
  obtain ⟨r1, _, h⟩ := ob h
  rcases oi h with ⟨_, h⟩ | ⟨_, h⟩
  · cases h; rfl
  · rw [L0, rI_n (by decide) (by decide), obs] at h
    rcases oi h with ⟨_, h⟩ | ⟨_, h⟩
    · cases h; rfl
    · rw [obs, obs, wI_n (by decide) (by decide), obs] at h
      obtain ⟨r6, e6, h⟩ := ob h
      rw [wI_n (by decide) (by decide), obs] at h
      cases h
      funext j
      dsimp only
      rw [gu_in]
      by_cases c : j = 0
      · rw [if_pos c, c]
      · rw [if_neg c, xfX9_rowsNow _ e6 70 j (Or.inl (by decide)) (by decide) (Or.inl (by decide)) (Or.inl (by decide)) (by decide) (by decide) (by decide) (by decide) (by decide) (by decide), gu_in, if_neg c]
theorem both_fault {I : gM} (h : Inv0 I) (v1 : Int32) : ∃ a b, fX8_fault v1 I = some a ∧ fX9_fault v1 a.2 = some b ∧ Inv0 b.2 := by
  obtain ⟨a, e1, _, hMa⟩ := tfX8_fault v1 I h.1
  obtain ⟨b, e2, _, hMb⟩ := tfX9_fault v1 a.2 hMa.re
  have f9 := xfX9_fault _ _ e2
  have hAb : A9 b.2 := (A9.hi hMa h.2.1).same (f9 62 17 (Or.inr (by decide)) (Or.inr (by decide)) (Or.inr (by decide)) (by decide) (by decide) (by decide) (by decide) (by decide) (by decide)) (f9 62 29 (Or.inr (by decide)) (Or.inr (by decide)) (Or.inr (by decide)) (by decide) (by decide) (by decide) (by decide) (by decide) (by decide)) (f9 62 42 (Or.inr (by decide)) (Or.inr (by decide)) (Or.inr (by decide)) (by decide) (by decide) (by decide) (by decide) (by decide) (by decide)) (fun k hk => by
    rcases hk with rfl | rfl | rfl | rfl
    · exact funext fun j => f9 70 j (Or.inl (by decide)) (Or.inl (by decide)) (Or.inl (by decide)) (by decide) (by decide) (by decide) (by decide) (by decide) (by decide)
    · exact funext fun j => f9 72 j (Or.inl (by decide)) (Or.inl (by decide)) (Or.inl (by decide)) (by decide) (by decide) (by decide) (by decide) (by decide) (by decide)
    · exact funext fun j => f9 81 j (Or.inl (by decide)) (Or.inl (by decide)) (Or.inl (by decide)) (by decide) (by decide) (by decide) (by decide) (by decide) (by decide)
    · exact funext fun j => f9 89 j (Or.inl (by decide)) (Or.inl (by decide)) (Or.inl (by decide)) (by decide) (by decide) (by decide) (by decide) (by decide) (by decide))
  have f8 := xfX8_fault _ _ e1
  exact ⟨a, b, e1, e2, h.keep hMa hMb hAb (f8 1 0 (Or.inr (by decide)) (Or.inl (by decide)) (Or.inl (by decide)) (Or.inl (by decide)) (by decide) (by decide) (by decide) (by decide) (Or.inl (by decide)) (by decide)) (fun j => f8 2 j (Or.inl (by decide)) (Or.inl (by decide)) (Or.inl (by decide)) (Or.inl (by decide)) (by decide) (by decide) (by decide) (by decide) (Or.inl (by decide)) (by decide)) (f8 0 14 (Or.inl (by decide)) (Or.inl (by decide)) (Or.inl (by decide)) (Or.inl (by decide)) (by decide) (by decide) (by decide) (by decide) (Or.inl (by decide)) (by decide)) (f9 62 2 (Or.inr (by decide)) (Or.inr (by decide)) (Or.inr (by decide)) (by decide) (by decide) (by decide) (by decide) (by decide) (by decide)) (f9 62 12 (Or.inr (by decide)) (Or.inr (by decide)) (Or.inr (by decide)) (by decide) (by decide) (by decide) (by decide) (by decide) (by decide)) (fun j => f9 63 j (Or.inl (by decide)) (Or.inl (by decide)) (Or.inl (by decide)) (by decide) (by decide) (by decide) (by decide) (by decide) (by decide))⟩
theorem both_rule {I : gM} (h : Inv0 I) (v1 : Int32) : ∃ a b, fX8_rule v1 I = some a ∧ fX9_rule v1 I = some b ∧ Inv0 I := by
  obtain ⟨a, e1, _⟩ := tfX8_rule v1 I h.1
  have hMa := h.1
  obtain ⟨b, e2, _⟩ := tfX9_rule v1 I hMa.re
  exact ⟨a, b, e1, e2, h⟩
theorem both_cell {I : gM} (h : Inv0 I) (v1 : Int32) (v2 : Int32) (v3 : Int32) : ∃ a b, fX8_cell v1 v2 v3 I = some a ∧ fX9_cell v1 v2 v3 I = some b ∧ Inv0 I := by
  obtain ⟨a, e1, _⟩ := tfX8_cell v1 v2 v3 I h.1
  have hMa := h.1
  obtain ⟨b, e2, _⟩ := tfX9_cell v1 v2 v3 I hMa.re
  exact ⟨a, b, e1, e2, h⟩
theorem both_rows {I : gM} (h : Inv0 I) : ∃ a b, fX8_rows I = some a ∧ fX9_rows I = some b ∧ Inv0 b.2 := by
  obtain ⟨a, e1, _⟩ := tfX8_rows  I h.1
  have hMa := h.1
  obtain ⟨b, e2, _, hMb⟩ := tfX9_rows  I hMa.re
  have f9 := xfX9_rows _ e2
  have hAb : A9 b.2 := (A9.hi hMa h.2.1).same (f9 62 17 (Or.inr (by decide)) (by decide) (Or.inr (by decide)) (Or.inr (by decide)) (by decide) (by decide) (by decide) (by decide) (by decide) (by decide)) (f9 62 29 (Or.inr (by decide)) (by decide) (Or.inr (by decide)) (Or.inr (by decide)) (by decide) (by decide) (by decide) (by decide) (by decide) (by decide)) (f9 62 42 (Or.inr (by decide)) (by decide) (Or.inr (by decide)) (Or.inr (by decide)) (by decide) (by decide) (by decide) (by decide) (by decide) (by decide)) (fun k hk => by
    rcases hk with rfl | rfl | rfl | rfl
    · exact funext fun j => f9 70 j (Or.inl (by decide)) (by decide) (Or.inl (by decide)) (Or.inl (by decide)) (by decide) (by decide) (by decide) (by decide) (by decide) (by decide)
    · exact funext fun j => f9 72 j (Or.inl (by decide)) (by decide) (Or.inl (by decide)) (Or.inl (by decide)) (by decide) (by decide) (by decide) (by decide) (by decide) (by decide)
    · exact funext fun j => f9 81 j (Or.inl (by decide)) (by decide) (Or.inl (by decide)) (Or.inl (by decide)) (by decide) (by decide) (by decide) (by decide) (by decide) (by decide)
    · exact funext fun j => f9 89 j (Or.inl (by decide)) (by decide) (Or.inl (by decide)) (Or.inl (by decide)) (by decide) (by decide) (by decide) (by decide) (by decide) (by decide))
  exact ⟨a, b, e1, e2, h.keep hMa hMb hAb rfl (fun _ => rfl) rfl (f9 62 2 (Or.inr (by decide)) (by decide) (Or.inr (by decide)) (Or.inr (by decide)) (by decide) (by decide) (by decide) (by decide) (by decide) (by decide)) (f9 62 12 (Or.inr (by decide)) (by decide) (Or.inr (by decide)) (Or.inr (by decide)) (by decide) (by decide) (by decide) (by decide) (by decide) (by decide)) (fun j => f9 63 j (Or.inl (by decide)) (by decide) (Or.inl (by decide)) (Or.inl (by decide)) (by decide) (by decide) (by decide) (by decide) (by decide) (by decide))⟩
theorem both_row {I : gM} (h : Inv0 I) (v1 : Int32) (v2 : Int32) : ∃ a b, fX8_row v1 v2 I = some a ∧ fX9_row v1 v2 I = some b ∧ Inv0 b.2 := by
  obtain ⟨a, e1, _⟩ := tfX8_row v1 v2 I h.1
  have hMa := h.1
  obtain ⟨b, e2, _, hMb⟩ := tfX9_row v1 v2 I hMa.re
  have f9 := xfX9_row _ _ _ e2
  have hAb : A9 b.2 := (A9.hi hMa h.2.1).same (f9 62 17 (Or.inr (by decide)) (by decide) (Or.inr (by decide)) (Or.inr (by decide)) (by decide) (by decide) (by decide) (by decide) (by decide) (by decide)) (f9 62 29 (Or.inr (by decide)) (by decide) (Or.inr (by decide)) (Or.inr (by decide)) (by decide) (by decide) (by decide) (by decide) (by decide) (by decide)) (f9 62 42 (Or.inr (by decide)) (by decide) (Or.inr (by decide)) (Or.inr (by decide)) (by decide) (by decide) (by decide) (by decide) (by decide) (by decide)) (fun k hk => by
    rcases hk with rfl | rfl | rfl | rfl
    · exact funext fun j => f9 70 j (Or.inl (by decide)) (by decide) (Or.inl (by decide)) (Or.inl (by decide)) (by decide) (by decide) (by decide) (by decide) (by decide) (by decide)
    · exact funext fun j => f9 72 j (Or.inl (by decide)) (by decide) (Or.inl (by decide)) (Or.inl (by decide)) (by decide) (by decide) (by decide) (by decide) (by decide) (by decide)
    · exact funext fun j => f9 81 j (Or.inl (by decide)) (by decide) (Or.inl (by decide)) (Or.inl (by decide)) (by decide) (by decide) (by decide) (by decide) (by decide) (by decide)
    · exact funext fun j => f9 89 j (Or.inl (by decide)) (by decide) (Or.inl (by decide)) (Or.inl (by decide)) (by decide) (by decide) (by decide) (by decide) (by decide) (by decide))
  exact ⟨a, b, e1, e2, h.keep hMa hMb hAb rfl (fun _ => rfl) rfl (f9 62 2 (Or.inr (by decide)) (by decide) (Or.inr (by decide)) (Or.inr (by decide)) (by decide) (by decide) (by decide) (by decide) (by decide) (by decide)) (f9 62 12 (Or.inr (by decide)) (by decide) (Or.inr (by decide)) (Or.inr (by decide)) (by decide) (by decide) (by decide) (by decide) (by decide) (by decide)) (fun j => f9 63 j (Or.inl (by decide)) (by decide) (Or.inl (by decide)) (Or.inl (by decide)) (by decide) (by decide) (by decide) (by decide) (by decide) (by decide))⟩
theorem both_leaps {I : gM} (h : Inv0 I) : ∃ a b, fX8_leaps I = some a ∧ fX9_leaps_ I = some b ∧ Inv0 b.2 := by
  obtain ⟨a, e1, _⟩ := tfX8_leaps  I h.1
  have hMa := h.1
  obtain ⟨b, e2, hMb⟩ := tfX9_leaps_  I hMa.re
  have f9 := xfX9_leaps_ _ e2
  have hAb : A9 b.2 := (A9.hi hMa h.2.1).same (f9 62 17 (Or.inr (by decide)) (by decide) (Or.inr (by decide)) (Or.inr (by decide)) (by decide) (by decide) (by decide) (by decide) (by decide) (by decide)) (f9 62 29 (Or.inr (by decide)) (by decide) (Or.inr (by decide)) (Or.inr (by decide)) (by decide) (by decide) (by decide) (by decide) (by decide) (by decide)) (f9 62 42 (Or.inr (by decide)) (by decide) (Or.inr (by decide)) (Or.inr (by decide)) (by decide) (by decide) (by decide) (by decide) (by decide) (by decide)) (fun k hk => by
    rcases hk with rfl | rfl | rfl | rfl
    · exact funext fun j => f9 70 j (Or.inl (by decide)) (by decide) (Or.inl (by decide)) (Or.inl (by decide)) (by decide) (by decide) (by decide) (by decide) (by decide) (by decide)
    · exact funext fun j => f9 72 j (Or.inl (by decide)) (by decide) (Or.inl (by decide)) (Or.inl (by decide)) (by decide) (by decide) (by decide) (by decide) (by decide) (by decide)
    · exact funext fun j => f9 81 j (Or.inl (by decide)) (by decide) (Or.inl (by decide)) (Or.inl (by decide)) (by decide) (by decide) (by decide) (by decide) (by decide) (by decide)
    · exact funext fun j => f9 89 j (Or.inl (by decide)) (by decide) (Or.inl (by decide)) (Or.inl (by decide)) (by decide) (by decide) (by decide) (by decide) (by decide) (by decide))
  exact ⟨a, b, e1, e2, h.keep hMa hMb hAb rfl (fun _ => rfl) rfl (f9 62 2 (Or.inr (by decide)) (by decide) (Or.inr (by decide)) (Or.inr (by decide)) (by decide) (by decide) (by decide) (by decide) (by decide) (by decide)) (f9 62 12 (Or.inr (by decide)) (by decide) (Or.inr (by decide)) (Or.inr (by decide)) (by decide) (by decide) (by decide) (by decide) (by decide) (by decide)) (fun j => f9 63 j (Or.inl (by decide)) (by decide) (Or.inl (by decide)) (Or.inl (by decide)) (by decide) (by decide) (by decide) (by decide) (by decide) (by decide))⟩
theorem both_beginnings {I : gM} (h : Inv0 I) (v1 : Int32) : ∃ a b, fX8_beginnings v1 I = some a ∧ fX9_beginnings v1 I = some b ∧ Inv0 b.2 := by
  obtain ⟨a, e1, _⟩ := tfX8_beginnings v1 I h.1
  have hMa := h.1
  obtain ⟨b, e2, hMb⟩ := tfX9_beginnings v1 I hMa.re
  have f9 := xfX9_beginnings _ _ e2
  have hAb : A9 b.2 := (A9.hi hMa h.2.1).same (f9 62 17 (Or.inr (by decide)) (by decide) (Or.inr (by decide)) (Or.inr (by decide)) (by decide) (by decide) (by decide) (by decide) (by decide) (by decide)) (f9 62 29 (Or.inr (by decide)) (by decide) (Or.inr (by decide)) (Or.inr (by decide)) (by decide) (by decide) (by decide) (by decide) (by decide) (by decide)) (f9 62 42 (Or.inr (by decide)) (by decide) (Or.inr (by decide)) (Or.inr (by decide)) (by decide) (by decide) (by decide) (by decide) (by decide) (by decide)) (fun k hk => by
    rcases hk with rfl | rfl | rfl | rfl
    · exact funext fun j => f9 70 j (Or.inl (by decide)) (by decide) (Or.inl (by decide)) (Or.inl (by decide)) (by decide) (by decide) (by decide) (by decide) (by decide) (by decide)
    · exact funext fun j => f9 72 j (Or.inl (by decide)) (by decide) (Or.inl (by decide)) (Or.inl (by decide)) (by decide) (by decide) (by decide) (by decide) (by decide) (by decide)
    · exact funext fun j => f9 81 j (Or.inl (by decide)) (by decide) (Or.inl (by decide)) (Or.inl (by decide)) (by decide) (by decide) (by decide) (by decide) (by decide) (by decide)
    · exact funext fun j => f9 89 j (Or.inl (by decide)) (by decide) (Or.inl (by decide)) (Or.inl (by decide)) (by decide) (by decide) (by decide) (by decide) (by decide) (by decide))
  exact ⟨a, b, e1, e2, h.keep hMa hMb hAb rfl (fun _ => rfl) rfl (f9 62 2 (Or.inr (by decide)) (by decide) (Or.inr (by decide)) (Or.inr (by decide)) (by decide) (by decide) (by decide) (by decide) (by decide) (by decide)) (f9 62 12 (Or.inr (by decide)) (by decide) (Or.inr (by decide)) (Or.inr (by decide)) (by decide) (by decide) (by decide) (by decide) (by decide) (by decide)) (fun j => f9 63 j (Or.inl (by decide)) (by decide) (Or.inl (by decide)) (Or.inl (by decide)) (by decide) (by decide) (by decide) (by decide) (by decide) (by decide))⟩
theorem both_best {I : gM} (h : Inv0 I) (v1 : Int32) : ∃ a b, fX8_best v1 I = some a ∧ fX9_best v1 a.2 = some b ∧ Inv0 b.2 := by
  obtain ⟨a, e1, hMa⟩ := tfX8_best v1 I h.1
  obtain ⟨b, e2, hMb⟩ := tfX9_best v1 a.2 hMa.re
  have f9 := xfX9_best _ _ e2
  have hAb : A9 b.2 := (A9.hi hMa h.2.1).same (f9 62 17 (Or.inr (by decide)) (Or.inr (by decide)) (Or.inr (by decide)) (by decide) (Or.inr (by decide)) (Or.inr (by decide)) (by decide) (by decide) (by decide) (by decide) (by decide) (by decide) (Or.inr (by decide))) (f9 62 29 (Or.inr (by decide)) (Or.inr (by decide)) (Or.inr (by decide)) (by decide) (Or.inr (by decide)) (Or.inr (by decide)) (by decide) (by decide) (by decide) (by decide) (by decide) (by decide) (Or.inr (by decide))) (f9 62 42 (Or.inr (by decide)) (Or.inr (by decide)) (Or.inr (by decide)) (by decide) (Or.inr (by decide)) (Or.inr (by decide)) (by decide) (by decide) (by decide) (by decide) (by decide) (by decide) (Or.inr (by decide))) (fun k hk => by
    rcases hk with rfl | rfl | rfl | rfl
    · exact funext fun j => f9 70 j (Or.inl (by decide)) (Or.inl (by decide)) (Or.inl (by decide)) (by decide) (Or.inl (by decide)) (Or.inl (by decide)) (by decide) (by decide) (by decide) (by decide) (by decide) (by decide) (Or.inl (by decide))
    · exact funext fun j => f9 72 j (Or.inl (by decide)) (Or.inl (by decide)) (Or.inl (by decide)) (by decide) (Or.inl (by decide)) (Or.inl (by decide)) (by decide) (by decide) (by decide) (by decide) (by decide) (by decide) (Or.inl (by decide))
    · exact funext fun j => f9 81 j (Or.inl (by decide)) (Or.inl (by decide)) (Or.inl (by decide)) (by decide) (Or.inl (by decide)) (Or.inl (by decide)) (by decide) (by decide) (by decide) (by decide) (by decide) (by decide) (Or.inl (by decide))
    · exact funext fun j => f9 89 j (Or.inl (by decide)) (Or.inl (by decide)) (Or.inl (by decide)) (by decide) (Or.inl (by decide)) (Or.inl (by decide)) (by decide) (by decide) (by decide) (by decide) (by decide) (by decide) (Or.inl (by decide)))
  have f8 := xfX8_best _ _ e1
  exact ⟨a, b, e1, e2, h.keep hMa hMb hAb (f8 1 0 (Or.inl (by decide)) (by decide) (Or.inl (by decide)) (Or.inl (by decide)) (by decide) (by decide) (by decide) (by decide) (by decide) (by decide) (by decide) (by decide) (by decide) (Or.inl (by decide)) (Or.inl (by decide)) (Or.inl (by decide)) (Or.inl (by decide))) (fun j => f8 2 j (Or.inl (by decide)) (by decide) (Or.inl (by decide)) (Or.inl (by decide)) (by decide) (by decide) (by decide) (by decide) (by decide) (by decide) (by decide) (by decide) (by decide) (Or.inl (by decide)) (Or.inl (by decide)) (Or.inl (by decide)) (Or.inl (by decide))) (f8 0 14 (Or.inl (by decide)) (by decide) (Or.inl (by decide)) (Or.inl (by decide)) (by decide) (by decide) (by decide) (by decide) (by decide) (by decide) (by decide) (by decide) (by decide) (Or.inl (by decide)) (Or.inl (by decide)) (Or.inl (by decide)) (Or.inl (by decide))) (f9 62 2 (Or.inr (by decide)) (Or.inr (by decide)) (Or.inr (by decide)) (by decide) (Or.inr (by decide)) (Or.inr (by decide)) (by decide) (by decide) (by decide) (by decide) (by decide) (by decide) (Or.inr (by decide))) (f9 62 12 (Or.inr (by decide)) (Or.inr (by decide)) (Or.inr (by decide)) (by decide) (Or.inr (by decide)) (Or.inr (by decide)) (by decide) (by decide) (by decide) (by decide) (by decide) (by decide) (Or.inr (by decide))) (fun j => f9 63 j (Or.inl (by decide)) (Or.inl (by decide)) (Or.inl (by decide)) (by decide) (Or.inl (by decide)) (Or.inl (by decide)) (by decide) (by decide) (by decide) (by decide) (by decide) (by decide) (Or.inl (by decide)))⟩
theorem both_plain {I : gM} (h : Inv0 I) : ∃ a b, fX8_plain I = some a ∧ fX9_plain I = some b ∧ Inv0 I := by
  obtain ⟨a, e1, _⟩ := tfX8_plain  I h.1
  have hMa := h.1
  obtain ⟨b, e2, _⟩ := tfX9_plain  I hMa.re
  exact ⟨a, b, e1, e2, h⟩
theorem both_given {I : gM} (h : Inv0 I) (v1 : Int32) : ∃ a b, fX8_given v1 I = some a ∧ fX9_given v1 I = some b ∧ Inv0 b.2 := by
  obtain ⟨a, e1, _⟩ := tfX8_given v1 I h.1
  have hMa := h.1
  obtain ⟨b, e2, hMb⟩ := tfX9_given v1 I hMa.re
  have f9 := xfX9_given _ _ e2
  have hAb : A9 b.2 := (A9.hi hMa h.2.1).same (f9 62 17 (Or.inr (by decide)) (by decide) (Or.inr (by decide)) (Or.inr (by decide)) (by decide) (by decide) (by decide) (by decide) (by decide) (by decide)) (f9 62 29 (Or.inr (by decide)) (by decide) (Or.inr (by decide)) (Or.inr (by decide)) (by decide) (by decide) (by decide) (by decide) (by decide) (by decide)) (f9 62 42 (Or.inr (by decide)) (by decide) (Or.inr (by decide)) (Or.inr (by decide)) (by decide) (by decide) (by decide) (by decide) (by decide) (by decide)) (fun k hk => by
    rcases hk with rfl | rfl | rfl | rfl
    · exact funext fun j => f9 70 j (Or.inl (by decide)) (by decide) (Or.inl (by decide)) (Or.inl (by decide)) (by decide) (by decide) (by decide) (by decide) (by decide) (by decide)
    · exact funext fun j => f9 72 j (Or.inl (by decide)) (by decide) (Or.inl (by decide)) (Or.inl (by decide)) (by decide) (by decide) (by decide) (by decide) (by decide) (by decide)
    · exact funext fun j => f9 81 j (Or.inl (by decide)) (by decide) (Or.inl (by decide)) (Or.inl (by decide)) (by decide) (by decide) (by decide) (by decide) (by decide) (by decide)
    · exact funext fun j => f9 89 j (Or.inl (by decide)) (by decide) (Or.inl (by decide)) (Or.inl (by decide)) (by decide) (by decide) (by decide) (by decide) (by decide) (by decide))
  exact ⟨a, b, e1, e2, h.keep hMa hMb hAb rfl (fun _ => rfl) rfl (f9 62 2 (Or.inr (by decide)) (by decide) (Or.inr (by decide)) (Or.inr (by decide)) (by decide) (by decide) (by decide) (by decide) (by decide) (by decide)) (f9 62 12 (Or.inr (by decide)) (by decide) (Or.inr (by decide)) (Or.inr (by decide)) (by decide) (by decide) (by decide) (by decide) (by decide) (by decide)) (fun j => f9 63 j (Or.inl (by decide)) (by decide) (Or.inl (by decide)) (Or.inl (by decide)) (by decide) (by decide) (by decide) (by decide) (by decide) (by decide))⟩
theorem both_without {I : gM} (h : Inv0 I) (v1 : Int32) : ∃ a b, fX8_without v1 I = some a ∧ fX9_without v1 a.2 = some b ∧ Inv0 b.2 := by
  obtain ⟨a, e1, _, hMa⟩ := tfX8_without v1 I h.1
  obtain ⟨b, e2, _, hMb⟩ := tfX9_without v1 a.2 hMa.re
  have f9 := xfX9_without _ _ e2
  have hAb : A9 b.2 := (A9.hi hMa h.2.1).same (f9 62 17 (by decide) (Or.inr (by decide)) (by decide) (Or.inr (by decide)) (Or.inr (by decide)) (by decide) (by decide) (by decide) (by decide) (by decide) (by decide)) (f9 62 29 (by decide) (Or.inr (by decide)) (by decide) (Or.inr (by decide)) (Or.inr (by decide)) (by decide) (by decide) (by decide) (by decide) (by decide) (by decide)) (f9 62 42 (by decide) (Or.inr (by decide)) (by decide) (Or.inr (by decide)) (Or.inr (by decide)) (by decide) (by decide) (by decide) (by decide) (by decide) (by decide)) (fun k hk => by
    rcases hk with rfl | rfl | rfl | rfl
    · exact n_without70 e2
    · exact funext fun j => f9 72 j (by decide) (Or.inl (by decide)) (by decide) (Or.inl (by decide)) (Or.inl (by decide)) (by decide) (by decide) (by decide) (by decide) (by decide) (by decide)
    · exact funext fun j => f9 81 j (by decide) (Or.inl (by decide)) (by decide) (Or.inl (by decide)) (Or.inl (by decide)) (by decide) (by decide) (by decide) (by decide) (by decide) (by decide)
    · exact funext fun j => f9 89 j (by decide) (Or.inl (by decide)) (by decide) (Or.inl (by decide)) (Or.inl (by decide)) (by decide) (by decide) (by decide) (by decide) (by decide) (by decide))
  have f8 := xfX8_without _ _ e1
  exact ⟨a, b, e1, e2, h.keep hMa hMb hAb (f8 1 0 (Or.inl (by decide)) (Or.inl (by decide)) (Or.inl (by decide)) (by decide) (by decide) (by decide) (by decide) (Or.inl (by decide)) (by decide) (Or.inl (by decide)) (Or.inl (by decide)) (by decide) (by decide) (by decide) (by decide) (by decide) (by decide) (by decide) (by decide) (by decide)) (fun j => f8 2 j (Or.inl (by decide)) (Or.inl (by decide)) (Or.inl (by decide)) (by decide) (by decide) (by decide) (by decide) (Or.inl (by decide)) (by decide) (Or.inl (by decide)) (Or.inl (by decide)) (by decide) (by decide) (by decide) (by decide) (by decide) (by decide) (by decide) (by decide) (by decide)) (f8 0 14 (Or.inl (by decide)) (Or.inl (by decide)) (Or.inl (by decide)) (by decide) (by decide) (by decide) (by decide) (Or.inl (by decide)) (by decide) (Or.inl (by decide)) (Or.inl (by decide)) (by decide) (by decide) (by decide) (by decide) (by decide) (by decide) (by decide) (by decide) (by decide)) (f9 62 2 (by decide) (Or.inr (by decide)) (by decide) (Or.inr (by decide)) (Or.inr (by decide)) (by decide) (by decide) (by decide) (by decide) (by decide) (by decide)) (f9 62 12 (by decide) (Or.inr (by decide)) (by decide) (Or.inr (by decide)) (Or.inr (by decide)) (by decide) (by decide) (by decide) (by decide) (by decide) (by decide)) (fun j => f9 63 j (by decide) (Or.inl (by decide)) (by decide) (Or.inl (by decide)) (Or.inl (by decide)) (by decide) (by decide) (by decide) (by decide) (by decide) (by decide))⟩
theorem both_projected {I : gM} (h : Inv0 I) (v1 : Int32) : ∃ a b, fX8_projected v1 I = some a ∧ fX9_projected v1 a.2 = some b ∧ Inv0 b.2 := by
  obtain ⟨a, e1, hMa⟩ := tfX8_projected v1 I h.1
  obtain ⟨b, e2, hMb, hAb⟩ := n_projected hMa.re (A9.hi hMa h.2.1) v1
  have f9 := xfX9_projected _ _ e2
  have f8 := xfX8_projected _ _ e1
  exact ⟨a, b, e1, e2, h.keep hMa hMb hAb (f8 1 0 (Or.inl (by decide)) (by decide) (Or.inl (by decide)) (Or.inl (by decide)) (by decide) (by decide) (by decide) (by decide) (by decide) (by decide) (by decide) (by decide) (by decide)) (fun j => f8 2 j (Or.inl (by decide)) (by decide) (Or.inl (by decide)) (Or.inl (by decide)) (by decide) (by decide) (by decide) (by decide) (by decide) (by decide) (by decide) (by decide) (by decide)) (f8 0 14 (Or.inl (by decide)) (by decide) (Or.inl (by decide)) (Or.inl (by decide)) (by decide) (by decide) (by decide) (by decide) (by decide) (by decide) (by decide) (by decide) (by decide)) (f9 62 2 (Or.inr (by decide)) (by decide) (Or.inr (by decide)) (Or.inr (by decide)) (by decide) (by decide) (by decide) (by decide) (by decide) (by decide) (by decide) (by decide) (by decide) (by decide)) (f9 62 12 (Or.inr (by decide)) (by decide) (Or.inr (by decide)) (Or.inr (by decide)) (by decide) (by decide) (by decide) (by decide) (by decide) (by decide) (by decide) (by decide) (by decide) (by decide)) (fun j => f9 63 j (Or.inl (by decide)) (by decide) (Or.inl (by decide)) (Or.inl (by decide)) (by decide) (by decide) (by decide) (by decide) (by decide) (by decide) (by decide) (by decide) (by decide) (by decide))⟩
theorem both_times {I : gM} (h : Inv0 I) (v1 : Int32) (v2 : Int32) : ∃ a b, fX8_times v1 v2 I = some a ∧ fX9_times v1 v2 a.2 = some b ∧ Inv0 b.2 := by
  obtain ⟨a, e1, hMa⟩ := tfX8_times v1 v2 I h.1
  obtain ⟨b, e2, hMb⟩ := tfX9_times v1 v2 a.2 hMa.re
  have f9 := xfX9_times _ _ _ e2
  have hAb : A9 b.2 := (A9.hi hMa h.2.1).same (f9 62 17 (Or.inr (by decide)) (by decide) (Or.inr (by decide)) (Or.inr (by decide)) (by decide) (by decide) (by decide) (by decide) (by decide) (by decide) (by decide) (by decide) (by decide)) (f9 62 29 (Or.inr (by decide)) (by decide) (Or.inr (by decide)) (Or.inr (by decide)) (by decide) (by decide) (by decide) (by decide) (by decide) (by decide) (by decide) (by decide) (by decide)) (f9 62 42 (Or.inr (by decide)) (by decide) (Or.inr (by decide)) (Or.inr (by decide)) (by decide) (by decide) (by decide) (by decide) (by decide) (by decide) (by decide) (by decide) (by decide)) (fun k hk => by
    rcases hk with rfl | rfl | rfl | rfl
    · exact funext fun j => f9 70 j (Or.inl (by decide)) (by decide) (Or.inl (by decide)) (Or.inl (by decide)) (by decide) (by decide) (by decide) (by decide) (by decide) (by decide) (by decide) (by decide) (by decide)
    · exact funext fun j => f9 72 j (Or.inl (by decide)) (by decide) (Or.inl (by decide)) (Or.inl (by decide)) (by decide) (by decide) (by decide) (by decide) (by decide) (by decide) (by decide) (by decide) (by decide)
    · exact funext fun j => f9 81 j (Or.inl (by decide)) (by decide) (Or.inl (by decide)) (Or.inl (by decide)) (by decide) (by decide) (by decide) (by decide) (by decide) (by decide) (by decide) (by decide) (by decide)
    · exact funext fun j => f9 89 j (Or.inl (by decide)) (by decide) (Or.inl (by decide)) (Or.inl (by decide)) (by decide) (by decide) (by decide) (by decide) (by decide) (by decide) (by decide) (by decide) (by decide))
  have f8 := xfX8_times _ _ _ e1
  exact ⟨a, b, e1, e2, h.keep hMa hMb hAb (f8 1 0 (by decide)) (fun j => f8 2 j (by decide)) (f8 0 14 (by decide)) (f9 62 2 (Or.inr (by decide)) (by decide) (Or.inr (by decide)) (Or.inr (by decide)) (by decide) (by decide) (by decide) (by decide) (by decide) (by decide) (by decide) (by decide) (by decide)) (f9 62 12 (Or.inr (by decide)) (by decide) (Or.inr (by decide)) (Or.inr (by decide)) (by decide) (by decide) (by decide) (by decide) (by decide) (by decide) (by decide) (by decide) (by decide)) (fun j => f9 63 j (Or.inl (by decide)) (by decide) (Or.inl (by decide)) (Or.inl (by decide)) (by decide) (by decide) (by decide) (by decide) (by decide) (by decide) (by decide) (by decide) (by decide))⟩
theorem both_distinct {I : gM} (h : Inv0 I) (v1 : Int32) (v2 : Int32) : ∃ a b, fX8_distinct v1 v2 I = some a ∧ fX9_distinct v1 v2 a.2 = some b ∧ Inv0 b.2 := by
  obtain ⟨a, e1, hMa⟩ := tfX8_distinct v1 v2 I h.1
  obtain ⟨b, e2, _, hMb⟩ := tfX9_distinct v1 v2 a.2 hMa.re
  have f9 := xfX9_distinct _ _ _ e2
  have hAb : A9 b.2 := (A9.hi hMa h.2.1).same (f9 62 17 (Or.inr (by decide)) (by decide) (Or.inr (by decide)) (Or.inr (by decide)) (by decide) (by decide) (by decide) (by decide) (by decide) (by decide) (by decide) (by decide) (by decide)) (f9 62 29 (Or.inr (by decide)) (by decide) (Or.inr (by decide)) (Or.inr (by decide)) (by decide) (by decide) (by decide) (by decide) (by decide) (by decide) (by decide) (by decide) (by decide)) (f9 62 42 (Or.inr (by decide)) (by decide) (Or.inr (by decide)) (Or.inr (by decide)) (by decide) (by decide) (by decide) (by decide) (by decide) (by decide) (by decide) (by decide) (by decide)) (fun k hk => by
    rcases hk with rfl | rfl | rfl | rfl
    · exact funext fun j => f9 70 j (Or.inl (by decide)) (by decide) (Or.inl (by decide)) (Or.inl (by decide)) (by decide) (by decide) (by decide) (by decide) (by decide) (by decide) (by decide) (by decide) (by decide)
    · exact funext fun j => f9 72 j (Or.inl (by decide)) (by decide) (Or.inl (by decide)) (Or.inl (by decide)) (by decide) (by decide) (by decide) (by decide) (by decide) (by decide) (by decide) (by decide) (by decide)
    · exact funext fun j => f9 81 j (Or.inl (by decide)) (by decide) (Or.inl (by decide)) (Or.inl (by decide)) (by decide) (by decide) (by decide) (by decide) (by decide) (by decide) (by decide) (by decide) (by decide)
    · exact funext fun j => f9 89 j (Or.inl (by decide)) (by decide) (Or.inl (by decide)) (Or.inl (by decide)) (by decide) (by decide) (by decide) (by decide) (by decide) (by decide) (by decide) (by decide) (by decide))
  have f8 := xfX8_distinct _ _ _ e1
  exact ⟨a, b, e1, e2, h.keep hMa hMb hAb (f8 1 0 (by decide)) (fun j => f8 2 j (by decide)) (f8 0 14 (by decide)) (f9 62 2 (Or.inr (by decide)) (by decide) (Or.inr (by decide)) (Or.inr (by decide)) (by decide) (by decide) (by decide) (by decide) (by decide) (by decide) (by decide) (by decide) (by decide)) (f9 62 12 (Or.inr (by decide)) (by decide) (Or.inr (by decide)) (Or.inr (by decide)) (by decide) (by decide) (by decide) (by decide) (by decide) (by decide) (by decide) (by decide) (by decide)) (fun j => f9 63 j (Or.inl (by decide)) (by decide) (Or.inl (by decide)) (Or.inl (by decide)) (by decide) (by decide) (by decide) (by decide) (by decide) (by decide) (by decide) (by decide) (by decide))⟩
theorem both_tells {I : gM} (h : Inv0 I) (v1 : Int32) (v2 : Int32) : ∃ a b, fX8_tells v1 v2 I = some a ∧ fX9_tells v1 v2 a.2 = some b ∧ Inv0 b.2 := by
  obtain ⟨a, e1, _, hMa⟩ := tfX8_tells v1 v2 I h.1
  obtain ⟨b, e2, hMb, hAb⟩ := n_tells hMa.re (A9.hi hMa h.2.1) v1 v2
  have f9 := xfX9_tells _ _ _ e2
  have f8 := xfX8_tells _ _ _ e1
  exact ⟨a, b, e1, e2, h.keep hMa hMb hAb (f8 1 0 (by decide)) (fun j => f8 2 j (by decide)) (f8 0 14 (by decide)) (f9 62 2 (Or.inr (by decide)) (by decide) (Or.inr (by decide)) (Or.inr (by decide)) (by decide) (by decide) (by decide) (by decide) (by decide) (by decide) (by decide)) (f9 62 12 (Or.inr (by decide)) (by decide) (Or.inr (by decide)) (Or.inr (by decide)) (by decide) (by decide) (by decide) (by decide) (by decide) (by decide) (by decide)) (fun j => f9 63 j (Or.inl (by decide)) (by decide) (Or.inl (by decide)) (Or.inl (by decide)) (by decide) (by decide) (by decide) (by decide) (by decide) (by decide) (by decide))⟩
theorem both_behind {I : gM} (h : Inv0 I) (v1 : Int32) (v2 : Int32) (v3 : Int32) (v4 : Int32) : ∃ a b, fX8_behind v1 v2 v3 v4 I = some a ∧ fX9_behind v1 v2 v3 v4 I = some b ∧ Inv0 b.2 := by
  obtain ⟨a, e1, _⟩ := tfX8_behind v1 v2 v3 v4 I h.1
  have hMa := h.1
  obtain ⟨b, e2, hMb⟩ := tfX9_behind v1 v2 v3 v4 I hMa.re
  have f9 := xfX9_behind _ _ _ _ _ e2
  have hAb : A9 b.2 := (A9.hi hMa h.2.1).same (f9 62 17 (by decide) (Or.inr (by decide)) (by decide) (Or.inr (by decide)) (Or.inr (by decide)) (by decide) (by decide) (by decide) (by decide) (by decide) (by decide)) (f9 62 29 (by decide) (Or.inr (by decide)) (by decide) (Or.inr (by decide)) (Or.inr (by decide)) (by decide) (by decide) (by decide) (by decide) (by decide) (by decide)) (f9 62 42 (by decide) (Or.inr (by decide)) (by decide) (Or.inr (by decide)) (Or.inr (by decide)) (by decide) (by decide) (by decide) (by decide) (by decide) (by decide)) (fun k hk => by
    rcases hk with rfl | rfl | rfl | rfl
    · exact funext fun j => f9 70 j (by decide) (Or.inl (by decide)) (by decide) (Or.inl (by decide)) (Or.inl (by decide)) (by decide) (by decide) (by decide) (by decide) (by decide) (by decide)
    · exact funext fun j => f9 72 j (by decide) (Or.inl (by decide)) (by decide) (Or.inl (by decide)) (Or.inl (by decide)) (by decide) (by decide) (by decide) (by decide) (by decide) (by decide)
    · exact funext fun j => f9 81 j (by decide) (Or.inl (by decide)) (by decide) (Or.inl (by decide)) (Or.inl (by decide)) (by decide) (by decide) (by decide) (by decide) (by decide) (by decide)
    · exact funext fun j => f9 89 j (by decide) (Or.inl (by decide)) (by decide) (Or.inl (by decide)) (Or.inl (by decide)) (by decide) (by decide) (by decide) (by decide) (by decide) (by decide))
  exact ⟨a, b, e1, e2, h.keep hMa hMb hAb rfl (fun _ => rfl) rfl (f9 62 2 (by decide) (Or.inr (by decide)) (by decide) (Or.inr (by decide)) (Or.inr (by decide)) (by decide) (by decide) (by decide) (by decide) (by decide) (by decide)) (f9 62 12 (by decide) (Or.inr (by decide)) (by decide) (Or.inr (by decide)) (Or.inr (by decide)) (by decide) (by decide) (by decide) (by decide) (by decide) (by decide)) (fun j => f9 63 j (by decide) (Or.inl (by decide)) (by decide) (Or.inl (by decide)) (Or.inl (by decide)) (by decide) (by decide) (by decide) (by decide) (by decide) (by decide))⟩
theorem both_has {I : gM} (h : Inv0 I) (v1 : Int32) (v2 : Int32) (v3 : Int32) (v4 : Int32) : ∃ a b, fX8_has v1 v2 v3 v4 I = some a ∧ fX9_has_ v1 v2 v3 v4 I = some b ∧ Inv0 b.2 := by
  obtain ⟨a, e1, _⟩ := tfX8_has v1 v2 v3 v4 I h.1
  have hMa := h.1
  obtain ⟨b, e2, _, hMb⟩ := tfX9_has_ v1 v2 v3 v4 I hMa.re
  have f9 := xfX9_has_ _ _ _ _ _ e2
  have hAb : A9 b.2 := (A9.hi hMa h.2.1).same (f9 62 17 (by decide) (Or.inr (by decide)) (by decide) (Or.inr (by decide)) (Or.inr (by decide)) (by decide) (by decide) (by decide) (by decide) (by decide) (by decide)) (f9 62 29 (by decide) (Or.inr (by decide)) (by decide) (Or.inr (by decide)) (Or.inr (by decide)) (by decide) (by decide) (by decide) (by decide) (by decide) (by decide)) (f9 62 42 (by decide) (Or.inr (by decide)) (by decide) (Or.inr (by decide)) (Or.inr (by decide)) (by decide) (by decide) (by decide) (by decide) (by decide) (by decide)) (fun k hk => by
    rcases hk with rfl | rfl | rfl | rfl
    · exact funext fun j => f9 70 j (by decide) (Or.inl (by decide)) (by decide) (Or.inl (by decide)) (Or.inl (by decide)) (by decide) (by decide) (by decide) (by decide) (by decide) (by decide)
    · exact funext fun j => f9 72 j (by decide) (Or.inl (by decide)) (by decide) (Or.inl (by decide)) (Or.inl (by decide)) (by decide) (by decide) (by decide) (by decide) (by decide) (by decide)
    · exact funext fun j => f9 81 j (by decide) (Or.inl (by decide)) (by decide) (Or.inl (by decide)) (Or.inl (by decide)) (by decide) (by decide) (by decide) (by decide) (by decide) (by decide)
    · exact funext fun j => f9 89 j (by decide) (Or.inl (by decide)) (by decide) (Or.inl (by decide)) (Or.inl (by decide)) (by decide) (by decide) (by decide) (by decide) (by decide) (by decide))
  exact ⟨a, b, e1, e2, h.keep hMa hMb hAb rfl (fun _ => rfl) rfl (f9 62 2 (by decide) (Or.inr (by decide)) (by decide) (Or.inr (by decide)) (Or.inr (by decide)) (by decide) (by decide) (by decide) (by decide) (by decide) (by decide)) (f9 62 12 (by decide) (Or.inr (by decide)) (by decide) (Or.inr (by decide)) (Or.inr (by decide)) (by decide) (by decide) (by decide) (by decide) (by decide) (by decide)) (fun j => f9 63 j (by decide) (Or.inl (by decide)) (by decide) (Or.inl (by decide)) (Or.inl (by decide)) (by decide) (by decide) (by decide) (by decide) (by decide) (by decide))⟩
theorem both_mean {I : gM} (h : Inv0 I) (v1 : Int32) : ∃ a b, fX8_mean v1 I = some a ∧ fX9_mean v1 I = some b ∧ Inv0 b.2 := by
  obtain ⟨a, e1, _⟩ := t_mean8 v1 I h.1
  have hMa := h.1
  obtain ⟨b, e2, hMb, hAb⟩ := t_mean9 hMa.re (A9.hi hMa h.2.1) v1
  have f9 := xfX9_mean _ _ e2
  exact ⟨a, b, e1, e2, h.keep hMa hMb hAb rfl (fun _ => rfl) rfl (f9 62 2 (Or.inr (by decide)) (by decide) (Or.inr (by decide)) (Or.inr (by decide)) (by decide) (by decide) (by decide) (by decide) (by decide) (by decide)) (f9 62 12 (Or.inr (by decide)) (by decide) (Or.inr (by decide)) (Or.inr (by decide)) (by decide) (by decide) (by decide) (by decide) (by decide) (by decide)) (fun j => f9 63 j (Or.inl (by decide)) (by decide) (Or.inl (by decide)) (Or.inl (by decide)) (by decide) (by decide) (by decide) (by decide) (by decide) (by decide))⟩
theorem both_meanAs {I : gM} (h : Inv0 I) (v1 : Int32) (v2 : Int32) : ∃ a b, fX8_meanAs v1 v2 I = some a ∧ fX9_meanAs v1 v2 I = some b ∧ Inv0 b.2 := by
  obtain ⟨a, e1, _⟩ := t_meanAs8 v1 v2 I h.1
  have hMa := h.1
  obtain ⟨b, e2, hMb, hAb⟩ := t_meanAs9 hMa.re (A9.hi hMa h.2.1) v1 v2
  have f9 := xfX9_meanAs _ _ _ e2
  exact ⟨a, b, e1, e2, h.keep hMa hMb hAb rfl (fun _ => rfl) rfl (f9 62 2 (Or.inr (by decide)) (by decide) (Or.inr (by decide)) (Or.inr (by decide)) (by decide) (by decide) (by decide) (by decide) (by decide) (by decide)) (f9 62 12 (Or.inr (by decide)) (by decide) (Or.inr (by decide)) (Or.inr (by decide)) (by decide) (by decide) (by decide) (by decide) (by decide) (by decide)) (fun j => f9 63 j (Or.inl (by decide)) (by decide) (Or.inl (by decide)) (Or.inl (by decide)) (by decide) (by decide) (by decide) (by decide) (by decide) (by decide))⟩
theorem both_spread {I : gM} (h : Inv0 I) (v1 : Int32) : ∃ a b, fX8_spread v1 I = some a ∧ fX9_spread v1 I = some b ∧ Inv0 b.2 := by
  obtain ⟨a, e1, _⟩ := t_spread8 v1 I h.1
  have hMa := h.1
  obtain ⟨b, e2, hMb, hAb⟩ := t_spread9 hMa.re (A9.hi hMa h.2.1) v1
  have f9 := xfX9_spread _ _ e2
  exact ⟨a, b, e1, e2, h.keep hMa hMb hAb rfl (fun _ => rfl) rfl (f9 62 2 (Or.inr (by decide)) (by decide) (Or.inr (by decide)) (Or.inr (by decide)) (by decide) (by decide) (by decide) (by decide) (by decide) (by decide)) (f9 62 12 (Or.inr (by decide)) (by decide) (Or.inr (by decide)) (Or.inr (by decide)) (by decide) (by decide) (by decide) (by decide) (by decide) (by decide)) (fun j => f9 63 j (Or.inl (by decide)) (by decide) (Or.inl (by decide)) (Or.inl (by decide)) (by decide) (by decide) (by decide) (by decide) (by decide) (by decide))⟩
theorem both_skew {I : gM} (h : Inv0 I) (v1 : Int32) : ∃ a b, fX8_skew v1 I = some a ∧ fX9_skew v1 a.2 = some b ∧ Inv0 b.2 := by
  obtain ⟨a, e1, hMa, ha41⟩ := t_skew8 v1 I h.1
  obtain ⟨b, e2, hMb, hAb⟩ := t_skew9 hMa.re (A9.hi hMa h.2.1) v1
  have f9 := xfX9_skew _ _ e2
  exact ⟨a, b, e1, e2, h.keep hMa hMb hAb (by rw [ha41 1 (by decide)]) (fun j => by rw [ha41 2 (by decide)]) (by rw [ha41 0 (by decide)]) (f9 62 2 (Or.inr (by decide)) (by decide) (Or.inr (by decide)) (Or.inr (by decide)) (by decide) (by decide) (by decide) (by decide) (by decide) (by decide) (by decide) (by decide) (by decide)) (f9 62 12 (Or.inr (by decide)) (by decide) (Or.inr (by decide)) (Or.inr (by decide)) (by decide) (by decide) (by decide) (by decide) (by decide) (by decide) (by decide) (by decide) (by decide)) (fun j => f9 63 j (Or.inl (by decide)) (by decide) (Or.inl (by decide)) (Or.inl (by decide)) (by decide) (by decide) (by decide) (by decide) (by decide) (by decide) (by decide) (by decide) (by decide))⟩
theorem both_put {I : gM} (h : Inv0 I) (v1 : Int32) (v2 : Int32) (v3 : Int32) (v4 : Int32) : ∃ a b, fX8_put v1 v2 v3 v4 I = some a ∧ fX9_put v1 v2 v3 v4 a.2 = some b ∧ Inv0 b.2 := by
  obtain ⟨a, e1, _, hMa⟩ := tfX8_put v1 v2 v3 v4 I h.1
  obtain ⟨b, e2, hMb, hAb⟩ := n_put hMa.re (A9.hi hMa h.2.1) v1 v2 v3 v4
  have f9 := xfX9_put _ _ _ _ _ e2
  have f8 := xfX8_put _ _ _ _ _ e1
  exact ⟨a, b, e1, e2, h.keep hMa hMb hAb (f8 1 0 (by decide) (Or.inl (by decide)) (Or.inl (by decide)) (by decide) (by decide) (Or.inl (by decide)) (Or.inl (by decide)) (Or.inl (by decide)) (by decide) (Or.inl (by decide)) (Or.inl (by decide)) (by decide) (by decide) (by decide) (by decide) (by decide) (by decide) (by decide) (by decide) (by decide) (Or.inl (by decide)) (by decide) (Or.inl (by decide)) (Or.inl (by decide)) (by decide)) (fun j => f8 2 j (by decide) (Or.inl (by decide)) (Or.inl (by decide)) (by decide) (by decide) (Or.inl (by decide)) (Or.inl (by decide)) (Or.inl (by decide)) (by decide) (Or.inl (by decide)) (Or.inl (by decide)) (by decide) (by decide) (by decide) (by decide) (by decide) (by decide) (by decide) (by decide) (by decide) (Or.inl (by decide)) (by decide) (Or.inl (by decide)) (Or.inl (by decide)) (by decide)) (f8 0 14 (by decide) (Or.inl (by decide)) (Or.inl (by decide)) (by decide) (by decide) (Or.inl (by decide)) (Or.inl (by decide)) (Or.inl (by decide)) (by decide) (Or.inl (by decide)) (Or.inl (by decide)) (by decide) (by decide) (by decide) (by decide) (by decide) (by decide) (by decide) (by decide) (by decide) (Or.inl (by decide)) (by decide) (Or.inl (by decide)) (Or.inl (by decide)) (by decide)) (f9 62 2 (by decide) (Or.inr (by decide)) (by decide) (Or.inr (by decide)) (by decide) (Or.inr (by decide)) (Or.inr (by decide)) (by decide) (by decide) (by decide) (by decide) (by decide) (by decide) (by decide)) (f9 62 12 (by decide) (Or.inr (by decide)) (by decide) (Or.inr (by decide)) (by decide) (Or.inr (by decide)) (Or.inr (by decide)) (by decide) (by decide) (by decide) (by decide) (by decide) (by decide) (by decide)) (fun j => f9 63 j (by decide) (Or.inl (by decide)) (by decide) (Or.inl (by decide)) (by decide) (Or.inl (by decide)) (Or.inl (by decide)) (by decide) (by decide) (by decide) (by decide) (by decide) (by decide) (by decide))⟩
theorem both_take {I : gM} (h : Inv0 I) (v1 : Int32) (v2 : Int32) (v3 : Int32) (v4 : Int32) : ∃ a b, fX8_take v1 v2 v3 v4 I = some a ∧ fX9_take v1 v2 v3 v4 a.2 = some b ∧ Inv0 b.2 := by
  obtain ⟨a, e1, _, hMa⟩ := tfX8_take v1 v2 v3 v4 I h.1
  obtain ⟨b, e2, hMb, hAb⟩ := n_take hMa.re (A9.hi hMa h.2.1) v1 v2 v3 v4
  have f9 := xfX9_take _ _ _ _ _ e2
  have f8 := xfX8_take _ _ _ _ _ e1
  exact ⟨a, b, e1, e2, h.keep hMa hMb hAb (f8 1 0 (by decide) (Or.inl (by decide)) (Or.inl (by decide)) (by decide) (by decide) (Or.inl (by decide)) (Or.inl (by decide)) (Or.inl (by decide)) (by decide) (Or.inl (by decide)) (Or.inl (by decide)) (by decide) (by decide) (by decide) (by decide) (by decide) (by decide) (by decide) (by decide) (by decide) (Or.inl (by decide)) (by decide) (Or.inl (by decide)) (Or.inl (by decide)) (by decide)) (fun j => f8 2 j (by decide) (Or.inl (by decide)) (Or.inl (by decide)) (by decide) (by decide) (Or.inl (by decide)) (Or.inl (by decide)) (Or.inl (by decide)) (by decide) (Or.inl (by decide)) (Or.inl (by decide)) (by decide) (by decide) (by decide) (by decide) (by decide) (by decide) (by decide) (by decide) (by decide) (Or.inl (by decide)) (by decide) (Or.inl (by decide)) (Or.inl (by decide)) (by decide)) (f8 0 14 (by decide) (Or.inl (by decide)) (Or.inl (by decide)) (by decide) (by decide) (Or.inl (by decide)) (Or.inl (by decide)) (Or.inl (by decide)) (by decide) (Or.inl (by decide)) (Or.inl (by decide)) (by decide) (by decide) (by decide) (by decide) (by decide) (by decide) (by decide) (by decide) (by decide) (Or.inl (by decide)) (by decide) (Or.inl (by decide)) (Or.inl (by decide)) (by decide)) (f9 62 2 (by decide) (Or.inr (by decide)) (by decide) (Or.inr (by decide)) (by decide) (Or.inr (by decide)) (Or.inr (by decide)) (by decide) (by decide) (by decide) (by decide) (by decide) (by decide) (by decide)) (f9 62 12 (by decide) (Or.inr (by decide)) (by decide) (Or.inr (by decide)) (by decide) (Or.inr (by decide)) (Or.inr (by decide)) (by decide) (by decide) (by decide) (by decide) (by decide) (by decide) (by decide)) (fun j => f9 63 j (by decide) (Or.inl (by decide)) (by decide) (Or.inl (by decide)) (by decide) (Or.inl (by decide)) (Or.inl (by decide)) (by decide) (by decide) (by decide) (by decide) (by decide) (by decide) (by decide))⟩
theorem both_use {I : gM} (h : Inv0 I) (v1 : Int32) : ∃ a b, fX8_use v1 I = some a ∧ fX9_use v1 a.2 = some b ∧ Inv0 b.2 := by
  obtain ⟨a, e1, _, hMa⟩ := tfX8_use v1 I h.1
  obtain ⟨b, e2, hMb, hAb⟩ := n_use hMa.re (A9.hi hMa h.2.1) v1
  have f9 := xfX9_use _ _ e2
  have f8 := xfX8_use _ _ e1
  exact ⟨a, b, e1, e2, h.keep hMa hMb hAb (f8 1 0 (by decide) (Or.inl (by decide)) (Or.inl (by decide)) (by decide) (by decide) (Or.inl (by decide)) (Or.inl (by decide)) (Or.inl (by decide)) (by decide) (Or.inl (by decide)) (Or.inl (by decide)) (by decide) (by decide) (by decide) (by decide) (by decide) (by decide) (by decide) (by decide) (by decide) (Or.inl (by decide)) (by decide) (Or.inl (by decide)) (Or.inl (by decide)) (by decide)) (fun j => f8 2 j (by decide) (Or.inl (by decide)) (Or.inl (by decide)) (by decide) (by decide) (Or.inl (by decide)) (Or.inl (by decide)) (Or.inl (by decide)) (by decide) (Or.inl (by decide)) (Or.inl (by decide)) (by decide) (by decide) (by decide) (by decide) (by decide) (by decide) (by decide) (by decide) (by decide) (Or.inl (by decide)) (by decide) (Or.inl (by decide)) (Or.inl (by decide)) (by decide)) (f8 0 14 (by decide) (Or.inl (by decide)) (Or.inl (by decide)) (by decide) (by decide) (Or.inl (by decide)) (Or.inl (by decide)) (Or.inl (by decide)) (by decide) (Or.inl (by decide)) (Or.inl (by decide)) (by decide) (by decide) (by decide) (by decide) (by decide) (by decide) (by decide) (by decide) (by decide) (Or.inl (by decide)) (by decide) (Or.inl (by decide)) (Or.inl (by decide)) (by decide)) (f9 62 2 (by decide) (Or.inr (by decide)) (by decide) (Or.inr (by decide)) (by decide) (Or.inr (by decide)) (Or.inr (by decide)) (by decide) (by decide) (by decide) (by decide) (by decide) (by decide) (by decide)) (f9 62 12 (by decide) (Or.inr (by decide)) (by decide) (Or.inr (by decide)) (by decide) (Or.inr (by decide)) (Or.inr (by decide)) (by decide) (by decide) (by decide) (by decide) (by decide) (by decide) (by decide)) (fun j => f9 63 j (by decide) (Or.inl (by decide)) (by decide) (Or.inl (by decide)) (by decide) (Or.inl (by decide)) (Or.inl (by decide)) (by decide) (by decide) (by decide) (by decide) (by decide) (by decide) (by decide))⟩
theorem both_order {I : gM} (h : Inv0 I) (v1 : Int32) : ∃ a b, fX8_order v1 I = some a ∧ fX9_order v1 a.2 = some b ∧ Inv0 b.2 := by
  obtain ⟨a, e1, hMa⟩ := tfX8_order v1 I h.1
  obtain ⟨b, e2, hMb, hAb⟩ := n_order hMa.re (A9.hi hMa h.2.1) v1
  have f9 := xfX9_order _ _ e2
  have f8 := xfX8_order _ _ e1
  exact ⟨a, b, e1, e2, h.keep hMa hMb hAb (f8 1 0 (by decide) (Or.inl (by decide)) (Or.inl (by decide)) (by decide) (by decide) (Or.inl (by decide)) (Or.inl (by decide)) (Or.inl (by decide)) (by decide) (Or.inl (by decide)) (Or.inl (by decide)) (by decide) (by decide) (by decide) (by decide) (by decide) (by decide) (by decide) (by decide) (by decide) (Or.inl (by decide)) (by decide) (Or.inl (by decide)) (Or.inl (by decide)) (by decide)) (fun j => f8 2 j (by decide) (Or.inl (by decide)) (Or.inl (by decide)) (by decide) (by decide) (Or.inl (by decide)) (Or.inl (by decide)) (Or.inl (by decide)) (by decide) (Or.inl (by decide)) (Or.inl (by decide)) (by decide) (by decide) (by decide) (by decide) (by decide) (by decide) (by decide) (by decide) (by decide) (Or.inl (by decide)) (by decide) (Or.inl (by decide)) (Or.inl (by decide)) (by decide)) (f8 0 14 (by decide) (Or.inl (by decide)) (Or.inl (by decide)) (by decide) (by decide) (Or.inl (by decide)) (Or.inl (by decide)) (Or.inl (by decide)) (by decide) (Or.inl (by decide)) (Or.inl (by decide)) (by decide) (by decide) (by decide) (by decide) (by decide) (by decide) (by decide) (by decide) (by decide) (Or.inl (by decide)) (by decide) (Or.inl (by decide)) (Or.inl (by decide)) (by decide)) (f9 62 2 (by decide) (Or.inr (by decide)) (by decide) (Or.inr (by decide)) (by decide) (Or.inr (by decide)) (Or.inr (by decide)) (by decide) (by decide) (by decide) (by decide) (by decide) (by decide) (by decide)) (f9 62 12 (by decide) (Or.inr (by decide)) (by decide) (Or.inr (by decide)) (by decide) (Or.inr (by decide)) (Or.inr (by decide)) (by decide) (by decide) (by decide) (by decide) (by decide) (by decide) (by decide)) (fun j => f9 63 j (by decide) (Or.inl (by decide)) (by decide) (Or.inl (by decide)) (by decide) (Or.inl (by decide)) (Or.inl (by decide)) (by decide) (by decide) (by decide) (by decide) (by decide) (by decide) (by decide))⟩
theorem both_ways {I : gM} (h : Inv0 I) (v1 : Int32) (v2 : Int64) (J : gN) : ∃ a b, fX8_ways v1 v2 I J = some a ∧ fX9_ways v1 v2 a.2.1 a.2.2 = some b ∧ Inv0 b.2.1 := by
  obtain ⟨a, e1, _, hMa⟩ := tfX8_ways v1 v2 I J h.1
  obtain ⟨b, e2, hMb, hAb⟩ := n_ways hMa.re (A9.hi hMa h.2.1) v1 v2 a.2.2
  have f8 := xfX8_ways _ _ _ _ e1
  have f9 := xfX9_ways _ _ _ _ e2
  exact ⟨a, b, e1, e2, h.keep hMa hMb hAb (f8 1 0 (by decide) (Or.inl (by decide)) (Or.inl (by decide)) (by decide) (by decide) (Or.inl (by decide)) (Or.inl (by decide)) (Or.inl (by decide)) (by decide) (Or.inl (by decide)) (Or.inl (by decide)) (by decide) (by decide) (by decide) (by decide) (by decide) (by decide) (by decide) (by decide) (by decide) (Or.inl (by decide)) (by decide) (Or.inl (by decide)) (Or.inl (by decide))) (fun j => f8 2 j (by decide) (Or.inl (by decide)) (Or.inl (by decide)) (by decide) (by decide) (Or.inl (by decide)) (Or.inl (by decide)) (Or.inl (by decide)) (by decide) (Or.inl (by decide)) (Or.inl (by decide)) (by decide) (by decide) (by decide) (by decide) (by decide) (by decide) (by decide) (by decide) (by decide) (Or.inl (by decide)) (by decide) (Or.inl (by decide)) (Or.inl (by decide))) (f8 0 14 (by decide) (Or.inl (by decide)) (Or.inl (by decide)) (by decide) (by decide) (Or.inl (by decide)) (Or.inl (by decide)) (Or.inl (by decide)) (by decide) (Or.inl (by decide)) (Or.inl (by decide)) (by decide) (by decide) (by decide) (by decide) (by decide) (by decide) (by decide) (by decide) (by decide) (Or.inl (by decide)) (by decide) (Or.inl (by decide)) (Or.inl (by decide))) (f9 62 2 (by decide) (Or.inr (by decide)) (by decide) (Or.inr (by decide)) (by decide) (Or.inr (by decide)) (Or.inr (by decide)) (by decide) (by decide) (by decide) (by decide) (by decide) (by decide)) (f9 62 12 (by decide) (Or.inr (by decide)) (by decide) (Or.inr (by decide)) (by decide) (Or.inr (by decide)) (Or.inr (by decide)) (by decide) (by decide) (by decide) (by decide) (by decide) (by decide)) (fun j => f9 63 j (by decide) (Or.inl (by decide)) (by decide) (Or.inl (by decide)) (by decide) (Or.inl (by decide)) (Or.inl (by decide)) (by decide) (by decide) (by decide) (by decide) (by decide) (by decide))⟩
theorem both_status {I : gM} (h : Inv0 I) (v1 : Int32) : ∃ a b, fX8_status v1 I = some a ∧ fX9_status v1 I = some b ∧ Inv0 I := by
  obtain ⟨a, e1, _⟩ := tfX8_status v1 I h.1
  have hMa := h.1
  obtain ⟨b, e2, _⟩ := tfX9_status v1 I hMa.re
  exact ⟨a, b, e1, e2, h⟩
theorem both_undo {I : gM} (h : Inv0 I) : ∃ a b, fX8_undo I = some a ∧ fX9_undo a.2 = some b ∧ Inv0 b.2 := by
  obtain ⟨a, e1, _, hMa⟩ := tfX8_undo  I h.1
  obtain ⟨b, e2, hMb, hAb⟩ := n_undoA hMa.re (A9.hi hMa h.2.1) 
  have f9 := xfX9_undo _ e2
  have f8 := xfX8_undo _ e1
  exact ⟨a, b, e1, e2, h.keep hMa hMb hAb (f8 1 0 (Or.inl (by decide)) (Or.inl (by decide)) (by decide) (by decide) (Or.inl (by decide)) (Or.inl (by decide)) (Or.inl (by decide)) (Or.inl (by decide)) (Or.inl (by decide)) (by decide) (Or.inl (by decide)) (Or.inl (by decide)) (by decide) (by decide) (by decide) (by decide) (by decide) (by decide) (by decide) (by decide) (by decide) (Or.inl (by decide))) (fun j => f8 2 j (Or.inl (by decide)) (Or.inl (by decide)) (by decide) (by decide) (Or.inl (by decide)) (Or.inl (by decide)) (Or.inl (by decide)) (Or.inl (by decide)) (Or.inl (by decide)) (by decide) (Or.inl (by decide)) (Or.inl (by decide)) (by decide) (by decide) (by decide) (by decide) (by decide) (by decide) (by decide) (by decide) (by decide) (Or.inl (by decide))) (f8 0 14 (Or.inl (by decide)) (Or.inl (by decide)) (by decide) (by decide) (Or.inl (by decide)) (Or.inl (by decide)) (Or.inl (by decide)) (Or.inl (by decide)) (Or.inl (by decide)) (by decide) (Or.inl (by decide)) (Or.inl (by decide)) (by decide) (by decide) (by decide) (by decide) (by decide) (by decide) (by decide) (by decide) (by decide) (Or.inl (by decide))) (f9 62 2 (Or.inr (by decide)) (by decide)) (f9 62 12 (Or.inr (by decide)) (by decide)) (fun j => f9 63 j (Or.inl (by decide)) (by decide))⟩
theorem both_log {I : gM} (h : Inv0 I) (v1 : Int32) (v2 : Int32) : ∃ a b, fX8_log v1 v2 I = some a ∧ fX9_log v1 v2 I = some b ∧ Inv0 I := by
  obtain ⟨a, e1, _⟩ := tfX8_log v1 v2 I h.1
  have hMa := h.1
  obtain ⟨b, e2, _⟩ := t_log9 hMa.re v1 v2
  exact ⟨a, b, e1, e2, h⟩
theorem both_would {I : gM} (h : Inv0 I) (v1 : Int32) (v2 : Int32) (v3 : Int32) (v4 : Int32) (v5 : Int32) : ∃ a b, fX8_would v1 v2 v3 v4 v5 I = some a ∧ fX9_would v1 v2 v3 v4 v5 a.2 = some b ∧ Inv0 b.2 := by
  obtain ⟨a, e1, hMa⟩ := tfX8_would v1 v2 v3 v4 v5 I h.1
  obtain ⟨b, e2, hMb, hAb⟩ := n_would hMa.re (A9.hi hMa h.2.1) v1 v2 v3 v4 v5
  have f9 := xfX9_would _ _ _ _ _ _ e2
  have f8 := xfX8_would _ _ _ _ _ _ e1
  exact ⟨a, b, e1, e2, h.keep hMa hMb hAb (f8 1 0 (Or.inl (by decide)) (Or.inl (by decide)) (Or.inl (by decide)) (by decide) (by decide) (by decide) (by decide) (Or.inl (by decide)) (by decide) (Or.inl (by decide)) (Or.inl (by decide)) (by decide) (by decide) (by decide) (by decide) (by decide) (by decide) (by decide) (by decide) (by decide)) (fun j => f8 2 j (Or.inl (by decide)) (Or.inl (by decide)) (Or.inl (by decide)) (by decide) (by decide) (by decide) (by decide) (Or.inl (by decide)) (by decide) (Or.inl (by decide)) (Or.inl (by decide)) (by decide) (by decide) (by decide) (by decide) (by decide) (by decide) (by decide) (by decide) (by decide)) (f8 0 14 (Or.inl (by decide)) (Or.inl (by decide)) (Or.inl (by decide)) (by decide) (by decide) (by decide) (by decide) (Or.inl (by decide)) (by decide) (Or.inl (by decide)) (Or.inl (by decide)) (by decide) (by decide) (by decide) (by decide) (by decide) (by decide) (by decide) (by decide) (by decide)) (f9 62 2 (by decide) (by decide) (Or.inr (by decide)) (by decide) (Or.inr (by decide)) (Or.inr (by decide)) (by decide) (by decide) (by decide) (by decide) (by decide) (by decide)) (f9 62 12 (by decide) (by decide) (Or.inr (by decide)) (by decide) (Or.inr (by decide)) (Or.inr (by decide)) (by decide) (by decide) (by decide) (by decide) (by decide) (by decide)) (fun j => f9 63 j (by decide) (by decide) (Or.inl (by decide)) (by decide) (Or.inl (by decide)) (Or.inl (by decide)) (by decide) (by decide) (by decide) (by decide) (by decide) (by decide))⟩
theorem both_step {I : gM} (h : Inv0 I) (v1 : Int32) (v2 : Int32) (v3 : Int32) : ∃ a b, fX8_step v1 v2 v3 I = some a ∧ fX9_step v1 v2 v3 I = some b ∧ Inv0 I := by
  obtain ⟨a, e1, _⟩ := tfX8_step v1 v2 v3 I h.1
  have hMa := h.1
  obtain ⟨b, e2, _⟩ := tfX9_step v1 v2 v3 I hMa.re
  exact ⟨a, b, e1, e2, h⟩
theorem both_run {I : gM} (h : Inv0 I) (v1 : Int32) (v2 : Int32) : ∃ a b, fX8_run v1 v2 I = some a ∧ fX9_run v1 v2 a.2 = some b ∧ Inv0 b.2 := by
  obtain ⟨a, e1, hMa⟩ := tfX8_run v1 v2 I h.1
  obtain ⟨b, e2, hMb, hAb⟩ := n_run hMa.re (A9.hi hMa h.2.1) v1 v2
  have f9 := xfX9_run _ _ _ e2
  have f8 := xfX8_run _ _ _ e1
  exact ⟨a, b, e1, e2, h.keep hMa hMb hAb (f8 1 0 (Or.inl (by decide)) (Or.inl (by decide)) (Or.inl (by decide)) (by decide) (by decide) (by decide) (by decide) (Or.inl (by decide)) (by decide) (Or.inl (by decide)) (Or.inl (by decide)) (by decide) (by decide) (by decide) (by decide) (by decide) (by decide) (by decide) (by decide) (by decide)) (fun j => f8 2 j (Or.inl (by decide)) (Or.inl (by decide)) (Or.inl (by decide)) (by decide) (by decide) (by decide) (by decide) (Or.inl (by decide)) (by decide) (Or.inl (by decide)) (Or.inl (by decide)) (by decide) (by decide) (by decide) (by decide) (by decide) (by decide) (by decide) (by decide) (by decide)) (f8 0 14 (Or.inl (by decide)) (Or.inl (by decide)) (Or.inl (by decide)) (by decide) (by decide) (by decide) (by decide) (Or.inl (by decide)) (by decide) (Or.inl (by decide)) (Or.inl (by decide)) (by decide) (by decide) (by decide) (by decide) (by decide) (by decide) (by decide) (by decide) (by decide)) (f9 62 2 (by decide) (by decide) (by decide) (Or.inr (by decide)) (Or.inr (by decide)) (by decide) (Or.inr (by decide)) (Or.inr (by decide)) (by decide) (by decide) (by decide) (by decide) (by decide) (by decide)) (f9 62 12 (by decide) (by decide) (by decide) (Or.inr (by decide)) (Or.inr (by decide)) (by decide) (Or.inr (by decide)) (Or.inr (by decide)) (by decide) (by decide) (by decide) (by decide) (by decide) (by decide)) (fun j => f9 63 j (by decide) (by decide) (by decide) (Or.inl (by decide)) (Or.inl (by decide)) (by decide) (Or.inl (by decide)) (Or.inl (by decide)) (by decide) (by decide) (by decide) (by decide) (by decide) (by decide))⟩
theorem both_perform {I : gM} (h : Inv0 I) (v1 : Int32) : ∃ a b, fX8_perform v1 I = some a ∧ fX9_perform v1 a.2 = some b ∧ Inv0 b.2 := by
  obtain ⟨a, e1, hMa⟩ := tfX8_perform v1 I h.1
  obtain ⟨b, e2, hMb, hAb⟩ := n_perform hMa.re (A9.hi hMa h.2.1) v1
  have f9 := xfX9_perform _ _ e2
  have f8 := xfX8_perform _ _ e1
  exact ⟨a, b, e1, e2, h.keep hMa hMb hAb (f8 1 0 (by decide) (Or.inl (by decide)) (Or.inl (by decide)) (by decide) (by decide) (Or.inl (by decide)) (Or.inl (by decide)) (Or.inl (by decide)) (by decide) (Or.inl (by decide)) (Or.inl (by decide)) (by decide) (by decide) (by decide) (by decide) (by decide) (by decide) (by decide) (by decide) (by decide) (Or.inl (by decide)) (by decide) (Or.inl (by decide)) (Or.inl (by decide))) (fun j => f8 2 j (by decide) (Or.inl (by decide)) (Or.inl (by decide)) (by decide) (by decide) (Or.inl (by decide)) (Or.inl (by decide)) (Or.inl (by decide)) (by decide) (Or.inl (by decide)) (Or.inl (by decide)) (by decide) (by decide) (by decide) (by decide) (by decide) (by decide) (by decide) (by decide) (by decide) (Or.inl (by decide)) (by decide) (Or.inl (by decide)) (Or.inl (by decide))) (f8 0 14 (by decide) (Or.inl (by decide)) (Or.inl (by decide)) (by decide) (by decide) (Or.inl (by decide)) (Or.inl (by decide)) (Or.inl (by decide)) (by decide) (Or.inl (by decide)) (Or.inl (by decide)) (by decide) (by decide) (by decide) (by decide) (by decide) (by decide) (by decide) (by decide) (by decide) (Or.inl (by decide)) (by decide) (Or.inl (by decide)) (Or.inl (by decide))) (f9 62 2 (by decide) (by decide) (Or.inr (by decide)) (Or.inr (by decide)) (by decide) (Or.inr (by decide)) (Or.inr (by decide)) (by decide) (by decide) (by decide) (by decide) (by decide) (by decide)) (f9 62 12 (by decide) (by decide) (Or.inr (by decide)) (Or.inr (by decide)) (by decide) (Or.inr (by decide)) (Or.inr (by decide)) (by decide) (by decide) (by decide) (by decide) (by decide) (by decide)) (fun j => f9 63 j (by decide) (by decide) (Or.inl (by decide)) (Or.inl (by decide)) (by decide) (Or.inl (by decide)) (Or.inl (by decide)) (by decide) (by decide) (by decide) (by decide) (by decide) (by decide))⟩
theorem both_most {I : gM} (h : Inv0 I) (v1 : Int32) : ∃ a b, fX8_most v1 I = some a ∧ fX9_most v1 a.2 = some b ∧ Inv0 b.2 := by
  obtain ⟨a, e1, hMa⟩ := tfX8_most v1 I h.1
  obtain ⟨b, e2, hMb, hAb⟩ := n_most hMa.re (A9.hi hMa h.2.1) v1
  have f9 := xfX9_most _ _ e2
  have f8 := xfX8_most _ _ e1
  exact ⟨a, b, e1, e2, h.keep hMa hMb hAb (f8 1 0 (by decide) (Or.inl (by decide)) (by decide) (Or.inl (by decide)) (Or.inl (by decide)) (by decide) (by decide) (by decide) (by decide) (by decide) (by decide) (by decide) (by decide) (by decide) (Or.inl (by decide)) (Or.inl (by decide)) (Or.inl (by decide)) (Or.inl (by decide))) (fun j => f8 2 j (by decide) (Or.inl (by decide)) (by decide) (Or.inl (by decide)) (Or.inl (by decide)) (by decide) (by decide) (by decide) (by decide) (by decide) (by decide) (by decide) (by decide) (by decide) (Or.inl (by decide)) (Or.inl (by decide)) (Or.inl (by decide)) (Or.inl (by decide))) (f8 0 14 (by decide) (Or.inl (by decide)) (by decide) (Or.inl (by decide)) (Or.inl (by decide)) (by decide) (by decide) (by decide) (by decide) (by decide) (by decide) (by decide) (by decide) (by decide) (Or.inl (by decide)) (Or.inl (by decide)) (Or.inl (by decide)) (Or.inl (by decide))) (f9 62 2 (Or.inr (by decide)) (by decide) (Or.inr (by decide)) (Or.inr (by decide)) (by decide) (by decide) (by decide) (by decide) (by decide) (by decide) (by decide) (Or.inr (by decide)) (Or.inr (by decide)) (Or.inr (by decide))) (f9 62 12 (Or.inr (by decide)) (by decide) (Or.inr (by decide)) (Or.inr (by decide)) (by decide) (by decide) (by decide) (by decide) (by decide) (by decide) (by decide) (Or.inr (by decide)) (Or.inr (by decide)) (Or.inr (by decide))) (fun j => f9 63 j (Or.inl (by decide)) (by decide) (Or.inl (by decide)) (Or.inl (by decide)) (by decide) (by decide) (by decide) (by decide) (by decide) (by decide) (by decide) (Or.inl (by decide)) (Or.inl (by decide)) (Or.inl (by decide)))⟩
theorem both_image {I : gM} (h : Inv0 I) : ∃ a b, fX8_image I = some a ∧ fX9_image a.2 = some b ∧ Inv0 b.2 := by
  obtain ⟨a, e1, _, hMa⟩ := tfX8_image  I h.1
  obtain ⟨b, e2, hMb, hAb⟩ := n_image hMa.re (A9.hi hMa h.2.1) 
  have f9 := xfX9_image _ e2
  have f8 := xfX8_image _ e1
  exact ⟨a, b, e1, e2, h.keep hMa hMb hAb (f8 1 0 (Or.inl (by decide)) (Or.inl (by decide)) (Or.inl (by decide)) (by decide) (by decide) (by decide) (by decide) (by decide) (Or.inl (by decide)) (Or.inl (by decide)) (Or.inl (by decide))) (fun j => f8 2 j (Or.inl (by decide)) (Or.inl (by decide)) (Or.inl (by decide)) (by decide) (by decide) (by decide) (by decide) (by decide) (Or.inl (by decide)) (Or.inl (by decide)) (Or.inl (by decide))) (f8 0 14 (Or.inl (by decide)) (Or.inl (by decide)) (Or.inl (by decide)) (by decide) (by decide) (by decide) (by decide) (by decide) (Or.inl (by decide)) (Or.inl (by decide)) (Or.inr (by decide))) (f9 62 2 (by decide) (Or.inr (by decide)) (Or.inr (by decide)) (by decide) (Or.inr (by decide)) (Or.inr (by decide)) (by decide) (by decide) (by decide) (by decide) (by decide) (by decide)) (f9 62 12 (by decide) (Or.inr (by decide)) (Or.inr (by decide)) (by decide) (Or.inr (by decide)) (Or.inr (by decide)) (by decide) (by decide) (by decide) (by decide) (by decide) (by decide)) (fun j => f9 63 j (by decide) (Or.inl (by decide)) (Or.inl (by decide)) (by decide) (Or.inl (by decide)) (Or.inl (by decide)) (by decide) (by decide) (by decide) (by decide) (by decide) (by decide))⟩
theorem both_back {I : gM} (h : Inv0 I) : ∃ a b, fX8_back I = some a ∧ fX9_back a.2 = some b ∧ Inv0 b.2 := by
  obtain ⟨a, e1, _, hMa⟩ := tfX8_back  I h.1
  obtain ⟨b, e2, hMb, hAb⟩ := n_back hMa.re (A9.hi hMa h.2.1) 
  have f9 := xfX9_back _ e2
  have f8 := xfX8_back _ e1
  exact ⟨a, b, e1, e2, h.keep hMa hMb hAb (f8 1 0 (Or.inl (by decide)) (Or.inl (by decide)) (Or.inl (by decide)) (by decide) (by decide) (by decide) (by decide) (by decide) (Or.inl (by decide)) (Or.inl (by decide)) (Or.inl (by decide)) (Or.inl (by decide)) (Or.inl (by decide)) (by decide) (Or.inl (by decide)) (Or.inl (by decide)) (by decide) (by decide) (by decide) (by decide) (by decide) (by decide) (by decide) (by decide) (by decide) (Or.inl (by decide))) (fun j => f8 2 j (Or.inl (by decide)) (Or.inl (by decide)) (Or.inl (by decide)) (by decide) (by decide) (by decide) (by decide) (by decide) (Or.inl (by decide)) (Or.inl (by decide)) (Or.inl (by decide)) (Or.inl (by decide)) (Or.inl (by decide)) (by decide) (Or.inl (by decide)) (Or.inl (by decide)) (by decide) (by decide) (by decide) (by decide) (by decide) (by decide) (by decide) (by decide) (by decide) (Or.inl (by decide))) (f8 0 14 (Or.inl (by decide)) (Or.inl (by decide)) (Or.inl (by decide)) (by decide) (by decide) (by decide) (by decide) (by decide) (Or.inl (by decide)) (Or.inl (by decide)) (Or.inl (by decide)) (Or.inl (by decide)) (Or.inl (by decide)) (by decide) (Or.inl (by decide)) (Or.inl (by decide)) (by decide) (by decide) (by decide) (by decide) (by decide) (by decide) (by decide) (by decide) (by decide) (Or.inl (by decide))) (f9 62 2 (by decide) (Or.inr (by decide)) (Or.inr (by decide)) (by decide) (Or.inr (by decide)) (Or.inr (by decide)) (by decide) (by decide) (by decide) (by decide) (by decide) (by decide)) (f9 62 12 (by decide) (Or.inr (by decide)) (Or.inr (by decide)) (by decide) (Or.inr (by decide)) (Or.inr (by decide)) (by decide) (by decide) (by decide) (by decide) (by decide) (by decide)) (fun j => f9 63 j (by decide) (Or.inl (by decide)) (Or.inl (by decide)) (by decide) (Or.inl (by decide)) (Or.inl (by decide)) (by decide) (by decide) (by decide) (by decide) (by decide) (by decide))⟩
theorem both_count {I : gM} (h : Inv0 I) (v1 : Int32) : ∃ a b, fX8_count v1 I = some a ∧ fX9_count v1 I = some b ∧ Inv0 I := by
  obtain ⟨a, e1, _⟩ := tfX8_count v1 I h.1
  have hMa := h.1
  obtain ⟨b, e2, _⟩ := tfX9_count v1 I hMa.re
  exact ⟨a, b, e1, e2, h⟩
end P_34_both
section P_35a_exc
abbrev jxC : String := "java/util/NoSuchElementException"
abbrev jxR : String := "java/lang/RuntimeException"
abbrev jxE : String := "java/lang/Exception"
abbrev jxT : String := "no such table or no such what"
/-- what a throw wants of the heap, and the words that no method's own list bears -/
def jx_X (A : Nat → Prop) (sa : Nat) (H : Heap) (U : State) : Prop := vx_Zq Bundle.tN "UNASSIGNED_STACK" Bundle.steD A U H ∧ vx_Zq Bundle.tN "SUPPRESSED_SENTINEL" Bundle.listD A U H ∧ vk_R RX8 165 jxT sa U ∧ va_Nw (.castable jxC jxC) U ∧ va_Nw (.declares (Bundle.initS jxR)) U ∧ va_Nw (.declares (Bundle.initS jxE)) U ∧ va_Nw (.declares (Bundle.initS Bundle.tN)) U
theorem jx_X.same {A : Nat → Prop} {sa : Nat} {H : Heap} {u U : State} (hv : u.vm = U.vm) (h : jx_X A sa H u) : jx_X A sa H U := by
  obtain ⟨h1, h2, h3, h4, h5, h6, h7⟩ := h
  have ha : u.vm.Alike U.vm := by rw [hv]; exact Vm.Alike.refl _
  exact ⟨vx_Zq.moved ha h1, vx_Zq.moved ha h2, vk_R.same hv.symm h3, va_Nw.same rfl hv h4, va_Nw.same rfl hv h5, va_Nw.same rfl hv h6, va_Nw.same rfl hv h7⟩
theorem jx_X.warm {A : Nat → Prop} {sa : Nat} {H : Heap} {s U : State} (hW : s.WarmedH U.vm) (h : jx_X A sa H s) : jx_X A sa H U := by
  obtain ⟨h1, h2, h3, h4, h5, h6, h7⟩ := h
  exact ⟨vx_Zq.moved hW.alike h1, vx_Zq.moved hW.alike h2, vk_R.warm hW h3, va_Nw.warmC hW h4, va_Nw.warmD hW h5, va_Nw.warmD hW h6, va_Nw.warmD hW h7⟩
theorem jx_X.kept {A : Nat → Prop} {sa : Nat} {H H1 : Heap} {U : State} (h : jx_X A sa H U) (hq : ∀ a : Nat, a < H.size → ¬ A a → H1[a]? = H[a]?) : jx_X A sa H1 U := ⟨h.1.kept hq, h.2.1.kept hq, h.2.2⟩
theorem jx_X.narrow {A B : Nat → Prop} {sa : Nat} {H : Heap} {U : State} (h : jx_X A sa H U) (hAB : ∀ q, B q → A q) : jx_X B sa H U := ⟨h.1.narrow hAB, h.2.1.narrow hAB, h.2.2⟩
theorem jx_cF : prog_23_method_18_code = LibCode.Throwable.Fill.code := by decide +kernel
theorem jx_c0 : prog_23_method_1_code = LibCode.Throwable.Init0.code := by decide +kernel
theorem jx_cS : prog_23_method_2_code = LibCode.Throwable.InitS.code := by decide +kernel
theorem jx_cR : prog_20_method_2_code = Bundle.six := by decide +kernel
theorem jx_cE : prog_15_method_2_code = Bundle.six := by decide +kernel
theorem jx_thr {args : Array Value} {s : State} (hw : ∀ w ∈ gw, w.before args s = true) (lU : (Cond.laysStatic Bundle.tN "UNASSIGNED_STACK" Bundle.steD).before args s = true) (lN : (Cond.laysStatic Bundle.tN "SUPPRESSED_SENTINEL" Bundle.listD).before args s = true) : ∀ w ∈ Bundle.throwableAtoms, w.before args s = true := by
  unfold Bundle.throwableAtoms
  exact List.forall_mem_cons.mpr ⟨hw _ (gw_t1 14 rfl rfl), List.forall_mem_cons.mpr ⟨hw _ (gw_t4 182 rfl rfl), List.forall_mem_cons.mpr ⟨hw _ (gw_t4 191 rfl rfl), List.forall_mem_cons.mpr ⟨hw _ (jx_cF ▸ (gw_t4 193 rfl rfl)), List.forall_mem_cons.mpr ⟨hw _ (gw_t4 196 rfl rfl), List.forall_mem_cons.mpr ⟨hw _ (gw_t4 198 rfl rfl), List.forall_mem_cons.mpr ⟨hw _ (gw_t4 183 rfl rfl), List.forall_mem_cons.mpr ⟨hw _ (jx_c0 ▸ (gw_t4 184 rfl rfl)), List.forall_mem_cons.mpr ⟨hw _ (gw_t1 28 rfl rfl), List.forall_mem_cons.mpr ⟨hw _ (gw_t1 29 rfl rfl), List.forall_mem_cons.mpr ⟨hw _ (gw_t4 185 rfl rfl), List.forall_mem_cons.mpr ⟨hw _ (gw_t4 190 rfl rfl), List.forall_mem_cons.mpr ⟨hw _ (gw_t4 194 rfl rfl), List.forall_mem_cons.mpr ⟨hw _ (gw_t4 214 rfl rfl), List.forall_mem_cons.mpr ⟨hw _ (gw_t4 172 rfl rfl), List.forall_mem_cons.mpr ⟨hw _ (gw_t4 215 rfl rfl), List.forall_mem_cons.mpr ⟨hw _ (gw_t4 174 rfl rfl), List.forall_mem_cons.mpr ⟨hw _ (gw_t4 216 rfl rfl), List.forall_mem_cons.mpr ⟨hw _ (gw_t4 176 rfl rfl), List.forall_mem_cons.mpr ⟨hw _ (gw_t4 186 rfl rfl), List.forall_mem_cons.mpr ⟨lU, List.forall_mem_cons.mpr ⟨hw _ (gw_t4 188 rfl rfl), List.forall_mem_cons.mpr ⟨lN, List.forall_mem_cons.mpr ⟨hw _ (gw_t4 178 rfl rfl), fun _ h => absurd h List.not_mem_nil⟩⟩⟩⟩⟩⟩⟩⟩⟩⟩⟩⟩⟩⟩⟩⟩⟩⟩⟩⟩⟩⟩⟩⟩
theorem jx_thrS {args : Array Value} {s : State} (hw : ∀ w ∈ gw, w.before args s = true) : ∀ w ∈ Bundle.throwableSAtoms, w.before args s = true := by
  unfold Bundle.throwableSAtoms
  exact List.forall_mem_cons.mpr ⟨hw _ (gw_t4 210 rfl rfl), List.forall_mem_cons.mpr ⟨hw _ (jx_cS ▸ (gw_t4 211 rfl rfl)), List.forall_mem_cons.mpr ⟨hw _ (gw_t4 213 rfl rfl), List.forall_mem_cons.mpr ⟨hw _ (gw_t4 178 rfl rfl), fun _ h => absurd h List.not_mem_nil⟩⟩⟩⟩
theorem jx_pass {args : Array Value} {s : State} (hw : ∀ w ∈ gw, w.before args s = true) (nR : va_Nw (.declares (Bundle.initS jxR)) s) : ∀ w ∈ Bundle.passSAtoms jxC jxR 13 prog_27_method_4_code, w.before args s = true := by
  unfold Bundle.passSAtoms
  exact List.forall_mem_cons.mpr ⟨hw _ (gw_t4 201 rfl rfl), List.forall_mem_cons.mpr ⟨hw _ (gw_t4 202 rfl rfl), List.forall_mem_cons.mpr ⟨hw _ (gw_t4 203 rfl rfl), List.forall_mem_cons.mpr ⟨hw _ (gw_t4 204 rfl rfl), List.forall_mem_cons.mpr ⟨va_Nw.use rfl nR, fun _ h => absurd h List.not_mem_nil⟩⟩⟩⟩⟩
theorem jx_chain {args : Array Value} {s : State} (hw : ∀ w ∈ gw, w.before args s = true) (nE : va_Nw (.declares (Bundle.initS jxE)) s) (nT : va_Nw (.declares (Bundle.initS Bundle.tN)) s) : ∀ w ∈ Bundle.chainSAtoms jxR [jxE], w.before args s = true := by
  show ∀ w ∈ Bundle.passSAtoms jxR jxE 7 Bundle.six ++ Bundle.passSAtoms jxE Bundle.tN 7 Bundle.six, w.before args s = true
  unfold Bundle.passSAtoms
  exact List.forall_mem_append.mpr ⟨List.forall_mem_cons.mpr ⟨hw _ (gw_t4 204 rfl rfl), List.forall_mem_cons.mpr ⟨hw _ (jx_cR ▸ (gw_t4 205 rfl rfl)), List.forall_mem_cons.mpr ⟨hw _ (gw_t4 206 rfl rfl), List.forall_mem_cons.mpr ⟨hw _ (gw_t4 207 rfl rfl), List.forall_mem_cons.mpr ⟨va_Nw.use rfl nE, fun _ h => absurd h List.not_mem_nil⟩⟩⟩⟩⟩, List.forall_mem_cons.mpr ⟨hw _ (gw_t4 207 rfl rfl), List.forall_mem_cons.mpr ⟨hw _ (jx_cE ▸ (gw_t4 208 rfl rfl)), List.forall_mem_cons.mpr ⟨hw _ (gw_t4 209 rfl rfl), List.forall_mem_cons.mpr ⟨hw _ (gw_t4 210 rfl rfl), List.forall_mem_cons.mpr ⟨va_Nw.use rfl nT, fun _ h => absurd h List.not_mem_nil⟩⟩⟩⟩⟩⟩
theorem jx_d0 : decode prog_27_method_4_code 0 = .ok (.aload_n 0, 1) := by decide +kernel
theorem jx_d1 : decode prog_27_method_4_code 1 = .ok (.aload_n 1, 1) := by decide +kernel
theorem jx_d2 : decode prog_27_method_4_code 2 = .ok (.invokespecial 13, 3) := by decide +kernel
theorem jx_d5 : decode prog_27_method_4_code 5 = .ok (.return_, 1) := by decide +kernel
section JXA
variable {p : Program} {l : Launch} {e : Env} {R : Room} {s : State} {m₀ m : MethodId} {args : Array Value} {below : List Frame} {meth : Method} {c : Code} {W : State} {locs : List Loc} {cells slots : Nat} {H : Heap} {Q : State → Prop}
set_option maxHeartbeats 1000000 in
theorem jx_ctorMade (X : Stand p l e R s m₀ args below meth c W locs cells slots) (hexec : p.tables.exec = Jvm.exec) (htr : e.platform.stackTraces = false)
    (hown : s.vm.findClass RX8 = some m₀.cls)
    (hw : ∀ w ∈ gw, w.before args s = true) (lU : (Cond.laysStatic Bundle.tN "UNASSIGNED_STACK" Bundle.steD).before args s = true) (lN : (Cond.laysStatic Bundle.tN "SUPPRESSED_SENTINEL" Bundle.listD).before args s = true) (iU : (Cond.isRef (.static Bundle.tN "UNASSIGNED_STACK" Bundle.steD)).before args s = true) (iN : (Cond.isRef (.static Bundle.tN "SUPPRESSED_SENTINEL" Bundle.listD)).before args s = true) (nC : va_Nw (.castable jxC jxC) s) (nR : va_Nw (.declares (Bundle.initS jxR)) s) (nE : va_Nw (.declares (Bundle.initS jxE)) s) (nT : va_Nw (.declares (Bundle.initS Bundle.tN)) s)
    (hlocs : ∀ x ∈ locs, ∀ cell, s.heap[x.base]? = some cell → cell.vm.isStatics = false)
    {a : Addr} {cX : ClassId} {kX : Class} (hfoundX : s.vm.findClass jxC = some cX) (hkX : s.vm.classes[cX]? = some kX) (hcell : W.heap[a]? = some (freshCell cX kX)) (hnew : s.heap.size ≤ a)
    {msg : Value} (hmsg : msg.isRef = true)
    {g : JFrame} (hg : g.method = m₀) (hsize : g.locals.size = c.maxLocals) {rest : List Value} (hstack : g.stack = msg :: .ref a :: .ref a :: rest)
    (hd6 : decode c.code g.pc = .ok (.invokespecial 167, 3))
    (hRframes : 5 < R.frames) (hRlocals : 2 * g.monitorRoom + ((Value.ref a :: rest).map fun v => v.category).sum + (13 * 3 + 42) ≤ R.locals) :
    ∃ (V : State) (ce : Cell) (L : List Loc), Stand p l e R s m₀ args below meth c (V.setCell a ce) (locs ++ L) cells slots ∧ (∀ y ∈ L, y.base = a) ∧ a < V.heap.size ∧ ce.cls = cX ∧ ce.vm = .none ∧
      ∀ target, Steps p.tables e below ((V.setCell a ce).setTop { g with stack := .ref a :: rest, pc := g.pc + 3 }) target → Steps p.tables e below (W.setTop g) target := by
  have howns : e.platform.frameOwnsMonitors = true := by rw [X.admits.platform]
  have hfin : e.platform.finalization = false := by rw [X.admits.platform]
  have hpl : e.platform.magicAccessors = ({} : Platform).magicAccessors := by rw [X.admits.platform]
  have a' : ∀ x : Cond, x.before args s = true → x.holds args s none s [] = true := fun x hx => hx
  obtain ⟨T, Z0, L, -, Y⟩ := ThrowableC.of_atoms (args := args) howns hfin hpl (jx_thr hw lU lN)
  obtain ⟨Z, M, LZ, LM, hnZ⟩ := Init0T.ofS_atoms (args := args) hpl L Y (jx_thrS hw)
  obtain ⟨P1, L1, hP1m, hPsup⟩ := PassC.ofS_atoms (args := args) (s := s) hpl (X := jxC) (Y := jxR) (by decide) (by decide) jx_d0 jx_d1 jx_d2 jx_d5 (jx_pass hw nR)
  obtain ⟨Q1, Qs, hlen, LQ1, hLQ, hQ1m, hlinkQ1, hlinkQ⟩ := Bundle.chainS (args := args) hpl hnZ [jxE] jxR (by decide) (by decide) (jx_chain hw nE nT)
  have hlen1 : Qs.length = 1 := hlen
  have hfound : s.vm.findClass jxC = some P1.m.cls := findClass_of_methodNamed hP1m
  cases Option.some.inj (hfoundX.symm.trans hfound)
  obtain ⟨c1, kX', hc1, hk, hord, -, -, hn6⟩ := Cond.instantiable_spec (a' (.instantiable jxC 6) (hw _ (gw_t4 161 rfl rfl)))
  cases Option.some.inj (hc1.symm.trans hfound)
  cases Option.some.inj (hkX.symm.trans hk)
  have hsel0 : selectMethod e.platform s.vm P1.m.cls T.fill0 = .method T.fill0 := by
    obtain ⟨c2, r2, m2, q1, q2, q3, q4, -⟩ := Cond.selects_spec (a' (.selects jxC Bundle.tFill0 Bundle.tFill0) (hw _ (gw_t4 169 rfl rfl)))
    cases Option.some.inj (q1.symm.trans hfound)
    cases Option.some.inj (q2.symm.trans (State.methodFound?_of_named Y.fill0 (by decide)))
    cases Option.some.inj (q3.symm.trans Y.fill0)
    rw [Launch.admits_selectMethod X.admits]; exact q4
  have hselF : selectMethod e.platform s.vm P1.m.cls T.fill = .method T.fill := by
    obtain ⟨c2, r2, m2, q1, q2, q3, q4, -⟩ := Cond.selects_spec (a' (.selects jxC Bundle.tFill Bundle.tFill) (hw _ (gw_t4 170 rfl rfl)))
    cases Option.some.inj (q1.symm.trans hfound)
    cases Option.some.inj (q2.symm.trans (State.methodFound?_of_named Y.fill (by decide)))
    cases Option.some.inj (q3.symm.trans Y.fill)
    rw [Launch.admits_selectMethod X.admits]; exact q4
  obtain ⟨cellS0, hcS0, hiss⟩ := Y.statics
  obtain ⟨u0, hu0⟩ := Cond.staticRefV Y.unassigned L.unassignedStatic L.statics hcS0 hiss (a' _ iU)
  obtain ⟨sen, hsen⟩ := Cond.staticRefV Y.sentinel L.sentinelStatic L.statics hcS0 hiss (a' _ iN)
  obtain ⟨ci198, i198, fB, hk198, hg198, ha198, hsB, -, hnB, htB, hffB⟩ := Cond.ownField (t := .object "java/lang/Object") Y.found L.cls (by decide +kernel) (a' (.fieldLink Bundle.tN 198 Bundle.tN "backtrace" "Ljava/lang/Object;") (hw _ (gw_t4 181 rfl rfl))) (a' (.lays Bundle.tN Bundle.tN "backtrace" "Ljava/lang/Object;") (hw _ (gw_t4 180 rfl rfl))) e.platform hpl
  obtain ⟨cellS, hcS', heS, -, hkeep⟩ := X.same.2.2.2.2.2 T.aS cellS0 hcS0
  have hcellS : W.heap[T.aS]? = some cellS := hcS'
  have hout' : ∀ i, (⟨T.aS, i⟩ : Loc) ∉ locs := fun i hmem => by
    have := hlocs _ hmem cellS0 hcS0
    rw [hiss] at this; cases this
  have hknownS : cellS.vm ≠ .unknown := by
    rw [heS]; intro hu
    rw [show cellS0.vm = .unknown from hu] at hiss
    cases hiss
  have hneS : T.aS ≠ a := Nat.ne_of_lt (Nat.lt_of_lt_of_le (Array.getElem?_eq_some_iff.mp hcS0).1 hnew)
  obtain ⟨iM, hffM⟩ := Y.msg
  obtain ⟨tyC, dC, hdC, hdnC⟩ := Cond.laysAt hfound hk Y.cause (a' (.lays jxC Bundle.tN "cause" "Ljava/lang/Throwable;") (hw _ (gw_t4 171 rfl rfl)))
  obtain ⟨tyS, dS, hdS, hdnS⟩ := Cond.laysAt hfound hk Y.stack (a' (.lays jxC Bundle.tN "stackTrace" Bundle.steD) (hw _ (gw_t4 173 rfl rfl)))
  obtain ⟨tyP, dP, hdP, hdnP⟩ := Cond.laysAt hfound hk Y.supp (a' (.lays jxC Bundle.tN "suppressedExceptions" Bundle.listD) (hw _ (gw_t4 175 rfl rfl)))
  obtain ⟨tyM, dM, hdM, hdnM⟩ := Cond.laysAt hfound hk hffM (a' (.lays jxC Bundle.tN "detailMessage" "Ljava/lang/String;") (hw _ (gw_t4 177 rfl rfl)))
  obtain ⟨tyB, dB, hdB, hdnB⟩ := Cond.laysAt hfound hk hffB (a' (.lays jxC Bundle.tN "backtrace" "Ljava/lang/Object;") (hw _ (gw_t4 179 rfl rfl)))
  have bC := Cond.laysApart hdB hdC hdnB hdnC (by rw [hnB, Y.causeName]; decide)
  have bS := Cond.laysApart hdB hdS hdnB hdnS (by rw [hnB, Y.stackName]; decide)
  have bP := Cond.laysApart hdB hdP hdnB hdnP (by rw [hnB, Y.suppName]; decide)
  have hskip : SkipFacts T e.platform s (fun u => u) u0 ((preparedCellV T.toThrowableT (freshCell P1.m.cls kX) a u0 sen).withEntry W.cur) :=
    ⟨{ ci198 := ci198, i198 := i198, fBack := fB }, ⟨hk198, hg198, ha198, hsB⟩, by
      have := fresh_default (c := P1.m.cls) tyB
      rw [htB] at this
      simpa [preparedCellV, Cell.setSlot, Cell.withEntry, Array.getElem?_setIfInBounds, bC, bS, bP, bC.symm, bS.symm, bP.symm, defaultValue] using this, fun _ _ => rfl⟩
  obtain ⟨tm, methC, cdC, kC, vm₁, hnC, -, -, -, -, -, -, -, hW₁, st1⟩ := Steps.initColdS (tb := p.tables) (e := e) (below := below) (s := s) (U := W) X.here hexec X.warmed hpl hown (t := Bundle.initS jxC) rfl rfl (by decide)
    (a' (.methodLink RX8 167 (Bundle.initS jxC)) (hw _ (gw_t4 200 rfl rfl))) (hw (.instanceMethod (Bundle.initS jxC)) (gw_t4 201 rfl rfl)) (bytes := prog_27_method_4_code) (maxL := 2) (hw (.code (Bundle.initS jxC) prog_27_method_4_code 2 none) (gw_t4 202 rfl rfl))
    (f := g) hg (a := a) (msg := msg) (rest := .ref a :: rest) hstack hd6
  cases Option.some.inj (hnC.symm.trans hP1m)
  have X₁ := X.noted hW₁
  obtain ⟨vm₂, X₂, st2⟩ := X₁.ctorMessageOffV hexec (g := { g with stack := .ref a :: rest }) hg hsize T L Z LZ M LM (P1 :: Q1 :: Qs)
    (fun P hP => by
      rcases List.mem_cons.mp hP with rfl | hP
      · exact L1
      · rcases List.mem_cons.mp hP with rfl | hP
        · exact LQ1
        · exact hLQ P hP) ⟨Option.some.inj (hPsup.symm.trans hQ1m), hlinkQ1, hlinkQ⟩ (u0 := u0) (sen := sen) (self := a) hmsg (cell := freshCell P1.m.cls kX) (cellS := cellS)
    hcell (fun _ => by simp) (by simp) rfl rfl hsel0 hselF hcellS hneS hknownS (by rw [hkeep _ (hout' _)]; exact hu0) (by rw [hkeep _ (hout' _)]; exact hsen)
    (Takes.of_laid hk hord tyC (by rw [Y.causeType]; rfl)) (Takes.of_laid hk hord tyS (by rw [Y.stackType]; exact fits_refV_array _ u0)) (Takes.of_laid hk hord tyP (by rw [Y.suppType]; exact fits_refV_object _ sen))
    (Takes.of_laid hk hord tyM (by rw [Y.msgType]; exact fits_refV_object _ ⟨msg, hmsg⟩)) Y.objLocals hskip htr [] hd6
    (by simp only [List.length_cons, hlen1]; omega) (by simp only [List.length_cons, hlen1]; exact hRlocals)
  have hlt : a < ((W.setVm vm₁).setVm vm₂).heap.size := (Array.getElem?_eq_some_iff.mp hcell).1
  refine ⟨(W.setVm vm₁).setVm vm₂, _, _, X₂, fun y hy => ?_, hlt, rfl, rfl, fun target hwalk => st1 _ (fun acts => ?_)⟩
  · simp only [List.mem_cons, List.not_mem_nil, or_false] at hy
    rcases hy with rfl | rfl | rfl | rfl | rfl <;> rfl
  · rw [doInvoke_state]
    exact st2 _ hwalk
/-- 'new NoSuchElementException("..")': the object goes on the stack; what was there stays -/
theorem va_tabs_gw {a : Array Value} {u U : State} (hw : ∀ w ∈ gw, w.before a u = true) : ∀ w ∈ gw, u.WarmedH U.vm → w.before a U = true := fun w h hW => word_at hW (good_of_word (List.mem_filter.mp h).2) (hw w h)
end JXA
section JXB
variable {p : Program} {l : Launch} {e : Env} {R : Room} {s : State} {m : MethodId} {args : Array Value} {below : List Frame} {meth : Method} {c : Code} {locs : List Loc} {cells slots : Nat} {H : Heap} {Q : State → Prop}
theorem vx_back9 {T S : State} {R' : Room} {k n : Nat} (X : Stand p l e R s m args below meth c T locs cells slots) (Y : Stand p l e R' ((T.setVm s.vm).setFrames (.invoking m args :: below)) m args below meth c T [] 0 0) (Z : Stand p l e R' ((T.setVm s.vm).setFrames (.invoking m args :: below)) m args below meth c S [] k n) :
    Stand p l e R s m args below meth c S locs (cells + k) (slots + n) := by
  have hW0 : s.WarmedH ((T.setVm s.vm).setFrames (.invoking m args :: below)).vm := State.WarmedH.refl s
  refine { admits := X.admits, cas := X.cas, clock := X.clock, frames := X.frames, room := X.room, hears := X.hears, method := X.method, code := X.code, here := Z.here, tail := Z.tail, warmed := State.WarmedH.trans hW0 Z.warmed, limits := Z.limits.trans (Y.limits.symm.trans X.limits), bytes := Z.bytes.trans (Y.bytes.symm.trans X.bytes), same := ?_ }
  obtain ⟨e1, e2⟩ := Z.same
  rw [State.setFrames_setFrames] at e1
  have h2 : (T.setVm s.vm).sameButNew (S.setVm s.vm) [] k n := ⟨e1, e2⟩
  have h3 := X.same.trans h2
  rw [List.append_nil] at h3
  exact h3
theorem jx_make {cc : ByteArray} {pc : Nat} (hexec : p.tables.exec = Jvm.exec) (hb : c.code = cc) (hl : l.stackTraces = false) {sa : Nat} {A : Nat → Prop} {ls : Array Slot} {rest : List Value}
    (hown : s.vm.findClass RX8 = some m.cls) (hw : ∀ w ∈ gw, w.before args s = true) (hXX : jx_X A sa s.heap s) (hS : va_S A s.heap H locs) (hsize : ls.size = c.maxLocals)
    (d0 : decode cc pc = .ok (.new 163, 3)) (d3 : decode cc (pc + 3) = .ok (.dup, 1)) (d4 : decode cc (pc + 4) = .ok (.ldc 165, 2)) (d6 : decode cc (pc + 6) = .ok (.invokespecial 167, 3))
    (hRframes : 5 < R.frames) (hRlocals : (rest.map fun v => v.category).sum + (13 * 3 + 43) ≤ R.locals) (hRcells : cells + 1 ≤ R.cells) (hRslots : slots + 6 ≤ R.slots)
    (kk : ∀ (q : Nat) (ce : Cell) (H1 : Heap), H1[q]? = some ce → ce.vm = .none → s.vm.findClass jxC = some ce.cls → H.size ≤ H1.size → (∀ z : Nat, z < H.size → H1[z]? = H[z]?) → va_S A s.heap H1 locs → W p l e R s m args below meth c H1 locs (cells + 1) (slots + 6) Q (F0 m (pc + 9) ls (.ref q :: rest))) :
    W p l e R s m args below meth c H locs cells slots Q (F0 m pc ls rest) := by
  intro T hT X
  subst hT
  have htr : e.platform.stackTraces = false := (show e.platform.stackTraces = l.stackTraces by rw [X.admits.platform]).trans hl
  have Y := vx_rebase X (R' := { frames := R.frames, locals := R.locals, cells := 1, slots := 6 }) (Nat.le_refl _) (Nat.le_refl _) hRcells hRslots
  obtain ⟨s', hA'⟩ : ∃ z, z = (T.setVm s.vm).setFrames (.invoking m args :: below) := ⟨_, rfl⟩
  rw [← hA'] at Y
  have hvm : s'.vm = s.vm := by rw [hA']; rfl
  have hhp : s'.heap = T.heap := by rw [hA']; rfl
  have hW0 : s.WarmedH s'.vm := by rw [hvm]; exact State.WarmedH.refl s
  have hw' : ∀ w ∈ gw, w.before args s' = true := fun w h => va_tabs_gw hw w h hW0
  have hX' : jx_X A sa s'.heap s' := by rw [hhp]; exact jx_X.warm hW0 (hXX.kept hS.2.1)
  obtain ⟨hU', hN', hstr', nC', nR', nE', nT'⟩ := hX'
  have hown' : s'.vm.findClass RX8 = some m.cls := by rw [hvm]; exact hown
  have hins : (Cond.instantiable jxC 6).before args s' = true := hw' _ (gw_t4 161 rfl rfl)
  obtain ⟨vm₁, cX, kX, hfX, hkX, -, -, X₁, st1⟩ := Y.newCold hexec (own := RX8) (C := jxC) (index := 163) (n := 6) hown' (hw' _ (gw_t4 160 rfl rfl)) hins (hw' _ (gw_t1 17 rfl rfl))
    (g := F0 m pc ls rest) rfl (by rw [hb]; exact d0) (Nat.le_refl _) (Nat.le_refl _)
  generalize hT1 : (T.setVm vm₁).pushCell { cls := cX, slots := kX.instanceTypes.map defaultValue, vm := .none } = T1 at X₁ st1
  have hcat : (Value.ref T.heap.size).category = 1 := rfl
  have hcellA : T1.heap[T.heap.size]? = some (freshCell cX kX) := by rw [← hT1]; exact State.heap_pushCell_size _ _
  have d3' : decode c.code (pc + 3) = .ok (.dup, 1) := by rw [hb]; exact d3
  have d4' : decode c.code (pc + 4) = .ok (.ldc 165, 2) := by rw [hb]; exact d4
  obtain ⟨V, ce, L, Z, hL, hlt, hcl9, hvm9, st⟩ := jx_ctorMade X₁ hexec htr hown' hw' hU'.2.word hN'.2.word (vx_isRefq hU'.1) (vx_isRefq hN'.1) nC' nR' nE' nT' (fun x hx => nomatch hx) hfX hkX hcellA (by rw [hhp]; exact Nat.le_refl _) (msg := .ref sa) rfl
    (g := { method := m, pc := pc + 6, locals := ls, stack := .ref sa :: .ref T.heap.size :: .ref T.heap.size :: rest, locked := none }) rfl hsize (rest := rest) rfl
    (by rw [hb]; exact d6) hRframes (by simp only [List.map_cons, List.sum_cons, hcat]; omega)
  have Z0 := Stand.forget (locs := []) Z (fun y hy => by rw [hL y hy, hhp]; exact Nat.le_refl _)
  obtain ⟨f1, f2⟩ := vx_frame Z0.same
  rw [hhp] at f1 f2
  have hcid : s.vm.findClass jxC = some ce.cls := by
    rw [hcl9, ← hvm]; exact hfX
  have hh : (V.setCell T.heap.size ce).heap[T.heap.size]? = some ce := heapAt_setCell_self (s := V) ce hlt
  subst hA'
  have X5 := vx_back9 X Y Z0
  have X6 : Stand p l e R s m args below meth c (V.setCell T.heap.size ce) locs (cells + 1) (slots + 6) := { X5 with same := X5.same.mono (by omega) (by omega) }
  obtain ⟨t, a1, b1⟩ := kk T.heap.size ce (V.setCell T.heap.size ce).heap hh hvm9 hcid f1 (fun q hq => f2 q hq (fun z hz => nomatch hz)) ⟨Nat.le_trans hS.1 f1, fun q h1 h2 => (f2 q (Nat.lt_of_lt_of_le h1 hS.1) (fun z hz => nomatch hz)).trans (hS.2.1 q h1 h2), hS.2.2⟩ _ rfl X6
  refine ⟨t, st1 _ ?_, b1⟩
  show Steps p.tables e below (T1.setTop { method := m, pc := pc + 3, locals := ls, stack := .ref T.heap.size :: rest, locked := none }) _
  jvm_step X₁.here [X₁.here.top, hexec, d3', Value.category]
  exact X₁.ldcString hexec (own := RX8) (text := jxT) (index := 165) (a := sa) hown' hstr'.1 hstr'.2
    (g := { method := m, pc := pc + 4, locals := ls, stack := .ref T.heap.size :: .ref T.heap.size :: rest, locked := none }) rfl d4' _ (st _ a1)
end JXB
end P_35a_exc
