/-! the reference's tables as lists -/
def RTt (w : Nat → Int32) (t wd : Nat) (ks : List Nat) : Prop := w (2 + t) = nI ks.length ∧ ∀ i, i < ks.length → ∀ c, c < 3 → w (6 + 3 * (12 * t + i) + c) = if c < wd then nI (dgt c (ks.getD i 0)) else -1
theorem RTt.cong {w w' : Nat → Int32} {t wd : Nat} {ks : List Nat} (h : RTt w t wd ks) (e1 : w' (2 + t) = w (2 + t)) (e2 : ∀ i, i < ks.length → ∀ c, c < 3 → w' (6 + 3 * (12 * t + i) + c) = w (6 + 3 * (12 * t + i) + c)) : RTt w' t wd ks := ⟨e1.trans h.1, fun i hi c hc => (e2 i hi c hc).trans (h.2 i hi c hc)⟩
theorem sub_nI {a b : Nat} (ha : a < 1000) (hb : b < 1000) : (0 ≤ nI a - nI b ↔ b ≤ a) ∧ (nI a - nI b = 0 ↔ a = b) ∧ (nI a = nI b ↔ a = b) := by
  have e : (nI a - nI b).toInt = (a : Int) - (b : Int) := tS (tnI (by omega)) (tnI (by omega)) (by omega) (by omega)
  refine ⟨?_, ?_, fun h => nI_inj h (by omega) (by omega), fun h => by rw [h]⟩
  · rw [iLE (a := 0) (b := nI a - nI b) (by decide : (0 : Int32).toInt = 0) e]; omega
  · rw [iEQ e (by decide : (0 : Int32).toInt = 0)]; omega
/-- one column of two rows -/
theorem cmp_c {u v : Int32} {a b : Nat} (h : (u = nI a ∧ v = nI b) ∨ (u = -1 ∧ v = -1 ∧ a = 0 ∧ b = 0)) (ha : a < 1000) (hb : b < 1000) : (u = v ↔ a = b) ∧ (0 ≤ u - v ↔ b ≤ a) ∧ (u - v = 0 ↔ a = b) := by
  rcases h with ⟨rfl, rfl⟩ | ⟨rfl, rfl, rfl, rfl⟩
  · obtain ⟨h1, h2, h3⟩ := sub_nI ha hb
    exact ⟨h3, h1, h2⟩
  · exact ⟨⟨fun _ => rfl, fun _ => rfl⟩, by decide, by decide⟩
theorem cm_k {w : Nat → Int32} {t wd i : Nat} {ks : List Nat} {x y z : Int32} (hi : i < ks.length) (hR : RTt w t wd ks) (h1 : 1 ≤ wd) (hq : kOK wd (ks.getD i 0)) (hr : rowOK wd x y z) :
    (0 ≤ cm9 w t i x y z ↔ kyz x y z ≤ ks.getD i 0) ∧ (cm9 w t i x y z = 0 ↔ ks.getD i 0 = kyz x y z) := by
  have w0 := hR.2 i hi 0 (by omega)
  have w1 := hR.2 i hi 1 (by omega)
  have w2 := hR.2 i hi 2 (by omega)
  rw [if_pos (by omega), Nat.add_zero] at w0
  obtain ⟨r1, r2, r3⟩ := hr
  have a := nn_99 r1
  have b := r2.kn9
  have c := r3.kn9
  have ek : ks.getD i 0 = pk3 (dgt 0 (ks.getD i 0)) (dgt 1 (ks.getD i 0)) (dgt 2 (ks.getD i 0)) := (pk_dgt _).symm
  have d0 := hq.d (c := 0)
  have d1 := hq.d (c := 1)
  have d2 := hq.d (c := 2)
  obtain ⟨q1, q2, q3, q4, q5⟩ := hq
  generalize hd0 : dgt 0 (ks.getD i 0) = a0 at *
  generalize hd1 : dgt 1 (ks.getD i 0) = a1 at *
  generalize hd2 : dgt 2 (ks.getD i 0) = a2 at *
  have hb : kn y ≤ 99 := by
    rcases Nat.lt_or_ge 1 wd with q | q
    · exact (b.1 q).1
    · rw [(b.2 q).1]; decide
  have hc : kn z ≤ 99 := by
    rcases Nat.lt_or_ge 2 wd with q | q
    · exact (c.1 q).1
    · rw [(c.2 q).1]; decide
  have c0 := cmp_c (u := w (6 + 3 * (12 * t + i))) (v := x) (Or.inl ⟨w0, a.2⟩) (by omega) (by omega)
  have c1 := cmp_c (u := w (6 + 3 * (12 * t + i) + 1)) (v := y) (a := a1) (b := kn y) (by
    rcases Nat.lt_or_ge 1 wd with q | q
    · rw [if_pos q] at w1; exact Or.inl ⟨w1, (b.1 q).2⟩
    · rw [if_neg (by omega)] at w1; exact Or.inr ⟨w1, (b.2 q).2, q3 q, (b.2 q).1⟩) (by omega) (by omega)
  have c2 := cmp_c (u := w (6 + 3 * (12 * t + i) + 2)) (v := z) (a := a2) (b := kn z) (by
    rcases Nat.lt_or_ge 2 wd with q | q
    · rw [if_pos q] at w2; exact Or.inl ⟨w2, (c.1 q).2⟩
    · rw [if_neg (by omega)] at w2; exact Or.inr ⟨w2, (c.2 q).2, q5 q, (c.2 q).1⟩) (by omega) (by omega)
  have hl : ∀ (X Y Z : Nat), X < 128 → Y < 128 → Z < 128 → (pk3 X Y Z ≤ pk3 a0 a1 a2 ↔ (X < a0 ∨ (X = a0 ∧ (Y < a1 ∨ (Y = a1 ∧ Z ≤ a2))))) ∧ (pk3 a0 a1 a2 = pk3 X Y Z ↔ (a0 = X ∧ a1 = Y ∧ a2 = Z)) := by
    intro X Y Z _ _ _
    unfold pk3
    omega
  obtain ⟨hl1, hl2⟩ := hl (kn x) (kn y) (kn z) (by omega) (by omega) (by omega)
  rw [ek]
  show (_ ↔ pk3 (kn x) (kn y) (kn z) ≤ _) ∧ (_ ↔ _ = pk3 (kn x) (kn y) (kn z))
  rw [hl1, hl2]
  unfold cm9
  by_cases e0 : a0 = kn x
  · rw [if_pos (c0.1.mpr e0)]
    by_cases e1 : a1 = kn y
    · rw [if_pos (c1.1.mpr e1), c2.2.1, c2.2.2]
      omega
    · rw [if_neg (mt c1.1.mp e1), c1.2.1, c1.2.2]
      omega
  · rw [if_neg (mt c0.1.mp e0), c0.2.1, c0.2.2]
    omega
theorem cl_pos {w : Nat → Int32} {t wd i : Nat} {ks : List Nat} {x y z : Int32} (hR : RTt w t wd ks) (h1 : 1 ≤ wd) (hq : ∀ j, j < ks.length → kOK wd (ks.getD j 0)) (hs : srt ks) (hr : rowOK wd x y z) (h : cl9 w t ks.length x y z i) :
    posK (kyz x y z) ks i ∧ ((i < ks.length ∧ cm9 w t i x y z = 0) ↔ (i < ks.length ∧ ks.getD i 0 = kyz x y z)) := by
  obtain ⟨a, b, c⟩ := h
  refine ⟨posK.of hs a (fun j hj => ?_) (fun hi => (cm_k hi hR h1 (hq i hi) hr).1.mp (c hi)), ⟨fun q => ⟨q.1, (cm_k q.1 hR h1 (hq i q.1) hr).2.mp q.2⟩, fun q => ⟨q.1, (cm_k q.1 hR h1 (hq i q.1) hr).2.mpr q.2⟩⟩⟩
  have := mt (cm_k (by omega) hR h1 (hq j (by omega)) hr).1.mpr (b j hj)
  omega
theorem insW_R {w : Nat → Int32} {t wd i : Nat} {ks : List Nat} {x y z : Int32} (ht : t < 4) (hl : ks.length ≤ 11) (hi : i ≤ ks.length) (hR : RTt w t wd ks) (h1 : 1 ≤ wd) (hr : rowOK wd x y z) :
    RTt (insW w t ks.length i x y z) t wd (insA i (kyz x y z) ks) ∧ (∀ t', t' ≠ t → t' < 4 → ∀ wd' ks', ks'.length ≤ 12 → RTt w t' wd' ks' → RTt (insW w t ks.length i x y z) t' wd' ks') ∧ ∀ j, j < 2 ∨ 150 ≤ j → insW w t ks.length i x y z j = w j := by
  obtain ⟨_, hb, g0, g1, g2⟩ := row_k hr
  obtain ⟨r1, r2, r3⟩ := hr
  have a := nn_99 r1
  have b := r2.kn9
  have c := r3.kn9
  refine ⟨⟨?_, fun j hj e he => ?_⟩, fun t' hne ht' wd' ks' hl' hR' => ⟨?_, fun j hj e he => ?_⟩, fun j hj => ?_⟩
  · unfold insW
    rw [if_pos rfl, insA_len]
  · rw [insA_len] at hj
    rw [insA_get j hi]
    unfold insW
    rw [if_neg (by omega)]
    by_cases c1 : j = i
    · rw [if_neg (show ¬ j < i by omega), if_pos c1, c1]
      rcases (by omega : e = 0 ∨ e = 1 ∨ e = 2) with rfl | rfl | rfl
      · rw [if_pos (by omega), if_pos (by omega), g0]; exact a.2
      · rw [if_neg (by omega), if_pos rfl]
        by_cases q : 1 < wd
        · rw [if_pos q, g1]; exact (b.1 q).2
        · rw [if_neg q]; exact (b.2 (by omega)).2
      · rw [if_neg (by omega), if_neg (by omega), if_pos rfl]
        by_cases q : 2 < wd
        · rw [if_pos q, g2]; exact (c.1 q).2
        · rw [if_neg q]; exact (c.2 (by omega)).2
    · rw [if_neg (show ¬ 6 + 3 * (12 * t + j) + e = 6 + 3 * (12 * t + i) by omega), if_neg (show ¬ 6 + 3 * (12 * t + j) + e = 6 + 3 * (12 * t + i) + 1 by omega), if_neg (show ¬ 6 + 3 * (12 * t + j) + e = 6 + 3 * (12 * t + i) + 2 by omega)]
      by_cases c2 : j < i
      · rw [if_neg (by omega), if_pos c2]; exact hR.2 j (by omega) e he
      · rw [if_pos (by omega), if_neg c2, if_neg c1, show 6 + 3 * (12 * t + j) + e - 3 = 6 + 3 * (12 * t + (j - 1)) + e by omega]
        exact hR.2 (j - 1) (by omega) e he
  · unfold insW
    rw [if_neg (by omega), if_neg (by omega), if_neg (by omega), if_neg (by omega), if_neg (by omega)]; exact hR'.1
  · unfold insW
    have q : t' < t ∨ t < t' := by omega
    rw [if_neg (by omega), if_neg (by omega), if_neg (by omega), if_neg (by omega), if_neg (by omega)]; exact hR'.2 j hj e he
  · unfold insW
    rw [if_neg (by omega), if_neg (by omega), if_neg (by omega), if_neg (by omega), if_neg (by omega)]
theorem delW_R {w : Nat → Int32} {t wd i : Nat} {ks : List Nat} (ht : t < 4) (hl : ks.length ≤ 12) (hi : i < ks.length) (hR : RTt w t wd ks) :
    RTt (delW w t ks.length i) t wd (delA i ks) ∧ (∀ t', t' ≠ t → t' < 4 → ∀ wd' ks', ks'.length ≤ 12 → RTt w t' wd' ks' → RTt (delW w t ks.length i) t' wd' ks') ∧ ∀ j, j < 2 ∨ 150 ≤ j → delW w t ks.length i j = w j := by
  refine ⟨⟨?_, fun j hj e he => ?_⟩, fun t' hne ht' wd' ks' hl' hR' => ⟨?_, fun j hj e he => ?_⟩, fun j hj => ?_⟩
  · unfold delW
    rw [if_pos rfl, delA_len hi]
  · rw [delA_len hi] at hj
    rw [delA_get j hi]
    unfold delW
    rw [if_neg (by omega)]
    by_cases c2 : j < i
    · rw [if_neg (by omega), if_pos c2]; exact hR.2 j (by omega) e he
    · rw [if_pos (by omega), if_neg c2, show 6 + 3 * (12 * t + j) + e + 3 = 6 + 3 * (12 * t + (j + 1)) + e by omega]
      exact hR.2 (j + 1) (by omega) e he
  · unfold delW
    rw [if_neg (by omega), if_neg (by omega)]; exact hR'.1
  · unfold delW
    have q : t' < t ∨ t < t' := by omega
    rw [if_neg (by omega), if_neg (by omega)]; exact hR'.2 j hj e he
  · unfold delW
    rw [if_neg (by omega), if_neg (by omega)]
