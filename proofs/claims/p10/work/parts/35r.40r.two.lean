theorem fz_renew {I r : gM} (h : fX8_renew I = some r) : r 22 0 = I 22 0 := by
  unfold fX8_renew at h
  obtain ⟨r1, e1, h⟩ := ob h
  rw [pU_n, obs] at h
  obtain rfl := Option.some.inj h
  rw [g_up_row (by decide)]
  exact fz_findBy (k := 18) e1
/-! the same over two memories: M the class's, R the reference's -/
def InvS2 (C : Nat) (M R : gM) (S : Nat → aT) (m nx : Nat) : Prop := (m ≤ 40 ∧ nx < 40 ∧ M 48 0 = nI m ∧ M 48 2 = nI nx ∧ R 62 29 = nI m) ∧ (∀ a, a ≤ m → WF (S a)) ∧ (CT M 3 (S m) ∧ RT R (R 70) (S m) ∧ LG C M 44 0 (R 70)) ∧ (∀ a, a < m → RT R (kept9 R a) (S a) ∧ LG C M 44 (m - a) (kept9 R a) ∧ stepA M (S a) (S (a + 1)) (m - 1 - a) nx) ∧ (M 0 15 = R 62 42 ∧ (R 62 42 ≠ 0 → ∃ B, WF B ∧ CT M 13 B ∧ RT R (R 89) B ∧ LG C M 46 0 (R 89))) ∧ ∀ j, j < 4 → M 53 j = R 71 j
theorem InvS2.one {C : Nat} {I : gM} {S : Nat → aT} {m nx : Nat} (h : InvS C I S m nx) : InvS2 C I I S m nx := h
theorem InvS2.both {C : Nat} {I : gM} {S : Nat → aT} {m nx : Nat} (h : InvS2 C I I S m nx) : InvS C I S m nx := h
/-- other memories with the same in the cells that count -/
theorem InvS2.cong {C : Nat} {M R M' R' : gM} {S : Nat → aT} {m nx : Nat} (h : InvS2 C M R S m nx) (hC : C ≤ 3) (h0 : M' 0 15 = M 0 15) (h8 : ∀ k, (3 ≤ k ∧ k ≤ 7) ∨ (13 ≤ k ∧ k ≤ 17) ∨ (44 ≤ k ∧ k ≤ 49) ∨ k = 53 → M' k = M k) (h62 : ∀ j, j = 17 ∨ j = 29 ∨ j = 42 → R' 62 j = R 62 j) (h9 : ∀ k, k = 70 ∨ k = 71 ∨ k = 72 ∨ k = 73 ∨ k = 81 ∨ k = 89 → R' k = R k) : InvS2 C M' R' S m nx := by
  obtain ⟨⟨a1, a2, a3, a4, a5⟩, hW, ⟨b1, b2, b3⟩, hk, ⟨c1, c2⟩, c3⟩ := h
  have kC : ∀ {A : aT}, WF A → ∀ {w}, RT R w A → RT R' w A := fun hA _ q => q.cong (h62 17 (by omega)) (h9 72 (by omega)) (h9 73 (by omega)) hA.1 hA.k12 (fun _ _ => rfl)
  refine ⟨⟨a1, a2, by rw [h8 48 (by omega)]; exact a3, by rw [h8 48 (by omega)]; exact a4, by rw [h62 29 (by omega)]; exact a5⟩, hW, ⟨?_, ?_, ?_⟩, fun a ha => ⟨?_, ?_, ?_⟩, ⟨by rw [h0, h62 42 (by omega)]; exact c1, fun q => ?_⟩, fun j hj => by rw [h8 53 (by omega), h9 71 (by omega)]; exact c3 j hj⟩
  · exact b1.cong (fun j _ => by rw [h8 3 (by omega)]) (h8 4 (by omega)) (h8 5 (by omega)) (h8 6 (by omega)) (h8 7 (by omega))
  · rw [h9 70 (by omega)]; exact kC (hW m (Nat.le_refl _)) b2
  · rw [h9 70 (by omega)]; exact b3.cong hC (h8 44 (by omega)) (h8 45 (by omega)) (fun _ _ _ => rfl)
  · have e : kept9 R' a = kept9 R a := by unfold kept9; rw [h9 81 (by omega)]
    rw [e]; exact kC (hW a (by omega)) (hk a ha).1
  · have e : kept9 R' a = kept9 R a := by unfold kept9; rw [h9 81 (by omega)]
    rw [e]; exact (hk a ha).2.1.cong hC (h8 44 (by omega)) (h8 45 (by omega)) (fun _ _ _ => rfl)
  · exact (hk a ha).2.2.cong (h8 49 (by omega))
  · rw [h62 42 (by omega)] at q
    obtain ⟨B, d1, d2, d3, d4⟩ := c2 q
    refine ⟨B, d1, d2.cong (fun j _ => by rw [h8 13 (by omega)]) (h8 14 (by omega)) (h8 15 (by omega)) (h8 16 (by omega)) (h8 17 (by omega)), by rw [h9 89 (by omega)]; exact kC d1 d3, by rw [h9 89 (by omega)]; exact d4.cong hC (h8 46 (by omega)) (h8 47 (by omega)) (fun _ _ _ => rfl)⟩
def mix (M R : gM) : gM := fun q => if q < 62 then M q else R q
theorem mix_lo {M R : gM} {q : Nat} (h : q < 62) : mix M R q = M q := if_pos h
theorem mix_hi {M R : gM} {q : Nat} (h : 62 ≤ q) : mix M R q = R q := if_neg (by omega)
theorem mix_MI {b b' b2 : Bool} {I0 M R0 R : gM} (hM : MI b I0 M) (hR : MI b' R0 R) : MI b2 (mix M R) (mix M R) := by
  refine ⟨fun k j => ?_, fun _ _ => rfl⟩
  by_cases c : k < 62
  · rw [mix_lo c]; exact hM.1 k j
  · rw [mix_hi (by omega)]; exact hR.1 k j
theorem ref_cong {k : Nat} {M I : gM} (h0 : M k = I k) (h1 : M (k + 1) = I (k + 1)) (h2 : M (k + 2) = I (k + 2)) (h4 : M (k + 4) = I (k + 4)) (s a x y z : Int32) : fX5_refusal k s a x y z M = fX5_refusal k s a x y z I := by
  simp only [fX5_refusal, fX5_isTable, fX5_isFitting, bX5_isFitting_24, fX5_placeOf, lX5_placeOf_2, fX5_rowAt, bX5_refusal_127, bX5_refusal_141, h0, h1, h2, h4]
/-- both refuse for the same reason, each over its own memory -/
theorem why_two {I0 M R0 R : gM} {k : Nat} (hk : k + 4 < 62) {A : aT} (hM : MI true I0 M) (hM9 : MI false R0 R) (hW : WF A) (hC : CT M k A) (hR : RT R (R 70) A) {s : Nat} (hs : s < 4) (a x y z : Int32) : ∃ r, fX5_refusal k (nI s) a x y z M = some r ∧ fX9_whyNot (nI s) a x y z R = some r ∧ (r = 0 ∨ r = 1 ∨ r = 2 ∨ r = 3 ∨ r = -1) ∧ (r = -1 → ∃ w', Act9 A.1.length (R 72) (R 70) (nI s) a x y z w') := by
  have l : ∀ q, q < 62 → mix M R q = M q := fun q h => mix_lo h
  have h : ∀ q, 62 ≤ q → mix M R q = R q := fun q h => mix_hi h
  have hC' : CT (mix M R) k A := hC.cong (fun j _ => by rw [l k (by omega)]) (l _ (by omega)) (l _ (by omega)) (l _ (by omega)) (l _ (by omega))
  have hR' : RT (mix M R) (mix M R 70) A := by
    rw [h 70 (by omega)]
    exact hR.cong (by rw [h 62 (by omega)]) (h 72 (by omega)) (h 73 (by omega)) hW.1 hW.k12 (fun _ _ => rfl)
  obtain ⟨r, e1, e2, e3, e4⟩ := why_both (mix_MI (b2 := false) hM hM9) hW hC' hR' hs a x y z
  refine ⟨r, ?_, ?_, e3, ?_⟩
  · rw [← e1]; exact (ref_cong (l _ (by omega)) (l _ (by omega)) (l _ (by omega)) (l _ (by omega)) _ _ _ _ _).symm
  · rw [← e2]; exact (why_cong (by rw [h 62 (by omega)]) (h 70 (by omega)) (h 72 (by omega)) _ _ _ _ _).symm
  · rw [h 72 (by omega), h 70 (by omega)] at e4; exact e4
theorem act_two {C : Nat} {I0 M R0 R : gM} (hM : MI true I0 M) (hM9 : MI false R0 R) (hA9 : A9 R) {S : Nat → aT} {m nx : Nat} (h : InvS2 C M R S m nx) (hC : C ≤ 3) (hJ : C = 3 → JE ∧ M 22 0 = 0) {s : Nat} (hs : s < 4) {num x y z x' y' z' : Int32} {A' : aT} {w' : Nat → Int32} (hk : kn x < 128 ∧ kn y < 128 ∧ kn z < 128) (hact : ActA (S m) (nI s) num x y z A') (hact9 : Act9 (S m).1.length (R 72) (R 70) (nI s) num x' y' z' w') (hR' : RT R w' A') (hw' : ∀ j, 150 ≤ j → w' j = R 70 j) (hr : fX5_refusal 3 (nI s) num x y z M = some (-1)) :
    ∃ a v b S', fX8_attempt (nI s) num x y z M = some (-1, a) ∧ fX9_act (nI s) num x' y' z' R = some (v, b) ∧ MI true I0 a ∧ MI false R0 b ∧ A9 b ∧ InvS2 C a b S' (min (m + 1) 40) ((nx + 1) % 40) ∧ S' (min (m + 1) 40) = A' ∧ WF A' ∧ (∀ q, q = 0 ∨ q = 1 ∨ q = 2 ∨ 50 ≤ q ∧ q < 62 → a q = M q) ∧ (∀ j, j ≠ 19 → j ≠ 26 → j ≠ 27 → j ≠ 29 → b 62 j = R 62 j) ∧ (∀ k, k ≠ 62 → k ≠ 70 → k ≠ 74 → k ≠ 75 → k ≠ 76 → k ≠ 77 → k ≠ 78 → k ≠ 79 → k ≠ 80 → k ≠ 81 → b k = R k) ∧
      (∃ r4 r5 I9 rj, MI true I0 r4 ∧ CT r4 3 A' ∧ fX8_renew r4 = some r5 ∧ MI false R0 I9 ∧ RT I9 (I9 70) A' ∧ fX9_joinsNow I9 = some rj ∧ (∀ q, q ≠ 44 → q ≠ 45 → a q = r5 q) ∧ ∀ k, k ≠ 70 → b k = rj k) ∧ a 22 0 = M 22 0 := by
  obtain ⟨⟨a1, a2, a3, a4, a5⟩, hW, ⟨b1, b2, b3⟩, hk9, ⟨c1, c2⟩, c3⟩ := h
  have hWm := hW m (Nat.le_refl _)
  have hWA := hWm.act hact
  have hn : A'.1.length = (S m).1.length := nI_inj (hR'.1.symm.trans b2.1) (by have := hWA.1; omega) (by have := hWm.1; omega)
  obtain ⟨nl, H, l1, l2, _, l4, l5, l6, _⟩ := id b3
  rw [Nat.sub_zero] at l6
  obtain ⟨r4, r5, a, e1, M4, C4, e5, Ma, Ca, p1, p2, p3, q1, q2, q3, fr, fj, f3, f22⟩ := c_attempt hM hs hk hWm b1 hact hr a2 a4 a1 a3 l1 l4 l2 l5
  obtain ⟨I9, rj, v, b, j1, j2, j3, j4, j5, j6, j7, j8, j9, j10, j11, j12, j13, j14, v1, v2, v3⟩ := n_act (I0 := R0) (I := R) hM9 hA9 (n := (S m).1.length) (A := m) (L := min H 60) hWm.1 b2.1 a1 a5 (by omega) l6 (s := nI s) (a := num) (x := x') (y := y') (z := z') (w' := w') hact9
  let W : Nat → Nat → Int32 := fun j => if j < m then kept9 R j else R 70
  have hWj : ∀ j, j ≤ m → RT R (W j) (S j) ∧ LG C M 44 (m - j) (W j) := fun j hj => by
    rcases Nat.lt_or_ge j m with c | c
    · show RT R (if j < m then kept9 R j else R 70) _ ∧ LG C M 44 _ (if j < m then kept9 R j else R 70)
      rw [if_pos c]; exact ⟨(hk9 j c).1, (hk9 j c).2.1⟩
    · have : j = m := by omega
      subst this
      show RT R (if j < j then kept9 R j else R 70) _ ∧ LG C M 44 _ (if j < j then kept9 R j else R 70)
      rw [if_neg (by omega), Nat.sub_self]; exact ⟨b2, b3⟩
  let δ : Nat := if m = 40 then 1 else 0
  have hδ : (m = 40 ∧ δ = 1) ∨ (m < 40 ∧ δ = 0) := by
    by_cases c : m = 40
    · exact Or.inl ⟨c, if_pos c⟩
    · exact Or.inr ⟨by omega, if_neg c⟩
  have hkb : ∀ j, j < min (m + 1) 40 → ∀ x, x < 331 → kept9 b j x = W (j + δ) x := by
    intro j hj x hx
    show b 81 (331 * j + x) = (if j + δ < m then kept9 R (j + δ) else R 70) x
    rw [j11]
    unfold kp9
    rcases hδ with ⟨c, d⟩ | ⟨c, d⟩
    · rw [if_pos c, d]
      by_cases f : j + 1 < m
      · rw [if_pos f, if_neg (by omega), if_pos (by omega)]
        exact congrArg (R 81) (by omega)
      · rw [if_neg f, if_pos (by omega)]
        exact congrArg (R 70) (by omega)
    · rw [if_neg (by omega), d]
      by_cases f : j + 0 < m
      · rw [if_pos f, if_neg (by omega)]; rfl
      · rw [if_neg f, if_pos (by omega)]
        exact congrArg (R 70) (by omega)
  generalize hδ' : δ = dl at *
  let S' : Nat → aT := fun j => if j + dl = m + 1 then A' else S (j + dl)
  have hS1 : ∀ j, j + dl = m + 1 → S' j = A' := fun j e => if_pos e
  have hS2 : ∀ j, j + dl ≠ m + 1 → S' j = S (j + dl) := fun j e => if_neg e
  have hmm : min (m + 1) 40 + dl = m + 1 := by omega
  have bR : ∀ k, k = 71 ∨ k = 72 ∨ k = 73 ∨ k = 89 → b k = R k := fun k hk => j14 k (by omega) (by omega) (by omega) (by omega) (by omega) (by omega) (by omega) (by omega) (by omega) (by omega)
  have RTb : ∀ {A : aT} {w u : Nat → Int32}, WF A → RT R w A → (∀ x, x < 150 → u x = w x) → RT b u A := fun hA q e => q.cong (j13 17 (by omega) (by omega) (by omega) (by omega)) (bR 72 (by omega)) (bR 73 (by omega)) hA.1 hA.k12 e
  have hR9 : RT I9 (I9 70) A' := hR'.cong (by rw [j7 17 (by omega)]) (j6 72 (by omega) (by omega) (by omega)) (j6 73 (by omega) (by omega) (by omega)) hWA.1 hWA.k12 j8
  have hv : C = 3 → r5 18 0 = rj 62 26 := fun c => (hJ c).1 A' I0 R0 r4 r5 I9 rj hWA (by rw [hn]; exact hact.pos) M4 C4 (by rw [f22]; exact (hJ c).2) e5 j2 hR9 j1
  refine ⟨a, v, b, S', e1, j3, Ma, j4, j5, ⟨⟨by omega, by omega, p2, p1, by rw [j12]; congr 1; split <;> omega⟩, fun j hj => ?_, ⟨?_, ?_, ?_⟩, fun j hj => ⟨?_, ?_, ?_⟩, ⟨?_, fun q => ?_⟩, fun j hj => ?_⟩, hS1 _ hmm, hWA, fun q hq => fr q (by omega), j13, j14, ⟨r4, r5, I9, rj, M4, C4, e5, j2, hR9, j1, fj, j9⟩, by rw [fj 22 (by decide) (by decide), fz_renew e5, f22]⟩
  · by_cases c : j + dl = m + 1
    · rw [hS1 j c]; exact hWA
    · rw [hS2 j c]; exact hW _ (by omega)
  · rw [hS1 _ hmm]; exact Ca
  · rw [hS1 _ hmm]
    refine RTb hWA hR' (fun x hx => ?_)
    rw [j10]
    unfold lg9
    rw [if_neg (by omega), if_neg (by omega), if_neg (by omega), if_neg (by omega), if_neg (by omega)]
  · rw [j10]
    exact b3.new hC hv l4 l1 l5 l2 q1 q2 q3 hw'
  · rw [hS2 j (by omega)]
    exact RTb (hW _ (by omega)) (hWj (j + dl) (by omega)).1 (fun x hx => hkb j hj x (by omega))
  · have q := ((hWj (j + dl) (by omega)).2.old hC (by omega) l4 l1 l5 l2 q1 q2 q3).cong (r := a) (w' := kept9 b j) hC rfl rfl (fun x _ hx => hkb j hj x hx)
    rw [show m - (j + dl) + 1 = min (m + 1) 40 - j by omega] at q
    exact q
  · rw [hS2 j (by omega)]
    by_cases c : j + 1 + dl = m + 1
    · rw [hS1 (j + 1) c, show j + dl = m by omega, show min (m + 1) 40 - 1 - j = 0 by omega]
      exact stepA.new hs hact a2 p3
    · rw [hS2 (j + 1) c, show j + 1 + dl = j + dl + 1 by omega, show min (m + 1) 40 - 1 - j = m - 1 - (j + dl) + 1 by omega]
      exact (hk9 (j + dl) (by omega)).2.2.old (by omega) a2 p3
  · rw [fr 0 (by omega), j13 42 (by omega) (by omega) (by omega) (by omega)]; exact c1
  · rw [j13 42 (by omega) (by omega) (by omega) (by omega)] at q
    obtain ⟨B, d1, d2, d3, d4⟩ := c2 q
    have l13 : ∀ k, 13 ≤ k → k ≤ 17 → a k = M k := fun k h1 h2 => fr k (by omega)
    have l46 : ∀ k, 46 ≤ k → k ≤ 47 → a k = M k := fun k h1 h2 => fr k (by omega)
    exact ⟨B, d1, d2.cong (fun j _ => by rw [l13 13 (by omega) (by omega)]) (l13 14 (by omega) (by omega)) (l13 15 (by omega) (by omega)) (l13 16 (by omega) (by omega)) (l13 17 (by omega) (by omega)), RTb d1 d3 (fun x _ => by rw [bR 89 (by omega)]), by rw [bR 89 (by omega)]; exact d4.cong hC (l46 46 (by omega) (by omega)) (l46 47 (by omega) (by omega)) (fun _ _ _ => rfl)⟩
  · rw [fr 53 (by omega), bR 71 (by omega)]; exact c3 j hj
/-- an act is tried by both, each over its own memory -/
theorem try_two {C : Nat} {I0 M R0 R : gM} (hM : MI true I0 M) (hM9 : MI false R0 R) (hA9 : A9 R) {S : Nat → aT} {m nx : Nat} (h : InvS2 C M R S m nx) (hC : C ≤ 3) (hJ : C = 3 → JE ∧ M 22 0 = 0) {s : Nat} (hs : s < 4) (num x y z x' y' z' : Int32) (h2 : 2 ≤ s → x = -1 ∧ y = -1 ∧ z = -1) (h1 : s < 2 → x' = x ∧ y' = y ∧ z' = z) :
    (∃ r, r < 4 ∧ fX8_attempt (nI s) num x y z M = some (nI r, M) ∧ fX9_whyNot (nI s) num x' y' z' R = some (nI r)) ∨
    (∃ a v b S' m' nx', fX9_whyNot (nI s) num x' y' z' R = some (-1) ∧ fX8_attempt (nI s) num x y z M = some (-1, a) ∧ fX9_act (nI s) num x' y' z' R = some (v, b) ∧ MI true I0 a ∧ MI false R0 b ∧ A9 b ∧ InvS2 C a b S' m' nx' ∧ (S' m').1.length = (S m).1.length ∧ (∀ q, q = 0 ∨ q = 1 ∨ q = 2 ∨ 50 ≤ q ∧ q < 62 → a q = M q) ∧ (∀ j, j ≠ 19 → j ≠ 26 → j ≠ 27 → j ≠ 29 → b 62 j = R 62 j) ∧ (∀ k, k ≠ 62 → k ≠ 70 → k ≠ 74 → k ≠ 75 → k ≠ 76 → k ≠ 77 → k ≠ 78 → k ≠ 79 → k ≠ 80 → k ≠ 81 → b k = R k) ∧
      (∃ r4 r5 I9 rj, MI true I0 r4 ∧ CT r4 3 (S' m') ∧ fX8_renew r4 = some r5 ∧ MI false R0 I9 ∧ RT I9 (I9 70) (S' m') ∧ fX9_joinsNow I9 = some rj ∧ (∀ q, q ≠ 44 → q ≠ 45 → a q = r5 q) ∧ ∀ k, k ≠ 70 → b k = rj k) ∧ a 22 0 = M 22 0) := by
  have hWm := h.2.1 m (Nat.le_refl _)
  have hCm := h.2.2.1.1
  have hRm := h.2.2.1.2.1
  obtain ⟨r, e1, e2, e3, _⟩ := why_two (k := 3) (by omega) hM hM9 hWm hCm hRm hs num x y z
  have e2' : fX9_whyNot (nI s) num x' y' z' R = some r := by
    rcases Nat.lt_or_ge s 2 with c | c
    · obtain ⟨f1, f2, f3⟩ := h1 c
      rw [f1, f2, f3]; exact e2
    · rw [← e2]; exact why_any (by omega) _ _ _ _ _ _ _
  by_cases hr : r = -1
  · subst hr
    refine Or.inr ?_
    obtain ⟨w', hact9⟩ := n_can hM9.re hWm.1 hRm.1 e2'
    obtain ⟨A', hact', hR', hw'⟩ := act_abs hWm hRm hact9
    have hact : ActA (S m) (nI s) num x y z A' := by
      rcases Nat.lt_or_ge s 2 with c | c
      · obtain ⟨f1, f2, f3⟩ := h1 c
        rw [f1, f2, f3] at hact'; exact hact'
      · exact hact'.any (by omega) x y z
    have hk : kn x < 128 ∧ kn y < 128 ∧ kn z < 128 := by
      rcases Nat.lt_or_ge s 2 with c | c
      · rcases hact with ⟨_, _, _, _, _, _, q, _⟩ | ⟨_, _, _, _, _, q, _⟩ | ⟨q, _⟩ | ⟨q, _, _⟩
        · exact (row_k q).2.1
        · exact (row_k q).2.1
        · have := nI_inj (b := 2) q (by omega) (by omega)
          omega
        · rename_i q2 _ _
          rcases (by omega : s = 0 ∨ s = 1) with rfl | rfl
          · exact absurd rfl q
          · exact absurd rfl (by assumption)
      · obtain ⟨f1, f2, f3⟩ := h2 c
        rw [f1, f2, f3]; decide
    obtain ⟨a, v, b, S', g1, g2, g3, g4, g5, g6, g7, g8, g9, g10, g11, g12⟩ := act_two hM hM9 hA9 h hC hJ hs hk hact hact9 hR' hw' e1
    refine ⟨a, v, b, S', _, _, e2', g1, g2, g3, g4, g5, g6, ?_, g9, g10, g11, by rw [g7]; exact g12⟩
    have q1 := g6.2.2.1.2.1.1
    rw [g7, g10 17 (by omega) (by omega) (by omega) (by omega), hRm.1] at q1
    rw [g7]
    exact (nI_inj q1 (by have := hWm.1; omega) (by have := g8.1; omega)).symm
  · refine Or.inl ?_
    have e4 : ∃ n, n < 4 ∧ r = nI n := by
      rcases e3 with q | q | q | q | q
      · exact ⟨0, by omega, q⟩
      · exact ⟨1, by omega, q⟩
      · exact ⟨2, by omega, q⟩
      · exact ⟨3, by omega, q⟩
      · exact absurd q hr
    obtain ⟨n, hn, rfl⟩ := e4
    refine ⟨n, hn, ?_, e2'⟩
    unfold fX8_attempt
    rw [e1, obs, if_neg hr]
