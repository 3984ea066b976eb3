/-! an act of both -/
theorem why_cong {M I : gM} (h17 : M 62 17 = I 62 17) (h70 : M 70 = I 70) (h72 : M 72 = I 72) (s a x y z : Int32) : fX9_whyNot s a x y z M = fX9_whyNot s a x y z I := by
  simp only [fX9_whyNot, fX9_whyPut, fX9_whyTake, fX9_isTable, fX9_isRow, bX9_isRow_84, bX9_isRow_47, bX9_isRow_46, bX9_isRow_42, fX9_hasRow, fX9_many, fX9_countLess, lX9_countLess_3, fX9_compares, fX9_areTables, h17, h70, h72]
theorem ActA.any {A A' : aT} {s : Nat} {a x y z : Int32} (hs : s = 2 ∨ s = 3) (h : ActA A (nI s) a x y z A') (x' y' z' : Int32) : ActA A (nI s) a x' y' z' A' := by
  have n0 : ¬ nI s = 0 := by rcases hs with rfl | rfl <;> decide
  have n1 : ¬ nI s = 1 := by rcases hs with rfl | rfl <;> decide
  rcases h with ⟨q, _⟩ | ⟨q, _⟩ | h | h
  · exact absurd q n0
  · exact absurd q n1
  · exact Or.inr (Or.inr (Or.inl h))
  · exact Or.inr (Or.inr (Or.inr h))
theorem why_any {I : gM} {s : Nat} (hs : s = 2 ∨ s = 3) (a x y z x' y' z' : Int32) : fX9_whyNot (nI s) a x y z I = fX9_whyNot (nI s) a x' y' z' I := by
  unfold fX9_whyNot
  rcases hs with rfl | rfl
  · rw [if_neg (show ¬ nI 2 = 0 by decide), if_neg (show ¬ nI 2 = 1 by decide), if_neg (show ¬ nI 2 = 0 by decide), if_neg (show ¬ nI 2 = 1 by decide)]
  · rw [if_neg (show ¬ nI 3 = 0 by decide), if_neg (show ¬ nI 3 = 1 by decide), if_neg (show ¬ nI 3 = 0 by decide), if_neg (show ¬ nI 3 = 1 by decide)]
theorem ActA.pos {A A' : aT} {s a x y z : Int32} (h : ActA A s a x y z A') : 0 < A.1.length := by
  rcases h with ⟨_, t, _, ht, _⟩ | ⟨_, t, _, ht, _⟩ | ⟨_, t, ht, _⟩ | ⟨_, _, _, _, _, _, _, h, _⟩
  · omega
  · omega
  · omega
  · exact h
/-- the joins have as many rows -/
def JE : Prop := ∀ (A : aT) (I0 I0' I8 r8 I9 r9 : gM), WF A → 0 < A.1.length → MI true I0 I8 → CT I8 3 A → I8 22 0 = 0 → fX8_renew I8 = some r8 → MI false I0' I9 → RT I9 (I9 70) A → fX9_joinsNow I9 = some r9 → r8 18 0 = r9 62 26
theorem act_both {C : Nat} {I : gM} (hM : MI true I I) (hA9 : A9 I) {S : Nat → aT} {m nx : Nat} (h : InvS C I S m nx) (hC : C ≤ 3) (hJ : C = 3 → JE ∧ I 22 0 = 0) {s : Nat} (hs : s < 4) {num x y z x' y' z' : Int32} {A' : aT} {w' : Nat → Int32} (hk : kn x < 128 ∧ kn y < 128 ∧ kn z < 128) (hact : ActA (S m) (nI s) num x y z A') (hact9 : Act9 (S m).1.length (I 72) (I 70) (nI s) num x' y' z' w') (hR' : RT I w' A') (hw' : ∀ j, 150 ≤ j → w' j = I 70 j) (hr : fX5_refusal 3 (nI s) num x y z I = some (-1)) :
    ∃ a v b S', fX8_attempt (nI s) num x y z I = some (-1, a) ∧ fX9_act (nI s) num x' y' z' a = some (v, b) ∧ MI true I a ∧ MI false a b ∧ A9 b ∧ InvS C b S' (min (m + 1) 40) ((nx + 1) % 40) ∧ S' (min (m + 1) 40) = A' ∧ WF A' ∧ CT a 3 A' ∧ (∀ q, q = 0 ∨ q = 1 ∨ q = 2 ∨ 50 ≤ q ∧ q < 62 → a q = I q) ∧ (∀ j, j ≠ 19 → j ≠ 26 → j ≠ 27 → j ≠ 29 → b 62 j = a 62 j) ∧ (∀ k, k ≠ 62 → k ≠ 70 → k ≠ 74 → k ≠ 75 → k ≠ 76 → k ≠ 77 → k ≠ 78 → k ≠ 79 → k ≠ 80 → k ≠ 81 → b k = a k) ∧
      (s < 2 → ∃ t, t < (S m).1.length ∧ num = nI t ∧ v = nI (aK A' t).length) ∧ (s = 2 → ∃ t, t < (S m).1.length ∧ num = nI t ∧ v = if A'.2.1.testBit t then 1 else 0) ∧ (s = 3 → v = nI (S m).2.2) := by
  obtain ⟨⟨a1, a2, a3, a4, a5⟩, hW, ⟨b1, b2, b3⟩, hk9, ⟨c1, c2⟩, c3⟩ := h
  have hWm := hW m (Nat.le_refl _)
  have hWA := hWm.act hact
  have hn : A'.1.length = (S m).1.length := nI_inj (hR'.1.symm.trans b2.1) (by have := hWA.1; omega) (by have := hWm.1; omega)
  obtain ⟨nl, H, l1, l2, _, l4, l5, l6, _⟩ := id b3
  rw [Nat.sub_zero] at l6
  obtain ⟨r4, r5, a, e1, M4, C4, e5, Ma, Ca, p1, p2, p3, q1, q2, q3, fr, fj, f3, f22⟩ := c_attempt hM hs hk hWm b1 hact hr a2 a4 a1 a3 l1 l4 l2 l5
  have hi : ∀ k, 62 ≤ k → a k = I k := fun k hk => Ma.hi hk
  obtain ⟨I9, rj, v, b, j1, j2, j3, j4, j5, j6, j7, j8, j9, j10, j11, j12, j13, j14, v1, v2, v3⟩ := n_act (I0 := a) (I := a) Ma.re (A9.hi Ma hA9) (n := (S m).1.length) (A := m) (L := min H 60) hWm.1 (by rw [hi 62 (by omega)]; exact b2.1) a1 (by rw [hi 62 (by omega)]; exact a5) (by omega) (by rw [hi 70 (by omega)]; exact l6) (s := nI s) (a := num) (x := x') (y := y') (z := z') (w' := w') (by rw [hi 72 (by omega), hi 70 (by omega)]; exact hact9)
  have lo : ∀ k, k < 62 → b k = a k := fun k hk => j4.lo hk
  have b62 : ∀ j, j ≠ 19 → j ≠ 26 → j ≠ 27 → j ≠ 29 → b 62 j = I 62 j := fun j h1 h2 h3 h4 => by rw [j13 j h1 h2 h3 h4, hi 62 (by omega)]
  have bk : ∀ k, 71 ≤ k → k ≠ 74 → k ≠ 75 → k ≠ 76 → k ≠ 77 → k ≠ 78 → k ≠ 79 → k ≠ 80 → k ≠ 81 → b k = I k := fun k h1 h2 h3 h4 h5 h6 h7 h8 h9 => by rw [j14 k (by omega) (by omega) h2 h3 h4 h5 h6 h7 h8 h9, hi k (by omega)]
  -- the rows at a place: of the ones kept, or now
  let W : Nat → Nat → Int32 := fun j => if j < m then kept9 I j else I 70
  have hWj : ∀ j, j ≤ m → RT I (W j) (S j) ∧ LG C I 44 (m - j) (W j) := fun j hj => by
    rcases Nat.lt_or_ge j m with c | c
    · show RT I (if j < m then kept9 I j else I 70) _ ∧ LG C I 44 _ (if j < m then kept9 I j else I 70)
      rw [if_pos c]; exact ⟨(hk9 j c).1, (hk9 j c).2.1⟩
    · have : j = m := by omega
      subst this
      show RT I (if j < j then kept9 I j else I 70) _ ∧ LG C I 44 _ (if j < j then kept9 I j else I 70)
      rw [if_neg (by omega), Nat.sub_self]; exact ⟨b2, b3⟩
  let δ : Nat := if m = 40 then 1 else 0
  have hδ : (m = 40 ∧ δ = 1) ∨ (m < 40 ∧ δ = 0) := by
    by_cases c : m = 40
    · exact Or.inl ⟨c, if_pos c⟩
    · exact Or.inr ⟨by omega, if_neg c⟩
  have hkb : ∀ j, j < min (m + 1) 40 → ∀ x, x < 331 → kept9 b j x = W (j + δ) x := by
    intro j hj x hx
    show b 81 (331 * j + x) = (if j + δ < m then kept9 I (j + δ) else I 70) x
    rw [j11, hi 81 (by omega), hi 70 (by omega)]
    unfold kp9
    rcases hδ with ⟨c, d⟩ | ⟨c, d⟩
    · rw [if_pos c, d]
      by_cases f : j + 1 < m
      · rw [if_pos f, if_neg (by omega), if_pos (by omega)]
        exact congrArg (I 81) (by omega)
      · rw [if_neg f, if_pos (by omega)]
        exact congrArg (I 70) (by omega)
    · rw [if_neg (by omega), d]
      by_cases f : j + 0 < m
      · rw [if_pos f, if_neg (by omega)]; rfl
      · rw [if_neg f, if_pos (by omega)]
        exact congrArg (I 70) (by omega)
  generalize hδ' : δ = dl at *
  let S' : Nat → aT := fun j => if j + dl = m + 1 then A' else S (j + dl)
  have hS1 : ∀ j, j + dl = m + 1 → S' j = A' := fun j e => if_pos e
  have hS2 : ∀ j, j + dl ≠ m + 1 → S' j = S (j + dl) := fun j e => if_neg e
  have hmm : min (m + 1) 40 + dl = m + 1 := by omega
  have RTb : ∀ {A : aT} {w u : Nat → Int32}, WF A → RT I w A → (∀ x, x < 150 → u x = w x) → RT b u A := fun hA q e => q.cong (b62 17 (by omega) (by omega) (by omega) (by omega)) (bk 72 (by omega) (by omega) (by omega) (by omega) (by omega) (by omega) (by omega) (by omega) (by omega)) (bk 73 (by omega) (by omega) (by omega) (by omega) (by omega) (by omega) (by omega) (by omega) (by omega)) hA.1 hA.k12 e
  have CTb : CT b 3 A' := Ca.cong (fun j _ => by rw [lo 3 (by omega)]) (lo 4 (by omega)) (lo 5 (by omega)) (lo 6 (by omega)) (lo 7 (by omega))
  have hv : C = 3 → r5 18 0 = rj 62 26 := fun c => by
    refine (hJ c).1 A' I a r4 r5 I9 rj hWA (by rw [hn]; exact hact.pos) M4 C4 (by rw [f22]; exact (hJ c).2) e5 j2 ?_ j1
    exact hR'.cong (by rw [j7 17 (by omega), hi 62 (by omega)]) (by rw [j6 72 (by omega) (by omega) (by omega), hi 72 (by omega)]) (by rw [j6 73 (by omega) (by omega) (by omega), hi 73 (by omega)]) hWA.1 hWA.k12 j8
  refine ⟨a, v, b, S', e1, j3, Ma, j4, j5, ⟨⟨by omega, by omega, by rw [lo 48 (by omega)]; exact p2, by rw [lo 48 (by omega)]; exact p1, by rw [j12]; congr 1; split <;> omega⟩, fun j hj => ?_, ⟨?_, ?_, ?_⟩, fun j hj => ⟨?_, ?_, ?_⟩, ⟨?_, fun q => ?_⟩, fun j hj => ?_⟩, hS1 _ hmm, hWA, Ca, fun q hq => fr q (by omega), j13, j14, fun c => ?_, fun c => ?_, fun c => ?_⟩
  · by_cases c : j + dl = m + 1
    · rw [hS1 j c]; exact hWA
    · rw [hS2 j c]; exact hW _ (by omega)
  · rw [hS1 _ hmm]; exact CTb
  · rw [hS1 _ hmm]
    refine RTb hWA hR' (fun x hx => ?_)
    rw [j10]
    unfold lg9
    rw [if_neg (by omega), if_neg (by omega), if_neg (by omega), if_neg (by omega), if_neg (by omega)]
  · rw [j10]
    exact (b3.new hC hv l4 l1 l5 l2 q1 q2 q3 hw').cong hC (lo 44 (by omega)) (lo 45 (by omega)) (fun _ _ _ => rfl)
  · rw [hS2 j (by omega)]
    exact RTb (hW _ (by omega)) (hWj (j + dl) (by omega)).1 (fun x hx => hkb j hj x (by omega))
  · have q := ((hWj (j + dl) (by omega)).2.old hC (by omega) l4 l1 l5 l2 q1 q2 q3).cong (r := b) (w' := kept9 b j) hC (lo 44 (by omega)) (lo 45 (by omega)) (fun x _ hx => hkb j hj x hx)
    rw [show m - (j + dl) + 1 = min (m + 1) 40 - j by omega] at q
    exact q
  · rw [hS2 j (by omega)]
    by_cases c : j + 1 + dl = m + 1
    · rw [hS1 (j + 1) c, show j + dl = m by omega, show min (m + 1) 40 - 1 - j = 0 by omega]
      exact (stepA.new hs hact a2 p3).cong (lo 49 (by omega))
    · rw [hS2 (j + 1) c, show j + 1 + dl = j + dl + 1 by omega, show min (m + 1) 40 - 1 - j = m - 1 - (j + dl) + 1 by omega]
      exact ((hk9 (j + dl) (by omega)).2.2.old (by omega) a2 p3).cong (lo 49 (by omega))
  · rw [lo 0 (by omega), fr 0 (by omega), b62 42 (by omega) (by omega) (by omega) (by omega)]; exact c1
  · rw [b62 42 (by omega) (by omega) (by omega) (by omega)] at q
    obtain ⟨B, d1, d2, d3, d4⟩ := c2 q
    have l13 : ∀ k, 13 ≤ k → k ≤ 17 → b k = I k := fun k h1 h2 => by rw [lo k (by omega), fr k (by omega)]
    have l46 : ∀ k, 46 ≤ k → k ≤ 47 → b k = I k := fun k h1 h2 => by rw [lo k (by omega), fr k (by omega)]
    have l89 : b 89 = I 89 := bk 89 (by omega) (by omega) (by omega) (by omega) (by omega) (by omega) (by omega) (by omega) (by omega)
    exact ⟨B, d1, d2.cong (fun j _ => by rw [l13 13 (by omega) (by omega)]) (l13 14 (by omega) (by omega)) (l13 15 (by omega) (by omega)) (l13 16 (by omega) (by omega)) (l13 17 (by omega) (by omega)), RTb d1 d3 (fun x _ => by rw [l89]), by rw [l89]; exact d4.cong hC (l46 46 (by omega) (by omega)) (l46 47 (by omega) (by omega)) (fun _ _ _ => rfl)⟩
  · rw [lo 53 (by omega), fr 53 (by omega), bk 71 (by omega) (by omega) (by omega) (by omega) (by omega) (by omega) (by omega) (by omega) (by omega)]; exact c3 j hj
  · obtain ⟨t, t1, t2, t3⟩ := v1 (by rcases (by omega : s = 0 ∨ s = 1) with rfl | rfl; exact Or.inl rfl; exact Or.inr rfl)
    exact ⟨t, t1, t2, by rw [t3]; exact (hR'.2.2.2 t (by omega)).2.2.1⟩
  · obtain ⟨t, t1, t2, t3⟩ := v2 (by rw [c]; rfl)
    have h4 := hWm.1
    have hu : A'.2.1 < 16 := hWA.u
    refine ⟨t, t1, t2, ?_⟩
    rw [hR'.2.1, hs_nI hu (by omega)] at t3
    by_cases d : A'.2.1.testBit t = true
    · rw [if_pos d]
      rcases t3 with ⟨_, e⟩ | ⟨q, _⟩
      · exact e
      · exact absurd d q
    · rw [if_neg d]
      rcases t3 with ⟨q, _⟩ | ⟨_, e⟩
      · exact absurd q d
      · exact e
  · rw [v3 (by rw [c]; decide) (by rw [c]; decide) (by rw [c]; decide), hi 70 (by omega)]; exact b2.2.2.1
