/-! the class's search finds all that fits, each once, in order -/
section SO
variable {k : Nat} {A : aT} {ls : List Nat} {qs : Nat → List Nat}
/-- numbers for the letters, of which each table used has a row -/
def SQf (A : aT) (ls : List Nat) (qs : Nat → List Nat) (F : Nat → Nat) : Prop := ∀ t, t < 4 → A.2.1.testBit t = true → ∃ j, j < (qs t).length ∧ ∀ e, e < ls.length → inB A ls t e = true → uq A ls qs t e j = F e
def OK8 (k : Nat) (M : gM) (J : Nat) : Prop := M k 0 = nI J ∧ J ≤ 20736 ∧ ∀ j, j < J → M (k + 3) j = nI (kn (M (k + 3) j)) ∧ kn (M (k + 3) j) < 268435456
/-- row i is before row j -/
def LX (M : gM) (k : Nat) (ls : List Nat) (i j : Nat) : Prop := ∃ e, e < ls.length ∧ rdg M k i (ls.getD e 0) < rdg M k j (ls.getD e 0) ∧ ∀ e', e' < e → rdg M k i (ls.getD e' 0) = rdg M k j (ls.getD e' 0)
def NW (A : aT) (ls : List Nat) (qs : Nat → List Nat) (k d : Nat) (f : Nat → Nat) (M : gM) (J J' : Nat) : Prop := (∀ j, J ≤ j → j < J' → SQf A ls qs (fun e => rdg M k j (ls.getD e 0)) ∧ ∀ e, e < d → rdg M k j (ls.getD e 0) = f e) ∧ (∀ F, SQf A ls qs F → (∀ e, e < d → F e = f e) → ∃ j, J ≤ j ∧ j < J' ∧ ∀ e, e < ls.length → rdg M k j (ls.getD e 0) = F e) ∧ ∀ i j, J ≤ i → i < j → j < J' → LX M k ls i j
theorem rdg_eq {M r : gM} {k : Nat} (h : r (k + 3) = M (k + 3)) (j l : Nat) : rdg r k j l = rdg M k j l := by unfold rdg; rw [h]
theorem rdg_at {M r : gM} {k j : Nat} (h : r (k + 3) j = M (k + 3) j) (l : Nat) : rdg r k j l = rdg M k j l := by unfold rdg; rw [h]
theorem LX.of {M r : gM} {i j : Nat} (hi : r (k + 3) i = M (k + 3) i) (hj : r (k + 3) j = M (k + 3) j) (h : LX M k ls i j) : LX r k ls i j := by
  obtain ⟨e, h1, h2, h3⟩ := h
  exact ⟨e, h1, by rw [rdg_at hi, rdg_at hj]; exact h2, fun e' he => by rw [rdg_at hi, rdg_at hj]; exact h3 e' he⟩
/-- in the loop of a depth -/
def LSo (A : aT) (ls : List Nat) (qs : Nat → List Nat) (k d : Nat) (f a b : Nat → Nat) (M0 : gM) (J c : Nat) (M : gM) (J1 : Nat) (x : Nat → Nat) : Prop :=
  FRc k d M0 M ∧ (∀ t, t < 4 → inB A ls t d = true → M (k + 10) (4 * d + t) = nI (12 * t + x t) ∧ a t ≤ x t ∧ x t < b t ∧ ∀ j, a t ≤ j → j < x t → uq A ls qs t d j < uq A ls qs t d (x t)) ∧ (∀ t, t < 4 → A.2.1.testBit t = true → inB A ls t d = false → M (k + 10) (4 * d + t) = nI (12 * t + a t)) ∧ c + (wg A ls d b x 0 + wg A ls d b x 1 + wg A ls d b x 2 + wg A ls d b x 3) ≤ 48 ∧
  OK8 k M J1 ∧ J ≤ J1 ∧ (∀ j, j < J → M (k + 3) j = M0 (k + 3) j) ∧ (∀ j, J ≤ j → j < J1 → SQf A ls qs (fun e => rdg M k j (ls.getD e 0)) ∧ ∀ e, e < d → rdg M k j (ls.getD e 0) = f e) ∧ ∀ i j, J ≤ i → i < j → j < J1 → LX M k ls i j
theorem leap_c (hW : WF A) (hs : okS ls) (hQ : QS A ls qs) {d : Nat} (hd : d < ls.length) {f a b : Nat → Nat} {M0 : gM} (SX0 : SX M0 k A ls qs) (RG0 : RG M0 k A ls qs d f a b) {t0 J c : Nat} {M : gM} {J1 : Nat} {x : Nat → Nat} (h : LSo A ls qs k d f a b M0 J c M J1 x) {t v W p : Nat} (ht : t < 4) (hi : inB A ls t d = true) (hg : uq A ls qs t d (x t) < v) (v100 : v ≤ 100) (hv : ∀ F, SQf A ls qs F → (∀ e, e < d → F e = f e) → (∃ j, J ≤ j ∧ j < J1 ∧ ∀ e, e < ls.length → rdg M k j (ls.getD e 0) = F e) ∨ (v ≤ F d ∧ ∀ s, s < 4 → inB A ls s d = true → uq A ls qs s d (x s) ≤ F d)) (hD : ∀ j, J ≤ j → j < J1 → rdg M k j (ls.getD d 0) < v) (h6 : J1 ≤ J + W * (x t0 - a t0 + p)) (hp : p = 0 ∨ (p = 1 ∧ t = t0)) :
    ∃ r, (fX1_isLeapt k (nI (4 * d + t)) (nI v) M = some (0, r) ∧ FRc k d M0 r ∧ OK8 k r J1 ∧ (∀ j, j < J → r (k + 3) j = M0 (k + 3) j) ∧ NW A ls qs k d f r J J1) ∨ (fX1_isLeapt k (nI (4 * d + t)) (nI v) M = some (1, r) ∧ ∃ x', LSo A ls qs k d f a b M0 J (c + 1) r J1 x' ∧ J1 ≤ J + W * (x' t0 - a t0) ∧ (∃ s, s < 4 ∧ inB A ls s d = true ∧ ∀ j, J ≤ j → j < J1 → rdg r k j (ls.getD d 0) < uq A ls qs s d (x' s)) ∧ ∀ F, SQf A ls qs F → (∀ e, e < d → F e = f e) → (∃ j, J ≤ j ∧ j < J1 ∧ ∀ e, e < ls.length → rdg r k j (ls.getD e 0) = F e) ∨ ∀ s, s < 4 → inB A ls s d = true → uq A ls qs s d (x' s) ≤ F d) := by
  obtain ⟨l1, l2, l3, l4, l5, l6, l7, l8, l9⟩ := h
  have u := (inB_and.mp hi).1
  have S := l1.sx SX0
  have RG1 := l1.rg RG0
  obtain ⟨r1, r2, r3, r4, r5⟩ := RG1 t ht u
  obtain ⟨x1, x2, x3, x4⟩ := l2 t ht hi
  obtain ⟨y', r, e8, p1, p2, p3, p4, p5, p6, p7, p8⟩ := c_isLeapt hW hs hQ S hd hi (show v < 1000 by omega) x1 r2 (by omega) r4
  have h4 := hs.1
  have FR : FRc k d M0 r := l1.trans ⟨fun q q1 q2 q3 q4 q5 q6 q7 => p5 q q1 q7, fun j hj => p8 j (by omega), fun j _ => by rw [p5 _ (by omega) (by omega)], fun j _ => ⟨by rw [p5 _ (by omega) (by omega)], by rw [p5 _ (by omega) (by omega)]⟩, fun j hj => by rw [p6, if_neg (by omega)]⟩
  have k3 : r (k + 3) = M (k + 3) := p5 _ (by omega) (by omega)
  have OK : OK8 k r J1 := ⟨by rw [p8 0 (by omega)]; exact l5.1, l5.2.1, fun j hj => by rw [k3]; exact l5.2.2 j hj⟩
  have keep : ∀ j, j < J → r (k + 3) j = M0 (k + 3) j := fun j hj => by rw [k3]; exact l7 j hj
  have dg : ∀ j l, rdg r k j l = rdg M k j l := rdg_eq k3
  have rows : ∀ j, J ≤ j → j < J1 → SQf A ls qs (fun e => rdg r k j (ls.getD e 0)) ∧ ∀ e, e < d → rdg r k j (ls.getD e 0) = f e := fun j h1 h2 => by
    simp only [dg]
    exact l8 j h1 h2
  have srt : ∀ i j, J ≤ i → i < j → j < J1 → LX r k ls i j := fun i j h1 h2 h3 => (l9 i j h1 h2 h3).of (by rw [k3]) (by rw [k3])
  -- a number for the letter that is not found yet has a place behind the leap
  have wit : ∀ F, SQf A ls qs F → (∀ e, e < d → F e = f e) → v ≤ F d → y' < b t ∧ uq A ls qs t d y' ≤ F d := fun F hF hf hv => by
    obtain ⟨j, j1, j2⟩ := hF t ht u
    obtain ⟨ja, jb⟩ := (r5 j j1).mpr (fun e he hb => by rw [j2 e (by omega) hb]; exact hf e he)
    have jd := j2 d hd hi
    have jy : y' ≤ j := by
      rcases Nat.lt_or_ge j y' with z | z
      · exfalso
        rcases Nat.lt_or_ge j (x t) with w | w
        · have := x4 j ja w; omega
        · have := p3 j w z; omega
      · exact z
    have := RG1.mono hW hs hQ hd hi (show a t ≤ y' by omega) jy jb
    exact ⟨by omega, by omega⟩
  refine ⟨r, ?_⟩
  by_cases c1 : y' < b t
  · rw [if_pos c1] at e8
    have pv := p4 c1
    have xy : x t < y' := by
      rcases Nat.lt_or_ge (x t) y' with w | w
      · exact w
      · have e : y' = x t := by omega
        rw [e] at pv; omega
    refine Or.inr ⟨e8, fun s => if s = t then y' else x s, ⟨FR, fun s h1 h2 => ?_, fun s h1 h2 h3 => ?_, ?_, OK, l6, keep, rows, srt⟩, ?_, ⟨t, ht, hi, fun j h1 h2 => ?_⟩, fun F hF hf => ?_⟩
    · dsimp only
      by_cases q : s = t
      · subst q
        rw [if_pos rfl, p6, if_pos rfl]
        refine ⟨rfl, by omega, c1, fun j w1 w2 => ?_⟩
        rcases Nat.lt_or_ge j (x s) with w | w
        · have := x4 j w1 w; omega
        · have := p3 j w w2; omega
      · rw [if_neg q, p6, if_neg (by omega)]
        exact l2 s h1 h2
    · have q : s ≠ t := fun q => by rw [q, hi] at h3; exact absurd h3 (by decide)
      rw [p6, if_neg (by omega)]
      exact l3 s h1 h2 h3
    · have := wg_sum (A := A) (ls := ls) (d := d) (b := b) (x := x) ht hi (y := y')
      omega
    · dsimp only
      refine Nat.le_trans h6 (Nat.add_le_add_left (Nat.mul_le_mul_left _ ?_) _)
      by_cases q : t0 = t
      · rw [if_pos q, q]; omega
      · rw [if_neg q]
        rcases hp with hp | ⟨_, hp⟩
        · omega
        · exact absurd hp.symm q
    · dsimp only
      rw [if_pos rfl, dg]
      have := hD j h1 h2
      omega
    · rcases hv F hF hf with ⟨j, j1, j2, j3⟩ | ⟨hv1, hv2⟩
      · exact Or.inl ⟨j, j1, j2, fun e he => by rw [dg]; exact j3 e he⟩
      · refine Or.inr (fun s h1 h2 => ?_)
        dsimp only
        by_cases q : s = t
        · subst q
          rw [if_pos rfl]
          exact (wit F hF hf hv1).2
        · rw [if_neg q]; exact hv2 s h1 h2
  · rw [if_neg c1] at e8
    refine Or.inl ⟨e8, FR, OK, keep, rows, fun F hF hf => ?_, srt⟩
    rcases hv F hF hf with ⟨j, j1, j2, j3⟩ | ⟨hv1, _⟩
    · exact ⟨j, j1, j2, fun e he => by rw [dg]; exact j3 e he⟩
    · exact absurd (wit F hF hf hv1).1 c1
/-- numbers ahead of a depth, of which each table that has been met has a row -/
def NEo (A : aT) (ls : List Nat) (qs : Nat → List Nat) (d : Nat) (f : Nat → Nat) : Prop := ∀ t, t < 4 → A.2.1.testBit t = true → (∃ e, e < d ∧ inB A ls t e = true) → ∃ j, j < (qs t).length ∧ ∀ e, e < d → inB A ls t e = true → uq A ls qs t e j = f e
theorem so_go (hW : WF A) (hs : okS ls) (hQ : QS A ls qs) (hcov : ∀ t, t < 4 → A.2.1.testBit t = true → ∃ e, e < ls.length ∧ inB A ls t e = true) (hD : ∀ d, d < ls.length → ∃ t, t < 4 ∧ inB A ls t d = true) : ∀ (w d : Nat), d + w + 1 = ls.length → ∀ (fc : Nat), w < fc → ∀ (M : gM) (J : Nat) (f a b : Nat → Nat), SX M k A ls qs → RG M k A ls qs d f a b → PR M k ls d f → OK8 k M J → NEo A ls qs d f → J + 12 ^ (ls.length - d) ≤ 20736 →
    ∃ M' J', fX1_search fc k (nI d) M = some M' ∧ FRc k d M M' ∧ OK8 k M' J' ∧ J ≤ J' ∧ J' ≤ J + 12 ^ (ls.length - d) ∧ (∀ j, j < J → M' (k + 3) j = M (k + 3) j) ∧ NW A ls qs k d f M' J J' := by
  have h4 := hs.1
  have hn4 := hW.1
  intro w
  induction w using Nat.strongRecOn with
  | _ w ih =>
    intro d hdw fc hfc M J f a b S RG0 P0 O0 hNE hJ
    have hd : d < ls.length := by omega
    obtain ⟨fc, rfl⟩ : ∃ z, fc = z + 1 := ⟨fc - 1, by omega⟩
    have l4 := hs.2.1 d hd
    obtain ⟨v8, r8, e8, g1, g2, g3⟩ := c_isOpened hW hs hQ S hd RG0
    have FR8 : FRc k d M r8 := ⟨fun q _ _ _ _ _ _ h => g1 q h, fun j _ => by rw [g1 k (by omega)], fun j _ => by rw [g1 _ (by omega)], fun j _ => ⟨by rw [g1 _ (by omega)], by rw [g1 _ (by omega)]⟩, fun j hj => g2 j (Or.inl hj)⟩
    have k38 : r8 (k + 3) = M (k + 3) := g1 _ (by omega)
    have O8 : OK8 k r8 J := ⟨by rw [g1 k (by omega)]; exact O0.1, O0.2.1, fun j hj => by rw [k38]; exact O0.2.2 j hj⟩
    have eSc : fX1_search (fc + 1) k (nI d) M = if v8 = 0 then some r8 else ((lX1_search_19 (fun d I => fX1_search fc k d I) k (nI d) (nI 0, r8)).bind fun w7 => Sum.elim (fun w7_0 => some w7_0) (fun w7_1 => some w7_1) w7) := by
      show fX1_searchB (fun d I => fX1_search fc k d I) k (nI d) M = _
      unfold fX1_searchB
      rw [S.1, if_neg (mt (nI_leI (by omega) (by omega)).mp (by omega)), e8, obs]; rfl
    rw [eSc]
    rcases g3 with ⟨rfl, g4, g5⟩ | ⟨rfl, t, z1, z2, z3⟩
    · rw [if_neg n10]
      -- the first table that has the letter
      have ⟨t0, t04, i0, first0⟩ : ∃ t0, t0 < 4 ∧ inB A ls t0 d = true ∧ ∀ t', t' < t0 → ¬ inB A ls t' d = true := by
        obtain ⟨t, t1, t2⟩ := hD d hd
        rcases Classical.em (inB A ls 0 d = true) with q0 | q0
        · exact ⟨0, by omega, q0, fun t' h => absurd h (Nat.not_lt_zero _)⟩
        rcases Classical.em (inB A ls 1 d = true) with q1 | q1
        · exact ⟨1, by omega, q1, fun t' h => by rw [show t' = 0 by omega]; exact q0⟩
        rcases Classical.em (inB A ls 2 d = true) with q2 | q2
        · exact ⟨2, by omega, q2, fun t' h => by
            rcases (by omega : t' = 0 ∨ t' = 1) with rfl | rfl
            · exact q0
            · exact q1⟩
        · refine ⟨3, by omega, ?_, fun t' h => ?_⟩
          · rcases (by omega : t = 0 ∨ t = 1 ∨ t = 2 ∨ t = 3) with rfl | rfl | rfl | rfl
            · exact absurd t2 q0
            · exact absurd t2 q1
            · exact absurd t2 q2
            · exact t2
          · rcases (by omega : t' = 0 ∨ t' = 1 ∨ t' = 2) with rfl | rfl | rfl
            · exact q0
            · exact q1
            · exact q2
      have b12 : ∀ t, t < 4 → inB A ls t d = true → b t ≤ 12 := fun t ht hi => by
        have := (RG0 t ht (inB_and.mp hi).1).2.2.2.1
        have := (hQ t ht (inB_and.mp hi).1).1
        omega
      have L0' : LSo A ls qs k d f a b M J 0 r8 J a := by
        refine ⟨FR8, fun t ht hi => ?_, fun t ht hu hi => ?_, ?_, O8, Nat.le_refl _, fun j _ => by rw [k38], fun j h1 h2 => by omega, fun i j h1 h2 h3 => by omega⟩
        · rw [g4 t ht, (RG0 t ht (inB_and.mp hi).1).1]
          exact ⟨rfl, Nat.le_refl _, g5 t ht hi, fun j h1 h2 => by omega⟩
        · rw [g4 t ht, (RG0 t ht hu).1]
        · have wl : ∀ t, t < 4 → wg A ls d b a t ≤ 12 := fun t ht => by
            unfold wg
            by_cases c : inB A ls t d = true
            · rw [if_pos c]
              have := b12 t ht c
              omega
            · rw [if_neg c]; omega
          have := wl 0 (by omega)
          have := wl 1 (by omega)
          have := wl 2 (by omega)
          have := wl 3 (by omega)
          omega
      -- solutions stand behind the keys
      have C0 : ∀ F, SQf A ls qs F → (∀ e, e < d → F e = f e) → (∃ j, J ≤ j ∧ j < J ∧ ∀ e, e < ls.length → rdg r8 k j (ls.getD e 0) = F e) ∨ ∀ s, s < 4 → inB A ls s d = true → uq A ls qs s d (a s) ≤ F d := fun F hF hf => Or.inr (fun s h1 h2 => by
        obtain ⟨j, j1, j2⟩ := hF s h1 (inB_and.mp h2).1
        obtain ⟨ja, jb⟩ := ((RG0 s h1 (inB_and.mp h2).1).2.2.2.2 j j1).mpr (fun e he hb => by rw [j2 e (by omega) hb]; exact hf e he)
        rw [← j2 d hd h2]
        exact RG0.mono hW hs hQ hd h2 (Nat.le_refl _) ja jb)
      obtain ⟨W, hWd⟩ : ∃ W, W = 12 ^ (ls.length - (d + 1)) := ⟨_, rfl⟩
      have W12 : 12 ^ (ls.length - d) = W * 12 := by rw [hWd, show ls.length - d = ls.length - (d + 1) + 1 by omega, Nat.pow_succ]
      have W1 : 1 ≤ W := by rw [hWd]; exact Nat.pow_pos (by decide)
      rw [W12] at hJ ⊢
      have loop : ∀ (m c : Nat) (M1 : gM) (J1 : Nat) (x : Nat → Nat), 48 - c = m → LSo A ls qs k d f a b M J c M1 J1 x → J1 ≤ J + W * (x t0 - a t0) → (∃ s, s < 4 ∧ inB A ls s d = true ∧ ∀ j, J ≤ j → j < J1 → rdg M1 k j (ls.getD d 0) < uq A ls qs s d (x s)) → (∀ F, SQf A ls qs F → (∀ e, e < d → F e = f e) → (∃ j, J ≤ j ∧ j < J1 ∧ ∀ e, e < ls.length → rdg M1 k j (ls.getD e 0) = F e) ∨ ∀ s, s < 4 → inB A ls s d = true → uq A ls qs s d (x s) ≤ F d) → ∃ M' J', (∃ w, lX1_search_19 (fun d I => fX1_search fc k d I) k (nI d) (nI c, M1) = some w ∧ (w = .inl M' ∨ w = .inr M')) ∧ FRc k d M M' ∧ OK8 k M' J' ∧ J ≤ J' ∧ J' ≤ J + W * 12 ∧ (∀ j, j < J → M' (k + 3) j = M (k + 3) j) ∧ NW A ls qs k d f M' J J' := by
        intro m
        induction m using Nat.strongRecOn with
        | _ m ihm =>
          intro c M1 J1 x hm hL h6 h7 h10
          obtain ⟨q1, q2, q3, q4, q5, q6, q7, q8, q9⟩ := id hL
          have S1 := q1.sx S
          have RG1 := q1.rg RG0
          have P1 := q1.pr P0
          have hx : AT M1 k A ls qs d x := fun t ht hi => ⟨(q2 t ht hi).1, by have := (q2 t ht hi).2.2.1; have := (RG0 t ht (inB_and.mp hi).1).2.2.2.1; omega⟩
          have hc : c < 48 := by
            have h0 : 1 ≤ wg A ls d b x t0 := by
              unfold wg
              rw [if_pos i0]
              have := (q2 t0 t04 i0).2.2.1
              omega
            rcases (by omega : t0 = 0 ∨ t0 = 1 ∨ t0 = 2 ∨ t0 = 3) with z | z | z | z <;> rw [z] at h0 <;> omega
          have hlt : 48 - (c + 1) < m := by rw [← hm]; exact Nat.sub_succ_lt_self 48 c hc
          have un : ∀ t, t < 4 → inB A ls t d = true → uq A ls qs t d (x t) ≤ 99 := fun t ht hi => uq_99 hW hQ hd hi (hx t ht hi).2
          have x0 : x t0 - a t0 < 12 := by
            have := (q2 t0 t04 i0).2.2.1
            have := b12 t0 t04 i0
            omega
          have h6' : J1 + W ≤ J + W * 12 := by
            have : W * (x t0 - a t0 + 1) ≤ W * 12 := Nat.mul_le_mul_left _ (by omega)
            rw [Nat.mul_succ] at this
            omega
          obtain ⟨g, eg, hg⟩ := c_greatestKey hW hs hQ S1 hd hx
          obtain ⟨g', rfl, gle, tg, tg4, tgi, tge⟩ : ∃ g', g = nI g' ∧ (∀ t, t < 4 → inB A ls t d = true → uq A ls qs t d (x t) ≤ g') ∧ ∃ t, t < 4 ∧ inB A ls t d = true ∧ uq A ls qs t d (x t) = g' := by
            rcases hg with ⟨_, z⟩ | z
            · rw [z t0 t04] at i0; exact absurd i0 (by decide)
            · exact z
          have g99 : g' ≤ 99 := by rw [← tge]; exact un tg tg4 tgi
          obtain ⟨mr, el, hml⟩ := c_lowestBelow hW hs hQ S1 hd hx (v := g') (by omega)
          -- behind the leap of a table
          have go : ∀ {Y : Option (gM ⊕ gM)} {bt : Int32} {r : gM} {J2 : Nat}, J2 ≤ J + W * 12 → J ≤ J2 → Y = (if bt = 0 then some (.inl r) else lX1_search_19 (fun d I => fX1_search fc k d I) k (nI d) (nI (c + 1), r)) → ((bt = 0 ∧ FRc k d M r ∧ OK8 k r J2 ∧ (∀ j, j < J → r (k + 3) j = M (k + 3) j) ∧ NW A ls qs k d f r J J2) ∨ (bt = 1 ∧ ∃ x', LSo A ls qs k d f a b M J (c + 1) r J2 x' ∧ J2 ≤ J + W * (x' t0 - a t0) ∧ (∃ s, s < 4 ∧ inB A ls s d = true ∧ ∀ j, J ≤ j → j < J2 → rdg r k j (ls.getD d 0) < uq A ls qs s d (x' s)) ∧ ∀ F, SQf A ls qs F → (∀ e, e < d → F e = f e) → (∃ j, J ≤ j ∧ j < J2 ∧ ∀ e, e < ls.length → rdg r k j (ls.getD e 0) = F e) ∨ ∀ s, s < 4 → inB A ls s d = true → uq A ls qs s d (x' s) ≤ F d)) → ∃ M' J', (∃ w, Y = some w ∧ (w = .inl M' ∨ w = .inr M')) ∧ FRc k d M M' ∧ OK8 k M' J' ∧ J ≤ J' ∧ J' ≤ J + W * 12 ∧ (∀ j, j < J → M' (k + 3) j = M (k + 3) j) ∧ NW A ls qs k d f M' J J' := by
            intro Y bt r J2 hJ2 hJJ hY h
            rcases h with ⟨rfl, h1, h2, h3, h5⟩ | ⟨rfl, x', h1, h2, h3, h5⟩
            · rw [if_pos rfl] at hY
              exact ⟨r, J2, ⟨_, hY, Or.inl rfl⟩, h1, h2, hJJ, hJ2, h3, h5⟩
            · rw [if_neg n10] at hY
              rw [hY]
              exact ihm (48 - (c + 1)) hlt (c + 1) r J2 x' rfl h1 h2 h3 h5
          by_cases c2 : mr = -1
          · subst c2
            have all : ∀ t, t < 4 → inB A ls t d = true → uq A ls qs t d (x t) = g' := fun t ht hi => by
              rcases hml with ⟨t', y1, y2, _⟩ | ⟨_, y2⟩
              · exact absurd y2.symm (nI_m1 (by omega))
              · have := y2 t ht hi
                have := gle t ht hi
                omega
            -- rows found so far are less
            have less : ∀ j, J ≤ j → j < J1 → rdg M1 k j (ls.getD d 0) < g' := fun j h1 h2 => by
              obtain ⟨s, s1, s2, s3⟩ := h7
              rw [← all s s1 s2]; exact s3 j h1 h2
            obtain ⟨P, P28, Pe, Pf, Pz⟩ := P1
            have lz : d4 (ls.getD d 0) P = 0 := Pz _ l4 (fun e he => hs.2.2 e d (by omega) hd (by omega))
            obtain ⟨P', o1, o2, o3, o4⟩ := or4 P28 l4 (show g' < 128 by omega) lz
            generalize hM5 : g_up (g_up M1 (k + 1) d (M1 (k + 1) d + 1)) (k + 4) (d + 1) (nI P') = N5
            have y5 : ∀ q, q ≠ k + 1 → q ≠ k + 4 → N5 q = M1 q := fun q y1 y2 => by rw [← hM5, g_up_row y2, g_up_row y1]
            have y4 : ∀ j, N5 (k + 4) j = if j = d + 1 then nI P' else M1 (k + 4) j := fun j => by rw [← hM5, gu_in, g_up_row (by omega)]
            have FN : FRc k d M1 N5 := ⟨fun q _ h1 _ h2 _ _ _ => y5 q h1 h2, fun j _ => by rw [y5 k (by omega) (by omega)], fun j hj => by rw [y4, if_neg (by omega)], fun j _ => ⟨by rw [y5 _ (by omega) (by omega)], by rw [y5 _ (by omega) (by omega)]⟩, fun j _ => by rw [y5 _ (by omega) (by omega)]⟩
            have S5 := FN.sx S1
            have RG5 := FN.rg RG1
            have PR5 : PR N5 k ls (d + 1) (fun e => if e = d then g' else f e) := by
              refine ⟨P', o2, by rw [y4, if_pos rfl], fun e he => ?_, fun l hl hne => ?_⟩
              · dsimp only
                rcases (by omega : e < d ∨ e = d) with z | z
                · rw [if_neg (by omega), o4 _ (hs.2.1 e (by omega)) (hs.2.2 e d (by omega) hd (by omega))]; exact Pf e z
                · rw [if_pos z, z]; exact o3
              · rw [o4 l hl (fun z => hne d (by omega) z.symm)]
                exact Pz l hl (fun e he => hne e (by omega))
            have k35 : N5 (k + 3) = M1 (k + 3) := y5 _ (by omega) (by omega)
            have O5 : OK8 k N5 J1 := ⟨by rw [y5 k (by omega) (by omega)]; exact q5.1, q5.2.1, fun j hj => by rw [k35]; exact q5.2.2 j hj⟩
            have NE5 : NEo A ls qs (d + 1) (fun e => if e = d then g' else f e) := fun t ht hu hex => by
              by_cases hi : inB A ls t d = true
              · obtain ⟨_, w2, w3, _⟩ := q2 t ht hi
                have wl := (hx t ht hi).2
                have := ((RG0 t ht hu).2.2.2.2 (x t) wl).mp ⟨w2, w3⟩
                refine ⟨x t, wl, fun e he hb => ?_⟩
                dsimp only
                rcases (by omega : e < d ∨ e = d) with z | z
                · rw [if_neg (by omega)]; exact this e z hb
                · rw [if_pos z, z]; exact all t ht hi
              · obtain ⟨e0, he0, hb0⟩ := hex
                have : e0 ≠ d := fun z => hi (by rw [← z]; exact hb0)
                obtain ⟨j, j1, j2⟩ := hNE t ht hu ⟨e0, by omega, hb0⟩
                refine ⟨j, j1, fun e he hb => ?_⟩
                dsimp only
                rcases (by omega : e < d ∨ e = d) with z | z
                · rw [if_neg (by omega)]; exact j2 e z hb
                · rw [z] at hb; exact absurd hb hi
            -- the next depth
            have deep : ∃ r4 J', fX1_deepen (fun d I => fX1_search fc k d I) k (nI d) (nI g') M1 = some r4 ∧ FRc k d M1 r4 ∧ OK8 k r4 J' ∧ J1 ≤ J' ∧ J' ≤ J1 + W ∧ (∀ j, j < J1 → r4 (k + 3) j = M1 (k + 3) j) ∧ NW A ls qs k (d + 1) (fun e => if e = d then g' else f e) r4 J1 J' ∧ ∀ j, j < 4 * (d + 1) → r4 (k + 10) j = M1 (k + 10) j := by
              have eD : fX1_deepen (fun d I => fX1_search fc k d I) k (nI d) (nI g') M1 = if N5 k 2 ≤ nI (d + 1) then (if (20736 : Int32) ≤ N5 k 0 then some N5 else (rI 5 (N5 (k + 4)) (nI (d + 1))).bind fun u6 => (wI N5 (k + 3) 20736 (N5 k 0) u6).bind fun I7 => (pU I7 k 0 ((I7 k 0) + 1)).bind fun I8 => some I8) else (fX1_narrow k (nI d) (nI g') N5).bind fun r9 => (fX1_search fc k (nI (d + 1)) r9).bind fun r10 => some r10 := by
                unfold fX1_deepen
                rw [rI_n (by omega) (by omega), obs, wI_n (by omega) (by omega), obs, g_up_row (show k + 4 ≠ k + 1 by omega), rI_n (by omega) (by omega), obs, Pe, g_up_row (show k + 2 ≠ k + 1 by omega), rI_n (by omega) (by omega), obs, S1.2.1 d hd, o1, nI_1, wI_n (by omega) (by omega), obs, hM5]
              rw [eD, S5.1]
              by_cases hl : d + 1 = ls.length
              · -- a row
                have J1lt : J1 < 20736 := by omega
                rw [if_pos ((nI_leI (by omega) (by omega)).mpr (by omega)), O5.1, L20736, if_neg (mt (nI_leI (by omega) (by omega)).mp (by omega)), rI_n (by omega) (by omega), obs, y4, if_pos rfl, wI_n (by omega) (by omega), obs, pU_n, obs]
                have ek0 : g_up N5 (k + 3) J1 (nI P') k 0 = nI J1 := by rw [g_up_row (by omega)]; exact O5.1
                rw [ek0, nI_1]
                have r3 : ∀ j, (g_up (g_up N5 (k + 3) J1 (nI P')) k 0 (nI (J1 + 1))) (k + 3) j = if j = J1 then nI P' else M1 (k + 3) j := fun j => by
                  rw [g_up_row (by omega), gu_in, k35]
                generalize hr4 : g_up (g_up N5 (k + 3) J1 (nI P')) k 0 (nI (J1 + 1)) = r4 at *
                have rJ : kn (r4 (k + 3) J1) = P' := by
                  unfold kn
                  rw [r3, if_pos rfl, nIt (by omega)]
                have dJ : ∀ e, e < ls.length → rdg r4 k J1 (ls.getD e 0) = if e = d then g' else f e := fun e he => by
                  unfold rdg
                  rw [rJ]
                  obtain ⟨PP, _, pe, pf, _⟩ := PR5
                  have ePP : PP = P' := by
                    rw [y4, if_pos rfl] at pe
                    exact (nI_inj pe (by omega) (by omega)).symm
                  rw [← ePP]; exact pf e (by omega)
                refine ⟨r4, J1 + 1, rfl, FN.trans (by
                  rw [← hr4]
                  exact ⟨fun q h1 _ h3 _ _ _ _ => by rw [g_up_row h1, g_up_row h3], fun j hj => by rw [g_up_ne (Or.inr (by omega)), g_up_row (by omega)], fun j _ => by rw [g_up_row (by omega), g_up_row (by omega)], fun j _ => ⟨by rw [g_up_row (by omega), g_up_row (by omega)], by rw [g_up_row (by omega), g_up_row (by omega)]⟩, fun j _ => by rw [g_up_row (by omega), g_up_row (by omega)]⟩), ⟨by rw [← hr4, g_up_self], by omega, fun j hj => ?_⟩, by omega, by omega, fun j hj => by rw [r3, if_neg (by omega)], ⟨fun j h1 h2 => ?_, fun F hF hf => ⟨J1, Nat.le_refl _, by omega, fun e he => ?_⟩, fun i j h1 h2 h3 => by omega⟩, fun j _ => by rw [← hr4, g_up_row (by omega), g_up_row (by omega), y5 _ (by omega) (by omega)]⟩
                · rcases (by omega : j < J1 ∨ j = J1) with z | z
                  · rw [r3, if_neg (by omega)]; exact q5.2.2 j z
                  · rw [z, rJ, r3, if_pos rfl]; exact ⟨rfl, o2⟩
                · have : j = J1 := by omega
                  subst this
                  refine ⟨fun t ht hu => ?_, fun e he => dJ e (by omega)⟩
                  obtain ⟨j', j1, j2⟩ := NE5 t ht hu (by
                    obtain ⟨e, e1, e2⟩ := hcov t ht hu
                    exact ⟨e, by omega, e2⟩)
                  exact ⟨j', j1, fun e he hb => by dsimp only; rw [dJ e he]; exact j2 e (by omega) hb⟩
                · rw [dJ e he]; exact (hf e (by omega)).symm
              · -- deeper
                rw [if_neg (mt (nI_leI (by omega) (by omega)).mp (by omega))]
                have k10 : ∀ j, N5 (k + 10) j = M1 (k + 10) j := fun j => by rw [y5 _ (by omega) (by omega)]
                obtain ⟨rn, a', b', en, RGn, fn, fn2⟩ := c_narrow hW hs hQ S5 (d := d) (x := x) (by omega) RG5 (v := g') (by omega) (fun t ht hi => by
                  obtain ⟨w1, w2, w3, w4⟩ := q2 t ht hi
                  refine ⟨by rw [k10]; exact w1, w2, w3, all t ht hi, fun j h1 h2 => ?_⟩
                  have := w4 j h1 h2
                  rw [all t ht hi] at this
                  exact this) (fun t ht hu hi => by rw [k10]; exact q3 t ht hu hi)
                have Sn := S5.cong (r := rn) (by rw [fn k (by omega) (by omega)]) (fn _ (by omega) (by omega)) (fn _ (by omega) (by omega)) (fn _ (by omega) (by omega))
                have k3n : rn (k + 3) = M1 (k + 3) := (fn _ (by omega) (by omega)).trans k35
                have On : OK8 k rn J1 := ⟨by rw [fn k (by omega) (by omega)]; exact O5.1, O5.2.1, fun j hj => by rw [k3n]; exact q5.2.2 j hj⟩
                have PRn : PR rn k ls (d + 1) (fun e => if e = d then g' else f e) := by
                  obtain ⟨Q, Q1, Q2, Q3⟩ := PR5
                  exact ⟨Q, Q1, by rw [fn _ (by omega) (by omega)]; exact Q2, Q3⟩
                obtain ⟨M', J2, b1, b2, b3, b4, b5, b6, b7⟩ := ih (w - 1) (by omega) (d + 1) (by omega) fc (by omega) rn J1 _ a' b' Sn RGn PRn On NE5 (by rw [← hWd]; omega)
                rw [en, obs, b1, obs]
                obtain ⟨c1, c2, c3, c4, c5⟩ := b2
                refine ⟨M', J2, rfl, FN.trans ⟨fun q h1 h2 h3 h5 h8 h9 h10 => by rw [c1 q h1 h2 h3 h5 h8 h9 h10, fn q h8 h9], fun j hj => by rw [c2 j hj, fn k (by omega) (by omega)], fun j hj => by rw [c3 j (by omega), fn _ (by omega) (by omega)], fun j hj => ⟨by rw [(c4 j (by omega)).1, (fn2 j hj).1], by rw [(c4 j (by omega)).2, (fn2 j hj).2]⟩, fun j hj => by rw [c5 j (by omega), fn _ (by omega) (by omega)]⟩, b3, b4, by rw [hWd]; exact b5, fun j hj => by rw [b6 j hj, k3n], b7, fun j hj => by rw [c5 j hj, fn _ (by omega) (by omega), k10]⟩
            obtain ⟨r4, J', d1, d2, d3, d4a, d5, d6, d7, d8⟩ := deep
            have S4 := d2.sx S1
            have dg4 : ∀ j, j < J1 → ∀ l, rdg r4 k j l = rdg M1 k j l := fun j hj l => rdg_at (d6 j hj) l
            have new : ∀ j, J1 ≤ j → j < J' → SQf A ls qs (fun e => rdg r4 k j (ls.getD e 0)) ∧ (∀ e, e < d → rdg r4 k j (ls.getD e 0) = f e) ∧ rdg r4 k j (ls.getD d 0) = g' := fun j h1 h2 => by
              obtain ⟨n1, n2⟩ := d7.1 j h1 h2
              refine ⟨n1, fun e he => ?_, ?_⟩
              · have := n2 e (by omega)
                dsimp only at this
                rwa [if_neg (by omega)] at this
              · have := n2 d (by omega)
                dsimp only at this
                rwa [if_pos rfl] at this
            have L11 : LSo A ls qs k d f a b M J c r4 J' x := by
              refine ⟨q1.trans d2, fun t ht hi => ?_, fun t ht hu hi => ?_, q4, d3, by omega, fun j hj => by rw [d6 j (by omega)]; exact q7 j hj, fun j h1 h2 => ?_, fun i j h1 h2 h3 => ?_⟩
              · rw [d8 _ (by omega)]; exact q2 t ht hi
              · rw [d8 _ (by omega)]; exact q3 t ht hu hi
              · rcases Nat.lt_or_ge j J1 with z | z
                · simp only [dg4 j z]
                  exact q8 j h1 z
                · exact ⟨(new j z h2).1, (new j z h2).2.1⟩
              · rcases Nat.lt_or_ge j J1 with z | z
                · exact (q9 i j h1 h2 z).of (d6 i (by omega)) (d6 j z)
                · rcases Nat.lt_or_ge i J1 with y | y
                  · refine ⟨d, hd, ?_, fun e he => ?_⟩
                    · rw [dg4 i y, (new j z h3).2.2]; exact less i h1 y
                    · rw [dg4 i y, (new j z h3).2.1 e he]; exact (q8 i h1 y).2 e he
                  · exact d7.2.2 i j y h2 h3
            have hx4 : AT r4 k A ls qs d x := fun t ht hi => ⟨by rw [d8 _ (by omega)]; exact (hx t ht hi).1, (hx t ht hi).2⟩
            obtain ⟨m5, e5, h5⟩ := c_lowestBelow hW hs hQ S4 hd hx4 (v := 100) (by omega)
            have em5 : m5 = nI t0 := by
              rcases h5 with ⟨t, y1', y2', y3', y4', y5'⟩ | ⟨_, y2'⟩
              · rw [y2']
                rcases Nat.lt_trichotomy t t0 with z | z | z
                · exact absurd y3' (fun q => first0 t z q)
                · rw [z]
                · exfalso
                  have := y5' t0 z i0
                  have := un t0 t04 i0
                  omega
              · exfalso
                have := y2' t0 t04 i0
                have := un t0 t04 i0
                omega
            subst em5
            obtain ⟨r, hlp⟩ := leap_c hW hs hQ hd S RG0 L11 (t0 := t0) (t := t0) (v := g' + 1) (W := W) (p := 1) t04 i0 (by rw [all t0 t04 i0]; omega) (by omega) (fun F hF hf => by
              by_cases z : F d = g'
              · obtain ⟨j, j1, j2, j3⟩ := d7.2.1 F hF (fun e he => by
                  dsimp only
                  rcases (by omega : e < d ∨ e = d) with y | y
                  · rw [if_neg (by omega)]; exact hf e y
                  · rw [if_pos y, y]; exact z)
                exact Or.inl ⟨j, by omega, j2, j3⟩
              · rcases h10 F hF hf with ⟨j, j1, j2, j3⟩ | h10
                · exact Or.inl ⟨j, j1, by omega, fun e he => by rw [dg4 j j2]; exact j3 e he⟩
                · have := h10 tg tg4 tgi
                  exact Or.inr ⟨by omega, h10⟩) (fun j h1 h2 => by
                rcases Nat.lt_or_ge j J1 with z | z
                · rw [dg4 j z]; have := less j h1 z; omega
                · rw [(new j z h2).2.2]; omega) (by rw [Nat.mul_succ]; omega) (Or.inr ⟨rfl, rfl⟩)
            have e4t : (nI d * 4) + nI t0 = nI (4 * d + t0) := by rw [L4, nI_mul, nI_add]; congr 1; omega
            have eg1 : nI g' + 1 = nI (g' + 1) := nI_1 _
            rcases hlp with ⟨w1, w2⟩ | ⟨w1, w2⟩
            · exact go (by omega) (by omega) (cs_found hc eg el d1 e5 (nI_m1 (by omega)) (by rw [e4t, eg1]; exact w1)) (Or.inl ⟨rfl, w2⟩)
            · exact go (by omega) (by omega) (cs_found hc eg el d1 e5 (nI_m1 (by omega)) (by rw [e4t, eg1]; exact w1)) (Or.inr ⟨rfl, w2⟩)
          · -- one is behind
            obtain ⟨t, y1, y2, y3, y4, y5⟩ := hml.resolve_right (fun z => c2 z.1)
            subst y2
            have e4t : (nI d * 4) + nI t = nI (4 * d + t) := by rw [L4, nI_mul, nI_add]; congr 1; omega
            obtain ⟨r, hlp⟩ := leap_c hW hs hQ hd S RG0 hL (t0 := t0) (t := t) (v := g') (W := W) (p := 0) y1 y3 y4 (by omega) (fun F hF hf => by
              rcases h10 F hF hf with h10 | h10
              · exact Or.inl h10
              · have := h10 tg tg4 tgi
                exact Or.inr ⟨by omega, h10⟩) (fun j h1 h2 => by
              obtain ⟨s, s1, s2, s3⟩ := h7
              have := s3 j h1 h2
              have := gle s s1 s2
              omega) (by rw [Nat.add_zero]; exact h6) (Or.inl rfl)
            rcases hlp with ⟨w1, w2⟩ | ⟨w1, w2⟩
            · exact go (by omega) q6 (cs_step hc eg el (nI_m1 (by omega)) (by rw [e4t]; exact w1)) (Or.inl ⟨rfl, w2⟩)
            · exact go (by omega) q6 (cs_step hc eg el (nI_m1 (by omega)) (by rw [e4t]; exact w1)) (Or.inr ⟨rfl, w2⟩)
      obtain ⟨M', J', ⟨w7, ew, hw⟩, h1⟩ := loop 48 0 r8 J a rfl L0' (by omega) ⟨t0, t04, i0, fun j h1 h2 => by omega⟩ C0
      refine ⟨M', J', ?_, h1⟩
      rw [ew, obs]
      rcases hw with rfl | rfl
      · rfl
      · rfl
    · rw [if_pos rfl]
      refine ⟨r8, J, rfl, FR8, O8, Nat.le_refl _, Nat.le_add_right _ _, fun j _ => by rw [k38], fun j h1 h2 => by omega, fun F hF hf => ?_, fun i j h1 h2 h3 => by omega⟩
      exfalso
      obtain ⟨j, j1, j2⟩ := hF t z1 (inB_and.mp z2).1
      obtain ⟨ja, jb⟩ := ((RG0 t z1 (inB_and.mp z2).1).2.2.2.2 j j1).mpr (fun e he hb => by rw [j2 e (by omega) hb]; exact hf e he)
      omega
end SO
