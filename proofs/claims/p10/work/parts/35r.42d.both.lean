/-! the search of both, side by side -/
section TW
variable {B R0 : gM} {n k : Nat} {A : aT} {ls : List Nat} {qs : Nat → List Nat}
def wg (A : aT) (ls : List Nat) (d : Nat) (b x : Nat → Nat) (t : Nat) : Nat := if inB A ls t d = true then b t - x t else 0
/-- where both stand in the loop of a depth: c leaps behind -/
def LI (B R0 : gM) (n k : Nat) (A : aT) (ls : List Nat) (qs : Nat → List Nat) (d : Nat) (F : Nat → Int32) (a b : Nat → Nat) (t0 J0 : Nat) (M0 : gM) (c : Nat) (M I : gM) (J : Nat) (x : Nat → Nat) : Prop :=
  FRc k d M0 M ∧ (∀ t, t < 4 → inB A ls t d = true → M (k + 10) (4 * d + t) = nI (12 * t + x t) ∧ a t ≤ x t ∧ x t < b t ∧ ∀ j, a t ≤ j → j < x t → uq A ls qs t d j < uq A ls qs t d (x t)) ∧ (∀ t, t < 4 → A.2.1.testBit t = true → inB A ls t d = false → M (k + 10) (4 * d + t) = nI (12 * t + a t)) ∧ c + (wg A ls d b x 0 + wg A ls d b x 1 + wg A ls d b x 2 + wg A ls d b x 3) ≤ 48 ∧
  MI false R0 I ∧ Cx B I ∧ DS B n d F I ∧ (∀ e, e < d → I 75 (ls.getD e 0) = F (ls.getD e 0)) ∧ J ≤ J0 + 12 ^ (ls.length - (d + 1)) * stf I d t0 ∧
  OUT k ls M I J ∧ ∀ t, t < n → inB A ls t d = true → kf I d t = nI (uq A ls qs t d (x t))
theorem wg_sum {d t : Nat} {b x : Nat → Nat} (ht : t < 4) (h : inB A ls t d = true) {y : Nat} : (wg A ls d b x 0 + wg A ls d b x 1 + wg A ls d b x 2 + wg A ls d b x 3) + (b t - y) = (wg A ls d b (fun s => if s = t then y else x s) 0 + wg A ls d b (fun s => if s = t then y else x s) 1 + wg A ls d b (fun s => if s = t then y else x s) 2 + wg A ls d b (fun s => if s = t then y else x s) 3) + (b t - x t) := by
  have e : ∀ s, s ≠ t → wg A ls d b (fun s => if s = t then y else x s) s = wg A ls d b x s := fun s hs => by
    unfold wg
    dsimp only
    rw [if_neg hs]
  have e1 : wg A ls d b (fun s => if s = t then y else x s) t = b t - y := by
    unfold wg
    dsimp only
    rw [if_pos h, if_pos rfl]
  have e2 : wg A ls d b x t = b t - x t := by
    unfold wg
    rw [if_pos h]
  rcases (by omega : t = 0 ∨ t = 1 ∨ t = 2 ∨ t = 3) with rfl | rfl | rfl | rfl
  · have := e 1 (by omega); have := e 2 (by omega); have := e 3 (by omega); omega
  · have := e 0 (by omega); have := e 2 (by omega); have := e 3 (by omega); omega
  · have := e 0 (by omega); have := e 1 (by omega); have := e 3 (by omega); omega
  · have := e 0 (by omega); have := e 1 (by omega); have := e 2 (by omega); omega
/-- one leap of both -/
theorem leap_two (hW : WF A) (hR : RT B (B 70) A) (hn : n = A.1.length) (hS : Sq B ls) (hs : okS ls) (hB : Bs B n ls.length) (hQ : QS A ls qs) {d : Nat} (hd : d < ls.length) {F : Nat → Int32} {f a b : Nat → Nat} (hF : ∀ e, e < d → F (ls.getD e 0) = nI (f e) ∧ f e ≤ 99) {M0 : gM} (SX0 : SX M0 k A ls qs) (RG0 : RG M0 k A ls qs d f a b) {t0 J0 c : Nat} {M I : gM} {J : Nat} {x : Nat → Nat} (h : LI B R0 n k A ls qs d F a b t0 J0 M0 c M I J x) (ht0 : t0 < n) (it0 : inn B t0 d) {t g : Nat} (ht : t < 4) (hi : inB A ls t d = true) (hg : uq A ls qs t d (x t) < g) (g100 : g ≤ 100) :
    ∃ r r9, ((fX1_isLeapt k (nI (4 * d + t)) (nI g) M = some (0, r) ∧ fX9_leaps (nI d) (nI t) (nI g) I = some (0, r9) ∧ FRc k d M0 r ∧ OUT k ls r r9 J) ∨ (fX1_isLeapt k (nI (4 * d + t)) (nI g) M = some (1, r) ∧ fX9_leaps (nI d) (nI t) (nI g) I = some (1, r9) ∧ ∃ x', LI B R0 n k A ls qs d F a b t0 J0 M0 (c + 1) r r9 J x')) := by
  obtain ⟨l1, l2, l3, l4, l5, l6, l7, l8, l9, l10, l11⟩ := h
  have tn : t < n := by rw [hn]; exact inB_t hW hi
  have u := (inB_and.mp hi).1
  have S := l1.sx SX0
  have RG1 := l1.rg RG0
  obtain ⟨r1, r2, r3, r4, _⟩ := RG1 t ht u
  obtain ⟨x1, x2, x3, x4⟩ := l2 t ht hi
  obtain ⟨y', r, e8, p1, p2, p3, p4, p5, p6, p7, p8⟩ := c_isLeapt hW hs hQ S hd hi (show g < 1000 by omega) x1 r2 (by omega) r4
  have h4 := hs.1
  have hn4 := hW.1
  have hset := RG1.set hW hQ hd hi
  have it : inn B t d := (br_inn hW hR hS hs hB (by omega) hd).mpr hi
  obtain ⟨u1, u2, u3⟩ := l7 t tn it
  have kv := l11 t tn hi
  have u99 := uq_99 hW hQ hd hi (show x t < (qs t).length by omega)
  obtain ⟨bt, r9, e9, M9, C9, S9, mu, sl, s12, so, z1, z2, z3, z4, z5⟩ := n_leaps2 hB l5 l6 (by omega) l7 tn it (nI g) (by rw [kv, tnI (by omega), tnI (by omega)]; omega)
  obtain ⟨st', bt', r9', e9', _, g1, g2, g3, g4, g5, _, _, _, g8⟩ := n_leaps l5 (by omega) ht (nI g) u1.1 u1.2.1 u3 (by omega)
  rw [e9] at e9'
  obtain ⟨rfl, rfl⟩ := Prod.mk.inj (Option.some.inj e9')
  have hsf : stf r9 d t = st' := by
    unfold stf
    rw [g8, if_pos rfl, nIt (by have := u1.1; omega)]
  have b76 : r9 76 = I 76 := z1 76 (by omega) (by omega)
  have b62 : ∀ j, j ≠ 27 → r9 62 j = I 62 j := z2
  have hset9 : ∀ v, v < 1000 → ((∃ j, j < nkf I d t ∧ I 76 (12 * (4 * d + t) + j) = nI v) ↔ ∃ j, a t ≤ j ∧ j < b t ∧ uq A ls qs t d j = v) := fun v hv => by
    rw [hset v]
    exact br_set hW hR hS hs hB hd hi hF u1 hv
  have FR : FRc k d M0 r := l1.trans ⟨fun q q1 q2 q3 q4 q5 q6 q7 => p5 q q1 q7, fun j hj => p8 j (by omega), fun j _ => by rw [p5 _ (by omega) (by omega)], fun j _ => ⟨by rw [p5 _ (by omega) (by omega)], by rw [p5 _ (by omega) (by omega)]⟩, fun j hj => by rw [p6, if_neg (by omega)]⟩
  have OU : OUT k ls r r9 J := by
    obtain ⟨o1, o2, o3, o4, o5⟩ := l10
    refine ⟨by rw [p8 0 (by omega)]; exact o1, by rw [b62 26 (by omega)]; exact o2, by rw [p7, z4, o3], fun e he => ?_, fun j hj => ?_⟩
    · rw [p5 _ (by omega) (by omega), z1 79 (by omega) (by omega)]; exact o4 e he
    · obtain ⟨P, P1, P2, P3⟩ := o5 j hj
      exact ⟨P, P1, by rw [p5 _ (by omega) (by omega)]; exact P2, fun e he => by rw [z1 80 (by omega) (by omega)]; exact P3 e he⟩
  refine ⟨r, r9, ?_⟩
  by_cases c1 : y' < b t
  · -- the class is not at its end
    have v99 := uq_99 hW hQ hd hi (show y' < (qs t).length by omega)
    obtain ⟨j1, j2, j3⟩ := (hset9 (uq A ls qs t d y') (by omega)).mpr ⟨y', by omega, c1, rfl⟩
    obtain ⟨b1, k1⟩ := z5 j1 j2 (by rw [j3, tnI (by omega), tnI (by omega)]; have := p4 c1; omega)
    rw [if_pos c1] at e8
    rw [b1] at e9
    refine Or.inr ⟨e8, e9, fun s => if s = t then y' else x s, FR, fun s h1 h2 => ?_, fun s h1 h2 h3 => ?_, ?_, M9, C9, ?_, fun e he => ?_, ?_, OU, fun s h1 h2 => ?_⟩
    · dsimp only
      by_cases q : s = t
      · subst q
        rw [if_pos rfl, p6, if_pos rfl]
        refine ⟨rfl, by omega, c1, fun j w1 w2 => ?_⟩
        have := p4 c1
        rcases Nat.lt_or_ge j (x s) with w | w
        · have := x4 j w1 w; omega
        · have := p3 j w w2; omega
      · rw [if_neg q, p6, if_neg (by omega)]
        exact l2 s h1 h2
    · have q : s ≠ t := fun q => by rw [q, hi] at h3; exact absurd h3 (by decide)
      rw [p6, if_neg (by omega)]
      exact l3 s h1 h2 h3
    · have := wg_sum (A := A) (ls := ls) (d := d) (b := b) (x := x) ht hi (y := y')
      have : x t < y' := by
        rcases Nat.lt_or_ge (x t) y' with w | w
        · exact w
        · have : y' = x t := by omega
          rw [this] at c1
          have := p4 (by omega)
          rw [show y' = x t by omega] at this
          omega
      omega
    · rcases S9 with ⟨_, q⟩ | q
      · exact q
      · rw [b1] at q; exact absurd q (by decide)
    · rw [z1 75 (by omega) (by omega)]; exact l8 e he
    · refine Nat.le_trans l9 (Nat.add_le_add_left (Nat.mul_le_mul_left _ ?_) _)
      by_cases q : t0 = t
      · subst q; omega
      · rw [so t0 (by omega) q]; exact Nat.le_refl _
    · dsimp only
      by_cases q : s = t
      · subst q
        rw [if_pos rfl]
        -- both the least
        have hst : st' < nkf I d s := by
          rcases g5 with ⟨_, q⟩ | ⟨q, _⟩
          · exact q
          · rw [b1] at q; exact absurd q (by decide)
        obtain ⟨w, w99, ew⟩ := br_key hW hR hS hs hB hd hi u1 hst
        have ekf : kf r9 d s = nI w := by
          unfold kf
          rw [hsf, b76]; exact ew
        obtain ⟨m, m1, m2, m3⟩ := (hset9 w (by omega)).mp ⟨st', hst, ew⟩
        have gw : g ≤ w := by
          have := g4 hst
          rw [ew, tnI (by omega), tnI (by omega)] at this
          omega
        have le1 : w ≤ uq A ls qs s d y' := by
          rw [ekf, j3, tnI (by omega), tnI (by omega)] at k1
          omega
        have my : y' ≤ m := by
          rcases Nat.lt_or_ge m y' with q | q
          · exfalso
            rcases Nat.lt_or_ge m (x s) with z | z
            · have := x4 m m1 z; omega
            · have := p3 m z q; omega
          · exact q
        have le2 := RG1.mono hW hs hQ hd hi (show a s ≤ y' by omega) my m2
        rw [ekf]
        congr 1
        omega
      · rw [if_neg q]
        have e := l11 s h1 h2
        rw [← e]
        unfold kf
        rw [so s (by omega) q, b76]
  · -- both are at their ends
    rw [if_neg c1] at e8
    have b0 : bt = 0 := by
      rcases g5 with ⟨_, q⟩ | ⟨q, _⟩
      · exfalso
        obtain ⟨w, w99, ew⟩ := br_key hW hR hS hs hB hd hi u1 q
        obtain ⟨m, m1, m2, m3⟩ := (hset9 w (by omega)).mp ⟨st', q, ew⟩
        have := g4 q
        rw [ew, tnI (by omega), tnI (by omega)] at this
        rcases Nat.lt_or_ge m (x t) with z | z
        · have := x4 m m1 z; omega
        · have := p3 m z (by omega); omega
      · exact q
    rw [b0] at e9
    exact Or.inl ⟨e8, e9, FR, OU⟩
end TW
