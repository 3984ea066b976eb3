/-! the class lays the rows sorted -/
theorem c_fill {k0 n0 : Nat} {v : Int32} {M : gM} (hn : n0 < 1000) : ∃ r, fJ7_fill_53178 k0 n0 v M = some r ∧ (∀ q, q ≠ k0 → r q = M q) ∧ ∀ j, j < n0 → r k0 j = v := by
  have key : T (lJ7_fill_53178_5 k0 n0 v (nI n0) (nI 0, M)) (fun r => (∀ q, q ≠ k0 → r q = M q) ∧ ∀ j, j < n0 → r k0 j = v) := by
    unfold lJ7_fill_53178_5
    refine t_it (P := fun s => ∃ i, i ≤ n0 ∧ s.1 = nI i ∧ (∀ q, q ≠ k0 → s.2 q = M q) ∧ ∀ j, j < i → s.2 k0 j = v) (μ := fun s => 2000 - s.1.toInt.toNat) (fun s p => ?_) ⟨0, by omega, rfl, fun _ _ => rfl, fun j hj => absurd hj (Nat.not_lt_zero j)⟩
    obtain ⟨s1, N⟩ := s
    obtain ⟨i, hi, e, p1, p2⟩ := p
    dsimp only at e p1 p2
    subst e
    dsimp only
    refine t_ite (fun c => ?_) (fun c => ?_)
    · have c := (nI_leI (by omega) (by omega)).mp c
      have : i = n0 := by omega
      subst this
      exact t_ret (show (∀ q, q ≠ k0 → N q = M q) ∧ _ from ⟨p1, p2⟩)
    · have c := mt (nI_leI (a := n0) (b := i) (by omega) (by omega)).mpr c
      refine t_be (wI_n (by omega) (by omega)) ?_
      refine t_nx ⟨i + 1, by omega, nI_1 i, fun q hq => by dsimp only; rw [g_up_row hq]; exact p1 q hq, fun j hj => ?_⟩ (by show 2000 - (nI i + 1).toInt.toNat < 2000 - (nI i).toInt.toNat; rw [nI_1, nIt (by omega), nIt (by omega)]; omega)
      dsimp only
      rw [gu_in]
      rcases (by omega : j < i ∨ j = i) with z | z
      · rw [if_neg (by omega)]; exact p2 j z
      · rw [if_pos z]
  obtain ⟨r, e, h⟩ := key
  refine ⟨r, ?_, h⟩
  unfold fJ7_fill_53178
  rw [show ((0 : Int32), M) = (nI 0, M) from rfl, e, obs]
/-- the column of a letter in a table of the class -/
theorem c_colK {M : gM} {k1 : Nat} {A : aT} {t l : Nat} (hW : WF A) (hC : CT M k1 A) (ht : t < A.1.length) (hl : l < 4) : fX5_columnOf k1 (nI t) (nI l) M = some (if ix l (aL A t) < (aL A t).length then nI (ix l (aL A t)) else -1) := by
  have hn4 := hW.1
  have w := hW.2.2.2.2 t ht
  have w1 := w.1
  obtain ⟨e1, e2, _⟩ := hC.2.2.2 t ht
  have key : T (lX5_columnOf_2 k1 (nI t) (nI l) M (nI 0)) (Sum.elim (fun r => ix l (aL A t) < (aL A t).length ∧ r = nI (ix l (aL A t))) (fun _ : Unit => ¬ ix l (aL A t) < (aL A t).length)) := by
    unfold lX5_columnOf_2
    refine t_it (P := fun s => ∃ i, s = nI i ∧ i ≤ (aL A t).length ∧ ∀ c, c < i → (aL A t).getD c 0 ≠ l) (μ := fun s => 20 - s.toInt.toNat) (fun s p => ?_) ⟨0, rfl, by omega, fun c hc => by omega⟩
    obtain ⟨i, rfl, hi, hn⟩ := p
    refine t_be (rI_n (by omega) (by omega)) ?_
    rw [e1]
    refine t_ite (fun c => ?_) (fun c => ?_)
    · have c := (nI_leI (by omega) (by omega)).mp c
      refine t_ret (show ¬ ix l (aL A t) < (aL A t).length from fun z => hn _ (by omega) (ix_get z))
    · have c := mt (nI_leI (a := (aL A t).length) (b := i) (by omega) (by omega)).mpr c
      have hx := w.2.1 i (by omega)
      rw [L3, nI_mul, nI_add]
      refine t_be (rI_n (by omega) (by omega)) ?_
      rw [show t * 3 + i = 3 * t + i by omega, e2 i (by omega)]
      refine t_ite (fun z => ?_) (fun z => ?_)
      · have z := nI_inj z (by omega) (by omega)
        have : ix l (aL A t) = i := by
          rcases Nat.lt_trichotomy (ix l (aL A t)) i with q | q | q
          · exfalso; exact hn _ q (ix_get (by omega))
          · exact q
          · exact absurd z (ix_ne q (by omega))
        exact t_ret (show _ ∧ nI i = _ by rw [this]; exact ⟨by omega, rfl⟩)
      · rw [nI_1]
        refine t_nx ?_ (show 20 - (nI (i + 1)).toInt.toNat < 20 - (nI i).toInt.toNat by rw [nIt (by omega), nIt (by omega)]; omega)
        refine ⟨i + 1, rfl, by omega, fun c hc => ?_⟩
        by_cases d : c = i
        · rw [d]; exact fun y => z (by rw [y])
        · exact hn c (by omega)
  obtain ⟨r, er, h⟩ := key
  unfold fX5_columnOf
  rw [show (0 : Int32) = nI 0 from rfl, er, obs]
  rcases r with r | r
  · obtain ⟨h1, h2⟩ := h
    rw [if_pos h1, h2]; rfl
  · rw [if_neg h]; rfl
/-- a row with its columns in the order of the letters -/
def prm (c : Nat → Nat) (w q : Nat) : Nat := pk3 (if 0 < w then dgt (c 0) q else 0) (if 1 < w then dgt (c 1) q else 0) (if 2 < w then dgt (c 2) q else 0)
theorem dg127 {q c : Nat} (hq : q < 2097152) : dgt c q ≤ 127 := by
  unfold dgt
  split
  · omega
  · split <;> omega
theorem prm_dgt {c : Nat → Nat} {w q j : Nat} (hq : q < 2097152) (hj : j < w) (h2 : j ≤ 2) : dgt j (prm c w q) = dgt (c j) q := by
  have y : ∀ (i : Nat) (p : Prop) [Decidable p], (if p then dgt (c i) q else 0) < 128 := fun i p _ => by
    have := dg127 (q := q) (c := c i) hq
    split <;> omega
  obtain ⟨g0, g1, g2⟩ := dgt_pk (x := if 0 < w then dgt (c 0) q else 0) (y 1 (1 < w)) (y 2 (2 < w))
  unfold prm
  rcases (by omega : j = 0 ∨ j = 1 ∨ j = 2) with rfl | rfl | rfl
  · rw [g0, if_pos hj]
  · rw [g1, if_pos hj]
  · rw [g2, if_pos hj]
theorem prm_lt {c : Nat → Nat} {w q : Nat} (hq : q < 2097152) : prm c w q < 2097152 := by
  have y : ∀ (i : Nat) (p : Prop) [Decidable p], (if p then dgt (c i) q else 0) < 128 := fun i p _ => by
    have := dg127 (q := q) (c := c i) hq
    split <;> omega
  have a := y 0 (0 < w)
  have b := y 1 (1 < w)
  have d := y 2 (2 < w)
  unfold prm pk3
  omega
theorem c_perm {M : gM} {k w q : Nat} {c : Nat → Nat} (hw : w ≤ 3) (hq : q < 2097152) (hc : ∀ j, j < w → M (k + 6) j = nI (c j) ∧ c j < 3) : lX1_load_103 k (nI w) (nI q) M (nI 0, nI 0) = some (nI (prm c w q)) := by
  unfold lX1_load_103
  refine p_it (P := fun s => ∃ j, j ≤ w ∧ s = (nI (prm c j q), nI j)) (μ := fun s => 20 - s.2.toInt.toNat) (fun s p => ?_) ⟨0, by omega, rfl⟩
  obtain ⟨j, hj, rfl⟩ := p
  dsimp only
  refine t_ite (fun d => ?_) (fun d => ?_)
  · have d := (nI_leI (by omega) (by omega)).mp d
    have : j = w := by omega
    subst this
    exact t_ret rfl
  · have d := mt (nI_leI (a := w) (b := j) (by omega) (by omega)).mpr d
    obtain ⟨c1, c2⟩ := hc j (by omega)
    refine t_be (rI_n (by omega) (by omega)) ?_
    rw [c1, cell_v hq c2]
    have g : ∀ i, dgt (c i) q < 128 := fun i => by
      have := dg127 (q := q) (c := c i) hq
      omega
    have mu : 20 - (nI j + 1).toInt.toNat < 20 - (nI j).toInt.toNat := by rw [nI_1, nIt (by omega), nIt (by omega)]; omega
    refine t_nx ⟨j + 1, by omega, ?_⟩ mu
    rw [nI_1]
    refine Prod.ext ?_ rfl
    dsimp only
    rcases (by omega : j = 0 ∨ j = 1 ∨ j = 2) with rfl | rfl | rfl
    · rw [sh_0, show nI (prm c 0 q) = 0 from rfl, rv_1 (g 0)]; rfl
    · rw [sh_1, show prm c 1 q = pk3 (dgt (c 0) q) 0 0 from rfl, rv_2 (g 0) (g 1)]; rfl
    · rw [sh_2, show prm c 2 q = pk3 (dgt (c 0) q) (dgt (c 1) q) 0 from rfl, rv_3 (g 0) (g 1) (g 2)]; rfl
/-- sorted so far -/
def srL (l : List Nat) : Prop := ∀ i j, i < j → j < l.length → l.getD i 0 ≤ l.getD j 0
/-- a row comes to its place -/
theorem c_addSorted {M : gM} {k t q : Nat} {l : List Nat} (ht : t < 4) (hl : l.length ≤ 11) (hq : q < 2097152) (hlt : ∀ j, j < l.length → l.getD j 0 < 2097152) (hs : srL l) (e8 : M (k + 8) t = nI (12 * t)) (e9 : M (k + 9) t = nI (12 * t + l.length)) (e5 : ∀ j, j < l.length → M (k + 5) (12 * t + j) = nI (l.getD j 0)) :
    ∃ i r, fX1_addSorted k (nI t) (nI q) M = some r ∧ i ≤ l.length ∧ srL (insA i q l) ∧ r (k + 9) t = nI (12 * t + (insA i q l).length) ∧ (∀ j, j < (insA i q l).length → r (k + 5) (12 * t + j) = nI ((insA i q l).getD j 0)) ∧ (∀ x, x ≠ k + 5 → x ≠ k + 9 → r x = M x) ∧ (∀ a, a ≠ t → r (k + 9) a = M (k + 9) a) ∧ ∀ a, a < 12 * t ∨ 12 * t + 12 ≤ a → r (k + 5) a = M (k + 5) a := by
  have key : T (lX1_addSorted_7 k (nI t) (nI q) (nI (12 * t + l.length), M)) (fun r => ∃ i, r.1 = nI (12 * t + i) ∧ i ≤ l.length ∧ (∀ j, j < i → l.getD j 0 ≤ q) ∧ (∀ j, i ≤ j → j < l.length → q < l.getD j 0) ∧ (∀ x, x ≠ k + 5 → r.2 x = M x) ∧ ∀ a, r.2 (k + 5) a = if 12 * t + i < a ∧ a ≤ 12 * t + l.length then M (k + 5) (a - 1) else M (k + 5) a) := by
    unfold lX1_addSorted_7
    refine t_it (P := fun s => ∃ i, s.1 = nI (12 * t + i) ∧ i ≤ l.length ∧ (∀ j, i ≤ j → j < l.length → q < l.getD j 0) ∧ (∀ x, x ≠ k + 5 → s.2 x = M x) ∧ ∀ a, s.2 (k + 5) a = if 12 * t + i < a ∧ a ≤ 12 * t + l.length then M (k + 5) (a - 1) else M (k + 5) a) (μ := fun s => s.1.toInt.toNat) (fun s p => ?_) ⟨l.length, rfl, Nat.le_refl _, fun j a b => by omega, fun _ _ => rfl, fun a => by rw [if_neg (by omega)]⟩
    obtain ⟨s1, N⟩ := s
    obtain ⟨i, e, hi, p1, p2, p3⟩ := p
    dsimp only at e p2 p3
    subst e
    dsimp only
    refine t_be (rI_n (by omega) (by omega)) ?_
    rw [p2 (k + 8) (by omega), e8]
    refine t_ite (fun c => ?_) (fun c => ?_)
    · have c := (nI_leI (by omega) (by omega)).mp c
      have : i = 0 := by omega
      subst this
      exact t_ret ⟨0, rfl, by omega, fun j hj => by omega, p1, p2, p3⟩
    · have c := mt (nI_leI (a := 12 * t + i) (b := 12 * t) (by omega) (by omega)).mpr c
      rw [nI_s1 (by omega), show 12 * t + i - 1 = 12 * t + (i - 1) by omega]
      have ev : N (k + 5) (12 * t + (i - 1)) = nI (l.getD (i - 1) 0) := by rw [p3, if_neg (by omega)]; exact e5 _ (by omega)
      have lv := hlt (i - 1) (by omega)
      refine t_be (rI_n (by omega) (by omega)) ?_
      rw [ev]
      refine t_ite (fun d => ?_) (fun d => ?_)
      · have d := (nI_leI (by omega) (by omega)).mp d
        refine t_ret ⟨i, rfl, hi, fun j hj => ?_, p1, p2, p3⟩
        rcases (by omega : j < i - 1 ∨ j = i - 1) with z | z
        · have := hs j (i - 1) z (by omega)
          omega
        · rw [z]; exact d
      · have d := mt (nI_leI (a := l.getD (i - 1) 0) (b := q) (by omega) (by omega)).mpr d
        refine t_be (rI_n (by omega) (by omega)) ?_
        rw [ev]
        refine t_be (wI_n (by omega) (by omega)) ?_
        refine t_nx ⟨i - 1, ?_, by omega, fun j a b => ?_, fun x hx => ?_, fun a => ?_⟩ ?_
        · dsimp only
          rw [nI_dec (by omega), show 12 * t + i - 1 = 12 * t + (i - 1) by omega]
        · rcases (by omega : j = i - 1 ∨ i ≤ j) with z | z
          · rw [z]; omega
          · exact p1 j z b
        · dsimp only
          rw [g_up_row hx]; exact p2 x hx
        · dsimp only
          rw [gu_in, p3]
          by_cases z : a = 12 * t + i
          · rw [if_pos z, if_pos (by omega), z, show 12 * t + i - 1 = 12 * t + (i - 1) by omega]
            exact (e5 _ (by omega)).symm
          · rw [if_neg z]
            by_cases z2 : 12 * t + i < a ∧ a ≤ 12 * t + l.length
            · rw [if_pos z2, if_pos (by omega)]
            · rw [if_neg z2, if_neg (by omega)]
        · show (nI (12 * t + i) + (-1)).toInt.toNat < (nI (12 * t + i)).toInt.toNat
          rw [nI_dec (by omega), nIt (by omega), nIt (by omega)]; omega
  obtain ⟨r, e, i, h1, h2, h3, h4, h5, h6⟩ := key
  obtain ⟨r1, N⟩ := r
  dsimp only at h1 h5 h6
  subst h1
  have eN9 : ∀ {v : Int32} {j : Nat}, g_up N (k + 5) (12 * t + i) v (k + 9) j = M (k + 9) j := fun {v j} => by rw [g_up_row (by omega), h5 (k + 9) (by omega)]
  refine ⟨i, g_up (g_up N (k + 5) (12 * t + i) (nI q)) (k + 9) t (nI (12 * t + l.length + 1)), ?_, h2, fun a b hab hb => ?_, ?_, fun j hj => ?_, fun x hx1 hx2 => ?_, fun a ha => ?_, fun a ha => ?_⟩
  · unfold fX1_addSorted bX1_addSorted_49
    rw [rI_n (by omega) (by omega), obs, e9, e, obs]
    dsimp only
    rw [wI_n (by omega) (by omega), obs, rI_n (by omega) (by omega), obs, eN9, e9, nI_1, wI_n (by omega) (by omega), obs]
  · rw [insA_len] at hb
    rw [insA_get a h2, insA_get b h2]
    by_cases c1 : b < i
    · rw [if_pos (by omega), if_pos c1]; exact hs a b hab (by omega)
    · rw [if_neg c1]
      by_cases c2 : b = i
      · rw [if_pos c2, if_pos (by omega)]; exact h3 a (by omega)
      · rw [if_neg c2]
        by_cases d1 : a < i
        · rw [if_pos d1]
          have := h3 a d1
          have := h4 (b - 1) (by omega) (by omega)
          omega
        · rw [if_neg d1]
          by_cases d2 : a = i
          · rw [if_pos d2]; have := h4 (b - 1) (by omega) (by omega); omega
          · rw [if_neg d2]; exact hs (a - 1) (b - 1) (by omega) (by omega)
  · rw [g_up_self, insA_len]; rfl
  · rw [insA_len] at hj
    rw [g_up_row (by omega), gu_in, h6, insA_get j h2]
    by_cases c1 : j = i
    · rw [if_pos (by omega), if_neg (by omega), if_pos c1]
    · rw [if_neg (by omega)]
      by_cases c2 : j < i
      · rw [if_neg (by omega), if_pos c2]; exact e5 j (by omega)
      · rw [if_pos (by omega), if_neg c2, if_neg c1, show 12 * t + j - 1 = 12 * t + (j - 1) by omega]; exact e5 (j - 1) (by omega)
  · rw [g_up_row hx2, g_up_row hx1]; exact h5 x hx1
  · rw [g_up_ne (Or.inr ha)]; exact eN9
  · rw [g_up_row (by omega), g_up_ne (Or.inr (by omega)), h6, if_neg (by omega)]
/-- the rows of one table, sorted -/
def QT (A : aT) (ls : List Nat) (t m : Nat) (l : List Nat) : Prop := l.length = m ∧ srL l ∧ (∀ j, j < l.length → l.getD j 0 < 2097152) ∧ (∀ j, j < l.length → ∃ i, i < m ∧ ∀ d, d < ls.length → inB A ls t d = true → dgt (pA A ls t d) (l.getD j 0) = vA A ls t i d) ∧ ∀ i, i < m → ∃ j, j < l.length ∧ ∀ d, d < ls.length → inB A ls t d = true → dgt (pA A ls t d) (l.getD j 0) = vA A ls t i d
theorem c_load {M : gM} {k k1 : Nat} {A : aT} {ls : List Nat} {t : Nat} (hk : k1 + 4 < k) (hW : WF A) (hs : okS ls) (hC : CT M k1 A) (hS : Sc M k ls) (hu : A.2.1.testBit t = true) (e8 : M (k + 8) t = nI (12 * t)) (e9 : M (k + 9) t = nI (12 * t)) :
    ∃ l r, fX1_load k k1 (nI t) M = some r ∧ QT A ls t (aK A t).length l ∧ r (k + 9) t = nI (12 * t + l.length) ∧ (∀ j, j < l.length → r (k + 5) (12 * t + j) = nI (l.getD j 0)) ∧ (∀ d, d < ls.length → r (k + 7) (4 * d + t) = if inB A ls t d = true then nI (14 - 7 * pA A ls t d) else M (k + 7) (4 * d + t)) ∧ (∀ a, a % 4 ≠ t → r (k + 7) a = M (k + 7) a) ∧ (∀ x, x ≠ k + 5 → x ≠ k + 6 → x ≠ k + 7 → x ≠ k + 9 → r x = M x) ∧ (∀ a, a ≠ t → r (k + 9) a = M (k + 9) a) ∧ ∀ a, a < 12 * t ∨ 12 * t + 12 ≤ a → r (k + 5) a = M (k + 5) a := by
  have hn4 := hW.1
  have ht := used_t hW hu
  have w := hW.2.2.2.2 t ht
  have w1 := w.1
  have w4 := w.2.2.2.1
  have s4 := hs.1
  have p3 : ∀ d, d ≤ ls.length → pA A ls t d ≤ 3 := fun d hd => by
    rcases Nat.eq_zero_or_pos d with z | z
    · rw [z]; exact Nat.zero_le _
    · have q := pA_le (A := A) (ls := ls) (t := t) (d := d - 1)
      have e : pA A ls t d = if inB A ls t (d - 1) = true then pA A ls t (d - 1) + 1 else pA A ls t (d - 1) := by
        conv => lhs; rw [show d = d - 1 + 1 by omega]
        rfl
      by_cases b : inB A ls t (d - 1) = true
      · have := pA_2 hs w1.2 (by omega) b
        rw [e, if_pos b]; omega
      · rw [e, if_neg b]; omega
  -- where the letters are
  have k5 : T (lX1_load_5 k k1 (nI t) (nI 0, nI 0, M)) (fun r => r.1 = nI (pA A ls t ls.length) ∧ (∀ d, d < ls.length → r.2 (k + 7) (4 * d + t) = if inB A ls t d = true then nI (14 - 7 * pA A ls t d) else M (k + 7) (4 * d + t)) ∧ (∀ a, a % 4 ≠ t → r.2 (k + 7) a = M (k + 7) a) ∧ (∀ d, d < ls.length → inB A ls t d = true → r.2 (k + 6) (pA A ls t d) = nI (cI A ls t d)) ∧ ∀ x, x ≠ k + 6 → x ≠ k + 7 → r.2 x = M x) := by
    unfold lX1_load_5
    refine t_it (P := fun s => ∃ d, d ≤ ls.length ∧ s.1 = nI (pA A ls t d) ∧ s.2.1 = nI d ∧ (∀ e, e < d → s.2.2 (k + 7) (4 * e + t) = if inB A ls t e = true then nI (14 - 7 * pA A ls t e) else M (k + 7) (4 * e + t)) ∧ (∀ e, d ≤ e → s.2.2 (k + 7) (4 * e + t) = M (k + 7) (4 * e + t)) ∧ (∀ a, a % 4 ≠ t → s.2.2 (k + 7) a = M (k + 7) a) ∧ (∀ e, e < d → inB A ls t e = true → s.2.2 (k + 6) (pA A ls t e) = nI (cI A ls t e)) ∧ ∀ x, x ≠ k + 6 → x ≠ k + 7 → s.2.2 x = M x) (μ := fun s => 20 - s.2.1.toInt.toNat) (fun s p => ?_) ⟨0, by omega, rfl, rfl, fun e he => absurd he (Nat.not_lt_zero e), fun _ _ => rfl, fun _ _ => rfl, fun e he => absurd he (Nat.not_lt_zero e), fun _ _ _ => rfl⟩
    obtain ⟨s1, s2, N⟩ := s
    obtain ⟨d, hd, e1, e2, g1, g2, g3, g4, g5⟩ := p
    dsimp only at e1 e2 g1 g2 g3 g4 g5
    subst e1 e2
    dsimp only
    have eN : N k 2 = nI ls.length := by rw [g5 k (by omega) (by omega)]; exact hS.1
    refine t_ite (fun c => ?_) (fun c => ?_)
    · rw [eN] at c
      have c := (nI_leI (by omega) (by omega)).mp c
      have : d = ls.length := by omega
      subst this
      exact t_ret (show nI _ = _ ∧ _ from ⟨rfl, g1, g3, g4, g5⟩)
    · rw [eN] at c
      have c := mt (nI_leI (a := ls.length) (b := d) (by omega) (by omega)).mpr c
      have l4 := hs.2.1 d (by omega)
      have mu : 20 - (nI d + 1).toInt.toNat < 20 - (nI d).toInt.toNat := by rw [nI_1, nIt (by omega), nIt (by omega)]; omega
      refine t_be (rI_n (by omega) (by omega)) ?_
      rw [g5 (k + 2) (by omega) (by omega), hS.2 d (by omega)]
      have hCN : CT N k1 A := hC.cong (fun j _ => by rw [g5 k1 (by omega) (by omega)]) (g5 _ (by omega) (by omega)) (g5 _ (by omega) (by omega)) (g5 _ (by omega) (by omega)) (g5 _ (by omega) (by omega))
      refine t_be (c_colK hW hCN ht l4) ?_
      unfold bX1_load_68
      have hpd := p3 d hd
      by_cases b : inB A ls t d = true
      · have cb := (inB_and.mp b).2
        have cb' : ix (ls.getD d 0) (aL A t) < (aL A t).length := cb
        have p2 := pA_2 hs w1.2 (by omega) b
        rw [if_pos cb', if_neg (nI_m1 (by omega)), L3, if_neg (mt (nI_leI (by omega) (by omega)).mp (by omega)), L4, nI_mul, nI_add, show d * 4 + t = 4 * d + t by omega]
        have ev : (14 : Int32) - (7 : Int32) * nI (pA A ls t d) = nI (14 - 7 * pA A ls t d) := by
          rw [show (14 : Int32) = nI 14 from rfl, show (7 : Int32) = nI 7 from rfl, nI_mul, nI_sub (by omega)]
        rw [ev]
        refine t_be (wI_n (by omega) (by omega)) ?_
        refine t_be (wI_n (by omega) (by omega)) ?_
        have n7 : ∀ a, g_up (g_up N (k + 7) (4 * d + t) (nI (14 - 7 * pA A ls t d))) (k + 6) (pA A ls t d) (nI (ix (ls.getD d 0) (aL A t))) (k + 7) a = if a = 4 * d + t then nI (14 - 7 * pA A ls t d) else N (k + 7) a := fun a => by rw [g_up_row (by omega), gu_in]
        have n6 : ∀ a, g_up (g_up N (k + 7) (4 * d + t) (nI (14 - 7 * pA A ls t d))) (k + 6) (pA A ls t d) (nI (ix (ls.getD d 0) (aL A t))) (k + 6) a = if a = pA A ls t d then nI (ix (ls.getD d 0) (aL A t)) else N (k + 6) a := fun a => by rw [gu_in, g_up_row (by omega)]
        have ep : pA A ls t (d + 1) = pA A ls t d + 1 := if_pos b
        refine t_nx ⟨d + 1, by omega, by dsimp only; rw [ep, nI_1], nI_1 d, fun e he => ?_, fun e he => ?_, fun a ha => ?_, fun e he hi => ?_, fun x h1 h2 => by dsimp only; rw [g_up_row h1, g_up_row h2]; exact g5 x h1 h2⟩ mu
        · dsimp only
          rw [n7]
          rcases (by omega : e < d ∨ e = d) with z | z
          · rw [if_neg (by omega)]; exact g1 e z
          · rw [z, if_pos rfl, if_pos b]
        · dsimp only
          rw [n7, if_neg (by omega)]; exact g2 e (by omega)
        · dsimp only
          rw [n7, if_neg (by omega)]; exact g3 a ha
        · dsimp only
          rw [n6]
          rcases (by omega : e < d ∨ e = d) with z | z
          · have := pA_lt z hi
            rw [if_neg (by omega)]; exact g4 e z hi
          · rw [z, if_pos rfl]; rfl
      · have cb : ¬ ix (ls.getD d 0) (aL A t) < (aL A t).length := fun z => b (inB_and.mpr ⟨hu, z⟩)
        have ep : pA A ls t (d + 1) = pA A ls t d := if_neg b
        rw [if_neg cb, if_pos rfl]
        refine t_nx ⟨d + 1, by omega, by dsimp only; rw [ep], nI_1 d, fun e he => ?_, fun e he => g2 e (by omega), g3, fun e he hi => ?_, g5⟩ mu
        · rcases (by omega : e < d ∨ e = d) with z | z
          · exact g1 e z
          · rw [z, if_neg b]; exact g2 d (Nat.le_refl d)
        · rcases (by omega : e < d ∨ e = d) with z | z
          · exact g4 e z hi
          · rw [z] at hi; exact absurd hi b
  obtain ⟨⟨r1, N⟩, e5, f1, f2, f3, f4, f5⟩ := k5
  dsimp only at f1 f2 f3 f4 f5
  subst f1
  have hCN : CT N k1 A := hC.cong (fun j _ => by rw [f5 k1 (by omega) (by omega)]) (f5 _ (by omega) (by omega)) (f5 _ (by omega) (by omega)) (f5 _ (by omega) (by omega)) (f5 _ (by omega) (by omega))
  have hw3 := p3 ls.length (Nat.le_refl _)
  -- the columns by their places
  have cex : ∀ j, ∃ c, j < pA A ls t ls.length → (N (k + 6) j = nI c ∧ c < 3) ∧ ∀ d, d < ls.length → inB A ls t d = true → pA A ls t d = j → cI A ls t d = c := by
    intro j
    by_cases hj : j < pA A ls t ls.length
    · obtain ⟨e, he, hi, hp⟩ := pA_ex hj
      have ce := (inB_and.mp hi).2
      refine ⟨cI A ls t e, fun _ => ⟨⟨by rw [← hp]; exact f4 e he hi, by omega⟩, fun d hd hi' hp' => ?_⟩⟩
      rcases Nat.lt_trichotomy d e with z | z | z
      · have := pA_lt z hi'; omega
      · rw [z]
      · have := pA_lt z hi; omega
    · exact ⟨0, fun z => absurd z hj⟩
  have csp := fun j => Classical.choose_spec (cex j)
  generalize hcc : (fun j => Classical.choose (cex j)) = cc
  have csp : ∀ j, j < pA A ls t ls.length → (N (k + 6) j = nI (cc j) ∧ cc j < 3) ∧ ∀ d, d < ls.length → inB A ls t d = true → pA A ls t d = j → cI A ls t d = cc j := fun j hj => by
    rw [← hcc]; exact csp j hj
  have dig : ∀ i, i < (aK A t).length → ∀ d, d < ls.length → inB A ls t d = true → dgt (pA A ls t d) (prm cc (pA A ls t ls.length) ((aK A t).getD i 0)) = vA A ls t i d := fun i hi d hd hb => by
    have pl := pA_lt (show d < ls.length from hd) hb
    rw [prm_dgt (k_lt w i hi) pl (pA_2 hs w1.2 hd hb)]
    unfold vA
    rw [(csp _ pl).2 d hd hb rfl]
  have k77 : T (lX1_load_77 k k1 (nI t) (nI (pA A ls t ls.length)) (nI 0, N)) (fun r => ∃ l, QT A ls t (aK A t).length l ∧ r (k + 9) t = nI (12 * t + l.length) ∧ (∀ j, j < l.length → r (k + 5) (12 * t + j) = nI (l.getD j 0)) ∧ (∀ x, x ≠ k + 5 → x ≠ k + 9 → r x = N x) ∧ (∀ a, a ≠ t → r (k + 9) a = N (k + 9) a) ∧ ∀ a, a < 12 * t ∨ 12 * t + 12 ≤ a → r (k + 5) a = N (k + 5) a) := by
    unfold lX1_load_77
    refine t_it (P := fun s => ∃ m l, m ≤ (aK A t).length ∧ s.1 = nI m ∧ QT A ls t m l ∧ s.2 (k + 9) t = nI (12 * t + l.length) ∧ (∀ j, j < l.length → s.2 (k + 5) (12 * t + j) = nI (l.getD j 0)) ∧ (∀ x, x ≠ k + 5 → x ≠ k + 9 → s.2 x = N x) ∧ (∀ a, a ≠ t → s.2 (k + 9) a = N (k + 9) a) ∧ ∀ a, a < 12 * t ∨ 12 * t + 12 ≤ a → s.2 (k + 5) a = N (k + 5) a) (μ := fun s => 20 - s.1.toInt.toNat) (fun s p => ?_)
      ⟨0, [], by omega, rfl, ⟨rfl, fun i j _ hj => absurd hj (Nat.not_lt_zero j), fun j hj => absurd hj (Nat.not_lt_zero j), fun j hj => absurd hj (Nat.not_lt_zero j), fun j hj => absurd hj (Nat.not_lt_zero j)⟩, by dsimp only; rw [f5 _ (by omega) (by omega)]; exact e9, fun j hj => absurd hj (Nat.not_lt_zero j), fun _ _ _ => rfl, fun _ _ => rfl, fun _ _ => rfl⟩
    obtain ⟨s1, K⟩ := s
    obtain ⟨m, l, hm, e, ⟨q1, q2, q3, q4, q5⟩, g1, g2, g3, g4, g5⟩ := p
    dsimp only at e g1 g2 g3 g4 g5
    subst e
    dsimp only
    have hCK : CT K k1 A := hCN.cong (fun j _ => by rw [g3 k1 (by omega) (by omega)]) (g3 _ (by omega) (by omega)) (g3 _ (by omega) (by omega)) (g3 _ (by omega) (by omega)) (g3 _ (by omega) (by omega))
    have hCt := (hCK.2.2.2 t ht).2.2
    refine t_be (rI_n (by omega) (by omega)) ?_
    rw [hCt.1]
    refine t_ite (fun c => ?_) (fun c => ?_)
    · have c := (nI_leI (by omega) (by omega)).mp c
      have : m = (aK A t).length := by omega
      subst this
      exact t_ret ⟨l, ⟨q1, q2, q3, q4, q5⟩, g1, g2, g3, g4, g5⟩
    · have c := mt (nI_leI (a := (aK A t).length) (b := m) (by omega) (by omega)).mpr c
      have hml : m < (aK A t).length := by omega
      have mu : 20 - (nI m + 1).toInt.toNat < 20 - (nI m).toInt.toNat := by rw [nI_1, nIt (by omega), nIt (by omega)]; omega
      have kl := k_lt w m hml
      refine t_be (c_rowAt (by omega) w4 hCt hml) ?_
      refine t_be (show lX1_load_103 k _ _ K ((0 : Int32), (0 : Int32)) = _ from c_perm hw3 kl (fun j hj => by rw [g3 (k + 6) (by omega) (by omega)]; exact (csp j hj).1)) ?_
      obtain ⟨i, r, er, i1, i2, i3, i4, i5, i6, i7⟩ := c_addSorted (M := K) (k := k) (by omega) (show l.length ≤ 11 by omega) (prm_lt (c := cc) (w := pA A ls t ls.length) kl) q3 q2 (by rw [g3 (k + 8) (by omega) (by omega), f5 _ (by omega) (by omega)]; exact e8) g1 g2
      refine t_be er ?_
      refine t_nx ⟨m + 1, insA i (prm cc (pA A ls t ls.length) ((aK A t).getD m 0)) l, by omega, nI_1 m, ⟨by rw [insA_len, q1], i2, insA_all (P := fun x => x < 2097152) (prm_lt kl) q3 i1, fun j hj => ?_, fun a ha => ?_⟩, i3, i4, fun x h1 h2 => (i5 x h1 h2).trans (g3 x h1 h2), fun a ha => (i6 a ha).trans (g4 a ha), fun a ha => (i7 a ha).trans (g5 a ha)⟩ mu
      · rw [insA_len] at hj
        rw [insA_get j i1]
        by_cases c1 : j < i
        · rw [if_pos c1]
          obtain ⟨a, a1, a2⟩ := q4 j (by omega)
          exact ⟨a, by omega, a2⟩
        · rw [if_neg c1]
          by_cases c2 : j = i
          · rw [if_pos c2]
            exact ⟨m, by omega, dig m hml⟩
          · rw [if_neg c2]
            obtain ⟨a, a1, a2⟩ := q4 (j - 1) (by omega)
            exact ⟨a, by omega, a2⟩
      · rcases (by omega : a < m ∨ a = m) with z | z
        · obtain ⟨j, j1, j2⟩ := q5 a z
          by_cases c1 : j < i
          · refine ⟨j, by rw [insA_len]; omega, ?_⟩
            rw [insA_get j i1, if_pos c1]; exact j2
          · refine ⟨j + 1, by rw [insA_len]; omega, ?_⟩
            rw [insA_get (j + 1) i1, if_neg (by omega), if_neg (by omega), Nat.add_sub_cancel]; exact j2
        · refine ⟨i, by rw [insA_len]; omega, ?_⟩
          rw [insA_get i i1, if_neg (Nat.lt_irrefl i), if_pos rfl, z]
          exact dig m hml
  obtain ⟨r, e77, l, g1, g2, g3, g4, g5, g6⟩ := k77
  refine ⟨l, r, ?_, g1, g2, g3, fun d hd => ?_, fun a ha => ?_, fun x h5 h6 h7 h9 => ?_, fun a ha => ?_, fun a ha => ?_⟩
  · unfold fX1_load
    rw [show ((0 : Int32), (0 : Int32), M) = (nI 0, nI 0, M) from rfl, e5, obs]
    dsimp only
    rw [show ((0 : Int32), N) = (nI 0, N) from rfl, e77, obs]
  · rw [g4 (k + 7) (by omega) (by omega)]; exact f2 d hd
  · rw [g4 (k + 7) (by omega) (by omega)]; exact f3 a ha
  · rw [g4 x h5 h9]; exact f5 x h6 h7
  · rw [g5 a ha, f5 _ (by omega) (by omega)]
  · rw [g6 a ha, f5 _ (by omega) (by omega)]
