/-! the class's search: its steps -/
theorem kv_c {q p : Nat} (hq : q < 2097152) (hp : p ≤ 2) : (nI q >>> (nI (14 - 7 * p) &&& 31)) &&& 127 = nI (dgt p q) := by
  rcases (by omega : p = 0 ∨ p = 1 ∨ p = 2) with rfl | rfl | rfl
  · rw [show (nI (14 - 7 * 0) &&& 31) = 14 by decide +kernel, pk_shrN (by omega) 14 14 (by decide), pk_andN (by omega) 7 (by decide), dgt_0]
    congr 1; omega
  · rw [show (nI (14 - 7 * 1) &&& 31) = 7 by decide +kernel, pk_shrN (by omega) 7 7 (by decide), pk_andN (by omega) 7 (by decide), dgt_1]
  · rw [show (nI (14 - 7 * 2) &&& 31) = 0 by decide +kernel, pk_shrN (by omega) 0 0 (by decide), pk_andN (by omega) 7 (by decide), dgt_2]
    congr 1; omega
theorem sh_m1 {p : Nat} : nI (14 - 7 * p) ≠ -1 := nI_m1 (by omega)
/-- where the tables stand at a depth -/
def AT (M : gM) (k : Nat) (A : aT) (ls : List Nat) (qs : Nat → List Nat) (d : Nat) (x : Nat → Nat) : Prop := ∀ t, t < 4 → inB A ls t d = true → M (k + 10) (4 * d + t) = nI (12 * t + x t) ∧ x t < (qs t).length
section SR
variable {M : gM} {k : Nat} {A : aT} {ls : List Nat} {qs : Nat → List Nat} {d : Nat} {x : Nat → Nat}
theorem k_val (hW : WF A) (hs : okS ls) (hQ : QS A ls qs) (S : SX M k A ls qs) (hd : d < ls.length) {t j : Nat} (ht : t < 4) (h : inB A ls t d = true) (hj : j < (qs t).length) : rI 48 (M (k + 5)) (nI (12 * t + j)) = some (nI ((qs t).getD j 0)) ∧ (nI ((qs t).getD j 0) >>> (nI (14 - 7 * pA A ls t d) &&& 31)) &&& 127 = nI (uq A ls qs t d j) := by
  have u := (inB_and.mp h).1
  obtain ⟨q1, _, q3, _, _⟩ := hQ t ht u
  refine ⟨?_, ?_⟩
  · rw [rI_n (by omega) (by omega), S.2.2.2 t ht u j hj]
  · exact kv_c (q3 j hj) (pA_2 hs (hW.2.2.2.2 t (inB_t hW h)).1.2 hd h)
theorem c_greatestKey (hW : WF A) (hs : okS ls) (hQ : QS A ls qs) (S : SX M k A ls qs) (hd : d < ls.length) (hx : AT M k A ls qs d x) : ∃ g, fX1_greatestKey k (nI d) M = some g ∧ ((g = -1 ∧ ∀ t, t < 4 → inB A ls t d = false) ∨ ∃ g', g = nI g' ∧ (∀ t, t < 4 → inB A ls t d = true → uq A ls qs t d (x t) ≤ g') ∧ ∃ t, t < 4 ∧ inB A ls t d = true ∧ uq A ls qs t d (x t) = g') := by
  have h4 := hs.1
  have key : T (lX1_greatestKey_6 k (nI d) M (-1, nI (4 * d + 0))) (fun g => (g = -1 ∧ ∀ t, t < 4 → inB A ls t d = false) ∨ ∃ g', g = nI g' ∧ (∀ t, t < 4 → inB A ls t d = true → uq A ls qs t d (x t) ≤ g') ∧ ∃ t, t < 4 ∧ inB A ls t d = true ∧ uq A ls qs t d (x t) = g') := by
    unfold lX1_greatestKey_6
    refine t_it (P := fun s => ∃ c, c ≤ 4 ∧ s.2 = nI (4 * d + c) ∧ ((s.1 = -1 ∧ ∀ t, t < c → inB A ls t d = false) ∨ ∃ g', s.1 = nI g' ∧ g' ≤ 99 ∧ (∀ t, t < c → inB A ls t d = true → uq A ls qs t d (x t) ≤ g') ∧ ∃ t, t < c ∧ inB A ls t d = true ∧ uq A ls qs t d (x t) = g')) (μ := fun s => 40 - s.2.toInt.toNat) (fun s p => ?_) ⟨0, by omega, rfl, Or.inl ⟨rfl, fun t ht => absurd ht (Nat.not_lt_zero t)⟩⟩
    obtain ⟨s1, s2⟩ := s
    obtain ⟨c, hc, e, p⟩ := p
    dsimp only at e p
    subst e
    dsimp only
    have mu : c < 4 → 40 - (nI (4 * d + c) + 1).toInt.toNat < 40 - (nI (4 * d + c)).toInt.toNat := fun _ => by rw [nI_1, nIt (by omega), nIt (by omega)]; omega
    rw [nI_1 d, L4, nI_mul]
    refine t_ite (fun q => ?_) (fun q => ?_)
    · have q := (nI_leI (by omega) (by omega)).mp q
      have : c = 4 := by omega
      subst this
      refine t_ret ?_
      rcases p with ⟨p1, p2⟩ | ⟨g', p1, _, p2, p3⟩
      · exact Or.inl ⟨p1, p2⟩
      · exact Or.inr ⟨g', p1, p2, p3⟩
    · have q := mt (nI_leI (a := (d + 1) * 4) (b := 4 * d + c) (by omega) (by omega)).mpr q
      have c4 : c < 4 := by omega
      refine t_be (rI_n (by omega) (by omega)) ?_
      rw [S.2.2.1 c c4 d hd]
      by_cases i : inB A ls c d = true
      · rw [if_pos i, if_neg sh_m1]
        obtain ⟨x1, x2⟩ := hx c c4 i
        obtain ⟨v1, v2⟩ := k_val hW hs hQ S hd c4 i x2
        have v99 := uq_99 hW hQ hd i x2
        refine t_be (rI_n (by omega) (by omega)) ?_
        rw [x1]
        refine t_be v1 ?_
        refine t_be (rI_n (by omega) (by omega)) ?_
        rw [S.2.2.1 c c4 d hd, if_pos i, v2]
        unfold bX1_greatestKey_51
        refine t_nx ⟨c + 1, by omega, nI_1 _, Or.inr ?_⟩ (mu c4)
        dsimp only
        generalize hu : uq A ls qs c d (x c) = uu at *
        rcases p with ⟨p1, p2⟩ | ⟨g', p1, p99, p2, t', t1, t2, t3⟩
        · refine ⟨uu, ?_, v99, fun t ht hi => ?_, c, by omega, i, hu⟩
          · rw [p1]
            obtain ⟨m1, m2, m3 | m3⟩ := mX_ge (a := (-1 : Int32)) (b := nI uu)
            · exfalso
              rw [m3, tnI (by omega), show ((-1 : Int32)).toInt = -1 by decide] at m2
              omega
            · exact m3
          · rcases (by omega : t < c ∨ t = c) with z | z
            · rw [p2 t z] at hi; exact absurd hi (by decide)
            · rw [z, hu]; exact Nat.le_refl _
        · rw [p1]
          obtain ⟨m1, m2, m3⟩ := mX_ge (a := nI g') (b := nI uu)
          rcases m3 with m3 | m3
          · rw [m3, tnI (by omega), tnI (by omega)] at m2
            refine ⟨g', m3, p99, fun t ht hi => ?_, t', by omega, t2, t3⟩
            rcases (by omega : t < c ∨ t = c) with z | z
            · exact p2 t z hi
            · rw [z, hu]; omega
          · rw [m3, tnI (by omega), tnI (by omega)] at m1
            refine ⟨uu, m3, v99, fun t ht hi => ?_, c, by omega, i, hu⟩
            rcases (by omega : t < c ∨ t = c) with z | z
            · have := p2 t z hi
              omega
            · rw [z, hu]; exact Nat.le_refl _
      · rw [if_neg i, if_pos rfl]
        unfold bX1_greatestKey_51
        refine t_nx ⟨c + 1, by omega, nI_1 _, ?_⟩ (mu c4)
        have ib : inB A ls c d = false := by
          cases hh : inB A ls c d with
          | true => exact absurd hh i
          | false => rfl
        rcases p with ⟨p1, p2⟩ | ⟨g', p1, p99, p2, t', t1, t2, t3⟩
        · refine Or.inl ⟨p1, fun t ht => ?_⟩
          rcases (by omega : t < c ∨ t = c) with z | z
          · exact p2 t z
          · rw [z]; exact ib
        · refine Or.inr ⟨g', p1, p99, fun t ht hi => ?_, t', by omega, t2, t3⟩
          rcases (by omega : t < c ∨ t = c) with z | z
          · exact p2 t z hi
          · rw [z] at hi; exact absurd hi i
  obtain ⟨g, e, h⟩ := key
  refine ⟨g, ?_, h⟩
  unfold fX1_greatestKey
  rw [L4, nI_mul, show ((-1 : Int32), nI (d * 4)) = (-1, nI (4 * d + 0)) by rw [Nat.mul_comm]; rfl, e, obs]
theorem c_lowestBelow (hW : WF A) (hs : okS ls) (hQ : QS A ls qs) (S : SX M k A ls qs) (hd : d < ls.length) (hx : AT M k A ls qs d x) {v : Nat} (hv : v < 1000) : ∃ r, fX1_lowestBelow k (nI d) (nI v) M = some r ∧ ((∃ t, t < 4 ∧ r = nI t ∧ inB A ls t d = true ∧ uq A ls qs t d (x t) < v ∧ ∀ t', t' < t → inB A ls t' d = true → v ≤ uq A ls qs t' d (x t')) ∨ (r = -1 ∧ ∀ t, t < 4 → inB A ls t d = true → v ≤ uq A ls qs t d (x t))) := by
  have h4 := hs.1
  have key : T (lX1_lowestBelow_2 k (nI d) (nI v) M (nI 0)) (Sum.elim (fun r => ∃ t, t < 4 ∧ r = nI t ∧ inB A ls t d = true ∧ uq A ls qs t d (x t) < v ∧ ∀ t', t' < t → inB A ls t' d = true → v ≤ uq A ls qs t' d (x t')) (fun _ : Unit => ∀ t, t < 4 → inB A ls t d = true → v ≤ uq A ls qs t d (x t))) := by
    unfold lX1_lowestBelow_2
    refine t_it (P := fun s => ∃ c, c ≤ 4 ∧ s = nI c ∧ ∀ t, t < c → inB A ls t d = true → v ≤ uq A ls qs t d (x t)) (μ := fun s => 40 - s.toInt.toNat) (fun s p => ?_) ⟨0, by omega, rfl, fun t ht => absurd ht (Nat.not_lt_zero t)⟩
    obtain ⟨c, hc, rfl, p⟩ := p
    have mu : c < 4 → 40 - (nI c + 1).toInt.toNat < 40 - (nI c).toInt.toNat := fun _ => by rw [nI_1, nIt (by omega), nIt (by omega)]; omega
    rw [L4]
    refine t_ite (fun q => ?_) (fun q => ?_)
    · have q := (nI_leI (by omega) (by omega)).mp q
      have : c = 4 := by omega
      subst this
      exact t_ret p
    · have q := mt (nI_leI (a := 4) (b := c) (by omega) (by omega)).mpr q
      have c4 : c < 4 := by omega
      rw [nI_mul, nI_add, show d * 4 + c = 4 * d + c by omega]
      refine t_be (rI_n (by omega) (by omega)) ?_
      rw [S.2.2.1 c c4 d hd]
      by_cases i : inB A ls c d = true
      · rw [if_pos i, if_neg sh_m1]
        obtain ⟨x1, x2⟩ := hx c c4 i
        obtain ⟨v1, v2⟩ := k_val hW hs hQ S hd c4 i x2
        have v99 := uq_99 hW hQ hd i x2
        refine t_be (rI_n (by omega) (by omega)) ?_
        rw [x1]
        refine t_be v1 ?_
        refine t_be (rI_n (by omega) (by omega)) ?_
        rw [S.2.2.1 c c4 d hd, if_pos i, v2]
        refine t_ite (fun z => ?_) (fun z => ?_)
        · have z := (nI_leI (by omega) (by omega)).mp z
          unfold bX1_lowestBelow_54
          refine t_nx ⟨c + 1, by omega, nI_1 _, fun t ht hi => ?_⟩ (mu c4)
          rcases (by omega : t < c ∨ t = c) with y | y
          · exact p t y hi
          · rw [y]; exact z
        · have z := mt (nI_leI (a := v) (b := uq A ls qs c d (x c)) (by omega) (by omega)).mpr z
          exact t_ret (show ∃ t, t < 4 ∧ nI c = nI t ∧ _ from ⟨c, c4, rfl, i, by omega, p⟩)
      · rw [if_neg i, if_pos rfl]
        unfold bX1_lowestBelow_54
        refine t_nx ⟨c + 1, by omega, nI_1 _, fun t ht hi => ?_⟩ (mu c4)
        rcases (by omega : t < c ∨ t = c) with y | y
        · exact p t y hi
        · rw [y] at hi; exact absurd hi i
  obtain ⟨r, e, h⟩ := key
  unfold fX1_lowestBelow
  rw [show (0 : Int32) = nI 0 from rfl, e, obs]
  rcases r with r | r
  · exact ⟨r, rfl, Or.inl h⟩
  · exact ⟨-1, rfl, Or.inr ⟨rfl, h⟩⟩
/-- a leap -/
theorem c_isLeapt (hW : WF A) (hs : okS ls) (hQ : QS A ls qs) (S : SX M k A ls qs) (hd : d < ls.length) {t b v y : Nat} (h : inB A ls t d = true) (hv : v < 1000) (ea : M (k + 10) (4 * d + t) = nI (12 * t + y)) (eb : M (k + 9) (4 * d + t) = nI (12 * t + b)) (hyb : y ≤ b) (hb : b ≤ (qs t).length) :
    ∃ y' r, fX1_isLeapt k (nI (4 * d + t)) (nI v) M = some (if y' < b then 1 else 0, r) ∧ y ≤ y' ∧ y' ≤ b ∧ (∀ j, y ≤ j → j < y' → uq A ls qs t d j < v) ∧ (y' < b → v ≤ uq A ls qs t d y') ∧ (∀ q, q ≠ k → q ≠ k + 10 → r q = M q) ∧ (∀ j, r (k + 10) j = if j = 4 * d + t then nI (12 * t + y') else M (k + 10) j) ∧ r k 1 = M k 1 + 1 ∧ ∀ j, j ≠ 1 → r k j = M k j := by
  have h4 := hs.1
  have ht := inB_t hW h
  have hn4 := hW.1
  have u := (inB_and.mp h).1
  obtain ⟨q1, _⟩ := hQ t (by omega) u
  have key : T (lX1_isLeapt_7 k (nI (4 * d + t)) (nI v) M (nI (12 * t + y))) (fun r => ∃ y', r = nI (12 * t + y') ∧ y ≤ y' ∧ y' ≤ b ∧ (∀ j, y ≤ j → j < y' → uq A ls qs t d j < v) ∧ (y' < b → v ≤ uq A ls qs t d y')) := by
    unfold lX1_isLeapt_7
    refine t_it (P := fun s => ∃ y', s = nI (12 * t + y') ∧ y ≤ y' ∧ y' ≤ b ∧ (∀ j, y ≤ j → j < y' → uq A ls qs t d j < v)) (μ := fun s => 100 - s.toInt.toNat) (fun s p => ?_) ⟨y, rfl, Nat.le_refl _, hyb, fun j a b => by omega⟩
    obtain ⟨y', rfl, p1, p2, p3⟩ := p
    refine t_be (rI_n (by omega) (by omega)) ?_
    rw [eb]
    refine t_ite (fun q => ?_) (fun q => ?_)
    · have q := (nI_leI (by omega) (by omega)).mp q
      exact t_ret ⟨y', rfl, p1, p2, p3, fun z => by omega⟩
    · have q := mt (nI_leI (a := 12 * t + b) (b := 12 * t + y') (by omega) (by omega)).mpr q
      obtain ⟨v1, v2⟩ := k_val hW hs hQ S hd (by omega) h (show y' < (qs t).length by omega)
      have v99 := uq_99 hW hQ hd h (show y' < (qs t).length by omega)
      refine t_be v1 ?_
      refine t_be (rI_n (by omega) (by omega)) ?_
      rw [S.2.2.1 t (by omega) d hd, if_pos h, v2]
      refine t_ite (fun z => ?_) (fun z => ?_)
      · have z := (nI_leI (by omega) (by omega)).mp z
        exact t_ret ⟨y', rfl, p1, p2, p3, fun _ => z⟩
      · have z := mt (nI_leI (a := v) (b := uq A ls qs t d y') (by omega) (by omega)).mpr z
        rw [nI_1]
        refine t_nx ⟨y' + 1, rfl, by omega, by omega, fun j a b => ?_⟩ (by rw [nIt (by omega), nIt (by omega)]; omega)
        rcases (by omega : j < y' ∨ j = y') with w | w
        · exact p3 j a w
        · rw [w]; omega
  obtain ⟨r, e, y', rfl, p1, p2, p3, p4⟩ := key
  unfold fX1_isLeapt bX1_isLeapt_43
  rw [rI_n (by omega) (by omega), obs, ea, e, obs, wI_n (by omega) (by omega), obs, pU_n, obs, rI_n (by omega) (by omega), obs]
  have e9 : ∀ {N : gM} {w1 w2 : Int32}, g_up (g_up N (k + 10) (4 * d + t) w1) k 1 w2 (k + 9) (4 * d + t) = N (k + 9) (4 * d + t) := fun {N w1 w2} => by rw [g_up_row (by omega), g_up_row (by omega)]
  rw [e9, eb]
  refine ⟨y', g_up (g_up M (k + 10) (4 * d + t) (nI (12 * t + y'))) k 1 (g_up M (k + 10) (4 * d + t) (nI (12 * t + y')) k 1 + 1), ?_, p1, p2, p3, p4, fun q a b => by rw [g_up_row a, g_up_row b], fun j => by rw [g_up_row (by omega), gu_in], by rw [g_up_self, g_up_row (by omega)], fun j hj => by rw [g_up_ne (Or.inr hj), g_up_row (by omega)]⟩
  by_cases c : y' < b
  · rw [if_neg (mt (nI_leI (by omega) (by omega)).mp (by omega)), if_pos c]
  · rw [if_pos ((nI_leI (by omega) (by omega)).mpr (by omega)), if_neg c]
/-- all stand at their first row -/
theorem c_isOpened (hW : WF A) (hs : okS ls) (hQ : QS A ls qs) (S : SX M k A ls qs) (hd : d < ls.length) {f a b : Nat → Nat} (hR : RG M k A ls qs d f a b) : ∃ v r, fX1_isOpened k (nI d) M = some (v, r) ∧ (∀ q, q ≠ k + 10 → r q = M q) ∧ (∀ j, j < 4 * d ∨ 4 * d + 4 ≤ j → r (k + 10) j = M (k + 10) j) ∧ ((v = 1 ∧ (∀ t, t < 4 → r (k + 10) (4 * d + t) = M (k + 8) (4 * d + t)) ∧ ∀ t, t < 4 → inB A ls t d = true → a t < b t) ∨ (v = 0 ∧ ∃ t, t < 4 ∧ inB A ls t d = true ∧ a t = b t)) := by
  have h4 := hs.1
  have key : T (lX1_isOpened_4 k (nI d) (nI (4 * d + 0), M)) (Sum.elim (fun r => (∀ q, q ≠ k + 10 → r q = M q) ∧ (∀ j, j < 4 * d ∨ 4 * d + 4 ≤ j → r (k + 10) j = M (k + 10) j) ∧ ∃ t, t < 4 ∧ inB A ls t d = true ∧ a t = b t) (fun r => (∀ q, q ≠ k + 10 → r q = M q) ∧ (∀ j, j < 4 * d ∨ 4 * d + 4 ≤ j → r (k + 10) j = M (k + 10) j) ∧ (∀ t, t < 4 → r (k + 10) (4 * d + t) = M (k + 8) (4 * d + t)) ∧ ∀ t, t < 4 → inB A ls t d = true → a t < b t)) := by
    unfold lX1_isOpened_4
    refine t_it (P := fun s => ∃ c, c ≤ 4 ∧ s.1 = nI (4 * d + c) ∧ (∀ q, q ≠ k + 10 → s.2 q = M q) ∧ (∀ j, j < 4 * d ∨ 4 * d + 4 ≤ j → s.2 (k + 10) j = M (k + 10) j) ∧ (∀ t, t < c → s.2 (k + 10) (4 * d + t) = M (k + 8) (4 * d + t)) ∧ ∀ t, t < c → inB A ls t d = true → a t < b t) (μ := fun s => 40 - s.1.toInt.toNat) (fun s p => ?_) ⟨0, by omega, rfl, fun _ _ => rfl, fun _ _ => rfl, fun t ht => absurd ht (Nat.not_lt_zero t), fun t ht => absurd ht (Nat.not_lt_zero t)⟩
    obtain ⟨s1, N⟩ := s
    obtain ⟨c, hc, e, p1, p2, p3, p4⟩ := p
    dsimp only at e p1 p2 p3
    subst e
    dsimp only
    rw [nI_1 d, L4, nI_mul]
    refine t_ite (fun q => ?_) (fun q => ?_)
    · have q := (nI_leI (by omega) (by omega)).mp q
      have : c = 4 := by omega
      subst this
      exact t_ret (show (∀ q, q ≠ k + 10 → N q = M q) ∧ _ from ⟨p1, p2, p3, p4⟩)
    · have q := mt (nI_leI (a := (d + 1) * 4) (b := 4 * d + c) (by omega) (by omega)).mpr q
      have c4 : c < 4 := by omega
      refine t_be (rI_n (by omega) (by omega)) ?_
      refine t_be (wI_n (by omega) (by omega)) ?_
      have k8 : ∀ {w : Int32} {j : Nat}, g_up N (k + 10) (4 * d + c) w (k + 7) j = M (k + 7) j := fun {w j} => by rw [g_up_row (by omega), p1 _ (by omega)]
      have k8' : ∀ {w : Int32} {j : Nat}, g_up N (k + 10) (4 * d + c) w (k + 8) j = M (k + 8) j := fun {w j} => by rw [g_up_row (by omega), p1 _ (by omega)]
      have k9' : ∀ {w : Int32} {j : Nat}, g_up N (k + 10) (4 * d + c) w (k + 9) j = M (k + 9) j := fun {w j} => by rw [g_up_row (by omega), p1 _ (by omega)]
      have e8 : N (k + 8) (4 * d + c) = M (k + 8) (4 * d + c) := by rw [p1 _ (by omega)]
      refine t_be (rI_n (by omega) (by omega)) ?_
      rw [k8, S.2.2.1 c c4 d hd, e8]
      generalize hN : g_up N (k + 10) (4 * d + c) (M (k + 8) (4 * d + c)) = N'
      have n1 : ∀ q, q ≠ k + 10 → N' q = M q := fun q hq => by rw [← hN, g_up_row hq]; exact p1 q hq
      have n2 : ∀ j, j < 4 * d ∨ 4 * d + 4 ≤ j → N' (k + 10) j = M (k + 10) j := fun j hj => by rw [← hN, g_up_ne (Or.inr (by omega))]; exact p2 j hj
      have n3 : ∀ t, t < c + 1 → N' (k + 10) (4 * d + t) = M (k + 8) (4 * d + t) := fun t ht => by
        rw [← hN, gu_in]
        rcases (by omega : t < c ∨ t = c) with z | z
        · rw [if_neg (by omega)]; exact p3 t z
        · rw [z, if_pos rfl]
      have mu : 40 - (nI (4 * d + c) + 1).toInt.toNat < 40 - (nI (4 * d + c)).toInt.toNat := by rw [nI_1, nIt (by omega), nIt (by omega)]; omega
      by_cases i : inB A ls c d = true
      · obtain ⟨r1, r2, r3, r4, _⟩ := hR c c4 (inB_and.mp i).1
        obtain ⟨q1, _⟩ := hQ c c4 (inB_and.mp i).1
        rw [if_pos i, if_neg sh_m1]
        refine t_be (rI_n (by omega) (by omega)) ?_
        refine t_be (rI_n (by omega) (by omega)) ?_
        rw [n1 (k + 8) (by omega), n1 (k + 9) (by omega), r1, r2]
        refine t_ite (fun z => ?_) (fun z => ?_)
        · have z := (nI_ltI (by omega) (by omega)).mp z
          unfold bX1_isOpened_52
          refine t_nx ⟨c + 1, by omega, nI_1 _, n1, n2, n3, fun t ht hi => ?_⟩ mu
          rcases (by omega : t < c ∨ t = c) with y | y
          · exact p4 t y hi
          · rw [y]; omega
        · have z := mt (nI_ltI (a := 12 * c + a c) (b := 12 * c + b c) (by omega) (by omega)).mpr z
          exact t_ret (show (∀ q, q ≠ k + 10 → N' q = M q) ∧ _ from ⟨n1, n2, c, c4, i, by omega⟩)
      · rw [if_neg i, if_pos rfl]
        unfold bX1_isOpened_52
        refine t_nx ⟨c + 1, by omega, nI_1 _, n1, n2, n3, fun t ht hi => ?_⟩ mu
        rcases (by omega : t < c ∨ t = c) with y | y
        · exact p4 t y hi
        · rw [y] at hi; exact absurd hi i
  obtain ⟨w, e, h⟩ := key
  have e0 : (nI (d * 4), M) = (nI (4 * d + 0), M) := by rw [Nat.mul_comm]; rfl
  unfold fX1_isOpened
  rw [L4, nI_mul, e0, e, obs]
  rcases w with w | w
  · obtain ⟨h1, h2, h3⟩ := h
    exact ⟨0, w, rfl, h1, h2, Or.inr ⟨rfl, h3⟩⟩
  · obtain ⟨h1, h2, h3, h4⟩ := h
    exact ⟨1, w, rfl, h1, h2, Or.inl ⟨rfl, h3, h4⟩⟩
/-- for the next depth: the rows with the number found -/
theorem c_narrow (hW : WF A) (hs : okS ls) (hQ : QS A ls qs) (S : SX M k A ls qs) (hd : d + 1 < ls.length) {f a b : Nat → Nat} (hR : RG M k A ls qs d f a b) {v : Nat} (hv : v < 1000)
    (hin : ∀ t, t < 4 → inB A ls t d = true → M (k + 10) (4 * d + t) = nI (12 * t + x t) ∧ a t ≤ x t ∧ x t < b t ∧ uq A ls qs t d (x t) = v ∧ ∀ j, a t ≤ j → j < x t → uq A ls qs t d j < v)
    (hout : ∀ t, t < 4 → A.2.1.testBit t = true → inB A ls t d = false → M (k + 10) (4 * d + t) = nI (12 * t + a t)) :
    ∃ r a' b', fX1_narrow k (nI d) (nI v) M = some r ∧ RG r k A ls qs (d + 1) (fun e => if e = d then v else f e) a' b' ∧ (∀ q, q ≠ k + 8 → q ≠ k + 9 → r q = M q) ∧ (∀ j, j < 4 * (d + 1) → r (k + 8) j = M (k + 8) j ∧ r (k + 9) j = M (k + 9) j) := by
  have h4 := hs.1
  -- what one table has then
  have goal1 : ∀ (t a' b' : Nat), t < 4 → A.2.1.testBit t = true → a' ≤ b' → b' ≤ (qs t).length → (∀ j, j < (qs t).length → ((a' ≤ j ∧ j < b') ↔ (a t ≤ j ∧ j < b t) ∧ (inB A ls t d = true → uq A ls qs t d j = v))) → ∀ j, j < (qs t).length → ((a' ≤ j ∧ j < b') ↔ ∀ e, e < d + 1 → inB A ls t e = true → uq A ls qs t e j = if e = d then v else f e) := by
    intro t a' b' ht u h1 h2 h3 j hj
    rw [h3 j hj, (hR t ht u).2.2.2.2 j hj]
    constructor
    · rintro ⟨g1, g2⟩ e he hi
      rcases (by omega : e < d ∨ e = d) with z | z
      · rw [if_neg (by omega)]; exact g1 e z hi
      · rw [if_pos z]
        subst z
        exact g2 hi
    · intro g
      refine ⟨fun e he hi => ?_, fun hi => ?_⟩
      · have := g e (by omega) hi
        rw [if_neg (by omega)] at this
        exact this
      · have := g d (by omega) hi
        rw [if_pos rfl] at this
        exact this
  have key : T (lX1_narrow_4 k (nI d) (nI v) (nI (4 * d + 0), M)) (fun r => (∀ q, q ≠ k + 8 → q ≠ k + 9 → r q = M q) ∧ (∀ j, j < 4 * (d + 1) → r (k + 8) j = M (k + 8) j ∧ r (k + 9) j = M (k + 9) j) ∧ ∀ t, t < 4 → A.2.1.testBit t = true → ∃ a' b', r (k + 8) (4 * (d + 1) + t) = nI (12 * t + a') ∧ r (k + 9) (4 * (d + 1) + t) = nI (12 * t + b') ∧ a' ≤ b' ∧ b' ≤ (qs t).length ∧ ∀ j, j < (qs t).length → ((a' ≤ j ∧ j < b') ↔ (a t ≤ j ∧ j < b t) ∧ (inB A ls t d = true → uq A ls qs t d j = v))) := by
    unfold lX1_narrow_4
    refine t_it (P := fun s => ∃ c, c ≤ 4 ∧ s.1 = nI (4 * d + c) ∧ (∀ q, q ≠ k + 8 → q ≠ k + 9 → s.2 q = M q) ∧ (∀ j, j < 4 * (d + 1) → s.2 (k + 8) j = M (k + 8) j ∧ s.2 (k + 9) j = M (k + 9) j) ∧ ∀ t, t < c → A.2.1.testBit t = true → ∃ a' b', s.2 (k + 8) (4 * (d + 1) + t) = nI (12 * t + a') ∧ s.2 (k + 9) (4 * (d + 1) + t) = nI (12 * t + b') ∧ a' ≤ b' ∧ b' ≤ (qs t).length ∧ ∀ j, j < (qs t).length → ((a' ≤ j ∧ j < b') ↔ (a t ≤ j ∧ j < b t) ∧ (inB A ls t d = true → uq A ls qs t d j = v))) (μ := fun s => 40 - s.1.toInt.toNat) (fun s p => ?_) ⟨0, by omega, rfl, fun _ _ _ => rfl, fun _ _ => ⟨rfl, rfl⟩, fun t ht => absurd ht (Nat.not_lt_zero t)⟩
    obtain ⟨s1, N⟩ := s
    obtain ⟨c, hc, e, p1, p2, p3⟩ := p
    dsimp only at e p1 p2 p3
    subst e
    dsimp only
    rw [nI_1 d, L4, nI_mul]
    refine t_ite (fun q => ?_) (fun q => ?_)
    · have q := (nI_leI (by omega) (by omega)).mp q
      have : c = 4 := by omega
      subst this
      exact t_ret (show (∀ q, q ≠ k + 8 → q ≠ k + 9 → N q = M q) ∧ _ from ⟨p1, p2, p3⟩)
    · have q := mt (nI_leI (a := (d + 1) * 4) (b := 4 * d + c) (by omega) (by omega)).mpr q
      have c4 : c < 4 := by omega
      have mu : 40 - (nI (4 * d + c) + 1).toInt.toNat < 40 - (nI (4 * d + c)).toInt.toNat := by rw [nI_1, nIt (by omega), nIt (by omega)]; omega
      rw [nI_add, show 4 * d + c + 4 = 4 * (d + 1) + c by omega]
      refine t_be (rI_n (by omega) (by omega)) ?_
      refine t_be (wI_n (by omega) (by omega)) ?_
      refine t_be (rI_n (by omega) (by omega)) ?_
      refine t_be (wI_n (by omega) (by omega)) ?_
      have e10 : N (k + 10) (4 * d + c) = M (k + 10) (4 * d + c) := by rw [p1 _ (by omega) (by omega)]
      have e9 : g_up N (k + 8) (4 * (d + 1) + c) (N (k + 10) (4 * d + c)) (k + 9) (4 * d + c) = M (k + 9) (4 * d + c) := by rw [g_up_row (by omega)]; exact (p2 _ (by omega)).2
      rw [e9, e10]
      generalize hN : g_up (g_up N (k + 8) (4 * (d + 1) + c) (M (k + 10) (4 * d + c))) (k + 9) (4 * (d + 1) + c) (M (k + 9) (4 * d + c)) = N'
      have n1 : ∀ q, q ≠ k + 8 → q ≠ k + 9 → N' q = M q := fun q h1 h2 => by rw [← hN, g_up_row h2, g_up_row h1]; exact p1 q h1 h2
      have n8 : ∀ j, N' (k + 8) j = if j = 4 * (d + 1) + c then M (k + 10) (4 * d + c) else N (k + 8) j := fun j => by rw [← hN, g_up_row (by omega), gu_in]
      have n9 : ∀ j, N' (k + 9) j = if j = 4 * (d + 1) + c then M (k + 9) (4 * d + c) else N (k + 9) j := fun j => by rw [← hN, gu_in, g_up_row (by omega)]
      have n2 : ∀ j, j < 4 * (d + 1) → N' (k + 8) j = M (k + 8) j ∧ N' (k + 9) j = M (k + 9) j := fun j hj => by
        rw [n8, n9, if_neg (by omega), if_neg (by omega)]; exact p2 j hj
      refine t_be (rI_n (by omega) (by omega)) ?_
      rw [n1 (k + 7) (by omega) (by omega), S.2.2.1 c c4 d (by omega)]
      by_cases i : inB A ls c d = true
      · have u := (inB_and.mp i).1
        obtain ⟨r1, r2, r3, r4, _⟩ := hR c c4 u
        obtain ⟨q1, _⟩ := hQ c c4 u
        obtain ⟨x1, x2, x3, x4, x5⟩ := hin c c4 i
        rw [if_pos i, if_neg sh_m1]
        refine t_be (rI_n (by omega) (by omega)) ?_
        rw [n1 (k + 10) (by omega) (by omega), x1]
        have inner : T (lX1_narrow_62 k (nI v) (nI (4 * d + c)) N' (nI (12 * c + x c))) (fun r => ∃ y, r = nI (12 * c + y) ∧ x c ≤ y ∧ y ≤ b c ∧ (∀ j, x c ≤ j → j < y → uq A ls qs c d j = v) ∧ (y < b c → uq A ls qs c d y ≠ v)) := by
          unfold lX1_narrow_62
          refine t_it (P := fun s => ∃ y, s = nI (12 * c + y) ∧ x c ≤ y ∧ y ≤ b c ∧ (∀ j, x c ≤ j → j < y → uq A ls qs c d j = v)) (μ := fun s => 100 - s.toInt.toNat) (fun s p => ?_) ⟨x c, rfl, Nat.le_refl _, by omega, fun j a b => by omega⟩
          obtain ⟨y, rfl, g1, g2, g3⟩ := p
          refine t_be (rI_n (by omega) (by omega)) ?_
          rw [(n2 _ (by omega)).2, r2]
          refine t_ite (fun q => ?_) (fun q => ?_)
          · have q := (nI_leI (by omega) (by omega)).mp q
            exact t_ret ⟨y, rfl, g1, g2, g3, fun z => by omega⟩
          · have q := mt (nI_leI (a := 12 * c + b c) (b := 12 * c + y) (by omega) (by omega)).mpr q
            obtain ⟨v1, v2⟩ := k_val hW hs hQ S (d := d) (by omega) c4 i (show y < (qs c).length by omega)
            have v99 := uq_99 hW hQ (by omega) i (show y < (qs c).length by omega)
            rw [n1 (k + 5) (by omega) (by omega)]
            refine t_be v1 ?_
            refine t_be (rI_n (by omega) (by omega)) ?_
            rw [n1 (k + 7) (by omega) (by omega), S.2.2.1 c c4 d (by omega), if_pos i, v2]
            refine t_ite (fun z => ?_) (fun z => ?_)
            · have z := nI_inj z (by omega) (by omega)
              rw [nI_1]
              refine t_nx ⟨y + 1, rfl, by omega, by omega, fun j a b => ?_⟩ (by rw [nIt (by omega), nIt (by omega)]; omega)
              rcases (by omega : j < y ∨ j = y) with w | w
              · exact g3 j a w
              · rw [w]; exact z
            · exact t_ret ⟨y, rfl, g1, g2, g3, fun _ w => z (by rw [w])⟩
        refine t_bind inner (fun w10 ⟨y, ey, g1, g2, g3, g4⟩ => ?_)
        subst ey
        unfold bX1_narrow_100 bX1_narrow_109
        refine t_be (wI_n (by omega) (by omega)) ?_
        refine t_nx ⟨c + 1, by omega, nI_1 _, fun q h1 h2 => by dsimp only; rw [g_up_row h2]; exact n1 q h1 h2, fun j hj => ?_, fun t ht hu => ?_⟩ mu
        · dsimp only
          rw [g_up_row (by omega), g_up_ne (Or.inr (by omega))]; exact n2 j hj
        · dsimp only
          rcases (by omega : t < c ∨ t = c) with z | z
          · obtain ⟨a', b', y1, y2, y3, y4, y5⟩ := p3 t z hu
            exact ⟨a', b', by rw [g_up_row (by omega), n8, if_neg (by omega)]; exact y1, by rw [g_up_ne (Or.inr (by omega)), n9, if_neg (by omega)]; exact y2, y3, y4, y5⟩
          · subst z
            refine ⟨x t, y, by rw [g_up_row (by omega), n8, if_pos rfl]; exact x1, by rw [g_up_self], g1, by omega, fun j hj => ⟨fun ⟨z1, z2⟩ => ⟨⟨by omega, by omega⟩, fun _ => g3 j z1 z2⟩, fun ⟨⟨z1, z2⟩, z3⟩ => ?_⟩⟩
            have z3 := z3 i
            refine ⟨?_, ?_⟩
            · rcases Nat.lt_or_ge j (x t) with w | w
              · have := x5 j z1 w
                omega
              · exact w
            · rcases Nat.lt_or_ge j y with w | w
              · exact w
              · exfalso
                have m1 := hR.mono hW hs hQ (d := d) (by omega) i (show a t ≤ y by omega) w z2
                have m2 := hR.mono hW hs hQ (d := d) (by omega) i x2 g1 (show y < b t by omega)
                exact g4 (by omega) (by omega)
      · have ib : inB A ls c d = false := by
          cases hh : inB A ls c d with
          | true => exact absurd hh i
          | false => rfl
        rw [if_neg i, if_pos rfl]
        unfold bX1_narrow_109
        refine t_nx ⟨c + 1, by omega, nI_1 _, n1, n2, fun t ht hu => ?_⟩ mu
        dsimp only
        rcases (by omega : t < c ∨ t = c) with z | z
        · obtain ⟨a', b', y1, y2, y3, y4, y5⟩ := p3 t z hu
          exact ⟨a', b', by rw [n8, if_neg (by omega)]; exact y1, by rw [n9, if_neg (by omega)]; exact y2, y3, y4, y5⟩
        · subst z
          obtain ⟨r1, r2, r3, r4, _⟩ := hR t c4 hu
          refine ⟨a t, b t, by rw [n8, if_pos rfl]; exact hout t (by omega) hu ib, by rw [n9, if_pos rfl]; exact r2, r3, r4, fun j hj => ⟨fun z => ⟨z, fun w => absurd w i⟩, fun z => z.1⟩⟩
  obtain ⟨r, e, h1, h2, h3⟩ := key
  have e0 : (nI (d * 4), M) = (nI (4 * d + 0), M) := by rw [Nat.mul_comm]; rfl
  -- the bounds as functions
  have ch : ∀ t, ∃ p : Nat × Nat, t < 4 → A.2.1.testBit t = true → r (k + 8) (4 * (d + 1) + t) = nI (12 * t + p.1) ∧ r (k + 9) (4 * (d + 1) + t) = nI (12 * t + p.2) ∧ p.1 ≤ p.2 ∧ p.2 ≤ (qs t).length ∧ ∀ j, j < (qs t).length → ((p.1 ≤ j ∧ j < p.2) ↔ (a t ≤ j ∧ j < b t) ∧ (inB A ls t d = true → uq A ls qs t d j = v)) := by
    intro t
    by_cases c : t < 4 ∧ A.2.1.testBit t = true
    · obtain ⟨a', b', g⟩ := h3 t c.1 c.2
      exact ⟨(a', b'), fun _ _ => g⟩
    · exact ⟨(0, 0), fun c1 c2 => absurd ⟨c1, c2⟩ c⟩
  have ch' := fun t => Classical.choose_spec (ch t)
  refine ⟨r, fun t => (Classical.choose (ch t)).1, fun t => (Classical.choose (ch t)).2, ?_, fun t ht u => ?_, h1, h2⟩
  · unfold fX1_narrow
    rw [L4, nI_mul, e0, e, obs]
  · obtain ⟨g1, g2, g3, g4, g5⟩ := ch' t ht u
    exact ⟨g1, g2, g3, g4, goal1 t _ _ ht u g3 g4 g5⟩
end SR
