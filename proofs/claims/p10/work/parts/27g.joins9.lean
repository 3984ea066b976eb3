/-! the reference's join -/
theorem CO.uniq {w : Nat} {lt : Nat → Int32} {l r r' : Int32} (hw : w ≤ 3) (h : CO w lt l r) (h' : CO w lt l r') : r = r' := by
  rcases h with ⟨i, h1, h2, h3, h4⟩ | ⟨h1, h2⟩ <;> rcases h' with ⟨i', h1', h2', h3', h4'⟩ | ⟨h1', h2'⟩
  · have : i = i' := by
      rcases (by omega : i < i' ∨ i = i' ∨ i' < i) with z | z | z
      · exact absurd h3 (h4' i z)
      · exact z
      · exact absurd h3' (h4 i' z)
    rw [h2, h2', this]
  · exact absurd h3 (h2' i h1)
  · exact absurd h3' (h2 i' h1')
  · rw [h1, h1']
theorem fl4_has : ∀ o, o < 24 → ∀ am, am < 16 → ∀ l, l < 4 → am.testBit l = true → (fl4 o am).contains l = true := by decide +kernel
/-- the rows of the join are made of numbers of the tables -/
def GJ9 (r : gM) : Prop := ∃ n J, n ≤ 4 ∧ J ≤ 20736 ∧ r 62 17 = nI n ∧ r 62 26 = nI J ∧ ∀ j, j < J → ∀ l, l < 4 → ∀ t, t < n → hs (r 70 0) t → ∀ c, c < 3 → CO (r 72 t).toInt.toNat (fun c => r 73 (3 * t + c)) (nI l) (nI c) → ∃ i, i < (r 70 (2 + t)).toInt.toNat ∧ r 70 (6 + 3 * (12 * t + i) + c) = r 80 (4 * j + l)
theorem n_joins17 {I0 I : gM} (hM : MI false I0 I) : T (lX9_joins_17 (nI 0, I)) (fun r => MI false I0 r ∧ (∀ l, l < 4 → r 75 l = -1) ∧ (∀ l, 1 ≤ l → l < 5 → r 79 l = 0) ∧ (∀ k, k ≠ 75 → k ≠ 79 → r k = I k)) := by
  unfold lX9_joins_17
  refine t_it (P := fun s => ∃ l, s.1 = nI l ∧ l ≤ 4 ∧ MI false I0 s.2 ∧ (∀ l', l' < l → s.2 75 l' = -1) ∧ (∀ l', 1 ≤ l' → l' < l + 1 → s.2 79 l' = 0) ∧ (∀ k, k ≠ 75 → k ≠ 79 → s.2 k = I k)) (μ := fun s => 20 - s.1.toInt.toNat) (fun s p => ?_) ⟨0, rfl, by omega, hM, fun l a => by omega, fun l a b => by omega, fun _ _ _ => rfl⟩
  obtain ⟨s1, s2⟩ := s
  obtain ⟨l, e1, h1, hM2, h2, h3, h4⟩ := p
  dsimp only at e1 hM2 h2 h3 h4
  subst e1
  dsimp only
  refine t_ite (fun c => ?_) (fun c => ?_)
  · have c := (nI_leI (a := 4) (by omega) (by omega)).mp c
    obtain rfl : l = 4 := by omega
    exact t_ret ⟨hM2, h2, h3, h4⟩
  · have c := mt (nI_leI (a := 4) (b := l) (by omega) (by omega)).mpr c
    refine t_be (wI_n (by omega) (by omega)) ?_
    rw [nI_1]
    refine t_be (wI_n (by omega) (by omega)) ?_
    refine t_nx ?_ (by show 20 - (nI (l + 1)).toInt.toNat < 20 - (nI l).toInt.toNat; rw [nIt (by omega), nIt (by omega)]; omega)
    dsimp only
    refine ⟨l + 1, rfl, by omega, (hM2.up (k := 75) rfl (lo := -1) (hi := 99) rfl (by decide) (by decide)).up (k := 79) rfl (lo := -2147483648) (hi := 2147483647) rfl (tTop _).1 (tTop _).2, fun l' a => ?_, fun l' a b => ?_, fun k y1 y2 => ?_⟩
    · rw [g_up_row (by omega), gu_in]
      by_cases z : l' = l
      · rw [if_pos z]
      · rw [if_neg z]; exact h2 l' (by omega)
    · rw [gu_in]
      by_cases z : l' = l + 1
      · rw [if_pos z]
      · rw [if_neg z, g_up_row (by omega)]; exact h3 l' a (by omega)
    · rw [g_up_row y2, g_up_row y1]; exact h4 k y1 y2
theorem Bs_of {I0 I : gM} (hM : MI false I0 I) : ∃ n D, Bs I n D := by
  obtain ⟨n, n4, en⟩ := hM.n (k := 62) (j := 17) (hi := 4) rfl
  obtain ⟨D, D4, eD⟩ := hM.n (k := 62) (j := 19) (hi := 4) rfl
  refine ⟨n, D, n4, D4, en, eD, fun t ht => hM.n (k := 70) (hi := 12) ?_, fun t ht => hM.n (k := 72) (hi := 3) rfl, fun d hd => ?_⟩
  · have := rgMany (x := ((2 + t : Nat) : Int)) (by omega) (by omega)
    rwa [show ((2 + t : Nat) : Int).toNat = 2 + t by omega] at this
  · obtain ⟨l, l3, el⟩ := hM.n (k := 74) (j := d) (hi := 3) rfl
    exact ⟨l, by omega, el⟩
/-- what stands ready when the search begins -/
theorem n_joinsB {I0 I : gM} (hM : MI false I0 I) {o : Nat} (ho : o < 24) : ∃ am B n, am < 16 ∧ (∀ l, l < 4 → (am.testBit l = true ↔ ask9 I n l)) ∧ fX9_joins (nI o) I = (fX9_goes 6 (nI 0) B).bind (fun r => some r) ∧ MI false I0 B ∧ Bs B n (fl4 o am).length ∧ Sq B (fl4 o am) ∧ Dp B n (fl4 o am).length ∧ B 62 26 = nI 0 ∧ B 62 27 = nI 0 ∧ (∀ l, l < 4 → B 75 l = -1) ∧ (∀ l, 1 ≤ l → l < 5 → B 79 l = 0) ∧ (∀ k, k ≠ 62 → k ≠ 74 → k ≠ 75 → k ≠ 79 → B k = I k) ∧ ∀ j, j ≠ 19 → j ≠ 26 → j ≠ 27 → B 62 j = I 62 j := by
  obtain ⟨n, n4, en⟩ := hM.n (k := 62) (j := 17) (hi := 4) rfl
  obtain ⟨am, r, am1, am2, e1, r1, r2, r3, r4⟩ := n_laysOrder hM (n := n) (by omega) en ho
  have M2 : MI false I0 (g_up (g_up r 62 26 0) 62 27 0) := (r1.up (k := 62) rfl (lo := 0) (hi := 20736) rfl (by decide) (by decide)).up (k := 62) rfl (lo := -2147483648) (hi := 2147483647) rfl (by decide) (by decide)
  obtain ⟨B, eB, b1, b2, b3, b4⟩ := n_joins17 M2
  have bk : ∀ k, k ≠ 62 → k ≠ 74 → k ≠ 75 → k ≠ 79 → B k = I k := fun k y1 y2 y3 y4 => by rw [b4 k y3 y4, g_up_row y1, g_up_row y1, r3 k y1 y2]
  have bj : ∀ j, j ≠ 19 → j ≠ 26 → j ≠ 27 → B 62 j = I 62 j := fun j y1 y2 y3 => by rw [b4 62 (by omega) (by omega), g_up_ne (Or.inr y3), g_up_ne (Or.inr y2), r4 j y1]
  have bS : Sq B (fl4 o am) := ⟨by rw [b4 62 (by omega) (by omega), g_up_ne (Or.inr (by omega)), g_up_ne (Or.inr (by omega))]; exact r2.1, fun d hd => by rw [b4 74 (by omega) (by omega), g_up_row (by omega), g_up_row (by omega)]; exact r2.2 d hd⟩
  have l4 : (fl4 o am).length ≤ 4 := flt_len o am 4
  have bB : Bs B n (fl4 o am).length := by
    obtain ⟨n', D', q1, q2, q3, q4, q5, q6, q7⟩ := Bs_of b1
    exact ⟨by omega, l4, by rw [bj 17 (by omega) (by omega) (by omega)]; exact en, bS.1, q5, q6, q7⟩
  have bl : ∀ d, d < (fl4 o am).length → lo B d = (fl4 o am).getD d 0 := fun d hd => by
    unfold lo
    rw [bS.2 d hd, nIt (by have := (fl4_mem o ho am am1 d (by omega) hd).1; omega)]
  refine ⟨am, B, n, am1, am2, ?_, b1, bB, bS, ⟨fun d e hd he hne => ?_, fun d hd => ?_⟩, ?_, ?_, b2, b3, bk, bj⟩
  · unfold fX9_joins
    rw [e1, obs, pU_n, obs, pU_n, obs]
    rw [L0] at eB ⊢
    rw [eB, obs]
  · rw [bl d hd, bl e he]
    rcases (by omega : d < e ∨ e < d) with z | z
    · exact fl4_ne ho am1 (by omega) he z
    · exact (fl4_ne ho am1 (by omega) hd z).symm
  · obtain ⟨m1, m2⟩ := fl4_mem o ho am am1 d (by omega) hd
    obtain ⟨t, t1, t2, c, c1, c2⟩ := (am2 _ m1).mp m2
    refine ⟨t, t1, ?_, fun q => ?_⟩
    · rw [bk 70 (by omega) (by omega) (by omega) (by omega)]; exact t2
    · obtain ⟨w, w3, ew⟩ := bB.2.2.2.2.2.1 t (by omega)
      obtain ⟨x, ex, cx⟩ := n_columnOf (I := B) (t := t) (by omega) w3 ew (B 74 d)
      have hx : x = cv B t d := by unfold cv; rw [ex]; rfl
      rw [hx, q, bS.2 d hd] at cx
      rcases cx with ⟨i, i1, i2, i3⟩ | ⟨_, i2⟩
      · exact nI_m1 (by omega) i2.symm
      · refine i2 c ?_ ?_
        · rw [← bk 72 (by omega) (by omega) (by omega) (by omega), ew, nIt (by omega)] at c1; exact c1
        · show B 73 (3 * t + c) = _
          rw [bk 73 (by omega) (by omega) (by omega) (by omega)]; exact c2
  · rw [b4 62 (by omega) (by omega), g_up_ne (Or.inr (by omega)), g_up_self]; rfl
  · rw [b4 62 (by omega) (by omega), g_up_self]; rfl
theorem tfX9_joins {I0 : gM} (v1 : Int32) (I : gM) (hM : MI false I0 I) (av1 : 0 ≤ v1.toInt ∧ v1.toInt ≤ 23) : T (fX9_joins v1 I) (fun r => MI false I0 r ∧ (GJ9 r)) := by
  have ev : v1 = nI v1.toInt.toNat := nI_self av1.1
  obtain ⟨o, ho⟩ : ∃ o, o = v1.toInt.toNat := ⟨_, rfl⟩
  have ho24 : o < 24 := by omega
  rw [ev, ← ho]
  obtain ⟨am, B, n, am1, am2, e, b1, b2, b3, b4, b5, b6, b7, b8, b9, b10⟩ := n_joinsB hM ho24
  rw [e]
  have l4 : (fl4 o am).length ≤ 4 := flt_len o am 4
  have n4 := b2.1
  have pw : 12 ^ ((fl4 o am).length - 0) ≤ 12 ^ 4 := Nat.pow_le_pow_right (by omega) (by omega)
  refine t_bind (n_goes b2 b4 6 0 (by omega) (by omega) B 0 b1 ⟨rfl, rfl, rfl, rfl, rfl, rfl⟩ b5 (by omega) (fun e he => by omega)) (fun r hr => t_ret ?_)
  obtain ⟨r1, r2, ⟨J, J1, J2, J3, J4, _, _⟩, r3⟩ := hr
  refine ⟨r1, n, J, n4, by omega, r2.1.trans b2.2.2.1, J1, fun j hj l hl t ht hu c hc hco => ?_⟩
  have eR : r 70 = B 70 := r2.2.2.1
  rw [eR] at hu ⊢
  rw [r2.2.2.2.1, r2.2.2.2.2.1] at hco
  obtain ⟨w, w3, ew⟩ := b2.2.2.2.2.2.1 t (by omega)
  rw [ew, nIt (by omega)] at hco
  have ha : ask9 I n l := by
    obtain ⟨i, i1, i2, i3⟩ := hco.lt w3 (nI_m1 (by omega))
    refine ⟨t, ht, by rw [← b9 70 (by omega) (by omega) (by omega) (by omega)]; exact hu, i, ?_, ?_⟩
    · rw [← b9 72 (by omega) (by omega) (by omega) (by omega), ew, nIt (by omega)]; exact i1
    · rw [← b9 73 (by omega) (by omega) (by omega) (by omega)]; exact i3
  have hmem : l ∈ fl4 o am := List.contains_iff_mem.mp (fl4_has o ho24 am am1 l hl ((am2 l hl).mpr ha))
  obtain ⟨d, hd, ed⟩ := List.mem_iff_getElem.mp hmem
  have eg : (fl4 o am).getD d 0 = l := by rw [List.getD_eq_getElem?_getD, List.getElem?_eq_getElem hd]; exact ed
  have e74 : B 74 d = nI l := by rw [b3.2 d hd, eg]
  have el : lo B d = l := by unfold lo; rw [e74, nIt (by omega)]
  obtain ⟨x, ex, cx⟩ := n_columnOf (I := B) (t := t) (by omega) w3 ew (B 74 d)
  have hx : x = cv B t d := by unfold cv; rw [ex]; rfl
  rw [e74] at cx
  have hcv : cv B t d = nI c := by rw [← hx]; exact cx.uniq w3 hco
  have hcn : cn B t d = c := by unfold cn; rw [hcv, nIt (by omega)]
  obtain ⟨i, i1, i2⟩ := J4 j (by omega) hj d hd t ht ⟨hu, by rw [hcv]; exact nI_m1 (by omega)⟩
  refine ⟨i, i1, ?_⟩
  unfold vl at i2
  rw [hcn, el] at i2
  exact i2
/-- the search's end, and what it says -/
theorem n_joinsQ {I0 I : gM} (hM : MI false I0 I) {o : Nat} (ho : o < 24) : ∃ am B n r J, am < 16 ∧ (∀ l, l < 4 → (am.testBit l = true ↔ ask9 I n l)) ∧ fX9_joins (nI o) I = some r ∧ MI false I0 B ∧ Bs B n (fl4 o am).length ∧ Sq B (fl4 o am) ∧ Dp B n (fl4 o am).length ∧ (∀ k, k ≠ 62 → k ≠ 74 → k ≠ 75 → k ≠ 79 → B k = I k) ∧ (∀ j, j ≠ 19 → j ≠ 26 → j ≠ 27 → B 62 j = I 62 j) ∧ Cx B r ∧ r 62 26 = nI J ∧ J ≤ 20736 ∧ (∀ j, j < J → Cs B n (fl4 o am).length 0 (fun e => r 80 (4 * j + lo B e))) ∧ ∀ g, Cs B n (fl4 o am).length 0 g → 0 < J := by
  obtain ⟨am, B, n, am1, am2, e, b1, b2, b3, b4, b5, b6, b7, b8, b9, b10⟩ := n_joinsB hM ho
  have l4 : (fl4 o am).length ≤ 4 := flt_len o am 4
  have pw : 12 ^ ((fl4 o am).length - 0) ≤ 12 ^ 4 := Nat.pow_le_pow_right (by omega) (by omega)
  obtain ⟨r, er, r1, r2, ⟨J, J1, J2, J3, J4, J5, J6⟩, r3⟩ := n_goes b2 b4 6 0 (by omega) (by omega) B 0 b1 ⟨rfl, rfl, rfl, rfl, rfl, rfl⟩ b5 (by omega) (fun e he => by omega)
  exact ⟨am, B, n, r, J, am1, am2, by rw [e, er]; rfl, b1, b2, b3, b4, b9, b10, r2, J1, by omega, fun j hj => (J5 j (by omega) hj).2, fun g hg => J6 g (fun e he => by omega) hg⟩
theorem ask9_c {I I' : gM} (h70 : I' 70 = I 70) (h72 : I' 72 = I 72) (h73 : I' 73 = I 73) (n l : Nat) : ask9 I' n l ↔ ask9 I n l := by
  unfold ask9
  rw [h70, h72, h73]
/-- a join is empty or not by the tables alone -/
theorem joins_pos {I0 I I' : gM} (hM : MI false I0 I) (hM' : MI false I0 I') {o : Nat} (ho : o < 24) (h17 : I' 62 17 = I 62 17) (h70 : I' 70 = I 70) (h72 : I' 72 = I 72) (h73 : I' 73 = I 73) {r r' : gM} (e : fX9_joins (nI o) I = some r) (e' : fX9_joins (nI o) I' = some r') (h : 0 < (r 62 26).toInt) : 0 < (r' 62 26).toInt := by
  obtain ⟨am, B, n, r1, J, a1, a2, a3, a4, a5, a6, a7, a8, a9, a10, a11, a12, a13, a14⟩ := n_joinsQ hM ho
  obtain ⟨am', B', n', r1', J', b1, b2, b3, b4, b5, b6, b7, b8, b9, b10, b11, b12, b13, b14⟩ := n_joinsQ hM' ho
  obtain rfl := Option.some.inj (e.symm.trans a3)
  obtain rfl := Option.some.inj (e'.symm.trans b3)
  have n4 := a5.1
  have n4' := b5.1
  obtain rfl : n' = n := nI_inj (b5.2.2.1.symm.trans ((b9 17 (by omega) (by omega) (by omega)).trans (h17.trans ((a9 17 (by omega) (by omega) (by omega)).symm.trans a5.2.2.1)))) (by omega) (by omega)
  have eam : am' = am := Nat.eq_of_testBit_eq (fun l => by
    by_cases hl : l < 4
    · have a := b2 l hl
      rw [ask9_c h70 h72 h73, ← a2 l hl] at a
      cases h1 : am'.testBit l <;> cases h2 : am.testBit l <;> simp_all
    · have p1 : (2 : Nat) ^ 4 ≤ 2 ^ l := Nat.pow_le_pow_right (by omega) (by omega)
      rw [Nat.testBit_lt_two_pow (Nat.lt_of_lt_of_le b1 p1), Nat.testBit_lt_two_pow (Nat.lt_of_lt_of_le a1 p1)])
  subst eam
  have q70 : B' 70 = B 70 := by rw [b8 70 (by omega) (by omega) (by omega) (by omega), h70, a8 70 (by omega) (by omega) (by omega) (by omega)]
  have q72 : B' 72 = B 72 := by rw [b8 72 (by omega) (by omega) (by omega) (by omega), h72, a8 72 (by omega) (by omega) (by omega) (by omega)]
  have q73 : B' 73 = B 73 := by rw [b8 73 (by omega) (by omega) (by omega) (by omega), h73, a8 73 (by omega) (by omega) (by omega) (by omega)]
  have q74 : ∀ d, d < (fl4 o am').length → B' 74 d = B 74 d := fun d hd => by rw [b6.2 d hd, a6.2 d hd]
  have qcv : ∀ t d, d < (fl4 o am').length → cv B' t d = cv B t d := fun t d hd => by
    unfold cv
    rw [q74 d hd]
    unfold fX9_columnOf lX9_columnOf_2
    rw [q72, q73]
  have qvl : ∀ t i d, d < (fl4 o am').length → vl B' t i d = vl B t i d := fun t i d hd => by
    unfold vl cn
    rw [qcv t d hd, q70]
  have J0 : 0 < J := by
    rw [a11, tnI (by omega)] at h; omega
  have hc := a13 0 J0
  have : 0 < J' := b14 (fun e => r 80 (4 * 0 + lo B e)) (fun e h1 h2 t ht q => by
    have q' : inn B t e := by
      unfold inn at q ⊢
      rw [q70, qcv t e h2] at q; exact q
    obtain ⟨i, i1, i2, i3⟩ := hc e h1 h2 t ht q'
    refine ⟨i, by unfold mn; rw [q70]; exact i1, fun e' he' => ?_, by rw [qvl t i e h2]; exact i3⟩
    rw [qcv t e' (by omega), qvl t i e' (by omega)]; exact i2 e' he')
  rw [b11, tnI (by omega)]; omega
