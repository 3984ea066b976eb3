/-! the class reads a script -/
/-- a script's cells hold these steps -/
def ScK (M : gM) (k : Nat) (ss : List (Nat × Nat × List Nat)) : Prop := M k 0 = nI ss.length ∧ ss.length ≤ 12 ∧ ∀ a, a < 5 * ss.length → M (k + 1) a = se (ss.getD (a / 5) (0, 0, [])) (a % 5)
theorem gd_lt {α : Type} {l : List α} {x d : α} {i : Nat} (h : i < l.length) : (l ++ [x]).getD i d = l.getD i d := by
  rw [List.getD_eq_getElem?_getD, List.getD_eq_getElem?_getD, List.getElem?_append_left h]
theorem gd_eq {α : Type} {l : List α} {x d : α} : (l ++ [x]).getD l.length d = x := by
  rw [List.getD_eq_getElem?_getD, List.getElem?_append_right (Nat.le_refl _), Nat.sub_self]; rfl
theorem ln1 {α : Type} {l : List α} {x : α} : (l ++ [x]).length = l.length + 1 := by rw [List.length_append]; rfl
theorem c_add4 {I0 M : gM} (hM : MI true I0 M) {ss : List (Nat × Nat × List Nat)} {so a : Nat} (hS : ScK M 51 ss) (hl : ss.length < 12) : ∃ r, fX4_add 51 (nI so) (nI a) M = some r ∧ ScK r 51 (ss ++ [(so, a, [])]) := by
  obtain ⟨s1, s2, s3⟩ := hS
  unfold fX4_add
  rw [s1, L12, if_neg (mt (nI_leI (by omega) (by omega)).mp (by omega)), L5, nI_mul, wI_n (by omega) (by omega), obs, nI_1, wI_n (by omega) (by omega), obs, L2, nI_add, nI_add]
  generalize hN : g_up (g_up M (51 + 1) (ss.length * 5) (nI so)) (51 + 1) (ss.length * 5 + 1) (nI a) = N
  have hMN : MI true I0 N := by
    rw [← hN]
    exact (hM.up (k := 52) rfl (lo := -2147483648) (hi := 2147483647) rfl (tTop _).1 (tTop _).2).up (k := 52) rfl (lo := -2147483648) (hi := 2147483647) rfl (tTop _).1 (tTop _).2
  obtain ⟨r3, e3, hM3, h1, h2⟩ := t_fill2 (51 + 1) 60 (nI (ss.length * 5 + 2)) (nI (ss.length * 5 + 5)) (-1) N hMN rfl (fun j _ => (rfl : rg 52 j = (-2147483648, 2147483647))) (by decide) ⟨by decide, by decide⟩ (tnI (by omega)) (tnI (by omega)) (by omega) (by omega) (by omega)
  rw [e3, obs, pU_n, obs]
  refine ⟨_, rfl, ?_, by rw [ln1]; omega, fun x hx => ?_⟩
  · rw [g_up_self, h1 51 (by decide), ← hN, g_up_row (by decide), g_up_row (by decide), s1, nI_1, ln1]
  · rw [ln1] at hx
    rw [g_up_row (by decide), h2, ← hN, gu_in, gu_in]
    by_cases c : x < 5 * ss.length
    · rw [if_neg (by omega), if_neg (by omega), if_neg (by omega), s3 x c, gd_lt (by omega)]
    · rw [show x / 5 = ss.length by omega, gd_eq]
      unfold se ce
      by_cases c0 : x = ss.length * 5
      · rw [if_neg (by omega), if_neg (by omega), if_pos c0, if_pos (by omega)]
      · by_cases c1 : x = ss.length * 5 + 1
        · rw [if_neg (by omega), if_pos c1, if_neg (by omega), if_pos (by omega)]
        · rw [if_pos (by omega), if_neg (by omega), if_neg (by omega), if_neg (by simp only [List.length_nil]; omega)]
theorem c_set4 {M : gM} {ss : List (Nat × Nat × List Nat)} {so a v : Nat} {ns : List Nat} (hS : ScK M 51 (ss ++ [(so, a, ns)])) (hn : ns.length < 3) : fX4_setNumber 51 (nI ns.length) (nI v) M = some (g_up M 52 (5 * ss.length + 2 + ns.length) (nI v)) ∧ ScK (g_up M 52 (5 * ss.length + 2 + ns.length) (nI v)) 51 (ss ++ [(so, a, ns ++ [v])]) := by
  obtain ⟨s1, s2, s3⟩ := hS
  rw [ln1] at s1 s2 s3
  refine ⟨?_, ?_, by rw [ln1]; omega, fun x hx => ?_⟩
  · unfold fX4_setNumber
    rw [s1, L0, if_neg (mt (nI_leI (by omega) (by omega)).mp (by omega)), if_neg (mt (nI_ltI (by omega) (by omega)).mp (by omega)), L3, if_neg (mt (nI_leI (by omega) (by omega)).mp (by omega)), nI_s1 (by omega), L5, nI_mul, L2, nI_add, nI_add, show (ss.length + 1 - 1) * 5 + 2 + ns.length = 5 * ss.length + 2 + ns.length by omega, wI_n (by omega) (by omega), obs]
  · rw [g_up_row (by decide), s1, ln1]
  · rw [ln1] at hx
    show g_up M 52 _ _ 52 x = _
    rw [gu_in, show M 52 x = M (51 + 1) x from rfl, s3 x hx]
    by_cases c : x < 5 * ss.length
    · rw [if_neg (by omega), gd_lt (by omega), gd_lt (by omega)]
    · rw [show x / 5 = ss.length by omega, gd_eq, gd_eq]
      unfold se ce
      dsimp only
      by_cases c0 : x % 5 = 0
      · rw [if_neg (by omega), if_pos c0, if_pos c0]
      · by_cases c1 : x % 5 = 1
        · rw [if_neg (by omega), if_neg c0, if_neg c0, if_pos c1, if_pos c1]
        · rw [if_neg c0, if_neg c0, if_neg c1, if_neg c1, ln1]
          by_cases c2 : x = 5 * ss.length + 2 + ns.length
          · rw [if_pos c2, if_pos (by omega), show x % 5 - 2 = ns.length by omega, gd_eq]
          · rw [if_neg c2]
            by_cases c3 : x % 5 - 2 < ns.length
            · rw [if_pos c3, if_pos (by omega), gd_lt c3]
            · rw [if_neg c3, if_neg (by omega)]
theorem ScK.mv {M : gM} {ss : List (Nat × Nat × List Nat)} (h : ScK M 51 ss) (q : Nat) : ScK (P6 M q) 51 ss := ⟨by rw [P6_k (by decide)]; exact h.1, h.2.1, fun a ha => by rw [P6_k (by decide)]; exact h.2.2 a ha⟩
/-- what reading a step ends in -/
def SR (w : Nat → Int32) (n : Nat) (ss : List (Nat × Nat × List Nat)) (sp : Option ((Nat × Nat × List Nat) × Nat)) (r : Int32 × gM) : Prop :=
  (∃ x, sp = some x ∧ r.1 = 1 ∧ ScK r.2 51 (ss ++ [x.1]) ∧ ∃ p', C8 r.2 w n p' ∧ sk w n p' = sk w n x.2) ∨ (sp = none ∧ (r.1 = 0 ∨ (r.1 = 1 ∧ BS r.2 w n)))
noncomputable def kRs : (gM ⊕ (gM ⊕ gM)) → Option (Int32 × gM) := fun w6 => Sum.elim (fun w6_0 => some ((0 : Int32), w6_0)) (Sum.elim (fun w6_1 => some ((1 : Int32), w6_1)) (fun w6_2 => some ((1 : Int32), w6_2))) w6
theorem hr_dg {w : Nat → Int32} {n q : Nat} {c : Int32} (h : dg (hr w n q)) (hc : ¬ dg c) : hr w n (sk w n q) ≠ c := by
  rw [sk_dg h]
  intro e
  rw [e] at h
  exact hc h
theorem c_numsGo {w : Nat → Int32} {n so a : Nat} {ss : List (Nat × Nat × List Nat)} : ∀ (k : Nat) (ns : List Nat) (p : Nat) (M : gM) (r : Int32 × gM), 1 ≤ k → ns.length + k = 3 → C8 M w n p → p < n → ScK M 51 (ss ++ [(so, a, ns)]) →
    (lX6_isRowOfStep_13 51 (nI ns.length, M)).bind kRs = some r → SR w n ss ((pNums w n k ns (p + 1)).bind fun y => some ((so, a, y.1), y.2)) r := by
  intro k
  induction k with
  | zero => intro ns p M r h; omega
  | succ k ih =>
    intro ns p M r _ hk hT hp hS h
    have hn := hT.2.1
    unfold lX6_isRowOfStep_13 at h
    rw [itO_eq] at h; dsimp only at h
    rw [L3, if_neg (mt (nI_leI (by omega) (by omega)).mp (by omega)), pU_n, obs, hT.2.2.1, nI_1, show g_up M 1 2 (nI (p + 1)) = P6 M (p + 1) from rfl] at h
    unfold pNums
    rcases c_number (hT.at (q := p + 1) (by omega)) with ⟨x, e1, e2⟩ | ⟨e1, e2⟩
    · have l1 := cNum_le e1
      obtain ⟨z1, z2⟩ := c_set4 (v := x.1) (hS.mv x.2) (by omega)
      have hTx : C8 (g_up (P6 M x.2) 52 (5 * ss.length + 2 + ns.length) (nI x.1)) w n x.2 := (hT.at (q := x.2) l1.2).cong (fun j => by rw [g_up_row (by decide)]) (fun j => by rw [g_up_row (by decide)])
      have hs := sk_le (w := w) l1.2
      rw [e2, obs, P6_P6] at h; dsimp only at h
      rw [if_neg (nI_m1 (by omega)), z1, obs, c_peek hTx, obs] at h
      dsimp only at h
      generalize g_up (P6 M x.2) 52 (5 * ss.length + 2 + ns.length) (nI x.1) = N at *
      have sksk := sk_sk (w := w) l1.2
      rcases cNum_p (w := w) (n := n) (p := p + 1) (hi := 99) with ⟨y, f1, f2, _⟩ | ⟨f1, f2⟩
      · rw [e1] at f2
        cases f2
        rw [f1, obs]
        by_cases k0 : k = 0
        · rw [if_pos k0, obs]
          refine Or.inl ⟨_, rfl, ?_⟩
          dsimp only
          by_cases c : hr w n (sk w n x.2) = 44
          · rw [if_pos c, obs] at h
            change (lX6_isRowOfStep_13 51 (nI ns.length + 1, P6 N (sk w n x.2))).bind kRs = some r at h
            unfold lX6_isRowOfStep_13 at h
            rw [itO_eq] at h; dsimp only at h
            rw [nI_1, L3, if_pos ((nI_leI (by omega) (by omega)).mpr (by omega)), obs] at h
            cases h
            exact ⟨rfl, z2.mv _, _, hTx.at hs.2, sksk⟩
          · rw [if_neg c, obs] at h
            cases h
            exact ⟨rfl, z2.mv _, _, hTx.at hs.2, sksk⟩
        · rw [if_neg k0]
          by_cases c : hr w n (sk w n x.2) = 44
          · have l2 := hr_lt (w := w) (n := n) (p := sk w n x.2) (by rw [c]; decide)
            rw [if_pos c, obs] at h
            change (lX6_isRowOfStep_13 51 (nI ns.length + 1, P6 N (sk w n x.2))).bind kRs = some r at h
            rw [nI_1, ← ln1 (x := x.1)] at h
            rw [if_pos c]
            exact ih (ns ++ [x.1]) (sk w n x.2) _ r (by omega) (by rw [ln1]; omega) (hTx.at hs.2) l2 (z2.mv _) h
          · rw [if_neg c, obs] at h
            cases h
            rw [if_neg c, obs]
            exact Or.inl ⟨_, rfl, rfl, z2.mv _, _, hTx.at hs.2, rfl⟩
      · rw [f1]
        refine Or.inr ⟨rfl, ?_⟩
        rw [e1] at f2
        rcases f2 with f2 | ⟨y, f2, f3⟩ | ⟨y, f2, f3⟩
        · cases f2
        · cases f2
          rw [if_neg (hr_dg f3 (by decide)), obs] at h
          cases h
          exact Or.inr ⟨rfl, sk w n x.2, hTx.at hs.2, by rw [sk_dg f3]; exact f3⟩
        · cases f2; omega
    · rw [e2, obs] at h; dsimp only at h
      rw [if_pos rfl, obs] at h
      cases h
      rcases cNum_p (w := w) (n := n) (p := p + 1) (hi := 99) with ⟨y, f1, f2, _⟩ | ⟨f1, _⟩
      · rw [e1] at f2; cases f2
      · rw [f1]; exact Or.inr ⟨rfl, Or.inl rfl⟩
theorem c_isRowOfStep {M : gM} {w : Nat → Int32} {n p so a : Nat} {ss : List (Nat × Nat × List Nat)} (hT : C8 M w n p) (hS : ScK M 51 (ss ++ [(so, a, [])])) {r : Int32 × gM} (h : fX6_isRowOfStep 51 M = some r) :
    SR w n ss ((pMust w n 58 p).bind fun p3 => (pNums w n 3 [] p3).bind fun y => some ((so, a, y.1), y.2)) r := by
  have hs := sk_le (w := w) hT.2.2.2.1
  unfold fX6_isRowOfStep at h
  unfold pMust
  rw [c_peek hT, obs] at h
  dsimp only at h
  by_cases c : hr w n (sk w n p) = 58
  · have l1 := hr_lt (w := w) (n := n) (p := sk w n p) (by rw [c]; decide)
    rw [if_pos c] at h
    rw [if_pos c, obs]
    exact c_numsGo 3 [] (sk w n p) _ r (by omega) rfl (hT.at hs.2) l1 (hS.mv _) h
  · rw [if_neg c] at h
    cases h
    rw [if_neg c]
    exact Or.inr ⟨rfl, Or.inl rfl⟩
theorem c_99 {I0 M : gM} {w : Nat → Int32} {n p so a : Nat} {ss : List (Nat × Nat × List Nat)} {sg dgt : Int32} (hT : C8 M w n p) (hM : MI true I0 M) (hS : ScK M 51 ss) (hl : ss.length < 12) (hso : so ≤ 2) (hsg : sg = 117 ↔ so = 2) (hd : dgt - 48 = nI a) {r : Int32 × gM} (h : bX6_isStep_99 51 sg dgt (nI so) M = some r) :
    SR w n ss (if so ≤ 1 then (pMust w n 58 p).bind fun p3 => (pNums w n 3 [] p3).bind fun y => some ((so, a, y.1), y.2) else some ((so, a, []), p)) r := by
  obtain ⟨N, e, hN⟩ := c_add4 (so := so) (a := a) hM hS hl
  have f := xfX4_add _ _ _ _ e
  have hTN : C8 N w n p := hT.cong (fun j => f 1 j (by decide) (Or.inl (by decide))) (fun j => f 2 j (by decide) (Or.inl (by decide)))
  unfold bX6_isStep_99 at h
  rw [hd, e, obs] at h
  by_cases c : sg = 117
  · rw [if_pos c] at h
    cases h
    rw [if_neg (by have := hsg.mp c; omega)]
    exact Or.inl ⟨_, rfl, rfl, hN, p, hTN, rfl⟩
  · rw [if_neg c] at h
    rw [if_pos (by have := mt hsg.mpr c; omega)]
    obtain ⟨r9, e9, h⟩ := ob h
    have q := c_isRowOfStep hTN hN e9
    rcases q with ⟨x, q1, q2, q3⟩ | ⟨q1, q2 | ⟨q2, q3⟩⟩
    · rw [if_neg (by rw [q2]; exact n10)] at h
      cases h
      exact Or.inl ⟨x, q1, rfl, q3⟩
    · rw [if_pos q2] at h
      cases h
      exact Or.inr ⟨q1, Or.inl rfl⟩
    · rw [if_neg (by rw [q2]; exact n10)] at h
      cases h
      exact Or.inr ⟨q1, Or.inr ⟨rfl, q3⟩⟩
theorem c_isOrder {I0 M : gM} {w : Nat → Int32} {n p : Nat} {ss : List (Nat × Nat × List Nat)} (hT : C8 M w n p) (hM : MI true I0 M) (hS : ScK M 51 ss) (hl : ss.length < 12) {r : Int32 × gM} (h : fX6_isOrder 51 M = some r) :
    SR w n ss ((pNum w n 23 p).bind fun x => some ((3, x.1, []), x.2)) r := by
  have hn := hT.2.1
  unfold fX6_isOrder at h
  rcases c_number hT with ⟨x, e1, e2⟩ | ⟨e1, e2⟩
  · have l1 := cNum_le e1
    have hTx := hT.at (q := x.2) l1.2
    rw [e2, obs] at h; dsimp only at h
    rw [if_neg (nI_m1 (by omega))] at h
    by_cases c : x.1 < 24
    · obtain ⟨N, e, hN⟩ := c_add4 (I0 := I0) (M := P6 M x.2) (so := 3) (a := x.1) (hM.up (k := 1) rfl (lo := 0) (hi := 400) rfl (by rw [tnI (by omega)]; omega) (by rw [tnI (by omega)]; omega)) (hS.mv _) hl
      have f := xfX4_add _ _ _ _ e
      have hTN : C8 N w n x.2 := hTx.cong (fun j => f 1 j (by decide) (Or.inl (by decide))) (fun j => f 2 j (by decide) (Or.inl (by decide)))
      rw [if_pos (show nI x.1 < (24 : Int32) from (nI_ltI (b := 24) (by omega) (by omega)).mpr c), L3, e, obs] at h
      cases h
      rcases cNum_p (w := w) (n := n) (p := p) (hi := 23) with ⟨y, f1, f2, _⟩ | ⟨f1, f2⟩
      · rw [e1] at f2
        cases f2
        rw [f1, obs]
        exact Or.inl ⟨_, rfl, rfl, hN, _, hTN, rfl⟩
      · rw [f1]
        refine Or.inr ⟨rfl, ?_⟩
        rw [e1] at f2
        rcases f2 with f2 | ⟨y, f2, f3⟩ | ⟨y, f2, f3⟩
        · cases f2
        · cases f2
          exact Or.inr ⟨rfl, x.2, hTN, f3⟩
        · cases f2; omega
    · rw [if_neg (show ¬ nI x.1 < (24 : Int32) from mt (nI_ltI (b := 24) (by omega) (by omega)).mp c), pU_n, obs] at h
      cases h
      rcases cNum_p (w := w) (n := n) (p := p) (hi := 23) with ⟨y, f1, f2, f3⟩ | ⟨f1, f2⟩
      · rw [e1] at f2
        cases f2
        omega
      · rw [f1]
        exact Or.inr ⟨rfl, Or.inl rfl⟩
  · rw [e2, obs] at h; dsimp only at h
    rw [if_pos rfl] at h
    cases h
    rcases cNum_p (w := w) (n := n) (p := p) (hi := 23) with ⟨y, f1, f2, _⟩ | ⟨f1, _⟩
    · rw [e1] at f2; cases f2
    · rw [f1]; exact Or.inr ⟨rfl, Or.inl rfl⟩
theorem SR.bo {w : Nat → Int32} {n : Nat} {ss : List (Nat × Nat × List Nat)} {sp : Option ((Nat × Nat × List Nat) × Nat)} {r r' : Int32 × gM} (h : SR w n ss sp r) (e : ((bO r.1).bind fun u4 => some (u4, r.2)) = some r') : SR w n ss sp r' := by
  have : r' = r := by
    rcases h with ⟨x, _, q, _⟩ | ⟨_, q | ⟨q, _⟩⟩ <;> (rw [q] at e; cases e; rw [← q])
  rw [this]; exact h
theorem c_31 {I0 M : gM} {w : Nat → Int32} {n q so : Nat} {ss : List (Nat × Nat × List Nat)} {sg : Int32} (hT : C8 M w n q) (hq : q < n) (hM : MI true I0 M) (hS : ScK M 51 ss) (hl : ss.length < 12) (h3 : sg = 112 ∧ so = 0 ∨ sg = 116 ∧ so = 1 ∨ sg = 117 ∧ so = 2) {r : Int32 × gM} (h : bX6_isStep_31 51 sg M = some r) : SR w n ss (pRowed w n so (q + 1)) r := by
  have hn := hT.2.1
  have hT1 := hT.at (q := q + 1) (by omega)
  have hs := sk_le (w := w) hT1.2.2.2.1
  have hP : ∀ x, x ≤ n → MI true I0 (P6 M x) := fun x hx => hM.up (k := 1) rfl (lo := 0) (hi := 400) rfl (by rw [tnI (by omega)]; omega) (by rw [tnI (by omega)]; omega)
  unfold bX6_isStep_31 at h
  rw [pU_n, obs, hT.2.2.1, nI_1, show g_up M 1 2 (nI (q + 1)) = P6 M (q + 1) from rfl, if_neg (show ¬ sg = 111 by rcases h3 with z | z | z <;> rw [z.1] <;> decide), c_peek hT1, obs] at h
  dsimp only at h
  rw [n_isDigit6, obs, P6_P6] at h
  unfold pRowed
  by_cases c : dg (hr w n (sk w n (q + 1)))
  · have v1 := dg_v c
    have l1 := hr_lt (dg_ne c)
    have e1 : hr w n (sk w n (q + 1)) - 48 = nI (dv (hr w n (sk w n (q + 1)))) := by
      conv => lhs; rw [v1.2]
      rw [show (48 : Int32) = nI 48 from rfl, nI_sub (by omega)]
      congr 1; omega
    rw [if_pos c, if_neg n10, pU_n, obs, P6_2, nI_1, P6_pU] at h
    rw [if_pos c]
    rcases h3 with ⟨z1, z2⟩ | ⟨z1, z2⟩ | ⟨z1, z2⟩
    · subst z1; subst z2
      rw [if_pos rfl] at h
      exact c_99 (so := 0) (hT.at (by omega)) (hP _ (by omega)) (hS.mv _) hl (by omega) (by decide) e1 h
    · subst z1; subst z2
      rw [if_neg (by decide), if_pos rfl] at h
      exact c_99 (so := 1) (hT.at (by omega)) (hP _ (by omega)) (hS.mv _) hl (by omega) (by decide) e1 h
    · subst z1; subst z2
      rw [if_neg (by decide), if_neg (by decide)] at h
      exact c_99 (so := 2) (hT.at (by omega)) (hP _ (by omega)) (hS.mv _) hl (by omega) (by decide) e1 h
  · rw [if_neg c, if_pos rfl] at h
    cases h
    rw [if_neg c]
    exact Or.inr ⟨rfl, Or.inl rfl⟩
theorem c_31o {I0 M : gM} {w : Nat → Int32} {n q : Nat} {ss : List (Nat × Nat × List Nat)} (hT : C8 M w n q) (hq : q < n) (hM : MI true I0 M) (hS : ScK M 51 ss) (hl : ss.length < 12) {r : Int32 × gM} (h : bX6_isStep_31 51 111 M = some r) : SR w n ss ((pNum w n 23 (q + 1)).bind fun x => some ((3, x.1, []), x.2)) r := by
  have hn := hT.2.1
  unfold bX6_isStep_31 at h
  rw [pU_n, obs, hT.2.2.1, nI_1, show g_up M 1 2 (nI (q + 1)) = P6 M (q + 1) from rfl, if_pos rfl] at h
  obtain ⟨r3, e3, h⟩ := ob h
  exact (c_isOrder (hT.at (q := q + 1) (by omega)) (hM.up (k := 1) rfl (lo := 0) (hi := 400) rfl (by rw [tnI (by omega)]; omega) (by rw [tnI (by omega)]; omega)) (hS.mv _) hl e3).bo h
theorem c_isStep {I0 M : gM} {w : Nat → Int32} {n p : Nat} {ss : List (Nat × Nat × List Nat)} (hT : C8 M w n p) (hM : MI true I0 M) (hS : ScK M 51 ss) (hl : ss.length < 12) {r : Int32 × gM} (h : fX6_isStep 51 M = some r) : SR w n ss (pStep w n p) r := by
  have hs := sk_le (w := w) hT.2.2.2.1
  have hn := hT.2.1
  have hT1 := hT.at (q := sk w n p) hs.2
  have hM1 : MI true I0 (P6 M (sk w n p)) := hM.up (k := 1) rfl (lo := 0) (hi := 400) rfl (by rw [tnI (by omega)]; omega) (by rw [tnI (by omega)]; omega)
  unfold fX6_isStep at h
  rw [c_peek hT, obs] at h
  dsimp only at h
  unfold pStep
  have lt : ∀ {c : Int32}, c ≠ -1 → hr w n (sk w n p) = c → sk w n p < n := fun hc e => hr_lt (w := w) (by rw [e]; exact hc)
  by_cases c1 : hr w n (sk w n p) = 112
  · rw [if_pos c1, c1] at h
    rw [if_pos c1]
    exact c_31 hT1 (lt (by decide) c1) hM1 (hS.mv _) hl (Or.inl ⟨rfl, rfl⟩) h
  rw [if_neg c1] at h ⊢
  by_cases c2 : hr w n (sk w n p) = 116
  · rw [if_pos c2, c2] at h
    rw [if_pos c2]
    exact c_31 hT1 (lt (by decide) c2) hM1 (hS.mv _) hl (Or.inr (Or.inl ⟨rfl, rfl⟩)) h
  rw [if_neg c2] at h ⊢
  by_cases c3 : hr w n (sk w n p) = 117
  · rw [if_pos c3, c3] at h
    rw [if_pos c3]
    exact c_31 hT1 (lt (by decide) c3) hM1 (hS.mv _) hl (Or.inr (Or.inr ⟨rfl, rfl⟩)) h
  rw [if_neg c3] at h ⊢
  by_cases c4 : hr w n (sk w n p) = 111
  · rw [if_pos c4, c4] at h
    rw [if_pos c4]
    exact c_31o hT1 (lt (by decide) c4) hM1 (hS.mv _) hl h
  rw [if_neg c4] at h ⊢
  cases h
  exact Or.inr ⟨rfl, Or.inl rfl⟩
