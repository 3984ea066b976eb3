/-! times, distinct, tells: the reference after the class -/
theorem RT.hi {I a : gM} {A : aT} (hR : RT I (I 70) A) (hM : MI true I a) (hW : WF A) : RT a (a 70) A := by
  rw [hM.hi (by omega)]
  exact hR.cong (by rw [hM.hi (by omega)]) (hM.hi (by omega)) (hM.hi (by omega)) hW.1 hW.k12 (fun _ _ => rfl)
theorem eq_times {I : gM} (h : InvB I) {v w : Int32} {a b : Int32 × gM} (e1 : fX8_times v w I = some a) (e2 : fX9_times v w a.2 = some b) : a.1 = b.1 := by
  obtain ⟨A, hW, hC, hR⟩ := h.tab
  have hMa : MI true I a.2 := by
    obtain ⟨p, ep, hp⟩ := tfX8_times v w I h.1.1
    rw [e1] at ep
    obtain rfl := Option.some.inj ep
    exact hp
  have hRa := hR.hi hMa hW
  unfold fX8_times at e1
  unfold fX9_times at e2
  rcases two_asked hW hC hMa.re hRa v with ⟨l, hl, rfl, hb, n, z1, z2⟩ | ⟨z1, z2⟩
  · rw [z1, obs, if_neg (by decide)] at e1
    rw [z2, obs, if_neg (by decide)] at e2
    obtain ⟨R', J, ej, o, hJ, hS, hQ, hll, M1, G1, _, _⟩ := cur_two h hW n hC hMa.re hRa
    obtain ⟨r, er, c82, _, _⟩ := n_cnt hMa.re ej M1 G1 hJ o.2.1
    rw [er, obs] at e2
    obtain ⟨e, _, e3, e4⟩ := fl4_at _ hW.2.2.2.1 _ (asA_lt hW) l hl hb
    rcases oi e1 with ⟨c, e1⟩ | ⟨c, e1⟩
    · rcases n_in w 0 99 with ⟨h1, _, h3⟩ | ⟨h1, h3⟩
      · rw [Int32.lt_iff_toInt_lt] at c
        omega
      · rw [h3, obs, if_pos rfl] at e2
        cases e1; cases e2; rfl
    · obtain ⟨x, rfl, hx⟩ : ∃ l, w = nI l ∧ l < 2 ^ 31 := ⟨_, nI_self (nn_of c), by have := w.toInt_lt; omega⟩
      rcases oi e1 with ⟨c, e1⟩ | ⟨c, e1⟩
      · have cx := (nI_ltI (b := 100) (by omega) (by omega)).mp c
        obtain ⟨r', er', t1, _⟩ := c_tally o hJ (by omega) e3 e4 hl
        rw [er', obs, rI_n (by omega) (by omega), obs] at e1
        rcases n_in (nI x) 0 99 with ⟨_, _, h3⟩ | ⟨h1, h3⟩
        · rw [h3, obs, if_neg (by decide), show (100 : Int32) = nI 100 from rfl, nI_mul, nI_add, rI_n (by omega) (by omega), obs, c82 l hl x cx] at e2
          cases e1; cases e2
          exact t1 x cx
        · rw [tnI (by omega), show (0 : Int32).toInt = 0 by decide, show (99 : Int32).toInt = 99 by decide] at h1
          omega
      · have cx := mt (nI_ltI (b := 100) (by omega) (by omega)).mpr c
        rcases n_in (nI x) 0 99 with ⟨_, h1, h3⟩ | ⟨h1, h3⟩
        · rw [tnI (by omega), show (99 : Int32).toInt = 99 by decide] at h1
          omega
        · rw [h3, obs, if_pos rfl] at e2
          cases e1; cases e2; rfl
  · rw [z1, obs, if_pos rfl] at e1
    obtain rfl := Option.some.inj e1
    rw [z2, obs, if_pos rfl] at e2
    cases e2; rfl
theorem eq_distinct {I : gM} (h : InvB I) {v w : Int32} {a b : Int32 × gM} (e1 : fX8_distinct v w I = some a) (e2 : fX9_distinct v w a.2 = some b) : a.1 = b.1 := by
  obtain ⟨A, hW, hC, hR⟩ := h.tab
  have hMa : MI true I a.2 := by
    obtain ⟨p, ep, hp⟩ := tfX8_distinct v w I h.1.1
    rw [e1] at ep
    obtain rfl := Option.some.inj ep
    exact hp
  have hRa := hR.hi hMa hW
  unfold fX8_distinct at e1
  unfold fX9_distinct at e2
  rcases two_asked hW hC hMa.re hRa v with ⟨l, hl, rfl, hb, n, z1, z2⟩ | ⟨z1, z2⟩
  · rw [z1, obs, if_neg (by decide)] at e1
    rw [z2, obs, if_neg (by decide)] at e2
    obtain ⟨R', J, ej, o, hJ, hS, hQ, hll, M1, G1, _, _⟩ := cur_two h hW n hC hMa.re hRa
    obtain ⟨r, er, c82, c84, _⟩ := n_cnt hMa.re ej M1 G1 hJ o.2.1
    obtain ⟨e, _, e3, e4⟩ := fl4_at _ hW.2.2.2.1 _ (asA_lt hW) l hl hb
    rcases oi e1 with ⟨c, e1⟩ | ⟨c, e1⟩
    · rcases n_in w 0 3 with ⟨h1, _, h3⟩ | ⟨h1, h3⟩
      · rw [Int32.lt_iff_toInt_lt] at c
        omega
      · rw [h3, obs, if_pos rfl] at e2
        cases e1; cases e2; rfl
    · obtain ⟨x, rfl, hx⟩ : ∃ l, w = nI l ∧ l < 2 ^ 31 := ⟨_, nI_self (nn_of c), by have := w.toInt_lt; omega⟩
      rcases oi e1 with ⟨c, e1⟩ | ⟨c, e1⟩
      · have cx := (nI_leI (b := 3) (by omega) (by omega)).mp c
        obtain ⟨r', er', t1, _⟩ := c_tally o hJ (by omega) e3 e4 hl
        have hc : ∀ v, v < 100 → cntJ (R' 80) l v J < 2 ^ 31 := fun v _ => by have := cntJ_le (R' 80) l v J; omega
        rw [er', obs] at e1
        rcases n_in (nI x) 0 3 with ⟨_, _, h3⟩ | ⟨h1, h3⟩
        · rw [h3, obs, if_neg (by decide), er, obs] at e2
          obtain ⟨g, eg, g1, g2, g3⟩ := n_extreme hl (c82 l hl) hc (nI x)
          rcases (by omega : x = 0 ∨ x = 1 ∨ x = 2 ∨ x = 3) with rfl | rfl | rfl | rfl
          · rw [if_pos (by decide), c_numbers hJ t1, obs] at e1
            rw [if_pos (by decide), rI_n (by omega) (by omega), obs, c84 l hl] at e2
            cases e1; cases e2; rfl
          · obtain ⟨q, eq, hq⟩ := c_least t1 hc
            rw [if_neg (by decide), if_pos (by decide), eq, obs] at e1
            rw [if_neg (by decide), eg, obs] at e2
            cases e1; cases e2
            exact hq.uniq (g1 (by decide) (by decide))
          · obtain ⟨q, eq, hq⟩ := c_greatest t1 hc
            rw [if_neg (by decide), if_neg (by decide), if_pos (by decide), eq, obs] at e1
            rw [if_neg (by decide), eg, obs] at e2
            cases e1; cases e2
            exact hq.uniq (g2 (by decide))
          · obtain ⟨q, eq, hq⟩ := c_oftenest t1 hc
            rw [if_neg (by decide), if_neg (by decide), if_neg (by decide), eq, obs] at e1
            rw [if_neg (by decide), eg, obs] at e2
            cases e1; cases e2
            exact hq.uniq (g3 (by decide))
        · rw [tnI (by omega), show (0 : Int32).toInt = 0 by decide, show (3 : Int32).toInt = 3 by decide] at h1
          omega
      · have cx := mt (nI_leI (b := 3) (by omega) (by omega)).mpr c
        rcases n_in (nI x) 0 3 with ⟨_, h1, h3⟩ | ⟨h1, h3⟩
        · rw [tnI (by omega), show (3 : Int32).toInt = 3 by decide] at h1
          omega
        · rw [h3, obs, if_pos rfl] at e2
          cases e1; cases e2; rfl
  · rw [z1, obs, if_pos rfl] at e1
    obtain rfl := Option.some.inj e1
    rw [z2, obs, if_pos rfl] at e2
    cases e2; rfl
/-- the one tells the other, in the first j rows -/
def TD (f g : Nat → Nat) (j : Nat) : Prop := ∀ i i', i < j → i' < j → f i = f i' → g i = g i'
def MP (N : gM) (q : Nat) (f g : Nat → Nat) (j : Nat) : Prop := ∀ v, v < 100 → (N q v = -1 ∧ ∀ i, i < j → f i ≠ v) ∨ ∃ i, i < j ∧ f i = v ∧ N q v = nI (g i)
theorem nI_ne1 {a : Nat} (h : a < 2 ^ 31) : nI a ≠ -1 := fun z => by
  have : (nI a).toInt = (-1 : Int32).toInt := by rw [z]
  rw [tnI h, show (-1 : Int32).toInt = -1 by decide] at this
  omega
theorem td1 {N : gM} {q j : Nat} {f g : Nat → Nat} (h : MP N q f g j) (t : TD f g j) (fj : f j < 100) (hg : ∀ i, g i < 2 ^ 31) (e : N q (f j) = -1) : TD f g (j + 1) := by
  have no : ∀ i, i < j → f i ≠ f j := by
    rcases h (f j) fj with ⟨_, z⟩ | ⟨i, _, _, z⟩
    · exact z
    · exact absurd (z.symm.trans e) (nI_ne1 (hg i))
  intro i i' hi hi' ee
  rcases (by omega : i < j ∨ i = j) with p | rfl
  · rcases (by omega : i' < j ∨ i' = j) with p' | rfl
    · exact t i i' p p' ee
    · exact absurd ee (no i p)
  · rcases (by omega : i' < i ∨ i' = i) with p' | rfl
    · exact absurd ee.symm (no i' p')
    · rfl
theorem td2 {N : gM} {q j : Nat} {f g : Nat → Nat} (h : MP N q f g j) (t : TD f g j) (fj : f j < 100) (hg : ∀ i, g i < 2 ^ 31) (e : N q (f j) = nI (g j)) : TD f g (j + 1) := by
  have yes : ∀ i, i < j → f i = f j → g i = g j := by
    rcases h (f j) fj with ⟨z, _⟩ | ⟨i0, p0, p1, z⟩
    · exact absurd (e.symm.trans z) (nI_ne1 (hg j))
    · intro i hi ei
      rw [t i i0 hi p0 (ei.trans p1.symm)]
      exact nI_inj (z.symm.trans e) (hg _) (hg _)
  intro i i' hi hi' ee
  rcases (by omega : i < j ∨ i = j) with p | rfl
  · rcases (by omega : i' < j ∨ i' = j) with p' | rfl
    · exact t i i' p p' ee
    · exact yes i p ee
  · rcases (by omega : i' < i ∨ i' = i) with p' | rfl
    · exact (yes i' p' ee.symm).symm
    · rfl
theorem td3 {N : gM} {q j : Nat} {f g : Nat → Nat} (h : MP N q f g j) (fj : f j < 100) (e : N q (f j) ≠ -1) (e2 : N q (f j) ≠ nI (g j)) : ¬ TD f g (j + 1) := by
  intro t
  rcases h (f j) fj with ⟨z, _⟩ | ⟨i0, p0, p1, z⟩
  · exact e z
  · exact e2 (by rw [z, t i0 j (by omega) (by omega) p1])
theorem TD.down {f g : Nat → Nat} {j m : Nat} (h : TD f g m) (hj : j ≤ m) : TD f g j := fun i i' a b => h i i' (by omega) (by omega)
theorem mpUp {N : gM} {q j : Nat} {f g : Nat → Nat} (h : MP N q f g j) : MP (g_up N q (f j) (nI (g j))) q f g (j + 1) := by
  intro v hv
  rw [gu_in]
  by_cases c : v = f j
  · rw [if_pos c]
    exact Or.inr ⟨j, by omega, c.symm, rfl⟩
  · rw [if_neg c]
    rcases h v hv with ⟨a, b⟩ | ⟨i, a, b, d⟩
    · refine Or.inl ⟨a, fun i hi => ?_⟩
      rcases (by omega : i < j ∨ i = j) with p | rfl
      · exact b i p
      · exact fun z => c z.symm
    · exact Or.inr ⟨i, by omega, b, d⟩
theorem c_told {k l o : Nat} {ls : List Nat} {M R : gM} {J : Nat} (u : OUT k ls M R J) (hJ : J ≤ 20736) (hk : k + 10 < 42) (hl : l < 4) (ho : o < 4) (h99 : ∀ j, j < J → rdg M k j l < 100) : ∃ r, fX0_isTold k (nI l) (nI o) M = some r ∧ ((r.1 = 1 ∧ TD (fun j => rdg M k j l) (fun j => rdg M k j o) J) ∨ (r.1 = 0 ∧ ¬ TD (fun j => rdg M k j l) (fun j => rdg M k j o) J)) ∧ ∀ q, q ≠ 42 → r.2 q = M q := by
  unfold fX0_isTold
  obtain ⟨N, eN, n1, n2⟩ := c_fill (k0 := 42) (n0 := 100) (v := -1) (M := M) (by omega)
  rw [eN, obs]
  have hg : ∀ i, rdg M k i o < 2 ^ 31 := fun i => by have := rdg_lt M k i o; omega
  have key : T (lX0_isTold_11 k (nI l) (nI o) (0, N)) (fun w => (∃ r, w = .inr r ∧ TD (fun j => rdg M k j l) (fun j => rdg M k j o) J ∧ ∀ q, q ≠ 42 → r q = M q) ∨ ∃ r, w = .inl r ∧ ¬ TD (fun j => rdg M k j l) (fun j => rdg M k j o) J ∧ ∀ q, q ≠ 42 → r q = M q) := by
    unfold lX0_isTold_11
    refine t_it (P := fun s => ∃ j, j ≤ J ∧ s.1 = nI j ∧ TD (fun j => rdg M k j l) (fun j => rdg M k j o) j ∧ MP s.2 42 (fun j => rdg M k j l) (fun j => rdg M k j o) j ∧ ∀ q, q ≠ 42 → s.2 q = M q) (μ := fun s => 30000 - s.1.toInt.toNat) (fun s p => ?_) ⟨0, Nat.zero_le _, rfl, fun i _ hi => absurd hi (Nat.not_lt_zero i), fun v hv => Or.inl ⟨n2 v hv, fun i hi => absurd hi (Nat.not_lt_zero i)⟩, n1⟩
    obtain ⟨s1, N'⟩ := s
    obtain ⟨j, hj, e1, h2, h4, h3⟩ := p
    dsimp only at e1 h2 h4 h3
    subst e1
    dsimp only
    have k0 : N' k = M k := h3 k (by omega)
    have kk : N' k 0 = nI J := by rw [k0]; exact u.1
    refine t_ite (fun c => ?_) (fun c => ?_)
    · rw [kk] at c
      have := (nI_leI (by omega) (by omega)).mp c
      have : j = J := by omega
      subst this
      exact t_ret (Or.inl ⟨_, rfl, h2, h3⟩)
    · rw [kk] at c
      have c' := mt (nI_leI (by omega) (by omega)).mpr c
      have o' : OUT k ls N' R J := ⟨kk, u.2.1, by rw [k0]; exact u.2.2.1, fun e he => by rw [h3 (k + 1) (by omega)]; exact u.2.2.2.1 e he, fun j hj => by rw [h3 (k + 3) (by omega)]; exact u.2.2.2.2 j hj⟩
      have dgs : ∀ x, rdg N' k j x = rdg M k j x := fun x => by unfold rdg; rw [h3 (k + 3) (by omega)]
      refine t_be (c_numberAt o' hJ (by omega) hl) (t_be (c_numberAt o' hJ (by omega) ho) ?_)
      rw [dgs, dgs]
      have v99 := h99 j (by omega)
      have mu : 30000 - (nI j + 1).toInt.toNat < 30000 - (nI j).toInt.toNat := by rw [nI_1, nIt (by omega), nIt (by omega)]; omega
      refine t_ite (fun c => absurd ((nI_leI (a := 100) (by omega) (by omega)).mp c) (by omega)) (fun c => ?_)
      have nx : TD (fun j => rdg M k j l) (fun j => rdg M k j o) (j + 1) → T (bX0_isTold_70 (nI j) (nI (rdg M k j l)) (nI (rdg M k j o)) N') (LQ (fun s : Int32 × gM => ∃ j, j ≤ J ∧ s.1 = nI j ∧ TD (fun j => rdg M k j l) (fun j => rdg M k j o) j ∧ MP s.2 42 (fun j => rdg M k j l) (fun j => rdg M k j o) j ∧ ∀ q, q ≠ 42 → s.2 q = M q) (30000 - (nI j).toInt.toNat) (fun s => 30000 - s.1.toInt.toNat) (fun w => (∃ r, w = .inr r ∧ TD (fun j => rdg M k j l) (fun j => rdg M k j o) J ∧ ∀ q, q ≠ 42 → r q = M q) ∨ ∃ r, w = .inl r ∧ ¬ TD (fun j => rdg M k j l) (fun j => rdg M k j o) J ∧ ∀ q, q ≠ 42 → r q = M q)) := fun td => by
        unfold bX0_isTold_70
        refine t_be (wI_n (by omega) (by omega)) (t_ret ⟨⟨j + 1, by omega, nI_1 _, td, mpUp h4, fun q hq => ?_⟩, mu⟩)
        dsimp only
        rw [g_up_row hq]; exact h3 q hq
      refine t_be (rI_n (by omega) (by omega)) ?_
      refine t_ite (fun c1 => nx (td1 h4 h2 v99 hg c1)) (fun c1 => ?_)
      refine t_be (rI_n (by omega) (by omega)) ?_
      refine t_ite (fun c2 => nx (td2 h4 h2 v99 hg c2)) (fun c2 => ?_)
      exact t_ret (Or.inr ⟨_, rfl, fun z => td3 h4 v99 c1 c2 (z.down (by omega)), h3⟩)
  obtain ⟨w, ew, hw⟩ := key
  rw [ew, obs]
  rcases hw with ⟨r, rfl, a, b⟩ | ⟨r, rfl, a, b⟩
  · exact ⟨_, rfl, Or.inl ⟨rfl, a⟩, b⟩
  · exact ⟨_, rfl, Or.inr ⟨rfl, a⟩, b⟩
theorem n_told {R0 R : gM} (hM : MI false R0 R) {l o J : Nat} {f g : Nat → Nat} (hJ : J ≤ 20736) (eJ : R 62 26 = nI J) (hl : l < 4) (ho : o < 4) (hf : ∀ j, j < J → R 80 (4 * j + l) = nI (f j) ∧ f j < 100) (hg : ∀ j, j < J → R 80 (4 * j + o) = nI (g j)) (g31 : ∀ j, g j < 2 ^ 31) : ∃ r, fX9_isTold (nI l) (nI o) R = some r ∧ ((r.1 = 1 ∧ TD f g J) ∨ (r.1 = 0 ∧ ¬ TD f g J)) ∧ ∀ q, q ≠ 86 → r.2 q = R q := by
  unfold fX9_isTold
  obtain ⟨N, eN, _, n2, n1⟩ := n_isTold2 hM
  have eN : lX9_isTold_2 ((0 : Int32), R) = some N := eN
  rw [eN, obs]
  have key : T (lX9_isTold_26 (nI l) (nI o) (1, 0, N)) (fun w => ((w.1 = 1 ∧ TD f g J) ∨ (w.1 = 0 ∧ ¬ TD f g J)) ∧ ∀ q, q ≠ 86 → w.2 q = R q) := by
    unfold lX9_isTold_26
    refine t_it (P := fun s => ∃ j, j ≤ J ∧ s.2.1 = nI j ∧ ((s.1 = 1 ∧ TD f g j ∧ MP s.2.2 86 f g j) ∨ (s.1 = 0 ∧ ¬ TD f g j)) ∧ ∀ q, q ≠ 86 → s.2.2 q = R q) (μ := fun s => 30000 - s.2.1.toInt.toNat) (fun s p => ?_) ⟨0, Nat.zero_le _, rfl, Or.inl ⟨rfl, fun i _ hi => absurd hi (Nat.not_lt_zero i), fun v hv => Or.inl ⟨n2 v hv, fun i hi => absurd hi (Nat.not_lt_zero i)⟩⟩, n1⟩
    obtain ⟨s1, s2, N'⟩ := s
    obtain ⟨j, hj, e1, h2, h3⟩ := p
    dsimp only at e1 h2 h3
    subst e1
    dsimp only
    have kk : N' 62 26 = nI J := by rw [h3 62 (by omega)]; exact eJ
    refine t_ite (fun c => ?_) (fun c => ?_)
    · rw [kk] at c
      have := (nI_leI (by omega) (by omega)).mp c
      have : j = J := by omega
      subst this
      refine t_ret ⟨?_, h3⟩
      rcases h2 with ⟨a, b, _⟩ | q
      · exact Or.inl ⟨a, b⟩
      · exact Or.inr q
    · rw [kk] at c
      have c' := mt (nI_leI (by omega) (by omega)).mpr c
      have mu : 30000 - (nI j + 1).toInt.toNat < 30000 - (nI j).toInt.toNat := by rw [nI_1, nIt (by omega), nIt (by omega)]; omega
      obtain ⟨f1, f2⟩ := hf j (by omega)
      have g1 := hg j (by omega)
      rw [← h3 80 (by omega)] at f1 g1
      rw [n_numberOf (by omega) hl, obs, f1]
      have nx : ∀ b : Int32, ((b = 1 ∧ TD f g (j + 1) ∧ MP N' 86 f g j) ∨ (b = 0 ∧ ¬ TD f g (j + 1))) → T (bX9_isTold_81 (nI o) (nI j) (nI (f j)) b N') (LQ (fun s : Int32 × Int32 × gM => ∃ j, j ≤ J ∧ s.2.1 = nI j ∧ ((s.1 = 1 ∧ TD f g j ∧ MP s.2.2 86 f g j) ∨ (s.1 = 0 ∧ ¬ TD f g j)) ∧ ∀ q, q ≠ 86 → s.2.2 q = R q) (30000 - (nI j).toInt.toNat) (fun s => 30000 - s.2.1.toInt.toNat) (fun w : Int32 × gM => ((w.1 = 1 ∧ TD f g J) ∨ (w.1 = 0 ∧ ¬ TD f g J)) ∧ ∀ q, q ≠ 86 → w.2 q = R q)) := fun b hb => by
        unfold bX9_isTold_81
        rw [n_numberOf (by omega) ho, obs, g1]
        refine t_be (wI_n (by omega) (by omega)) (t_ret ⟨⟨j + 1, by omega, nI_1 _, ?_, fun q hq => ?_⟩, mu⟩)
        · dsimp only
          rcases hb with ⟨a, b, d⟩ | q
          · exact Or.inl ⟨a, b, mpUp d⟩
          · exact Or.inr q
        · dsimp only
          rw [g_up_row hq]; exact h3 q hq
      refine t_ite (fun c1 => ?_) (fun c1 => ?_)
      · refine nx 0 (Or.inr ⟨rfl, fun z => ?_⟩)
        rcases h2 with ⟨a, _⟩ | ⟨_, q⟩
        · rw [c1] at a; exact absurd a (by decide)
        · exact q (z.down (by omega))
      · have ⟨td, mp⟩ : TD f g j ∧ MP N' 86 f g j := by
          rcases h2 with ⟨_, q⟩ | ⟨q, _⟩
          · exact q
          · exact absurd q c1
        refine t_be (rI_n (by omega) (by omega)) ?_
        refine t_ite (fun c2 => nx 1 (Or.inl ⟨rfl, td1 mp td f2 g31 c2, mp⟩)) (fun c2 => ?_)
        refine t_be (rI_n (by omega) (by omega)) ?_
        rw [n_numberOf (by omega) ho, obs, g1]
        exact t_ite (fun c3 => nx 1 (Or.inl ⟨rfl, td2 mp td f2 g31 c3, mp⟩)) (fun c3 => nx 0 (Or.inr ⟨rfl, td3 mp f2 c2 c3⟩))
  obtain ⟨w, ew, hw, hk⟩ := key
  rw [ew, obs]
  rcases hw with ⟨a, b⟩ | ⟨a, b⟩
  · rw [a, bO_1, obs]
    exact ⟨_, rfl, Or.inl ⟨rfl, b⟩, hk⟩
  · rw [a, bO_0, obs]
    exact ⟨_, rfl, Or.inr ⟨rfl, b⟩, hk⟩
/-- the digits of a letter that is asked -/
theorem d99 {R0 R : gM} {A : aT} {I : gM} {J l : Nat} (hM : MI false R0 R) (hG : GJ9 R) (hA : A9 R) (hW : WF A) (hR : RT R (R 70) A) (o : OUT 18 (fl4 A.2.2 (asA A)) I R J) (hJ : J ≤ 20736) (hl : l < 4) (hb : (asA A).testBit l = true) {j : Nat} (hj : j < J) : R 80 (4 * j + l) = nI (rdg I 18 j l) ∧ rdg I 18 j l < 100 := by
  obtain ⟨e, _, e3, e4⟩ := fl4_at _ hW.2.2.2.1 _ (asA_lt hW) l hl hb
  have q := (o.dg hj).2.2 e e3
  rw [e4] at q
  have b := hM.at (k := 80) (j := 4 * j + l) (lo := -1) (hi := 99) rfl
  have g := rdg_lt I 18 j l
  rw [q, tnI (by omega)] at b
  exact ⟨q, by omega⟩
theorem eq_tells {I : gM} (h : InvB I) {v w : Int32} {a b : Int32 × gM} (e1 : fX8_tells v w I = some a) (e2 : fX9_tells v w a.2 = some b) : a.1 = b.1 := by
  obtain ⟨A, hW, hC, hR⟩ := h.tab
  have hMa : MI true I a.2 := by
    obtain ⟨p, ep, hp⟩ := tfX8_tells v w I h.1.1
    rw [e1] at ep
    obtain rfl := Option.some.inj ep
    exact hp.2
  have hRa := hR.hi hMa hW
  unfold fX8_tells at e1
  unfold fX9_tells at e2
  rcases two_asked hW hC hMa.re hRa v with ⟨l, hl, rfl, hb, n, z1, z2⟩ | ⟨z1, z2⟩
  · rw [z1, obs, if_neg (by decide)] at e1
    rw [z2, obs, if_neg (by decide)] at e2
    rcases two_asked hW hC hMa.re hRa w with ⟨x, hx, rfl, hb', _, y1, y2⟩ | ⟨y1, y2⟩
    · rw [y1, obs, if_neg (by decide)] at e1
      rw [y2, obs, if_neg (by decide)] at e2
      obtain ⟨R', J, ej, o, hJ, hS, hQ, hll, M1, G1, fR, fj⟩ := cur_two h hW n hC hMa.re hRa
      have A1 : A9 R' := (A9.hi hMa h.1.2.1).join fR fj
      have R1 : RT R' (R' 70) A := by
        rw [fR 70 (by omega) (by omega) (by omega) (by omega) (by omega) (by omega) (by omega) (by omega)]
        exact hRa.cong (fj 17 (by omega) (by omega) (by omega)) (fR 72 (by omega) (by omega) (by omega) (by omega) (by omega) (by omega) (by omega) (by omega)) (fR 73 (by omega) (by omega) (by omega) (by omega) (by omega) (by omega) (by omega) (by omega)) hW.1 hW.k12 (fun _ _ => rfl)
      obtain ⟨p, ep, q1, _⟩ := c_told o hJ (by omega) hl hx (fun j hj => (d99 M1 G1 A1 hW R1 o hJ hl hb hj).2)
      obtain ⟨p', ep', q2, _⟩ := n_told M1 hJ o.2.1 hl hx (fun j hj => d99 M1 G1 A1 hW R1 o hJ hl hb hj) (fun j hj => (d99 M1 G1 A1 hW R1 o hJ hx hb' hj).1) (fun j => by have := rdg_lt I 18 j x; omega)
      rw [ep, obs] at e1
      rw [ej, obs, ep', obs] at e2
      rcases q1 with ⟨r1, t1⟩ | ⟨r1, t1⟩
      · rcases q2 with ⟨r2, t2⟩ | ⟨r2, t2⟩
        · rw [r1, if_neg (by decide)] at e1
          rw [r2, bO_1, obs] at e2
          cases e1; cases e2; rfl
        · exact absurd t1 t2
      · rcases q2 with ⟨r2, t2⟩ | ⟨r2, t2⟩
        · exact absurd t2 t1
        · rw [r1, if_pos rfl] at e1
          rw [r2, bO_0, obs] at e2
          cases e1; cases e2; rfl
    · rw [y1, obs, if_pos rfl] at e1
      obtain rfl := Option.some.inj e1
      rw [y2, obs, if_pos rfl] at e2
      cases e2; rfl
  · rw [z1, obs, if_pos rfl] at e1
    obtain rfl := Option.some.inj e1
    rw [z2, obs, if_pos rfl] at e2
    cases e2; rfl
