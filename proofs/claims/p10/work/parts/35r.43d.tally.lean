/-! times, distinct -/
theorem mx0_nI {a : Nat} (h : a < 2 ^ 31) : mx0 (nI a) = a := by
  have e := tX (a := 0) (b := nI a) (by decide : (0 : Int32).toInt = 0) rfl
  rw [tnI h] at e
  unfold mx0
  omega
theorem c_tally {k l : Nat} {ls : List Nat} {M R : gM} {J : Nat} (o : OUT k ls M R J) (hJ : J ≤ 20736) (hk : k + 10 < 41) {e : Nat} (he : e < ls.length) (hl : ls.getD e 0 = l) (l4 : l < 4) : ∃ r, fX0_tallyUp k (nI l) M = some r ∧ (∀ v, v < 100 → r 41 v = nI (cntJ (R 80) l v J)) ∧ ∀ q, q ≠ 41 → r q = M q := by
  unfold fX0_tallyUp
  obtain ⟨N, eN, n1, n2⟩ := c_fill (k0 := 41) (n0 := 100) (v := 0) (M := M) (by omega)
  rw [eN, obs]
  have key : T (lX0_tallyUp_10 k (nI l) (0, N)) (fun r => (∀ v, v < 100 → r 41 v = nI (cntJ (R 80) l v J)) ∧ ∀ q, q ≠ 41 → r q = M q) := by
    unfold lX0_tallyUp_10
    refine t_it (P := fun s => ∃ j, j ≤ J ∧ s.1 = nI j ∧ (∀ v, v < 100 → s.2 41 v = nI (cntJ (R 80) l v j)) ∧ ∀ q, q ≠ 41 → s.2 q = M q) (μ := fun s => 30000 - s.1.toInt.toNat) (fun s p => ?_) ⟨0, Nat.zero_le _, rfl, fun v hv => n2 v hv, n1⟩
    obtain ⟨s1, N'⟩ := s
    obtain ⟨j, hj, e1, h2, h3⟩ := p
    dsimp only at e1 h2 h3
    subst e1
    dsimp only
    have k0 : N' k = M k := h3 k (by omega)
    have kk : N' k 0 = nI J := by rw [k0]; exact o.1
    refine t_ite (fun c => ?_) (fun c => ?_)
    · rw [kk] at c
      have := (nI_leI (by omega) (by omega)).mp c
      have : j = J := by omega
      subst this
      exact t_ret ⟨h2, h3⟩
    · rw [kk] at c
      have c' := mt (nI_leI (by omega) (by omega)).mpr c
      have o' : OUT k ls N' R J := ⟨by rw [k0]; exact o.1, o.2.1, by rw [k0]; exact o.2.2.1, fun e he => by rw [h3 (k + 1) (by omega)]; exact o.2.2.2.1 e he, fun j hj => by rw [h3 (k + 3) (by omega)]; exact o.2.2.2.2 j hj⟩
      refine t_be (c_numberAt o' hJ (by omega) l4) ?_
      have q := (o'.dg (j := j) (by omega)).2.2 e he
      rw [hl] at q
      have g := rdg_lt N' k j l
      generalize rdg N' k j l = w at *
      have mu : 30000 - (nI j + 1).toInt.toNat < 30000 - (nI j).toInt.toNat := by rw [nI_1, nIt (by omega), nIt (by omega)]; omega
      have cj : ∀ v, cntJ (R 80) l v (j + 1) = cntJ (R 80) l v j + (if w = v then 1 else 0) := fun v => by
        show cntJ (R 80) l v j + (if mx0 (R 80 (4 * j + l)) = v then 1 else 0) = _
        rw [q, mx0_nI (by omega)]
      rw [show (100 : Int32) = nI 100 from rfl]
      refine t_ite (fun c => ?_) (fun c => ?_)
      · have := (nI_leI (by omega) (by omega)).mp c
        unfold bX0_tallyUp_44
        refine t_ret ⟨⟨j + 1, by omega, nI_1 _, fun v hv => ?_, h3⟩, mu⟩
        rw [cj, if_neg (by omega), Nat.add_zero]
        exact h2 v hv
      · have c2 := mt (nI_leI (by omega) (by omega)).mpr c
        refine t_be (rI_n (by omega) (by omega)) (t_be (wI_n (by omega) (by omega)) ?_)
        unfold bX0_tallyUp_44
        refine t_ret ⟨⟨j + 1, by omega, nI_1 _, fun v hv => ?_, fun q hq => by dsimp only; rw [g_up_row hq]; exact h3 q hq⟩, mu⟩
        dsimp only
        rw [gu_in, cj]
        by_cases cv : w = v
        · rw [if_pos cv.symm, if_pos cv, h2 w (by omega), nI_1, cv]
        · rw [if_neg (fun z => cv z.symm), if_neg cv, Nat.add_zero]
          exact h2 v hv
  obtain ⟨r, er, hr⟩ := key
  rw [er, obs]
  exact ⟨r, rfl, hr⟩
/-- the reference's counts beside the rows that it has joined -/
theorem n_cnt {R0 R R' : gM} (hM : MI false R0 R) (ej : fX9_joinsNow R = some R') (M1 : MI false R0 R') (G1 : GJ9 R') {J : Nat} (hJ : J ≤ 20736) (e : R' 62 26 = nI J) : ∃ r, fX9_counts R = some r ∧ (∀ l, l < 4 → ∀ v, v < 100 → r 82 (100 * l + v) = nI (cntJ (R' 80) l v J)) ∧ (∀ l, l < 4 → r 84 l = nI (cdJ (R' 80) l J 100)) ∧ ∀ k, k ≠ 82 → k ≠ 83 → k ≠ 84 → r k = R' k := by
  obtain ⟨r, er, _, ⟨_, J', h1, h2, h3, _, h5⟩, h6⟩ := n_counts hM ej M1 G1
  rw [h6 62 (by omega) (by omega) (by omega), e] at h2
  have : J = J' := nI_inj h2 (by omega) (by omega)
  subst this
  rw [h6 80 (by omega) (by omega) (by omega)] at h3 h5
  exact ⟨r, er, h3, h5, h6⟩
theorem c_ind {I : gM} {c : Nat → Nat} (h : ∀ v, v < 100 → I 41 v = nI (c v)) (hc : ∀ v, v < 100 → c v < 2 ^ 31) {v : Nat} (hv : v < 100) : rI 100 (I 41) (nI v) = some (nI (c v)) := by rw [rI_n hv (by omega), h v hv]
theorem c_pos {a : Nat} (h : a < 2 ^ 31) : nI a ≤ 0 ↔ a = 0 := ⟨fun z => by have := (nI_leI (b := 0) (by omega) (by omega)).mp z; omega, fun z => by rw [z]; decide⟩
/-- how many numbers there are -/
theorem c_numbers {I : gM} {K : Nat → Int32} {l J : Nat} (hJ : J ≤ 20736) (h : ∀ v, v < 100 → I 41 v = nI (cntJ K l v J)) : fX0_numbers I = some (nI (cdJ K l J 100)) := by
  have hc : ∀ v, v < 100 → cntJ K l v J < 2 ^ 31 := fun v _ => by have := cntJ_le K l v J; omega
  have key : T (lX0_numbers_4 I (0, 0)) (fun r => r = nI (cdJ K l J 100)) := by
    unfold lX0_numbers_4
    refine t_it (P := fun s => ∃ v, v ≤ 100 ∧ s.1 = nI (cdJ K l J v) ∧ s.2 = nI v) (μ := fun s => 200 - s.2.toInt.toNat) (fun s p => ?_) ⟨0, by omega, rfl, rfl⟩
    obtain ⟨s1, s2⟩ := s
    obtain ⟨v, hv, e1, e2⟩ := p
    dsimp only at e1 e2
    subst e1; subst e2
    dsimp only
    rw [show (100 : Int32) = nI 100 from rfl]
    refine t_ite (fun c => ?_) (fun c => ?_)
    · have := (nI_leI (by omega) (by omega)).mp c
      have : v = 100 := by omega
      subst this
      exact t_ret rfl
    · have c' := mt (nI_leI (by omega) (by omega)).mpr c
      have mu : 200 - (nI v + 1).toInt.toNat < 200 - (nI v).toInt.toNat := by rw [nI_1, nIt (by omega), nIt (by omega)]; omega
      refine t_be (c_ind h hc (by omega)) ?_
      have cd : cdJ K l J (v + 1) = cdJ K l J v + (if 0 < cntJ K l v J then 1 else 0) := rfl
      unfold bX0_numbers_22
      refine t_ite (fun c => ?_) (fun c => ?_)
      · have := (c_pos (hc v (by omega))).mp c
        refine t_ret ⟨⟨v + 1, by omega, ?_, nI_1 _⟩, mu⟩
        dsimp only
        rw [cd, if_neg (by omega), Nat.add_zero]
      · have := mt (c_pos (hc v (by omega))).mpr c
        refine t_ret ⟨⟨v + 1, by omega, ?_, nI_1 _⟩, mu⟩
        dsimp only
        rw [cd, if_pos (by omega), nI_1]
  obtain ⟨r, er, rfl⟩ := key
  unfold fX0_numbers
  rw [er, obs]
/-- the least, the greatest number that is counted -/
def isLst (c : Nat → Nat) (r : Int32) : Prop := (r = -1 ∧ ∀ w, w < 100 → c w = 0) ∨ ∃ v, v < 100 ∧ r = nI v ∧ c v ≠ 0 ∧ ∀ w, w < v → c w = 0
def isGrt (c : Nat → Nat) (n : Nat) (r : Int32) : Prop := (r = -1 ∧ ∀ w, w < n → c w = 0) ∨ ∃ v, v < n ∧ r = nI v ∧ c v ≠ 0 ∧ ∀ w, v < w → w < n → c w = 0
theorem isLst.uniq {c : Nat → Nat} {r r' : Int32} (h : isLst c r) (h' : isLst c r') : r = r' := by
  rcases h with ⟨rfl, a⟩ | ⟨v, a, rfl, b, d⟩
  · rcases h' with ⟨rfl, _⟩ | ⟨v', a', _, b', _⟩
    · rfl
    · exact absurd (a v' a') b'
  · rcases h' with ⟨_, a'⟩ | ⟨v', a', rfl, b', d'⟩
    · exact absurd (a' v a) b
    · have : v = v' := by
        rcases Nat.lt_trichotomy v v' with q | q | q
        · exact absurd (d' v q) b
        · exact q
        · exact absurd (d v' q) b'
      rw [this]
theorem isGrt.uniq {c : Nat → Nat} {n : Nat} {r r' : Int32} (h : isGrt c n r) (h' : isGrt c n r') : r = r' := by
  rcases h with ⟨rfl, a⟩ | ⟨v, a, rfl, b, d⟩
  · rcases h' with ⟨rfl, _⟩ | ⟨v', a', _, b', _⟩
    · rfl
    · exact absurd (a v' a') b'
  · rcases h' with ⟨_, a'⟩ | ⟨v', a', rfl, b', d'⟩
    · exact absurd (a' v a) b
    · have : v = v' := by
        rcases Nat.lt_trichotomy v v' with q | q | q
        · exact absurd (d v' q a') b'
        · exact q
        · exact absurd (d' v q a) b
      rw [this]
theorem c_least {I : gM} {c : Nat → Nat} (h : ∀ v, v < 100 → I 41 v = nI (c v)) (hc : ∀ v, v < 100 → c v < 2 ^ 31) : ∃ r, fX0_least I = some r ∧ isLst c r := by
  have key : T (lX0_least_2 I 0) (fun r => (r = .inr () ∧ ∀ w, w < 100 → c w = 0) ∨ ∃ v, v < 100 ∧ r = .inl (nI v) ∧ c v ≠ 0 ∧ ∀ w, w < v → c w = 0) := by
    unfold lX0_least_2
    refine t_it (P := fun s => ∃ v, v ≤ 100 ∧ s = nI v ∧ ∀ w, w < v → c w = 0) (μ := fun s => 200 - s.toInt.toNat) (fun s p => ?_) ⟨0, by omega, rfl, fun w hw => absurd hw (Nat.not_lt_zero w)⟩
    obtain ⟨v, hv, e1, e2⟩ := p
    subst e1
    rw [show (100 : Int32) = nI 100 from rfl]
    refine t_ite (fun c => ?_) (fun c1 => ?_)
    · have := (nI_leI (by omega) (by omega)).mp c
      have : v = 100 := by omega
      subst this
      exact t_ret (Or.inl ⟨rfl, e2⟩)
    · have c' := mt (nI_leI (by omega) (by omega)).mpr c1
      have mu : 200 - (nI v + 1).toInt.toNat < 200 - (nI v).toInt.toNat := by rw [nI_1, nIt (by omega), nIt (by omega)]; omega
      refine t_be (c_ind h hc (by omega)) ?_
      refine t_ite (fun c1 => ?_) (fun c1 => ?_)
      · have := (c_pos (hc v (by omega))).mp c1
        refine t_ret ⟨⟨v + 1, by omega, nI_1 _, fun w hw => ?_⟩, mu⟩
        rcases (by omega : w < v ∨ w = v) with z | rfl
        · exact e2 w z
        · exact this
      · have := mt (c_pos (hc v (by omega))).mpr c1
        exact t_ret (Or.inr ⟨v, by omega, rfl, this, e2⟩)
  obtain ⟨r, er, q⟩ := key
  unfold fX0_least
  rw [er, obs]
  rcases q with ⟨rfl, q⟩ | ⟨v, q1, rfl, q2, q3⟩
  · exact ⟨_, rfl, Or.inl ⟨rfl, q⟩⟩
  · exact ⟨_, rfl, Or.inr ⟨v, q1, rfl, q2, q3⟩⟩
theorem c_greatest {I : gM} {c : Nat → Nat} (h : ∀ v, v < 100 → I 41 v = nI (c v)) (hc : ∀ v, v < 100 → c v < 2 ^ 31) : ∃ r, fX0_greatest I = some r ∧ isGrt c 100 r := by
  have key : T (lX0_greatest_3 I 99) (fun r => (r = .inr () ∧ ∀ w, w < 100 → c w = 0) ∨ ∃ v, v < 100 ∧ r = .inl (nI v) ∧ c v ≠ 0 ∧ ∀ w, v < w → w < 100 → c w = 0) := by
    unfold lX0_greatest_3
    refine t_it (P := fun s => ∃ v : Nat, v ≤ 100 ∧ s.toInt = (v : Int) - 1 ∧ ∀ w, v ≤ w → w < 100 → c w = 0) (μ := fun s => (s.toInt + 1).toNat) (fun s p => ?_) ⟨100, by omega, by decide, fun w hw h2 => by omega⟩
    obtain ⟨v, hv, e1, e2⟩ := p
    refine t_ite (fun c => ?_) (fun c1 => ?_)
    · rw [Int32.lt_iff_toInt_lt, show (0 : Int32).toInt = 0 by decide] at c
      exact t_ret (Or.inl ⟨rfl, fun w hw => e2 w (by omega) hw⟩)
    · have p := nn_of c1
      have es := nI_self p
      have hv1 : s.toInt.toNat = v - 1 := by omega
      rw [hv1] at es
      have v1 : 1 ≤ v := by omega
      subst es
      have e3 : nI (v - 1) + (-1) = nI (v - 1) - 1 := by
        apply Int32.toInt_inj.mp
        rw [Int32.toInt_add, Int32.toInt_sub]; rfl
      have t1 : (nI (v - 1) + (-1)).toInt = (v : Int) - 1 - 1 := by
        rw [Int32.toInt_add, tnI (by omega), show (-1 : Int32).toInt = -1 by decide]
        rw [Int.bmod_eq_of_le (by omega) (by omega)]
        omega
      refine t_be (c_ind h hc (by omega)) ?_
      refine t_ite (fun c1 => ?_) (fun c1 => ?_)
      · have z := (c_pos (hc (v - 1) (by omega))).mp c1
        refine t_ret ⟨⟨v - 1, by omega, by rw [t1]; omega, fun w hw h2 => ?_⟩, ?_⟩
        · rcases (by omega : v ≤ w ∨ w = v - 1) with q | rfl
          · exact e2 w q h2
          · exact z
        · show ((nI (v - 1) + (-1)).toInt + 1).toNat < ((nI (v - 1)).toInt + 1).toNat
          rw [t1, e1]; omega
      · have z := mt (c_pos (hc (v - 1) (by omega))).mpr c1
        exact t_ret (Or.inr ⟨v - 1, by omega, rfl, z, fun w h1 h2 => e2 w (by omega) h2⟩)
  obtain ⟨r, er, q⟩ := key
  unfold fX0_greatest
  rw [er, obs]
  rcases q with ⟨rfl, q⟩ | ⟨v, q1, rfl, q2, q3⟩
  · exact ⟨_, rfl, Or.inl ⟨rfl, q⟩⟩
  · exact ⟨_, rfl, Or.inr ⟨v, q1, rfl, q2, q3⟩⟩
theorem n_ind {I : gM} {c : Nat → Nat} {l : Nat} (hl : l < 4) (h : ∀ v, v < 100 → I 82 (100 * l + v) = nI (c v)) {v : Nat} (hv : v < 100) : rI 400 (I 82) (((100 : Int32) * nI l) + nI v) = some (nI (c v)) := by
  rw [show (100 : Int32) = nI 100 from rfl, nI_mul, nI_add, rI_n (by omega) (by omega), h v hv]
/-- the reference's extreme: the least, the greatest, the oftenest -/
def exO (c : Nat → Nat) (n : Nat) (r : Int32) : Prop := (r = -1 ∧ ∀ w, w < n → c w = 0) ∨ ∃ v, v < n ∧ r = nI v ∧ c v ≠ 0 ∧ (∀ w, w < v → c w < c v) ∧ ∀ w, w < n → c w ≤ c v
theorem exO.uniq {c : Nat → Nat} {n : Nat} {r r' : Int32} (h : exO c n r) (h' : exO c n r') : r = r' := by
  rcases h with ⟨rfl, a⟩ | ⟨v, a, rfl, b, d, f⟩
  · rcases h' with ⟨rfl, _⟩ | ⟨v', a', _, b', _⟩
    · rfl
    · exact absurd (a v' a') b'
  · rcases h' with ⟨_, a'⟩ | ⟨v', a', rfl, b', d', f'⟩
    · exact absurd (a' v a) b
    · have : v = v' := by
        rcases Nat.lt_trichotomy v v' with q | q | q
        · have := d' v q; have := f v' a'; omega
        · exact q
        · have := d v' q; have := f' v a; omega
      rw [this]
theorem n_extreme {I : gM} {c : Nat → Nat} {l : Nat} (hl : l < 4) (h : ∀ v, v < 100 → I 82 (100 * l + v) = nI (c v)) (hc : ∀ v, v < 100 → c v < 2 ^ 31) (m : Int32) : ∃ r, fX9_extremeOf (nI l) m I = some r ∧ (m ≠ 2 → m ≠ 3 → isLst c r) ∧ (m = 2 → isGrt c 100 r) ∧ (m = 3 → exO c 100 r) := by
  have key : T (lX9_extremeOf_5 (nI l) m I (-1, 0)) (fun r => (m ≠ 2 → m ≠ 3 → isLst c r) ∧ (m = 2 → isGrt c 100 r) ∧ (m = 3 → exO c 100 r)) := by
    unfold lX9_extremeOf_5
    refine t_it (P := fun s => ∃ v, v ≤ 100 ∧ s.2 = nI v ∧ ((s.1 = -1 ∧ ∀ w, w < v → c w = 0) ∨ ∃ u, u < v ∧ s.1 = nI u ∧ c u ≠ 0 ∧ (m ≠ 2 → m ≠ 3 → ∀ w, w < u → c w = 0) ∧ (m = 2 → ∀ w, u < w → w < v → c w = 0) ∧ (m = 3 → (∀ w, w < u → c w < c u) ∧ ∀ w, w < v → c w ≤ c u))) (μ := fun s => 200 - s.2.toInt.toNat) (fun s p => ?_) ⟨0, by omega, rfl, Or.inl ⟨rfl, fun w hw => absurd hw (Nat.not_lt_zero w)⟩⟩
    obtain ⟨s1, s2⟩ := s
    obtain ⟨v, hv, e1, e2⟩ := p
    dsimp only at e1 e2
    subst e1
    dsimp only
    refine t_ite (fun c1 => ?_) (fun c1 => ?_)
    · have := (nI_leI (a := 100) (by omega) (by omega)).mp c1
      have : v = 100 := by omega
      subst this
      rcases e2 with ⟨rfl, q⟩ | ⟨u, u1, rfl, u2, u3, u4, u5⟩
      · exact t_ret ⟨fun _ _ => Or.inl ⟨rfl, q⟩, fun _ => Or.inl ⟨rfl, q⟩, fun _ => Or.inl ⟨rfl, q⟩⟩
      · exact t_ret ⟨fun a b => Or.inr ⟨u, u1, rfl, u2, u3 a b⟩, fun a => Or.inr ⟨u, u1, rfl, u2, u4 a⟩, fun a => Or.inr ⟨u, u1, rfl, u2, u5 a⟩⟩
    · have c' := mt (nI_leI (a := 100) (by omega) (by omega)).mpr c1
      have mu : 200 - (nI v + 1).toInt.toNat < 200 - (nI v).toInt.toNat := by rw [nI_1, nIt (by omega), nIt (by omega)]; omega
      refine t_be (n_ind hl h (by omega)) ?_
      -- the found one stays
      have stay : (c v = 0 ∨ ∃ u, s1 = nI u ∧ u < v ∧ ((m ≠ 2 ∧ m ≠ 3) ∨ (m = 3 ∧ c v ≤ c u))) → T (bX9_extremeOf_66 s1 (nI v)) (LQ (fun s : Int32 × Int32 => ∃ v, v ≤ 100 ∧ s.2 = nI v ∧ ((s.1 = -1 ∧ ∀ w, w < v → c w = 0) ∨ ∃ u, u < v ∧ s.1 = nI u ∧ c u ≠ 0 ∧ (m ≠ 2 → m ≠ 3 → ∀ w, w < u → c w = 0) ∧ (m = 2 → ∀ w, u < w → w < v → c w = 0) ∧ (m = 3 → (∀ w, w < u → c w < c u) ∧ ∀ w, w < v → c w ≤ c u))) (200 - (nI v).toInt.toNat) (fun s => 200 - s.2.toInt.toNat) (fun r => (m ≠ 2 → m ≠ 3 → isLst c r) ∧ (m = 2 → isGrt c 100 r) ∧ (m = 3 → exO c 100 r))) := fun st => by
        unfold bX9_extremeOf_66 bX9_extremeOf_67 bX9_extremeOf_80
        rw [if_pos rfl]
        refine t_ret ⟨⟨v + 1, by omega, nI_1 _, ?_⟩, mu⟩
        rcases e2 with ⟨rfl, q⟩ | ⟨u, u1, rfl, u2, u3, u4, u5⟩
        · have c0 : c v = 0 := by
            rcases st with z | ⟨u, z, zv, _⟩
            · exact z
            · have : (-1 : Int32).toInt = (nI u).toInt := by rw [z]
              rw [tnI (by omega), show (-1 : Int32).toInt = -1 by decide] at this
              omega
          refine Or.inl ⟨rfl, fun w hw => ?_⟩
          rcases (by omega : w < v ∨ w = v) with z | rfl
          · exact q w z
          · exact c0
        · refine Or.inr ⟨u, by omega, rfl, u2, u3, fun a w h1 h2 => ?_, fun a => ⟨(u5 a).1, fun w hw => ?_⟩⟩
          · rcases (by omega : w < v ∨ w = v) with z | rfl
            · exact u4 a w h1 z
            · rcases st with z | ⟨u', _, _, ⟨z, _⟩ | ⟨z, _⟩⟩
              · exact z
              · exact absurd a z
              · rw [a] at z; exact absurd z (by decide)
          · rcases (by omega : w < v ∨ w = v) with z | rfl
            · exact (u5 a).2 w z
            · rcases st with z | ⟨u', e, uu, ⟨_, z⟩ | ⟨_, z⟩⟩
              · omega
              · exact absurd a z
              · rw [nI_inj e (by omega) (by omega)]; exact z
      -- the new one is taken
      have take : c v ≠ 0 → (s1 = -1 ∨ m = 2 ∨ ∃ u, s1 = nI u ∧ u < v ∧ m = 3 ∧ c u < c v) → T (bX9_extremeOf_62 s1 (nI v)) (LQ (fun s : Int32 × Int32 => ∃ v, v ≤ 100 ∧ s.2 = nI v ∧ ((s.1 = -1 ∧ ∀ w, w < v → c w = 0) ∨ ∃ u, u < v ∧ s.1 = nI u ∧ c u ≠ 0 ∧ (m ≠ 2 → m ≠ 3 → ∀ w, w < u → c w = 0) ∧ (m = 2 → ∀ w, u < w → w < v → c w = 0) ∧ (m = 3 → (∀ w, w < u → c w < c u) ∧ ∀ w, w < v → c w ≤ c u))) (200 - (nI v).toInt.toNat) (fun s => 200 - s.2.toInt.toNat) (fun r => (m ≠ 2 → m ≠ 3 → isLst c r) ∧ (m = 2 → isGrt c 100 r) ∧ (m = 3 → exO c 100 r))) := fun cv st => by
        unfold bX9_extremeOf_62 bX9_extremeOf_67 bX9_extremeOf_80
        rw [if_neg (by decide)]
        refine t_ret ⟨⟨v + 1, by omega, nI_1 _, Or.inr ⟨v, by omega, rfl, cv, ?_, fun _ w h1 h2 => by omega, ?_⟩⟩, mu⟩
        · intro a b w hw
          rcases e2 with ⟨rfl, q⟩ | ⟨u, u1, rfl, u2, u3, u4, u5⟩
          · exact q w hw
          · rcases st with z | z | ⟨_, _, _, z, _⟩
            · have : (-1 : Int32).toInt = (nI u).toInt := by rw [z]
              rw [tnI (by omega), show (-1 : Int32).toInt = -1 by decide] at this
              omega
            · exact absurd z a
            · exact absurd z b
        · intro a
          have lt : ∀ w, w < v → c w < c v := fun w hw => by
            rcases e2 with ⟨rfl, q⟩ | ⟨u, u1, rfl, u2, u3, u4, u5⟩
            · have := q w hw; omega
            · rcases st with z | z | ⟨u', z1, z2, _, z3⟩
              · have : (-1 : Int32).toInt = (nI u).toInt := by rw [z]
                rw [tnI (by omega), show (-1 : Int32).toInt = -1 by decide] at this
                omega
              · rw [a] at z; exact absurd z (by decide)
              · have e := nI_inj z1 (by omega) (by omega)
                subst e
                have := (u5 a).2 w hw
                omega
          refine ⟨lt, fun w hw => ?_⟩
          rcases (by omega : w < v ∨ w = v) with z | rfl
          · exact Nat.le_of_lt (lt w z)
          · exact Nat.le_refl _
      refine t_ite (fun c1 => ?_) (fun c1 => ?_)
      · exact stay (Or.inl ((c_pos (hc v (by omega))).mp c1))
      · have cv := mt (c_pos (hc v (by omega))).mpr c1
        refine t_ite (fun c2 => take cv (Or.inl c2)) (fun c2 => ?_)
        have ⟨u, hu, eu⟩ : ∃ u, u < v ∧ s1 = nI u := by
          rcases e2 with ⟨z, _⟩ | ⟨u, u1, z, _⟩
          · exact absurd z c2
          · exact ⟨u, u1, z⟩
        refine t_ite (fun c3 => take cv (Or.inr (Or.inl c3))) (fun c3 => ?_)
        refine t_ite (fun c4 => ?_) (fun c4 => stay (Or.inr ⟨u, eu, hu, Or.inl ⟨c3, c4⟩⟩))
        rw [eu]
        rw [eu] at stay take
        refine t_be (n_ind hl h (by omega)) ?_
        refine t_ite (fun c5 => ?_) (fun c5 => ?_)
        · exact stay (Or.inr ⟨u, rfl, hu, Or.inr ⟨c4, (nI_leI (hc v (by omega)) (hc u (by omega))).mp c5⟩⟩)
        · have := mt (nI_leI (hc v (by omega)) (hc u (by omega))).mpr c5
          exact take cv (Or.inr (Or.inr ⟨u, rfl, hu, c4, by omega⟩))
  obtain ⟨r, er, q⟩ := key
  unfold fX9_extremeOf
  rw [er, obs]
  exact ⟨r, rfl, q⟩
theorem c_oftenest {I : gM} {c : Nat → Nat} (h : ∀ v, v < 100 → I 41 v = nI (c v)) (hc : ∀ v, v < 100 → c v < 2 ^ 31) : ∃ r, fX0_oftenest I = some r ∧ exO c 100 r := by
  have key : T (lX0_oftenest_6 I (-1, 0, 0)) (fun r => exO c 100 r) := by
    unfold lX0_oftenest_6
    refine t_it (P := fun s => ∃ v, v ≤ 100 ∧ s.2.2 = nI v ∧ ((s.1 = -1 ∧ s.2.1 = 0 ∧ ∀ w, w < v → c w = 0) ∨ ∃ u, u < v ∧ s.1 = nI u ∧ s.2.1 = nI (c u) ∧ c u ≠ 0 ∧ (∀ w, w < u → c w < c u) ∧ ∀ w, w < v → c w ≤ c u)) (μ := fun s => 200 - s.2.2.toInt.toNat) (fun s p => ?_) ⟨0, by omega, rfl, Or.inl ⟨rfl, rfl, fun w hw => absurd hw (Nat.not_lt_zero w)⟩⟩
    obtain ⟨s1, s3, s2⟩ := s
    obtain ⟨v, hv, e1, e2⟩ := p
    dsimp only at e1 e2
    subst e1
    dsimp only
    rw [show (100 : Int32) = nI 100 from rfl]
    refine t_ite (fun c1 => ?_) (fun c1 => ?_)
    · have := (nI_leI (by omega) (by omega)).mp c1
      have : v = 100 := by omega
      subst this
      rcases e2 with ⟨rfl, _, q⟩ | ⟨u, u1, rfl, _, u2, u3, u4⟩
      · exact t_ret (Or.inl ⟨rfl, q⟩)
      · exact t_ret (Or.inr ⟨u, u1, rfl, u2, u3, u4⟩)
    · have c' := mt (nI_leI (by omega) (by omega)).mpr c1
      have mu : 200 - (nI v + 1).toInt.toNat < 200 - (nI v).toInt.toNat := by rw [nI_1, nIt (by omega), nIt (by omega)]; omega
      refine t_be (c_ind h hc (by omega)) ?_
      unfold bX0_oftenest_31
      refine t_ite (fun c1 => ?_) (fun c1 => ?_)
      · refine t_ret ⟨⟨v + 1, by omega, nI_1 _, ?_⟩, mu⟩
        dsimp only
        rcases e2 with ⟨rfl, rfl, q⟩ | ⟨u, u1, rfl, rfl, u2, u3, u4⟩
        · refine Or.inl ⟨rfl, rfl, fun w hw => ?_⟩
          rcases (by omega : w < v ∨ w = v) with z | rfl
          · exact q w z
          · exact (c_pos (hc w (by omega))).mp c1
        · refine Or.inr ⟨u, by omega, rfl, rfl, u2, u3, fun w hw => ?_⟩
          rcases (by omega : w < v ∨ w = v) with z | rfl
          · exact u4 w z
          · exact (nI_leI (hc w (by omega)) (hc u (by omega))).mp c1
      · refine t_be (c_ind h hc (by omega)) (t_ret ⟨⟨v + 1, by omega, nI_1 _, Or.inr ⟨v, by omega, rfl, rfl, ?_⟩⟩, mu⟩)
        rcases e2 with ⟨rfl, rfl, q⟩ | ⟨u, u1, rfl, rfl, u2, u3, u4⟩
        · have cv := mt (c_pos (hc v (by omega))).mpr c1
          have lt : ∀ w, w < v → c w < c v := fun w hw => by have := q w hw; omega
          refine ⟨cv, lt, fun w hw => ?_⟩
          rcases (by omega : w < v ∨ w = v) with z | rfl
          · exact Nat.le_of_lt (lt w z)
          · exact Nat.le_refl _
        · have cv := mt (nI_leI (hc v (by omega)) (hc u (by omega))).mpr c1
          have lt : ∀ w, w < v → c w < c v := fun w hw => by have := u4 w hw; omega
          refine ⟨by omega, lt, fun w hw => ?_⟩
          rcases (by omega : w < v ∨ w = v) with z | rfl
          · exact Nat.le_of_lt (lt w z)
          · exact Nat.le_refl _
  obtain ⟨r, er, q⟩ := key
  unfold fX0_oftenest
  rw [er, obs]
  exact ⟨r, rfl, q⟩
