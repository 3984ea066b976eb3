section P_35r_43d_tally
/-! times, distinct -/
theorem mx0_nI {a : Nat} (h : a < 2 ^ 31) : mx0 (nI a) = a := by
  have e := tX (a := 0) (b := nI a) (by decide : (0 : Int32).toInt = 0) rfl
  rw [tnI h] at e
  unfold mx0
  omega
theorem c_tally {k l : Nat} {ls : List Nat} {M R : gM} {J : Nat} (o : OUT k ls M R J) (hJ : J ≤ 20736) (hk : k + 10 < 41) {e : Nat} (he : e < ls.length) (hl : ls.getD e 0 = l) (l4 : l < 4) : ∃ r, fX0_tallyUp k (nI l) M = some r ∧ (∀ v, v < 100 → r 41 v = nI (cntJ (R 80) l v J)) ∧ ∀ q, q ≠ 41 → r q = M q := by
  unfold fX0_tallyUp
  obtain ⟨N, eN, n1, n2⟩ := c_fill (k0 := 41) (n0 := 100) (v := 0) (M := M) (by omega)
  rw [eN, obs]
  have key : T (lX0_tallyUp_10 k (nI l) (0, N)) (fun r => (∀ v, v < 100 → r 41 v = nI (cntJ (R 80) l v J)) ∧ ∀ q, q ≠ 41 → r q = M q) := by
    unfold lX0_tallyUp_10
    refine t_it (P := fun s => ∃ j, j ≤ J ∧ s.1 = nI j ∧ (∀ v, v < 100 → s.2 41 v = nI (cntJ (R 80) l v j)) ∧ ∀ q, q ≠ 41 → s.2 q = M q) (μ := fun s => 30000 - s.1.toInt.toNat) (fun s p => ?_) ⟨0, Nat.zero_le _, rfl, fun v hv => n2 v hv, n1⟩
    obtain ⟨s1, N'⟩ := s
    obtain ⟨j, hj, e1, h2, h3⟩ := p
    dsimp only at e1 h2 h3
    subst e1
    dsimp only
    have k0 : N' k = M k := h3 k (by omega)
    have kk : N' k 0 = nI J := by rw [k0]; exact o.1
    refine t_ite (fun c => ?_) (fun c => ?_)
    · rw [kk] at c
      have := (nI_leI (by omega) (by omega)).mp c
      have : j = J := by omega
      subst this
      exact t_ret ⟨h2, h3⟩
    · rw [kk] at c
      have c' := mt (nI_leI (by omega) (by omega)).mpr c
      have o' : OUT k ls N' R J := ⟨by rw [k0]; exact o.1, o.2.1, by rw [k0]; exact o.2.2.1, fun e he => by rw [h3 (k + 1) (by omega)]; exact o.2.2.2.1 e he, fun j hj => by rw [h3 (k + 3) (by omega)]; exact o.2.2.2.2 j hj⟩
      refine t_be (c_numberAt o' hJ (by omega) l4) ?_
      have q := (o'.dg (j := j) (by omega)).2.2 e he
      rw [hl] at q
      have g := rdg_lt N' k j l
      generalize rdg N' k j l = w at *
      have mu : 30000 - (nI j + 1).toInt.toNat < 30000 - (nI j).toInt.toNat := by rw [nI_1, nIt (by omega), nIt (by omega)]; omega
      have cj : ∀ v, cntJ (R 80) l v (j + 1) = cntJ (R 80) l v j + (if w = v then 1 else 0) := fun v => by
        show cntJ (R 80) l v j + (if mx0 (R 80 (4 * j + l)) = v then 1 else 0) = _
        rw [q, mx0_nI (by omega)]
      rw [show (100 : Int32) = nI 100 from rfl]
      refine t_ite (fun c => ?_) (fun c => ?_)
      · have := (nI_leI (by omega) (by omega)).mp c
        unfold bX0_tallyUp_44
        refine t_ret ⟨⟨j + 1, by omega, nI_1 _, fun v hv => ?_, h3⟩, mu⟩
        rw [cj, if_neg (by omega), Nat.add_zero]
        exact h2 v hv
      · have c2 := mt (nI_leI (by omega) (by omega)).mpr c
        refine t_be (rI_n (by omega) (by omega)) (t_be (wI_n (by omega) (by omega)) ?_)
        unfold bX0_tallyUp_44
        refine t_ret ⟨⟨j + 1, by omega, nI_1 _, fun v hv => ?_, fun q hq => by dsimp only; rw [g_up_row hq]; exact h3 q hq⟩, mu⟩
        dsimp only
        rw [gu_in, cj]
        by_cases cv : w = v
        · rw [if_pos cv.symm, if_pos cv, h2 w (by omega), nI_1, cv]
        · rw [if_neg (fun z => cv z.symm), if_neg cv, Nat.add_zero]
          exact h2 v hv
  obtain ⟨r, er, hr⟩ := key
  rw [er, obs]
  exact ⟨r, rfl, hr⟩
/-- the reference's counts beside the rows that it has joined -/
theorem n_cnt {R0 R R' : gM} (hM : MI false R0 R) (ej : fX9_joinsNow R = some R') (M1 : MI false R0 R') (G1 : GJ9 R') {J : Nat} (hJ : J ≤ 20736) (e : R' 62 26 = nI J) : ∃ r, fX9_counts R = some r ∧ (∀ l, l < 4 → ∀ v, v < 100 → r 82 (100 * l + v) = nI (cntJ (R' 80) l v J)) ∧ (∀ l, l < 4 → r 84 l = nI (cdJ (R' 80) l J 100)) ∧ ∀ k, k ≠ 82 → k ≠ 83 → k ≠ 84 → r k = R' k := by
  obtain ⟨r, er, _, ⟨_, J', h1, h2, h3, _, h5⟩, h6⟩ := n_counts hM ej M1 G1
  rw [h6 62 (by omega) (by omega) (by omega), e] at h2
  have : J = J' := nI_inj h2 (by omega) (by omega)
  subst this
  rw [h6 80 (by omega) (by omega) (by omega)] at h3 h5
  exact ⟨r, er, h3, h5, h6⟩
theorem c_ind {I : gM} {c : Nat → Nat} (h : ∀ v, v < 100 → I 41 v = nI (c v)) (hc : ∀ v, v < 100 → c v < 2 ^ 31) {v : Nat} (hv : v < 100) : rI 100 (I 41) (nI v) = some (nI (c v)) := by rw [rI_n hv (by omega), h v hv]
theorem c_pos {a : Nat} (h : a < 2 ^ 31) : nI a ≤ 0 ↔ a = 0 := ⟨fun z => by have := (nI_leI (b := 0) (by omega) (by omega)).mp z; omega, fun z => by rw [z]; decide⟩
/-- how many numbers there are -/
theorem c_numbers {I : gM} {K : Nat → Int32} {l J : Nat} (hJ : J ≤ 20736) (h : ∀ v, v < 100 → I 41 v = nI (cntJ K l v J)) : fX0_numbers I = some (nI (cdJ K l J 100)) := by
  have hc : ∀ v, v < 100 → cntJ K l v J < 2 ^ 31 := fun v _ => by have := cntJ_le K l v J; omega
  have key : T (lX0_numbers_4 I (0, 0)) (fun r => r = nI (cdJ K l J 100)) := by
    unfold lX0_numbers_4
    refine t_it (P := fun s => ∃ v, v ≤ 100 ∧ s.1 = nI (cdJ K l J v) ∧ s.2 = nI v) (μ := fun s => 200 - s.2.toInt.toNat) (fun s p => ?_) ⟨0, by omega, rfl, rfl⟩
    obtain ⟨s1, s2⟩ := s
    obtain ⟨v, hv, e1, e2⟩ := p
    dsimp only at e1 e2
    subst e1; subst e2
    dsimp only
    rw [show (100 : Int32) = nI 100 from rfl]
    refine t_ite (fun c => ?_) (fun c => ?_)
    · have := (nI_leI (by omega) (by omega)).mp c
      have : v = 100 := by omega
      subst this
      exact t_ret rfl
    · have c' := mt (nI_leI (by omega) (by omega)).mpr c
      have mu : 200 - (nI v + 1).toInt.toNat < 200 - (nI v).toInt.toNat := by rw [nI_1, nIt (by omega), nIt (by omega)]; omega
      refine t_be (c_ind h hc (by omega)) ?_
      have cd : cdJ K l J (v + 1) = cdJ K l J v + (if 0 < cntJ K l v J then 1 else 0) := rfl
      unfold bX0_numbers_22
      refine t_ite (fun c => ?_) (fun c => ?_)
      · have := (c_pos (hc v (by omega))).mp c
        refine t_ret ⟨⟨v + 1, by omega, ?_, nI_1 _⟩, mu⟩
        dsimp only
        rw [cd, if_neg (by omega), Nat.add_zero]
      · have := mt (c_pos (hc v (by omega))).mpr c
        refine t_ret ⟨⟨v + 1, by omega, ?_, nI_1 _⟩, mu⟩
        dsimp only
        rw [cd, if_pos (by omega), nI_1]
  obtain ⟨r, er, rfl⟩ := key
  unfold fX0_numbers
  rw [er, obs]
/-- the least, the greatest number that is counted -/
def isLst (c : Nat → Nat) (r : Int32) : Prop := (r = -1 ∧ ∀ w, w < 100 → c w = 0) ∨ ∃ v, v < 100 ∧ r = nI v ∧ c v ≠ 0 ∧ ∀ w, w < v → c w = 0
def isGrt (c : Nat → Nat) (n : Nat) (r : Int32) : Prop := (r = -1 ∧ ∀ w, w < n → c w = 0) ∨ ∃ v, v < n ∧ r = nI v ∧ c v ≠ 0 ∧ ∀ w, v < w → w < n → c w = 0
theorem isLst.uniq {c : Nat → Nat} {r r' : Int32} (h : isLst c r) (h' : isLst c r') : r = r' := by
  rcases h with ⟨rfl, a⟩ | ⟨v, a, rfl, b, d⟩
  · rcases h' with ⟨rfl, _⟩ | ⟨v', a', _, b', _⟩
    · rfl
    · exact absurd (a v' a') b'
  · rcases h' with ⟨_, a'⟩ | ⟨v', a', rfl, b', d'⟩
    · exact absurd (a' v a) b
    · have : v = v' := by
        rcases Nat.lt_trichotomy v v' with q | q | q
        · exact absurd (d' v q) b
        · exact q
        · exact absurd (d v' q) b'
      rw [this]
theorem isGrt.uniq {c : Nat → Nat} {n : Nat} {r r' : Int32} (h : isGrt c n r) (h' : isGrt c n r') : r = r' := by
  rcases h with ⟨rfl, a⟩ | ⟨v, a, rfl, b, d⟩
  · rcases h' with ⟨rfl, _⟩ | ⟨v', a', _, b', _⟩
    · rfl
    · exact absurd (a v' a') b'
  · rcases h' with ⟨_, a'⟩ | ⟨v', a', rfl, b', d'⟩
    · exact absurd (a' v a) b
    · have : v = v' := by
        rcases Nat.lt_trichotomy v v' with q | q | q
        · exact absurd (d v' q a') b'
        · exact q
        · exact absurd (d' v q a) b
      rw [this]
theorem c_least {I : gM} {c : Nat → Nat} (h : ∀ v, v < 100 → I 41 v = nI (c v)) (hc : ∀ v, v < 100 → c v < 2 ^ 31) : ∃ r, fX0_least I = some r ∧ isLst c r := by
  have key : T (lX0_least_2 I 0) (fun r => (r = .inr () ∧ ∀ w, w < 100 → c w = 0) ∨ ∃ v, v < 100 ∧ r = .inl (nI v) ∧ c v ≠ 0 ∧ ∀ w, w < v → c w = 0) := by
    unfold lX0_least_2
    refine t_it (P := fun s => ∃ v, v ≤ 100 ∧ s = nI v ∧ ∀ w, w < v → c w = 0) (μ := fun s => 200 - s.toInt.toNat) (fun s p => ?_) ⟨0, by omega, rfl, fun w hw => absurd hw (Nat.not_lt_zero w)⟩
    obtain ⟨v, hv, e1, e2⟩ := p
    subst e1
    rw [show (100 : Int32) = nI 100 from rfl]
    refine t_ite (fun c => ?_) (fun c1 => ?_)
    · have := (nI_leI (by omega) (by omega)).mp c
      have : v = 100 := by omega
      subst this
      exact t_ret (Or.inl ⟨rfl, e2⟩)
    · have c' := mt (nI_leI (by omega) (by omega)).mpr c1
      have mu : 200 - (nI v + 1).toInt.toNat < 200 - (nI v).toInt.toNat := by rw [nI_1, nIt (by omega), nIt (by omega)]; omega
      refine t_be (c_ind h hc (by omega)) ?_
      refine t_ite (fun c1 => ?_) (fun c1 => ?_)
      · have := (c_pos (hc v (by omega))).mp c1
        refine t_ret ⟨⟨v + 1, by omega, nI_1 _, fun w hw => ?_⟩, mu⟩
        rcases (by omega : w < v ∨ w = v) with z | rfl
        · exact e2 w z
        · exact this
      · have := mt (c_pos (hc v (by omega))).mpr c1
        exact t_ret (Or.inr ⟨v, by omega, rfl, this, e2⟩)
  obtain ⟨r, er, q⟩ := key
  unfold fX0_least
  rw [er, obs]
  rcases q with ⟨rfl, q⟩ | ⟨v, q1, rfl, q2, q3⟩
  · exact ⟨_, rfl, Or.inl ⟨rfl, q⟩⟩
  · exact ⟨_, rfl, Or.inr ⟨v, q1, rfl, q2, q3⟩⟩
theorem c_greatest {I : gM} {c : Nat → Nat} (h : ∀ v, v < 100 → I 41 v = nI (c v)) (hc : ∀ v, v < 100 → c v < 2 ^ 31) : ∃ r, fX0_greatest I = some r ∧ isGrt c 100 r := by
  have key : T (lX0_greatest_3 I 99) (fun r => (r = .inr () ∧ ∀ w, w < 100 → c w = 0) ∨ ∃ v, v < 100 ∧ r = .inl (nI v) ∧ c v ≠ 0 ∧ ∀ w, v < w → w < 100 → c w = 0) := by
    unfold lX0_greatest_3
    refine t_it (P := fun s => ∃ v : Nat, v ≤ 100 ∧ s.toInt = (v : Int) - 1 ∧ ∀ w, v ≤ w → w < 100 → c w = 0) (μ := fun s => (s.toInt + 1).toNat) (fun s p => ?_) ⟨100, by omega, by decide, fun w hw h2 => by omega⟩
    obtain ⟨v, hv, e1, e2⟩ := p
    refine t_ite (fun c => ?_) (fun c1 => ?_)
    · rw [Int32.lt_iff_toInt_lt, show (0 : Int32).toInt = 0 by decide] at c
      exact t_ret (Or.inl ⟨rfl, fun w hw => e2 w (by omega) hw⟩)
    · have p := nn_of c1
      have es := nI_self p
      have hv1 : s.toInt.toNat = v - 1 := by omega
      rw [hv1] at es
      have v1 : 1 ≤ v := by omega
      subst es
      have e3 : nI (v - 1) + (-1) = nI (v - 1) - 1 := by
        apply Int32.toInt_inj.mp
        rw [Int32.toInt_add, Int32.toInt_sub]; rfl
      have t1 : (nI (v - 1) + (-1)).toInt = (v : Int) - 1 - 1 := by
        rw [Int32.toInt_add, tnI (by omega), show (-1 : Int32).toInt = -1 by decide]
        rw [Int.bmod_eq_of_le (by omega) (by omega)]
        omega
      refine t_be (c_ind h hc (by omega)) ?_
      refine t_ite (fun c1 => ?_) (fun c1 => ?_)
      · have z := (c_pos (hc (v - 1) (by omega))).mp c1
        refine t_ret ⟨⟨v - 1, by omega, by rw [t1]; omega, fun w hw h2 => ?_⟩, ?_⟩
        · rcases (by omega : v ≤ w ∨ w = v - 1) with q | rfl
          · exact e2 w q h2
          · exact z
        · show ((nI (v - 1) + (-1)).toInt + 1).toNat < ((nI (v - 1)).toInt + 1).toNat
          rw [t1, e1]; omega
      · have z := mt (c_pos (hc (v - 1) (by omega))).mpr c1
        exact t_ret (Or.inr ⟨v - 1, by omega, rfl, z, fun w h1 h2 => e2 w (by omega) h2⟩)
  obtain ⟨r, er, q⟩ := key
  unfold fX0_greatest
  rw [er, obs]
  rcases q with ⟨rfl, q⟩ | ⟨v, q1, rfl, q2, q3⟩
  · exact ⟨_, rfl, Or.inl ⟨rfl, q⟩⟩
  · exact ⟨_, rfl, Or.inr ⟨v, q1, rfl, q2, q3⟩⟩
theorem n_ind {I : gM} {c : Nat → Nat} {l : Nat} (hl : l < 4) (h : ∀ v, v < 100 → I 82 (100 * l + v) = nI (c v)) {v : Nat} (hv : v < 100) : rI 400 (I 82) (((100 : Int32) * nI l) + nI v) = some (nI (c v)) := by
  rw [show (100 : Int32) = nI 100 from rfl, nI_mul, nI_add, rI_n (by omega) (by omega), h v hv]
/-- the reference's extreme: the least, the greatest, the oftenest -/
def exO (c : Nat → Nat) (n : Nat) (r : Int32) : Prop := (r = -1 ∧ ∀ w, w < n → c w = 0) ∨ ∃ v, v < n ∧ r = nI v ∧ c v ≠ 0 ∧ (∀ w, w < v → c w < c v) ∧ ∀ w, w < n → c w ≤ c v
theorem exO.uniq {c : Nat → Nat} {n : Nat} {r r' : Int32} (h : exO c n r) (h' : exO c n r') : r = r' := by
  rcases h with ⟨rfl, a⟩ | ⟨v, a, rfl, b, d, f⟩
  · rcases h' with ⟨rfl, _⟩ | ⟨v', a', _, b', _⟩
    · rfl
    · exact absurd (a v' a') b'
  · rcases h' with ⟨_, a'⟩ | ⟨v', a', rfl, b', d', f'⟩
    · exact absurd (a' v a) b
    · have : v = v' := by
        rcases Nat.lt_trichotomy v v' with q | q | q
        · have := d' v q; have := f v' a'; omega
        · exact q
        · have := d v' q; have := f' v a; omega
      rw [this]
theorem n_extreme {I : gM} {c : Nat → Nat} {l : Nat} (hl : l < 4) (h : ∀ v, v < 100 → I 82 (100 * l + v) = nI (c v)) (hc : ∀ v, v < 100 → c v < 2 ^ 31) (m : Int32) : ∃ r, fX9_extremeOf (nI l) m I = some r ∧ (m ≠ 2 → m ≠ 3 → isLst c r) ∧ (m = 2 → isGrt c 100 r) ∧ (m = 3 → exO c 100 r) := by
  have key : T (lX9_extremeOf_5 (nI l) m I (-1, 0)) (fun r => (m ≠ 2 → m ≠ 3 → isLst c r) ∧ (m = 2 → isGrt c 100 r) ∧ (m = 3 → exO c 100 r)) := by
    unfold lX9_extremeOf_5
    refine t_it (P := fun s => ∃ v, v ≤ 100 ∧ s.2 = nI v ∧ ((s.1 = -1 ∧ ∀ w, w < v → c w = 0) ∨ ∃ u, u < v ∧ s.1 = nI u ∧ c u ≠ 0 ∧ (m ≠ 2 → m ≠ 3 → ∀ w, w < u → c w = 0) ∧ (m = 2 → ∀ w, u < w → w < v → c w = 0) ∧ (m = 3 → (∀ w, w < u → c w < c u) ∧ ∀ w, w < v → c w ≤ c u))) (μ := fun s => 200 - s.2.toInt.toNat) (fun s p => ?_) ⟨0, by omega, rfl, Or.inl ⟨rfl, fun w hw => absurd hw (Nat.not_lt_zero w)⟩⟩
    obtain ⟨s1, s2⟩ := s
    obtain ⟨v, hv, e1, e2⟩ := p
    dsimp only at e1 e2
    subst e1
    dsimp only
    refine t_ite (fun c1 => ?_) (fun c1 => ?_)
    · have := (nI_leI (a := 100) (by omega) (by omega)).mp c1
      have : v = 100 := by omega
      subst this
      rcases e2 with ⟨rfl, q⟩ | ⟨u, u1, rfl, u2, u3, u4, u5⟩
      · exact t_ret ⟨fun _ _ => Or.inl ⟨rfl, q⟩, fun _ => Or.inl ⟨rfl, q⟩, fun _ => Or.inl ⟨rfl, q⟩⟩
      · exact t_ret ⟨fun a b => Or.inr ⟨u, u1, rfl, u2, u3 a b⟩, fun a => Or.inr ⟨u, u1, rfl, u2, u4 a⟩, fun a => Or.inr ⟨u, u1, rfl, u2, u5 a⟩⟩
    · have c' := mt (nI_leI (a := 100) (by omega) (by omega)).mpr c1
      have mu : 200 - (nI v + 1).toInt.toNat < 200 - (nI v).toInt.toNat := by rw [nI_1, nIt (by omega), nIt (by omega)]; omega
      refine t_be (n_ind hl h (by omega)) ?_
      -- the found one stays
      have stay : (c v = 0 ∨ ∃ u, s1 = nI u ∧ u < v ∧ ((m ≠ 2 ∧ m ≠ 3) ∨ (m = 3 ∧ c v ≤ c u))) → T (bX9_extremeOf_66 s1 (nI v)) (LQ (fun s : Int32 × Int32 => ∃ v, v ≤ 100 ∧ s.2 = nI v ∧ ((s.1 = -1 ∧ ∀ w, w < v → c w = 0) ∨ ∃ u, u < v ∧ s.1 = nI u ∧ c u ≠ 0 ∧ (m ≠ 2 → m ≠ 3 → ∀ w, w < u → c w = 0) ∧ (m = 2 → ∀ w, u < w → w < v → c w = 0) ∧ (m = 3 → (∀ w, w < u → c w < c u) ∧ ∀ w, w < v → c w ≤ c u))) (200 - (nI v).toInt.toNat) (fun s => 200 - s.2.toInt.toNat) (fun r => (m ≠ 2 → m ≠ 3 → isLst c r) ∧ (m = 2 → isGrt c 100 r) ∧ (m = 3 → exO c 100 r))) := fun st => by
        unfold bX9_extremeOf_66 bX9_extremeOf_67 bX9_extremeOf_80
        rw [if_pos rfl]
        refine t_ret ⟨⟨v + 1, by omega, nI_1 _, ?_⟩, mu⟩
        rcases e2 with ⟨rfl, q⟩ | ⟨u, u1, rfl, u2, u3, u4, u5⟩
        · have c0 : c v = 0 := by
            rcases st with z | ⟨u, z, zv, _⟩
            · exact z
            · have : (-1 : Int32).toInt = (nI u).toInt := by rw [z]
              rw [tnI (by omega), show (-1 : Int32).toInt = -1 by decide] at this
              omega
          refine Or.inl ⟨rfl, fun w hw => ?_⟩
          rcases (by omega : w < v ∨ w = v) with z | rfl
          · exact q w z
          · exact c0
        · refine Or.inr ⟨u, by omega, rfl, u2, u3, fun a w h1 h2 => ?_, fun a => ⟨(u5 a).1, fun w hw => ?_⟩⟩
          · rcases (by omega : w < v ∨ w = v) with z | rfl
            · exact u4 a w h1 z
            · rcases st with z | ⟨u', _, _, ⟨z, _⟩ | ⟨z, _⟩⟩
              · exact z
              · exact absurd a z
              · rw [a] at z; exact absurd z (by decide)
          · rcases (by omega : w < v ∨ w = v) with z | rfl
            · exact (u5 a).2 w z
            · rcases st with z | ⟨u', e, uu, ⟨_, z⟩ | ⟨_, z⟩⟩
              · omega
              · exact absurd a z
              · rw [nI_inj e (by omega) (by omega)]; exact z
      -- the new one is taken
      have take : c v ≠ 0 → (s1 = -1 ∨ m = 2 ∨ ∃ u, s1 = nI u ∧ u < v ∧ m = 3 ∧ c u < c v) → T (bX9_extremeOf_62 s1 (nI v)) (LQ (fun s : Int32 × Int32 => ∃ v, v ≤ 100 ∧ s.2 = nI v ∧ ((s.1 = -1 ∧ ∀ w, w < v → c w = 0) ∨ ∃ u, u < v ∧ s.1 = nI u ∧ c u ≠ 0 ∧ (m ≠ 2 → m ≠ 3 → ∀ w, w < u → c w = 0) ∧ (m = 2 → ∀ w, u < w → w < v → c w = 0) ∧ (m = 3 → (∀ w, w < u → c w < c u) ∧ ∀ w, w < v → c w ≤ c u))) (200 - (nI v).toInt.toNat) (fun s => 200 - s.2.toInt.toNat) (fun r => (m ≠ 2 → m ≠ 3 → isLst c r) ∧ (m = 2 → isGrt c 100 r) ∧ (m = 3 → exO c 100 r))) := fun cv st => by
        unfold bX9_extremeOf_62 bX9_extremeOf_67 bX9_extremeOf_80
        rw [if_neg (by decide)]
        refine t_ret ⟨⟨v + 1, by omega, nI_1 _, Or.inr ⟨v, by omega, rfl, cv, ?_, fun _ w h1 h2 => by omega, ?_⟩⟩, mu⟩
        · intro a b w hw
          rcases e2 with ⟨rfl, q⟩ | ⟨u, u1, rfl, u2, u3, u4, u5⟩
          · exact q w hw
          · rcases st with z | z | ⟨_, _, _, z, _⟩
            · have : (-1 : Int32).toInt = (nI u).toInt := by rw [z]
              rw [tnI (by omega), show (-1 : Int32).toInt = -1 by decide] at this
              omega
            · exact absurd z a
            · exact absurd z b
        · intro a
          have lt : ∀ w, w < v → c w < c v := fun w hw => by
            rcases e2 with ⟨rfl, q⟩ | ⟨u, u1, rfl, u2, u3, u4, u5⟩
            · have := q w hw; omega
            · rcases st with z | z | ⟨u', z1, z2, _, z3⟩
              · have : (-1 : Int32).toInt = (nI u).toInt := by rw [z]
                rw [tnI (by omega), show (-1 : Int32).toInt = -1 by decide] at this
                omega
              · rw [a] at z; exact absurd z (by decide)
              · have e := nI_inj z1 (by omega) (by omega)
                subst e
                have := (u5 a).2 w hw
                omega
          refine ⟨lt, fun w hw => ?_⟩
          rcases (by omega : w < v ∨ w = v) with z | rfl
          · exact Nat.le_of_lt (lt w z)
          · exact Nat.le_refl _
      refine t_ite (fun c1 => ?_) (fun c1 => ?_)
      · exact stay (Or.inl ((c_pos (hc v (by omega))).mp c1))
      · have cv := mt (c_pos (hc v (by omega))).mpr c1
        refine t_ite (fun c2 => take cv (Or.inl c2)) (fun c2 => ?_)
        have ⟨u, hu, eu⟩ : ∃ u, u < v ∧ s1 = nI u := by
          rcases e2 with ⟨z, _⟩ | ⟨u, u1, z, _⟩
          · exact absurd z c2
          · exact ⟨u, u1, z⟩
        refine t_ite (fun c3 => take cv (Or.inr (Or.inl c3))) (fun c3 => ?_)
        refine t_ite (fun c4 => ?_) (fun c4 => stay (Or.inr ⟨u, eu, hu, Or.inl ⟨c3, c4⟩⟩))
        rw [eu]
        rw [eu] at stay take
        refine t_be (n_ind hl h (by omega)) ?_
        refine t_ite (fun c5 => ?_) (fun c5 => ?_)
        · exact stay (Or.inr ⟨u, rfl, hu, Or.inr ⟨c4, (nI_leI (hc v (by omega)) (hc u (by omega))).mp c5⟩⟩)
        · have := mt (nI_leI (hc v (by omega)) (hc u (by omega))).mpr c5
          exact take cv (Or.inr (Or.inr ⟨u, rfl, hu, c4, by omega⟩))
  obtain ⟨r, er, q⟩ := key
  unfold fX9_extremeOf
  rw [er, obs]
  exact ⟨r, rfl, q⟩
theorem c_oftenest {I : gM} {c : Nat → Nat} (h : ∀ v, v < 100 → I 41 v = nI (c v)) (hc : ∀ v, v < 100 → c v < 2 ^ 31) : ∃ r, fX0_oftenest I = some r ∧ exO c 100 r := by
  have key : T (lX0_oftenest_6 I (-1, 0, 0)) (fun r => exO c 100 r) := by
    unfold lX0_oftenest_6
    refine t_it (P := fun s => ∃ v, v ≤ 100 ∧ s.2.2 = nI v ∧ ((s.1 = -1 ∧ s.2.1 = 0 ∧ ∀ w, w < v → c w = 0) ∨ ∃ u, u < v ∧ s.1 = nI u ∧ s.2.1 = nI (c u) ∧ c u ≠ 0 ∧ (∀ w, w < u → c w < c u) ∧ ∀ w, w < v → c w ≤ c u)) (μ := fun s => 200 - s.2.2.toInt.toNat) (fun s p => ?_) ⟨0, by omega, rfl, Or.inl ⟨rfl, rfl, fun w hw => absurd hw (Nat.not_lt_zero w)⟩⟩
    obtain ⟨s1, s3, s2⟩ := s
    obtain ⟨v, hv, e1, e2⟩ := p
    dsimp only at e1 e2
    subst e1
    dsimp only
    rw [show (100 : Int32) = nI 100 from rfl]
    refine t_ite (fun c1 => ?_) (fun c1 => ?_)
    · have := (nI_leI (by omega) (by omega)).mp c1
      have : v = 100 := by omega
      subst this
      rcases e2 with ⟨rfl, _, q⟩ | ⟨u, u1, rfl, _, u2, u3, u4⟩
      · exact t_ret (Or.inl ⟨rfl, q⟩)
      · exact t_ret (Or.inr ⟨u, u1, rfl, u2, u3, u4⟩)
    · have c' := mt (nI_leI (by omega) (by omega)).mpr c1
      have mu : 200 - (nI v + 1).toInt.toNat < 200 - (nI v).toInt.toNat := by rw [nI_1, nIt (by omega), nIt (by omega)]; omega
      refine t_be (c_ind h hc (by omega)) ?_
      unfold bX0_oftenest_31
      refine t_ite (fun c1 => ?_) (fun c1 => ?_)
      · refine t_ret ⟨⟨v + 1, by omega, nI_1 _, ?_⟩, mu⟩
        dsimp only
        rcases e2 with ⟨rfl, rfl, q⟩ | ⟨u, u1, rfl, rfl, u2, u3, u4⟩
        · refine Or.inl ⟨rfl, rfl, fun w hw => ?_⟩
          rcases (by omega : w < v ∨ w = v) with z | rfl
          · exact q w z
          · exact (c_pos (hc w (by omega))).mp c1
        · refine Or.inr ⟨u, by omega, rfl, rfl, u2, u3, fun w hw => ?_⟩
          rcases (by omega : w < v ∨ w = v) with z | rfl
          · exact u4 w z
          · exact (nI_leI (hc w (by omega)) (hc u (by omega))).mp c1
      · refine t_be (c_ind h hc (by omega)) (t_ret ⟨⟨v + 1, by omega, nI_1 _, Or.inr ⟨v, by omega, rfl, rfl, ?_⟩⟩, mu⟩)
        rcases e2 with ⟨rfl, rfl, q⟩ | ⟨u, u1, rfl, rfl, u2, u3, u4⟩
        · have cv := mt (c_pos (hc v (by omega))).mpr c1
          have lt : ∀ w, w < v → c w < c v := fun w hw => by have := q w hw; omega
          refine ⟨cv, lt, fun w hw => ?_⟩
          rcases (by omega : w < v ∨ w = v) with z | rfl
          · exact Nat.le_of_lt (lt w z)
          · exact Nat.le_refl _
        · have cv := mt (nI_leI (hc v (by omega)) (hc u (by omega))).mpr c1
          have lt : ∀ w, w < v → c w < c v := fun w hw => by have := u4 w hw; omega
          refine ⟨by omega, lt, fun w hw => ?_⟩
          rcases (by omega : w < v ∨ w = v) with z | rfl
          · exact Nat.le_of_lt (lt w z)
          · exact Nat.le_refl _
  obtain ⟨r, er, q⟩ := key
  unfold fX0_oftenest
  rw [er, obs]
  exact ⟨r, rfl, q⟩
end P_35r_43d_tally
section P_35r_43e_told
/-! times, distinct, tells: the reference after the class -/
theorem RT.hi {I a : gM} {A : aT} (hR : RT I (I 70) A) (hM : MI true I a) (hW : WF A) : RT a (a 70) A := by
  rw [hM.hi (by omega)]
  exact hR.cong (by rw [hM.hi (by omega)]) (hM.hi (by omega)) (hM.hi (by omega)) hW.1 hW.k12 (fun _ _ => rfl)
theorem eq_times {I : gM} (h : InvB I) {v w : Int32} {a b : Int32 × gM} (e1 : fX8_times v w I = some a) (e2 : fX9_times v w a.2 = some b) : a.1 = b.1 := by
  obtain ⟨A, hW, hC, hR⟩ := h.tab
  have hMa : MI true I a.2 := by
    obtain ⟨p, ep, hp⟩ := tfX8_times v w I h.1.1
    rw [e1] at ep
    obtain rfl := Option.some.inj ep
    exact hp
  have hRa := hR.hi hMa hW
  unfold fX8_times at e1
  unfold fX9_times at e2
  rcases two_asked hW hC hMa.re hRa v with ⟨l, hl, rfl, hb, n, z1, z2⟩ | ⟨z1, z2⟩
  · rw [z1, obs, if_neg (by decide)] at e1
    rw [z2, obs, if_neg (by decide)] at e2
    obtain ⟨R', J, ej, o, hJ, hS, hQ, hll, M1, G1, _, _⟩ := cur_two h hW n hC hMa.re hRa
    obtain ⟨r, er, c82, _, _⟩ := n_cnt hMa.re ej M1 G1 hJ o.2.1
    rw [er, obs] at e2
    obtain ⟨e, _, e3, e4⟩ := fl4_at _ hW.2.2.2.1 _ (asA_lt hW) l hl hb
    rcases oi e1 with ⟨c, e1⟩ | ⟨c, e1⟩
    · rcases n_in w 0 99 with ⟨h1, _, h3⟩ | ⟨h1, h3⟩
      · rw [Int32.lt_iff_toInt_lt] at c
        omega
      · rw [h3, obs, if_pos rfl] at e2
        cases e1; cases e2; rfl
    · obtain ⟨x, rfl, hx⟩ : ∃ l, w = nI l ∧ l < 2 ^ 31 := ⟨_, nI_self (nn_of c), by have := w.toInt_lt; omega⟩
      rcases oi e1 with ⟨c, e1⟩ | ⟨c, e1⟩
      · have cx := (nI_ltI (b := 100) (by omega) (by omega)).mp c
        obtain ⟨r', er', t1, _⟩ := c_tally o hJ (by omega) e3 e4 hl
        rw [er', obs, rI_n (by omega) (by omega), obs] at e1
        rcases n_in (nI x) 0 99 with ⟨_, _, h3⟩ | ⟨h1, h3⟩
        · rw [h3, obs, if_neg (by decide), show (100 : Int32) = nI 100 from rfl, nI_mul, nI_add, rI_n (by omega) (by omega), obs, c82 l hl x cx] at e2
          cases e1; cases e2
          exact t1 x cx
        · rw [tnI (by omega), show (0 : Int32).toInt = 0 by decide, show (99 : Int32).toInt = 99 by decide] at h1
          omega
      · have cx := mt (nI_ltI (b := 100) (by omega) (by omega)).mpr c
        rcases n_in (nI x) 0 99 with ⟨_, h1, h3⟩ | ⟨h1, h3⟩
        · rw [tnI (by omega), show (99 : Int32).toInt = 99 by decide] at h1
          omega
        · rw [h3, obs, if_pos rfl] at e2
          cases e1; cases e2; rfl
  · rw [z1, obs, if_pos rfl] at e1
    obtain rfl := Option.some.inj e1
    rw [z2, obs, if_pos rfl] at e2
    cases e2; rfl
theorem eq_distinct {I : gM} (h : InvB I) {v w : Int32} {a b : Int32 × gM} (e1 : fX8_distinct v w I = some a) (e2 : fX9_distinct v w a.2 = some b) : a.1 = b.1 := by
  obtain ⟨A, hW, hC, hR⟩ := h.tab
  have hMa : MI true I a.2 := by
    obtain ⟨p, ep, hp⟩ := tfX8_distinct v w I h.1.1
    rw [e1] at ep
    obtain rfl := Option.some.inj ep
    exact hp
  have hRa := hR.hi hMa hW
  unfold fX8_distinct at e1
  unfold fX9_distinct at e2
  rcases two_asked hW hC hMa.re hRa v with ⟨l, hl, rfl, hb, n, z1, z2⟩ | ⟨z1, z2⟩
  · rw [z1, obs, if_neg (by decide)] at e1
    rw [z2, obs, if_neg (by decide)] at e2
    obtain ⟨R', J, ej, o, hJ, hS, hQ, hll, M1, G1, _, _⟩ := cur_two h hW n hC hMa.re hRa
    obtain ⟨r, er, c82, c84, _⟩ := n_cnt hMa.re ej M1 G1 hJ o.2.1
    obtain ⟨e, _, e3, e4⟩ := fl4_at _ hW.2.2.2.1 _ (asA_lt hW) l hl hb
    rcases oi e1 with ⟨c, e1⟩ | ⟨c, e1⟩
    · rcases n_in w 0 3 with ⟨h1, _, h3⟩ | ⟨h1, h3⟩
      · rw [Int32.lt_iff_toInt_lt] at c
        omega
      · rw [h3, obs, if_pos rfl] at e2
        cases e1; cases e2; rfl
    · obtain ⟨x, rfl, hx⟩ : ∃ l, w = nI l ∧ l < 2 ^ 31 := ⟨_, nI_self (nn_of c), by have := w.toInt_lt; omega⟩
      rcases oi e1 with ⟨c, e1⟩ | ⟨c, e1⟩
      · have cx := (nI_leI (b := 3) (by omega) (by omega)).mp c
        obtain ⟨r', er', t1, _⟩ := c_tally o hJ (by omega) e3 e4 hl
        have hc : ∀ v, v < 100 → cntJ (R' 80) l v J < 2 ^ 31 := fun v _ => by have := cntJ_le (R' 80) l v J; omega
        rw [er', obs] at e1
        rcases n_in (nI x) 0 3 with ⟨_, _, h3⟩ | ⟨h1, h3⟩
        · rw [h3, obs, if_neg (by decide), er, obs] at e2
          obtain ⟨g, eg, g1, g2, g3⟩ := n_extreme hl (c82 l hl) hc (nI x)
          rcases (by omega : x = 0 ∨ x = 1 ∨ x = 2 ∨ x = 3) with rfl | rfl | rfl | rfl
          · rw [if_pos (by decide), c_numbers hJ t1, obs] at e1
            rw [if_pos (by decide), rI_n (by omega) (by omega), obs, c84 l hl] at e2
            cases e1; cases e2; rfl
          · obtain ⟨q, eq, hq⟩ := c_least t1 hc
            rw [if_neg (by decide), if_pos (by decide), eq, obs] at e1
            rw [if_neg (by decide), eg, obs] at e2
            cases e1; cases e2
            exact hq.uniq (g1 (by decide) (by decide))
          · obtain ⟨q, eq, hq⟩ := c_greatest t1 hc
            rw [if_neg (by decide), if_neg (by decide), if_pos (by decide), eq, obs] at e1
            rw [if_neg (by decide), eg, obs] at e2
            cases e1; cases e2
            exact hq.uniq (g2 (by decide))
          · obtain ⟨q, eq, hq⟩ := c_oftenest t1 hc
            rw [if_neg (by decide), if_neg (by decide), if_neg (by decide), eq, obs] at e1
            rw [if_neg (by decide), eg, obs] at e2
            cases e1; cases e2
            exact hq.uniq (g3 (by decide))
        · rw [tnI (by omega), show (0 : Int32).toInt = 0 by decide, show (3 : Int32).toInt = 3 by decide] at h1
          omega
      · have cx := mt (nI_leI (b := 3) (by omega) (by omega)).mpr c
        rcases n_in (nI x) 0 3 with ⟨_, h1, h3⟩ | ⟨h1, h3⟩
        · rw [tnI (by omega), show (3 : Int32).toInt = 3 by decide] at h1
          omega
        · rw [h3, obs, if_pos rfl] at e2
          cases e1; cases e2; rfl
  · rw [z1, obs, if_pos rfl] at e1
    obtain rfl := Option.some.inj e1
    rw [z2, obs, if_pos rfl] at e2
    cases e2; rfl
/-- the one tells the other, in the first j rows -/
def TD (f g : Nat → Nat) (j : Nat) : Prop := ∀ i i', i < j → i' < j → f i = f i' → g i = g i'
def MP (N : gM) (q : Nat) (f g : Nat → Nat) (j : Nat) : Prop := ∀ v, v < 100 → (N q v = -1 ∧ ∀ i, i < j → f i ≠ v) ∨ ∃ i, i < j ∧ f i = v ∧ N q v = nI (g i)
theorem nI_ne1 {a : Nat} (h : a < 2 ^ 31) : nI a ≠ -1 := fun z => by
  have : (nI a).toInt = (-1 : Int32).toInt := by rw [z]
  rw [tnI h, show (-1 : Int32).toInt = -1 by decide] at this
  omega
theorem td1 {N : gM} {q j : Nat} {f g : Nat → Nat} (h : MP N q f g j) (t : TD f g j) (fj : f j < 100) (hg : ∀ i, g i < 2 ^ 31) (e : N q (f j) = -1) : TD f g (j + 1) := by
  have no : ∀ i, i < j → f i ≠ f j := by
    rcases h (f j) fj with ⟨_, z⟩ | ⟨i, _, _, z⟩
    · exact z
    · exact absurd (z.symm.trans e) (nI_ne1 (hg i))
  intro i i' hi hi' ee
  rcases (by omega : i < j ∨ i = j) with p | rfl
  · rcases (by omega : i' < j ∨ i' = j) with p' | rfl
    · exact t i i' p p' ee
    · exact absurd ee (no i p)
  · rcases (by omega : i' < i ∨ i' = i) with p' | rfl
    · exact absurd ee.symm (no i' p')
    · rfl
theorem td2 {N : gM} {q j : Nat} {f g : Nat → Nat} (h : MP N q f g j) (t : TD f g j) (fj : f j < 100) (hg : ∀ i, g i < 2 ^ 31) (e : N q (f j) = nI (g j)) : TD f g (j + 1) := by
  have yes : ∀ i, i < j → f i = f j → g i = g j := by
    rcases h (f j) fj with ⟨z, _⟩ | ⟨i0, p0, p1, z⟩
    · exact absurd (e.symm.trans z) (nI_ne1 (hg j))
    · intro i hi ei
      rw [t i i0 hi p0 (ei.trans p1.symm)]
      exact nI_inj (z.symm.trans e) (hg _) (hg _)
  intro i i' hi hi' ee
  rcases (by omega : i < j ∨ i = j) with p | rfl
  · rcases (by omega : i' < j ∨ i' = j) with p' | rfl
    · exact t i i' p p' ee
    · exact yes i p ee
  · rcases (by omega : i' < i ∨ i' = i) with p' | rfl
    · exact (yes i' p' ee.symm).symm
    · rfl
theorem td3 {N : gM} {q j : Nat} {f g : Nat → Nat} (h : MP N q f g j) (fj : f j < 100) (e : N q (f j) ≠ -1) (e2 : N q (f j) ≠ nI (g j)) : ¬ TD f g (j + 1) := by
  intro t
  rcases h (f j) fj with ⟨z, _⟩ | ⟨i0, p0, p1, z⟩
  · exact e z
  · exact e2 (by rw [z, t i0 j (by omega) (by omega) p1])
theorem TD.down {f g : Nat → Nat} {j m : Nat} (h : TD f g m) (hj : j ≤ m) : TD f g j := fun i i' a b => h i i' (by omega) (by omega)
theorem mpUp {N : gM} {q j : Nat} {f g : Nat → Nat} (h : MP N q f g j) : MP (g_up N q (f j) (nI (g j))) q f g (j + 1) := by
  intro v hv
  rw [gu_in]
  by_cases c : v = f j
  · rw [if_pos c]
    exact Or.inr ⟨j, by omega, c.symm, rfl⟩
  · rw [if_neg c]
    rcases h v hv with ⟨a, b⟩ | ⟨i, a, b, d⟩
    · refine Or.inl ⟨a, fun i hi => ?_⟩
      rcases (by omega : i < j ∨ i = j) with p | rfl
      · exact b i p
      · exact fun z => c z.symm
    · exact Or.inr ⟨i, by omega, b, d⟩
theorem c_told {k l o : Nat} {ls : List Nat} {M R : gM} {J : Nat} (u : OUT k ls M R J) (hJ : J ≤ 20736) (hk : k + 10 < 42) (hl : l < 4) (ho : o < 4) (h99 : ∀ j, j < J → rdg M k j l < 100) : ∃ r, fX0_isTold k (nI l) (nI o) M = some r ∧ ((r.1 = 1 ∧ TD (fun j => rdg M k j l) (fun j => rdg M k j o) J) ∨ (r.1 = 0 ∧ ¬ TD (fun j => rdg M k j l) (fun j => rdg M k j o) J)) ∧ ∀ q, q ≠ 42 → r.2 q = M q := by
  unfold fX0_isTold
  obtain ⟨N, eN, n1, n2⟩ := c_fill (k0 := 42) (n0 := 100) (v := -1) (M := M) (by omega)
  rw [eN, obs]
  have hg : ∀ i, rdg M k i o < 2 ^ 31 := fun i => by have := rdg_lt M k i o; omega
  have key : T (lX0_isTold_11 k (nI l) (nI o) (0, N)) (fun w => (∃ r, w = .inr r ∧ TD (fun j => rdg M k j l) (fun j => rdg M k j o) J ∧ ∀ q, q ≠ 42 → r q = M q) ∨ ∃ r, w = .inl r ∧ ¬ TD (fun j => rdg M k j l) (fun j => rdg M k j o) J ∧ ∀ q, q ≠ 42 → r q = M q) := by
    unfold lX0_isTold_11
    refine t_it (P := fun s => ∃ j, j ≤ J ∧ s.1 = nI j ∧ TD (fun j => rdg M k j l) (fun j => rdg M k j o) j ∧ MP s.2 42 (fun j => rdg M k j l) (fun j => rdg M k j o) j ∧ ∀ q, q ≠ 42 → s.2 q = M q) (μ := fun s => 30000 - s.1.toInt.toNat) (fun s p => ?_) ⟨0, Nat.zero_le _, rfl, fun i _ hi => absurd hi (Nat.not_lt_zero i), fun v hv => Or.inl ⟨n2 v hv, fun i hi => absurd hi (Nat.not_lt_zero i)⟩, n1⟩
    obtain ⟨s1, N'⟩ := s
    obtain ⟨j, hj, e1, h2, h4, h3⟩ := p
    dsimp only at e1 h2 h4 h3
    subst e1
    dsimp only
    have k0 : N' k = M k := h3 k (by omega)
    have kk : N' k 0 = nI J := by rw [k0]; exact u.1
    refine t_ite (fun c => ?_) (fun c => ?_)
    · rw [kk] at c
      have := (nI_leI (by omega) (by omega)).mp c
      have : j = J := by omega
      subst this
      exact t_ret (Or.inl ⟨_, rfl, h2, h3⟩)
    · rw [kk] at c
      have c' := mt (nI_leI (by omega) (by omega)).mpr c
      have o' : OUT k ls N' R J := ⟨kk, u.2.1, by rw [k0]; exact u.2.2.1, fun e he => by rw [h3 (k + 1) (by omega)]; exact u.2.2.2.1 e he, fun j hj => by rw [h3 (k + 3) (by omega)]; exact u.2.2.2.2 j hj⟩
      have dgs : ∀ x, rdg N' k j x = rdg M k j x := fun x => by unfold rdg; rw [h3 (k + 3) (by omega)]
      refine t_be (c_numberAt o' hJ (by omega) hl) (t_be (c_numberAt o' hJ (by omega) ho) ?_)
      rw [dgs, dgs]
      have v99 := h99 j (by omega)
      have mu : 30000 - (nI j + 1).toInt.toNat < 30000 - (nI j).toInt.toNat := by rw [nI_1, nIt (by omega), nIt (by omega)]; omega
      refine t_ite (fun c => absurd ((nI_leI (a := 100) (by omega) (by omega)).mp c) (by omega)) (fun c => ?_)
      have nx : TD (fun j => rdg M k j l) (fun j => rdg M k j o) (j + 1) → T (bX0_isTold_70 (nI j) (nI (rdg M k j l)) (nI (rdg M k j o)) N') (LQ (fun s : Int32 × gM => ∃ j, j ≤ J ∧ s.1 = nI j ∧ TD (fun j => rdg M k j l) (fun j => rdg M k j o) j ∧ MP s.2 42 (fun j => rdg M k j l) (fun j => rdg M k j o) j ∧ ∀ q, q ≠ 42 → s.2 q = M q) (30000 - (nI j).toInt.toNat) (fun s => 30000 - s.1.toInt.toNat) (fun w => (∃ r, w = .inr r ∧ TD (fun j => rdg M k j l) (fun j => rdg M k j o) J ∧ ∀ q, q ≠ 42 → r q = M q) ∨ ∃ r, w = .inl r ∧ ¬ TD (fun j => rdg M k j l) (fun j => rdg M k j o) J ∧ ∀ q, q ≠ 42 → r q = M q)) := fun td => by
        unfold bX0_isTold_70
        refine t_be (wI_n (by omega) (by omega)) (t_ret ⟨⟨j + 1, by omega, nI_1 _, td, mpUp h4, fun q hq => ?_⟩, mu⟩)
        dsimp only
        rw [g_up_row hq]; exact h3 q hq
      refine t_be (rI_n (by omega) (by omega)) ?_
      refine t_ite (fun c1 => nx (td1 h4 h2 v99 hg c1)) (fun c1 => ?_)
      refine t_be (rI_n (by omega) (by omega)) ?_
      refine t_ite (fun c2 => nx (td2 h4 h2 v99 hg c2)) (fun c2 => ?_)
      exact t_ret (Or.inr ⟨_, rfl, fun z => td3 h4 v99 c1 c2 (z.down (by omega)), h3⟩)
  obtain ⟨w, ew, hw⟩ := key
  rw [ew, obs]
  rcases hw with ⟨r, rfl, a, b⟩ | ⟨r, rfl, a, b⟩
  · exact ⟨_, rfl, Or.inl ⟨rfl, a⟩, b⟩
  · exact ⟨_, rfl, Or.inr ⟨rfl, a⟩, b⟩
theorem n_told {R0 R : gM} (hM : MI false R0 R) {l o J : Nat} {f g : Nat → Nat} (hJ : J ≤ 20736) (eJ : R 62 26 = nI J) (hl : l < 4) (ho : o < 4) (hf : ∀ j, j < J → R 80 (4 * j + l) = nI (f j) ∧ f j < 100) (hg : ∀ j, j < J → R 80 (4 * j + o) = nI (g j)) (g31 : ∀ j, g j < 2 ^ 31) : ∃ r, fX9_isTold (nI l) (nI o) R = some r ∧ ((r.1 = 1 ∧ TD f g J) ∨ (r.1 = 0 ∧ ¬ TD f g J)) ∧ ∀ q, q ≠ 86 → r.2 q = R q := by
  unfold fX9_isTold
  obtain ⟨N, eN, _, n2, n1⟩ := n_isTold2 hM
  have eN : lX9_isTold_2 ((0 : Int32), R) = some N := eN
  rw [eN, obs]
  have key : T (lX9_isTold_26 (nI l) (nI o) (1, 0, N)) (fun w => ((w.1 = 1 ∧ TD f g J) ∨ (w.1 = 0 ∧ ¬ TD f g J)) ∧ ∀ q, q ≠ 86 → w.2 q = R q) := by
    unfold lX9_isTold_26
    refine t_it (P := fun s => ∃ j, j ≤ J ∧ s.2.1 = nI j ∧ ((s.1 = 1 ∧ TD f g j ∧ MP s.2.2 86 f g j) ∨ (s.1 = 0 ∧ ¬ TD f g j)) ∧ ∀ q, q ≠ 86 → s.2.2 q = R q) (μ := fun s => 30000 - s.2.1.toInt.toNat) (fun s p => ?_) ⟨0, Nat.zero_le _, rfl, Or.inl ⟨rfl, fun i _ hi => absurd hi (Nat.not_lt_zero i), fun v hv => Or.inl ⟨n2 v hv, fun i hi => absurd hi (Nat.not_lt_zero i)⟩⟩, n1⟩
    obtain ⟨s1, s2, N'⟩ := s
    obtain ⟨j, hj, e1, h2, h3⟩ := p
    dsimp only at e1 h2 h3
    subst e1
    dsimp only
    have kk : N' 62 26 = nI J := by rw [h3 62 (by omega)]; exact eJ
    refine t_ite (fun c => ?_) (fun c => ?_)
    · rw [kk] at c
      have := (nI_leI (by omega) (by omega)).mp c
      have : j = J := by omega
      subst this
      refine t_ret ⟨?_, h3⟩
      rcases h2 with ⟨a, b, _⟩ | q
      · exact Or.inl ⟨a, b⟩
      · exact Or.inr q
    · rw [kk] at c
      have c' := mt (nI_leI (by omega) (by omega)).mpr c
      have mu : 30000 - (nI j + 1).toInt.toNat < 30000 - (nI j).toInt.toNat := by rw [nI_1, nIt (by omega), nIt (by omega)]; omega
      obtain ⟨f1, f2⟩ := hf j (by omega)
      have g1 := hg j (by omega)
      rw [← h3 80 (by omega)] at f1 g1
      rw [n_numberOf (by omega) hl, obs, f1]
      have nx : ∀ b : Int32, ((b = 1 ∧ TD f g (j + 1) ∧ MP N' 86 f g j) ∨ (b = 0 ∧ ¬ TD f g (j + 1))) → T (bX9_isTold_81 (nI o) (nI j) (nI (f j)) b N') (LQ (fun s : Int32 × Int32 × gM => ∃ j, j ≤ J ∧ s.2.1 = nI j ∧ ((s.1 = 1 ∧ TD f g j ∧ MP s.2.2 86 f g j) ∨ (s.1 = 0 ∧ ¬ TD f g j)) ∧ ∀ q, q ≠ 86 → s.2.2 q = R q) (30000 - (nI j).toInt.toNat) (fun s => 30000 - s.2.1.toInt.toNat) (fun w : Int32 × gM => ((w.1 = 1 ∧ TD f g J) ∨ (w.1 = 0 ∧ ¬ TD f g J)) ∧ ∀ q, q ≠ 86 → w.2 q = R q)) := fun b hb => by
        unfold bX9_isTold_81
        rw [n_numberOf (by omega) ho, obs, g1]
        refine t_be (wI_n (by omega) (by omega)) (t_ret ⟨⟨j + 1, by omega, nI_1 _, ?_, fun q hq => ?_⟩, mu⟩)
        · dsimp only
          rcases hb with ⟨a, b, d⟩ | q
          · exact Or.inl ⟨a, b, mpUp d⟩
          · exact Or.inr q
        · dsimp only
          rw [g_up_row hq]; exact h3 q hq
      refine t_ite (fun c1 => ?_) (fun c1 => ?_)
      · refine nx 0 (Or.inr ⟨rfl, fun z => ?_⟩)
        rcases h2 with ⟨a, _⟩ | ⟨_, q⟩
        · rw [c1] at a; exact absurd a (by decide)
        · exact q (z.down (by omega))
      · have ⟨td, mp⟩ : TD f g j ∧ MP N' 86 f g j := by
          rcases h2 with ⟨_, q⟩ | ⟨q, _⟩
          · exact q
          · exact absurd q c1
        refine t_be (rI_n (by omega) (by omega)) ?_
        refine t_ite (fun c2 => nx 1 (Or.inl ⟨rfl, td1 mp td f2 g31 c2, mp⟩)) (fun c2 => ?_)
        refine t_be (rI_n (by omega) (by omega)) ?_
        rw [n_numberOf (by omega) ho, obs, g1]
        exact t_ite (fun c3 => nx 1 (Or.inl ⟨rfl, td2 mp td f2 g31 c3, mp⟩)) (fun c3 => nx 0 (Or.inr ⟨rfl, td3 mp f2 c2 c3⟩))
  obtain ⟨w, ew, hw, hk⟩ := key
  rw [ew, obs]
  rcases hw with ⟨a, b⟩ | ⟨a, b⟩
  · rw [a, bO_1, obs]
    exact ⟨_, rfl, Or.inl ⟨rfl, b⟩, hk⟩
  · rw [a, bO_0, obs]
    exact ⟨_, rfl, Or.inr ⟨rfl, b⟩, hk⟩
/-- the digits of a letter that is asked -/
theorem d99 {R0 R : gM} {A : aT} {I : gM} {J l : Nat} (hM : MI false R0 R) (hG : GJ9 R) (hA : A9 R) (hW : WF A) (hR : RT R (R 70) A) (o : OUT 18 (fl4 A.2.2 (asA A)) I R J) (hJ : J ≤ 20736) (hl : l < 4) (hb : (asA A).testBit l = true) {j : Nat} (hj : j < J) : R 80 (4 * j + l) = nI (rdg I 18 j l) ∧ rdg I 18 j l < 100 := by
  obtain ⟨e, _, e3, e4⟩ := fl4_at _ hW.2.2.2.1 _ (asA_lt hW) l hl hb
  have q := (o.dg hj).2.2 e e3
  rw [e4] at q
  have b := hM.at (k := 80) (j := 4 * j + l) (lo := -1) (hi := 99) rfl
  have g := rdg_lt I 18 j l
  rw [q, tnI (by omega)] at b
  exact ⟨q, by omega⟩
theorem eq_tells {I : gM} (h : InvB I) {v w : Int32} {a b : Int32 × gM} (e1 : fX8_tells v w I = some a) (e2 : fX9_tells v w a.2 = some b) : a.1 = b.1 := by
  obtain ⟨A, hW, hC, hR⟩ := h.tab
  have hMa : MI true I a.2 := by
    obtain ⟨p, ep, hp⟩ := tfX8_tells v w I h.1.1
    rw [e1] at ep
    obtain rfl := Option.some.inj ep
    exact hp.2
  have hRa := hR.hi hMa hW
  unfold fX8_tells at e1
  unfold fX9_tells at e2
  rcases two_asked hW hC hMa.re hRa v with ⟨l, hl, rfl, hb, n, z1, z2⟩ | ⟨z1, z2⟩
  · rw [z1, obs, if_neg (by decide)] at e1
    rw [z2, obs, if_neg (by decide)] at e2
    rcases two_asked hW hC hMa.re hRa w with ⟨x, hx, rfl, hb', _, y1, y2⟩ | ⟨y1, y2⟩
    · rw [y1, obs, if_neg (by decide)] at e1
      rw [y2, obs, if_neg (by decide)] at e2
      obtain ⟨R', J, ej, o, hJ, hS, hQ, hll, M1, G1, fR, fj⟩ := cur_two h hW n hC hMa.re hRa
      have A1 : A9 R' := (A9.hi hMa h.1.2.1).join fR fj
      have R1 : RT R' (R' 70) A := by
        rw [fR 70 (by omega) (by omega) (by omega) (by omega) (by omega) (by omega) (by omega) (by omega)]
        exact hRa.cong (fj 17 (by omega) (by omega) (by omega)) (fR 72 (by omega) (by omega) (by omega) (by omega) (by omega) (by omega) (by omega) (by omega)) (fR 73 (by omega) (by omega) (by omega) (by omega) (by omega) (by omega) (by omega) (by omega)) hW.1 hW.k12 (fun _ _ => rfl)
      obtain ⟨p, ep, q1, _⟩ := c_told o hJ (by omega) hl hx (fun j hj => (d99 M1 G1 A1 hW R1 o hJ hl hb hj).2)
      obtain ⟨p', ep', q2, _⟩ := n_told M1 hJ o.2.1 hl hx (fun j hj => d99 M1 G1 A1 hW R1 o hJ hl hb hj) (fun j hj => (d99 M1 G1 A1 hW R1 o hJ hx hb' hj).1) (fun j => by have := rdg_lt I 18 j x; omega)
      rw [ep, obs] at e1
      rw [ej, obs, ep', obs] at e2
      rcases q1 with ⟨r1, t1⟩ | ⟨r1, t1⟩
      · rcases q2 with ⟨r2, t2⟩ | ⟨r2, t2⟩
        · rw [r1, if_neg (by decide)] at e1
          rw [r2, bO_1, obs] at e2
          cases e1; cases e2; rfl
        · exact absurd t1 t2
      · rcases q2 with ⟨r2, t2⟩ | ⟨r2, t2⟩
        · exact absurd t2 t1
        · rw [r1, if_pos rfl] at e1
          rw [r2, bO_0, obs] at e2
          cases e1; cases e2; rfl
    · rw [y1, obs, if_pos rfl] at e1
      obtain rfl := Option.some.inj e1
      rw [y2, obs, if_pos rfl] at e2
      cases e2; rfl
  · rw [z1, obs, if_pos rfl] at e1
    obtain rfl := Option.some.inj e1
    rw [z2, obs, if_pos rfl] at e2
    cases e2; rfl
end P_35r_43e_told
section P_35r_43f_given
/-! given: which rows of a table a row of the join comes from -/
theorem smod_n : ∀ i, i < 31 → ((nI i &&& 31).toBitVec.smod 32).toNat = i := by decide +kernel
theorem bit_of {B i : Nat} (hB : B < 2 ^ 31) (hi : i < 31) : ((nI B >>> (nI i &&& 31)) &&& 1) = nI (B / 2 ^ i % 2) := by
  have h2 : B / 2 ^ i ≤ B := Nat.div_le_self _ _
  rw [pk_shrN hB _ i (smod_n i hi), pk_andN (by omega) 1 (by decide)]
theorem has_bit {B i : Nat} (hB : B < 2 ^ 31) (hi : i < 31) : hs (nI B) i ↔ B.testBit i = true := by
  unfold hs
  rw [bit_of hB hi, Nat.testBit_eq_decide_div_mod_eq, decide_eq_true_eq]
  have := Nat.mod_lt (B / 2 ^ i) (show 2 > 0 by decide)
  exact ⟨fun z => nI_inj (b := 1) z (by omega) (by omega), fun z => by rw [z]; rfl⟩
theorem shl_n {i : Nat} (hi : i < 31) : (1 : Int32) <<< (nI i &&& 31) = nI (2 ^ i) := by
  have p : 2 ^ i < 2 ^ 31 := Nat.pow_lt_pow_right (by decide) hi
  rw [show (1 : Int32) = nI 1 from rfl, pk_shlN _ i (smod_n i hi) (by omega), Nat.one_mul]
theorem or_tb {B i x : Nat} : (B ||| 2 ^ i).testBit x = (B.testBit x || decide (i = x)) := by rw [Nat.testBit_or, Nat.testBit_two_pow]
theorem orUp_at {f : Nat → Nat} {x : Nat} : ∀ {n : Nat}, (orUp f n).testBit x = true ↔ ∃ i, i < n ∧ (f i).testBit x = true
  | 0 => ⟨fun h => by rw [show orUp f 0 = 0 from rfl, Nat.zero_testBit] at h; exact absurd h (by decide), fun ⟨i, h, _⟩ => absurd h (Nat.not_lt_zero i)⟩
  | n + 1 => by
    show (orUp f n ||| f n).testBit x = true ↔ _
    rw [Nat.testBit_or, Bool.or_eq_true, orUp_at (n := n)]
    constructor
    · rintro (⟨i, h1, h2⟩ | h)
      · exact ⟨i, by omega, h2⟩
      · exact ⟨n, by omega, h⟩
    · rintro ⟨i, h1, h2⟩
      rcases (by omega : i < n ∨ i = n) with z | rfl
      · exact Or.inl ⟨i, z, h2⟩
      · exact Or.inr h2
theorem asA_of {A : aT} {t c : Nat} (ht : t < A.1.length) (hu : A.2.1.testBit t = true) (hc : c < (aL A t).length) : (asA A).testBit ((aL A t).getD c 0) = true := by
  refine orUp_at.mpr ⟨t, ht, ?_⟩
  rw [if_pos hu]
  exact orUp_at.mpr ⟨c, hc, Nat.testBit_two_pow_self⟩
/-- a row's numbers for the columns of a table, packed -/
def pK (f : Nat → Nat) (w : Nat) : Nat := pk3 (if 0 < w then f 0 else 0) (if 1 < w then f 1 else 0) (if 2 < w then f 2 else 0)
theorem pK_lt {f : Nat → Nat} {w : Nat} (h : ∀ c, f c < 128) : pK f w < 2097152 := by
  have a := h 0; have b := h 1; have c := h 2
  unfold pK pk3
  split <;> split <;> split <;> omega
theorem pK_eq {f : Nat → Nat} {w q : Nat} (h : ∀ c, f c < 128) (hw : 1 ≤ w ∧ w ≤ 3) (hq : kOK w q) : pK f w = q ↔ ∀ c, c < w → f c = dgt c q := by
  have y : ∀ (i : Nat) (p : Prop) [Decidable p], (if p then f i else 0) < 128 := fun i p _ => by
    have := h i
    split <;> omega
  obtain ⟨g0, g1, g2⟩ := dgt_pk (x := if 0 < w then f 0 else 0) (y 1 (1 < w)) (y 2 (2 < w))
  constructor
  · intro e c hc
    rw [← e]
    unfold pK
    rcases (by omega : c = 0 ∨ c = 1 ∨ c = 2) with rfl | rfl | rfl
    · rw [g0, if_pos hc]
    · rw [g1, if_pos hc]
    · rw [g2, if_pos hc]
  · intro e
    rw [← pk_dgt q]
    unfold pK
    have a : (if 0 < w then f 0 else 0) = dgt 0 q := by rw [if_pos (by omega)]; exact e 0 (by omega)
    have b : (if 1 < w then f 1 else 0) = dgt 1 q := by
      by_cases c : 1 < w
      · rw [if_pos c]; exact e 1 c
      · rw [if_neg c, hq.2.2.1 (by omega)]
    have d : (if 2 < w then f 2 else 0) = dgt 2 q := by
      by_cases c : 2 < w
      · rw [if_pos c]; exact e 2 c
      · rw [if_neg c, hq.2.2.2.2 (by omega)]
    rw [a, b, d]
theorem c_rowWithin {I : gM} {A : aT} {k t P : Nat} (hW : WF A) (hC : CT I k A) (ht : t < A.1.length) (hP : P < 268435456) : fX5_rowWithin k (nI t) (nI P) I = some (nI (pK (fun c => d4 ((aL A t).getD c 0) P) (aL A t).length)) := by
  have hn4 := hW.1
  have w := hW.2.2.2.2 t ht
  have w1 := w.1
  obtain ⟨e1, e2, _⟩ := hC.2.2.2 t ht
  have g : ∀ c, d4 ((aL A t).getD c 0) P < 128 := fun c => Nat.mod_lt _ (by decide)
  have key : lX5_rowWithin_5 k (nI t) (nI P) I (nI 0, nI 0) = some (nI (pK (fun c => d4 ((aL A t).getD c 0) P) (aL A t).length)) := by
    unfold lX5_rowWithin_5
    refine p_it (P := fun s => ∃ j, j ≤ (aL A t).length ∧ s = (nI (pK (fun c => d4 ((aL A t).getD c 0) P) j), nI j)) (μ := fun s => 20 - s.2.toInt.toNat) (fun s p => ?_) ⟨0, by omega, rfl⟩
    obtain ⟨j, hj, rfl⟩ := p
    dsimp only
    refine t_be (rI_n (by omega) (by omega)) ?_
    rw [e1]
    refine t_ite (fun d => ?_) (fun d => ?_)
    · have d := (nI_leI (by omega) (by omega)).mp d
      have : j = (aL A t).length := by omega
      rw [this]
      exact t_ret rfl
    · have d := mt (nI_leI (a := (aL A t).length) (b := j) (by omega) (by omega)).mpr d
      rw [L3, nI_mul, nI_add, Nat.mul_comm]
      refine t_be (rI_n (by omega) (by omega)) ?_
      have l4 := w.2.1 j (by omega)
      rw [e2 j (by omega), d4_v hP l4]
      have mu : 20 - (nI j + 1).toInt.toNat < 20 - (nI j).toInt.toNat := by rw [nI_1, nIt (by omega), nIt (by omega)]; omega
      refine t_nx ⟨j + 1, by omega, ?_⟩ mu
      rw [nI_1]
      refine Prod.ext ?_ rfl
      dsimp only
      have j3 : j = 0 ∨ j = 1 ∨ j = 2 := by omega
      clear d mu l4 e2 e1
      rcases j3 with rfl | rfl | rfl
      · rw [sh_0, show nI (pK (fun c => d4 ((aL A t).getD c 0) P) 0) = 0 from rfl, rv_1 (g 0)]; rfl
      · rw [sh_1, show pK (fun c => d4 ((aL A t).getD c 0) P) 1 = pk3 (d4 ((aL A t).getD 0 0) P) 0 0 from rfl, rv_2 (g 0) (g 1)]; rfl
      · rw [sh_2, show pK (fun c => d4 ((aL A t).getD c 0) P) 2 = pk3 (d4 ((aL A t).getD 0 0) P) (d4 ((aL A t).getD 1 0) P) 0 from rfl, rv_3 (g 0) (g 1) (g 2)]; rfl
  unfold fX5_rowWithin
  rw [show ((0 : Int32), (0 : Int32)) = (nI 0, nI 0) from rfl, key, obs]
/-- the rows i of table t from which one of the first j rows of the join comes -/
def GVN (A : aT) (t : Nat) (f : Nat → Nat → Nat) (j i : Nat) : Prop := ∃ j', j' < j ∧ ∀ c, c < (aL A t).length → f j' ((aL A t).getD c 0) = dgt c ((aK A t).getD i 0)
theorem c_given {ls : List Nat} {M R : gM} {A : aT} {J t : Nat} (hW : WF A) (hC : CT M 3 A) (o : OUT 18 ls M R J) (hJ : J ≤ 20736) (ht : t < A.1.length) (hu : A.2.1.testBit t = true) : ∃ B, B < 2 ^ (aK A t).length ∧ fX0_givenBits 18 3 (nI t) M = some (nI B) ∧ ∀ i, i < (aK A t).length → (B.testBit i = true ↔ GVN A t (rdg M 18) J i) := by
  have hn4 := hW.1
  have w := hW.2.2.2.2 t ht
  have w4 := w.2.2.2.1
  have hCt := (hC.2.2.2 t ht).2.2
  generalize hm : (aK A t).length = m at *
  have pm : 2 ^ m ≤ 2 ^ 12 := Nat.pow_le_pow_right (by decide) w4
  have pp : 0 < 2 ^ m := Nat.two_pow_pos m
  have key : T (lX0_givenBits_28 18 3 (nI t) (nI (2 ^ m - 1)) M (0, 0)) (fun r => ∃ B, B < 2 ^ m ∧ r = nI B ∧ ∀ i, i < m → (B.testBit i = true ↔ GVN A t (rdg M 18) J i)) := by
    unfold lX0_givenBits_28
    refine t_it (P := fun s => ∃ B j, B < 2 ^ m ∧ j ≤ J ∧ s = (nI B, nI j) ∧ ∀ i, i < m → (B.testBit i = true ↔ GVN A t (rdg M 18) j i)) (μ := fun s => 30000 - s.2.toInt.toNat) (fun s p => ?_) ⟨0, 0, pp, Nat.zero_le _, rfl, fun i hi => by
      rw [Nat.zero_testBit]
      exact ⟨fun z => absurd z (by decide), fun ⟨j, hj, _⟩ => absurd hj (Nat.not_lt_zero j)⟩⟩
    obtain ⟨B, j, hB, hj, rfl, hb⟩ := p
    dsimp only
    refine t_ite (fun c => ?_) (fun c => ?_)
    · rw [o.1] at c
      have := (nI_leI (by omega) (by omega)).mp c
      have : j = J := by omega
      subst this
      exact t_ret ⟨B, hB, rfl, hb⟩
    · rw [o.1] at c
      have c' := mt (nI_leI (by omega) (by omega)).mpr c
      have mu : 30000 - (nI j + 1).toInt.toNat < 30000 - (nI j).toInt.toNat := by rw [nI_1, nIt (by omega), nIt (by omega)]; omega
      refine t_ite (fun c1 => ?_) (fun c1 => ?_)
      · have e := nI_inj c1 (by omega) (by omega)
        refine t_ret ⟨B, hB, rfl, fun i hi => ?_⟩
        have full : B.testBit i = true := by rw [e, Nat.testBit_two_pow_sub_one]; exact decide_eq_true hi
        obtain ⟨j', h1, h2⟩ := (hb i hi).mp full
        exact ⟨fun _ => ⟨j', by omega, h2⟩, fun _ => full⟩
      · have od := o.dg (j := j) (by omega)
        have eR : fX1_rowAt 18 (nI j) M = some (nI (kn (M (18 + 3) j))) := by
          unfold fX1_rowAt
          rw [if_neg (show ¬ nI j < 0 from fun z => absurd ((nI_ltI (b := 0) (by omega) (by omega)).mp z) (by omega)), o.1, if_neg (show ¬ nI J ≤ nI j from fun z => absurd ((nI_leI (by omega) (by omega)).mp z) (by omega)), rI_n (by omega) (by omega), obs, ← od.1]
        refine t_be eR (t_be (c_rowWithin hW hC ht od.2.1) ?_)
        have dl : ∀ c, d4 ((aL A t).getD c 0) (kn (M (18 + 3) j)) < 128 := fun c => Nat.mod_lt _ (by decide)
        have kl := pK_lt (w := (aL A t).length) dl
        have eq : ∀ i, i < m → (pK (fun c => d4 ((aL A t).getD c 0) (kn (M (18 + 3) j))) (aL A t).length = (aK A t).getD i 0 ↔ ∀ c, c < (aL A t).length → rdg M 18 j ((aL A t).getD c 0) = dgt c ((aK A t).getD i 0)) := fun i hi => pK_eq dl w.1 (w.2.2.2.2.2 i (by omega))
        have gv : ∀ i, GVN A t (rdg M 18) (j + 1) i ↔ GVN A t (rdg M 18) j i ∨ ∀ c, c < (aL A t).length → rdg M 18 j ((aL A t).getD c 0) = dgt c ((aK A t).getD i 0) := fun i => by
          constructor
          · rintro ⟨j', h1, h2⟩
            rcases (by omega : j' < j ∨ j' = j) with z | rfl
            · exact Or.inl ⟨j', z, h2⟩
            · exact Or.inr h2
          · rintro (⟨j', h1, h2⟩ | h)
            · exact ⟨j', by omega, h2⟩
            · exact ⟨j, by omega, h⟩
        unfold bX0_givenBits_77
        rcases c_placeOf (by omega) (by omega) hCt kl (k_lt w) with ⟨x, x1, x2, x3⟩ | ⟨x1, x3⟩
        · refine t_be x3 ?_
          refine t_ite (fun z => absurd z (nI_ne1 (by omega))) (fun _ => ?_)
          rw [shl_n (by omega), fa_or]
          refine t_nx ⟨B ||| 2 ^ x, j + 1, Nat.or_lt_two_pow hB (Nat.pow_lt_pow_right (by decide) (by omega)), by omega, by rw [nI_1], fun i hi => ?_⟩ mu
          rw [or_tb, Bool.or_eq_true, hb i hi, gv i, decide_eq_true_eq]
          refine or_congr Iff.rfl ?_
          rw [← eq i hi, ← x2]
          constructor
          · intro z; rw [z]
          · intro z
            rcases Nat.lt_trichotomy x i with q | q | q
            · have := w.2.2.2.2.1 x i q (by omega); omega
            · exact q
            · have := w.2.2.2.2.1 i x q (by omega); omega
        · refine t_be x3 ?_
          refine t_ite (fun _ => ?_) (fun z => absurd rfl z)
          refine t_nx ⟨B, j + 1, hB, by omega, by rw [nI_1], fun i hi => ?_⟩ mu
          rw [hb i hi, gv i]
          refine ⟨Or.inl, fun z => ?_⟩
          rcases z with z | z
          · exact z
          · exact absurd ((eq i hi).mpr z).symm (x1 i (by omega))
  obtain ⟨r, er, B, hB, rfl, hb⟩ := key
  refine ⟨B, hB, ?_, hb⟩
  unfold fX0_givenBits
  rw [c_isUsed hW hC ht, obs, if_pos hu, if_neg n10, rI_n (by omega) (by omega), obs, show M (3 + 2) t = nI m from hm ▸ hCt.1, shl_n (by omega), nI_s1 (by omega), er, obs]
theorem n_isOf {R : gM} {A : aT} {t i j : Nat} (f : Nat → Nat) (hW : WF A) (hR : RT R (R 70) A) (ht : t < A.1.length) (hi : i < (aK A t).length) (hj : j < 20736) (hf : ∀ c, c < (aL A t).length → R 80 (4 * j + (aL A t).getD c 0) = nI (f ((aL A t).getD c 0)) ∧ f ((aL A t).getD c 0) < 128) : ∃ r, fX9_isOf (nI j) (nI t) (nI i) R = some r ∧ ((r = 1 ∧ ∀ c, c < (aL A t).length → f ((aL A t).getD c 0) = dgt c ((aK A t).getD i 0)) ∨ (r = 0 ∧ ¬ ∀ c, c < (aL A t).length → f ((aL A t).getD c 0) = dgt c ((aK A t).getD i 0))) := by
  have hn4 := hW.1
  have w := hW.2.2.2.2 t ht
  have w1 := w.1
  have w4 := w.2.2.2.1
  obtain ⟨e1, e2, _, e3⟩ := hR.2.2.2 t ht
  have key : T (lX9_isOf_6 (nI j) (nI t) (nI i) R (1, 0)) (fun r => (r = 1 ∧ ∀ c, c < (aL A t).length → f ((aL A t).getD c 0) = dgt c ((aK A t).getD i 0)) ∨ (r = 0 ∧ ¬ ∀ c, c < (aL A t).length → f ((aL A t).getD c 0) = dgt c ((aK A t).getD i 0))) := by
    unfold lX9_isOf_6
    refine t_it (P := fun s => ∃ x, x ≤ (aL A t).length ∧ s.2 = nI x ∧ ((s.1 = 1 ∧ ∀ c, c < x → f ((aL A t).getD c 0) = dgt c ((aK A t).getD i 0)) ∨ (s.1 = 0 ∧ ¬ ∀ c, c < (aL A t).length → f ((aL A t).getD c 0) = dgt c ((aK A t).getD i 0)))) (μ := fun s => 20 - s.2.toInt.toNat) (fun s p => ?_) ⟨0, by omega, rfl, Or.inl ⟨rfl, fun c hc => absurd hc (Nat.not_lt_zero c)⟩⟩
    obtain ⟨s1, s2⟩ := s
    obtain ⟨x, hx, h1, h2⟩ := p
    dsimp only at h1 h2
    subst h1
    dsimp only
    refine t_be (rI_n (by omega) (by omega)) ?_
    rw [e1]
    refine t_ite (fun d => ?_) (fun d => ?_)
    · have d := (nI_leI (by omega) (by omega)).mp d
      have : x = (aL A t).length := by omega
      subst this
      exact t_ret h2
    · have d := mt (nI_leI (a := (aL A t).length) (b := x) (by omega) (by omega)).mpr d
      have mu : 20 - (nI x + 1).toInt.toNat < 20 - (nI x).toInt.toNat := by rw [nI_1, nIt (by omega), nIt (by omega)]; omega
      unfold bX9_isOf_58 bX9_isOf_59
      refine t_ite (fun c => ?_) (fun c => ?_)
      · refine t_nx ⟨x + 1, by omega, nI_1 _, Or.inr ⟨rfl, ?_⟩⟩ mu
        rcases h2 with ⟨z, _⟩ | ⟨_, z⟩
        · rw [c] at z; exact absurd z (by decide)
        · exact z
      · have h2 : ∀ c, c < x → f ((aL A t).getD c 0) = dgt c ((aK A t).getD i 0) := by
          rcases h2 with ⟨_, z⟩ | ⟨z, _⟩
          · exact z
          · exact absurd z c
        have l4 := w.2.1 x (by omega)
        obtain ⟨f1, f2⟩ := hf x (by omega)
        rw [L3, nI_mul, nI_add]
        refine t_be (rI_n (by omega) (by omega)) ?_
        rw [e2 x (by omega)]
        refine t_be (n_numberOf hj l4) (t_be (n_rowAt t i) ?_)
        rw [f1, nI_add]
        refine t_be (rI_n (by omega) (by omega)) ?_
        rw [e3 i hi x (by omega), if_pos (show x < (aL A t).length by omega)]
        have kk := (w.2.2.2.2.2 i hi).d (c := x)
        refine t_ite (fun c => ?_) (fun c => ?_)
        · have c := nI_inj c (by omega) (by omega)
          refine t_nx ⟨x + 1, by omega, nI_1 _, Or.inl ⟨rfl, fun y hy => ?_⟩⟩ mu
          rcases (by omega : y < x ∨ y = x) with z | rfl
          · exact h2 y z
          · exact c
        · exact t_nx ⟨x + 1, by omega, nI_1 _, Or.inr ⟨rfl, fun z => c (by rw [z x (by omega)])⟩⟩ mu
  obtain ⟨r, er, q⟩ := key
  unfold fX9_isOf
  rw [er, obs]
  rcases q with ⟨rfl, q⟩ | ⟨rfl, q⟩
  · exact ⟨1, rfl, Or.inl ⟨rfl, q⟩⟩
  · exact ⟨0, rfl, Or.inr ⟨rfl, q⟩⟩
theorem n_given {R : gM} {A : aT} {t J : Nat} (f : Nat → Nat → Nat) (hW : WF A) (hR : RT R (R 70) A) (hJ : J ≤ 20736) (eJ : R 62 26 = nI J) (ht : t < A.1.length) (hu : A.2.1.testBit t = true) (hf : ∀ j, j < J → ∀ c, c < (aL A t).length → R 80 (4 * j + (aL A t).getD c 0) = nI (f j ((aL A t).getD c 0)) ∧ f j ((aL A t).getD c 0) < 128) : ∃ B, B < 2 ^ (aK A t).length ∧ fX9_givenBy (nI t) R = some (nI B) ∧ ∀ i, i < (aK A t).length → (B.testBit i = true ↔ GVN A t f J i) := by
  have hn4 := hW.1
  have w := hW.2.2.2.2 t ht
  have w4 := w.2.2.2.1
  have hRt := (hR.2.2.2 t ht).2.2
  have pm : 2 ^ (aK A t).length ≤ 2 ^ 12 := Nat.pow_le_pow_right (by decide) w4
  have key : T (lX9_givenBy_4 (nI t) R (0, 0)) (fun r => ∃ B, B < 2 ^ (aK A t).length ∧ r = nI B ∧ ∀ i, i < (aK A t).length → (B.testBit i = true ↔ GVN A t f J i)) := by
    unfold lX9_givenBy_4
    refine t_it (P := fun s => ∃ B x, x ≤ (aK A t).length ∧ B < 2 ^ x ∧ s = (nI B, nI x) ∧ ∀ i, i < x → (B.testBit i = true ↔ GVN A t f J i)) (μ := fun s => 30 - s.2.toInt.toNat) (fun s p => ?_) ⟨0, 0, Nat.zero_le _, by decide, rfl, fun i hi => absurd hi (Nat.not_lt_zero i)⟩
    obtain ⟨B, x, hx, hB, rfl, hb⟩ := p
    dsimp only
    refine t_be (n_many (by omega) R) ?_
    rw [hRt.1]
    refine t_ite (fun c => ?_) (fun c => ?_)
    · have := (nI_leI (by omega) (by omega)).mp c
      have : x = (aK A t).length := by omega
      subst this
      exact t_ret ⟨B, hB, rfl, hb⟩
    · have c' := mt (nI_leI (a := (aK A t).length) (b := x) (by omega) (by omega)).mpr c
      have mu : 30 - (nI x + 1).toInt.toNat < 30 - (nI x).toInt.toNat := by rw [nI_1, nIt (by omega), nIt (by omega)]; omega
      refine t_be (n_usedK hW hR (by omega)) ?_
      rw [if_pos hu]
      refine t_ite (fun z => absurd z n10) (fun _ => ?_)
      have px : 2 ^ x ≤ 2 ^ 12 := Nat.pow_le_pow_right (by decide) (by omega)
      have nb : B.testBit x = false := Nat.testBit_lt_two_pow hB
      have px1 : 2 ^ (x + 1) = 2 ^ x * 2 := Nat.pow_succ _ _
      refine t_bind (P := fun r => ∃ B', B' < 2 ^ (x + 1) ∧ r = nI B' ∧ (∀ i, i < x → B'.testBit i = B.testBit i) ∧ (B'.testBit x = true ↔ GVN A t f J x)) ?_ (fun r hr => ?_)
      · unfold lX9_givenBy_24
        refine t_it (P := fun s => ∃ B' j, j ≤ J ∧ B' < 2 ^ (x + 1) ∧ s = (nI B', nI j) ∧ (∀ i, i < x → B'.testBit i = B.testBit i) ∧ (B'.testBit x = true ↔ GVN A t f j x)) (μ := fun s => 30000 - s.2.toInt.toNat) (fun s p => ?_) ⟨B, 0, Nat.zero_le _, by omega, rfl, fun _ _ => rfl, by
          rw [nb]
          exact ⟨fun z => absurd z (by decide), fun ⟨j, hj, _⟩ => absurd hj (Nat.not_lt_zero j)⟩⟩
        obtain ⟨B', j, hj, hB', rfl, b1, b2⟩ := p
        dsimp only
        refine t_ite (fun c => ?_) (fun c => ?_)
        · rw [eJ] at c
          have := (nI_leI (by omega) (by omega)).mp c
          have : j = J := by omega
          subst this
          exact t_ret ⟨B', hB', rfl, b1, b2⟩
        · rw [eJ] at c
          have cj := mt (nI_leI (by omega) (by omega)).mpr c
          have mu2 : 30000 - (nI j + 1).toInt.toNat < 30000 - (nI j).toInt.toNat := by rw [nI_1, nIt (by omega), nIt (by omega)]; omega
          by_cases b : B'.testBit x = true
          · refine t_be (n_has1 ((has_bit (by omega) (by omega)).mpr b)) ?_
            refine t_ite (fun z => absurd z (by decide)) (fun _ => ?_)
            obtain ⟨j', z1, z2⟩ := b2.mp b
            exact t_ret ⟨B', hB', rfl, b1, fun _ => ⟨j', by omega, z2⟩, fun _ => b⟩
          · refine t_be (n_has0 (mt (has_bit (by omega) (by omega)).mp b)) ?_
            refine t_ite (fun _ => ?_) (fun z => absurd rfl z)
            obtain ⟨r, er, q⟩ := n_isOf (f j) hW hR ht (i := x) (j := j) (by omega) (by omega) (hf j (by omega))
            refine t_be er ?_
            unfold bX9_givenBy_60
            rcases q with ⟨rfl, q⟩ | ⟨rfl, q⟩
            · refine t_ite (fun z => absurd z (by decide)) (fun _ => ?_)
              rw [shl_n (by omega), fa_or]
              refine t_nx ⟨B' ||| 2 ^ x, j + 1, by omega, Nat.or_lt_two_pow hB' (by omega), by rw [nI_1], fun i hi => ?_, ?_⟩ mu2
              · rw [or_tb, show decide (x = i) = false from decide_eq_false (by omega), Bool.or_false]; exact b1 i hi
              · rw [or_tb, show decide (x = x) = true from decide_eq_true rfl, Bool.or_true]
                exact ⟨fun _ => ⟨j, by omega, q⟩, fun _ => rfl⟩
            · refine t_ite (fun _ => ?_) (fun z => absurd rfl z)
              refine t_nx ⟨B', j + 1, by omega, hB', by rw [nI_1, show (0 : Int32) = nI 0 from rfl, fa_or, Nat.or_zero], b1, ?_⟩ mu2
              refine ⟨fun z => absurd z b, fun ⟨j', z1, z2⟩ => ?_⟩
              rcases (by omega : j' < j ∨ j' = j) with z | rfl
              · exact b2.mpr ⟨j', z, z2⟩
              · exact absurd z2 q
      · obtain ⟨B', g1, rfl, g2, g3⟩ := hr
        unfold bX9_givenBy_68
        refine t_nx ⟨B', x + 1, by omega, g1, by rw [nI_1], fun i hi => ?_⟩ mu
        rcases (by omega : i < x ∨ i = x) with z | rfl
        · rw [g2 i z]; exact hb i z
        · exact g3
  obtain ⟨r, er, B, hB, rfl, hb⟩ := key
  unfold fX9_givenBy
  rw [er, obs]
  exact ⟨B, hB, rfl, hb⟩
/-- of a table that is not used no row is given -/
theorem c_given0 {M : gM} {A : aT} {t : Nat} (hW : WF A) (hC : CT M 3 A) (ht : t < A.1.length) (hu : ¬ A.2.1.testBit t = true) : fX0_givenBits 18 3 (nI t) M = some 0 := by
  unfold fX0_givenBits
  rw [c_isUsed hW hC ht, obs, if_neg hu, if_pos rfl]
theorem n_given0 {R : gM} {A : aT} {t : Nat} (hW : WF A) (hR : RT R (R 70) A) (ht : t < A.1.length) (hu : ¬ A.2.1.testBit t = true) : fX9_givenBy (nI t) R = some 0 := by
  have hn4 := hW.1
  have hRt := (hR.2.2.2 t ht).2.2
  have e : lX9_givenBy_4 (nI t) R (0, 0) = some 0 := by
    unfold lX9_givenBy_4
    refine it_r ?_
    dsimp only
    rw [n_many (by omega) R, obs]
    by_cases c : R 70 (2 + t) ≤ 0
    · rw [if_pos c]
    · rw [if_neg c, n_usedK hW hR (by omega), obs, if_neg hu, if_pos rfl]
  unfold fX9_givenBy
  rw [e, obs]
/-- given(t) of both, in the memory of the class and behind a join of the reference -/
theorem two_given {R0 R' M : gM} {A : aT} {J t : Nat} (hW : WF A) (hC : CT M 3 A) (M1 : MI false R0 R') (G1 : GJ9 R') (A1 : A9 R') (R1 : RT R' (R' 70) A) (o : OUT 18 (fl4 A.2.2 (asA A)) M R' J) (hJ : J ≤ 20736) (ht : t < A.1.length) : ∃ B, fX0_givenBits 18 3 (nI t) M = some (nI B) ∧ fX9_givenBy (nI t) R' = some (nI B) ∧ B < 2 ^ (aK A t).length := by
  by_cases hu : A.2.1.testBit t = true
  · obtain ⟨B, b1, b2, b3⟩ := c_given hW hC o hJ ht hu
    obtain ⟨B', b1', b2', b3'⟩ := n_given (rdg M 18) hW R1 hJ o.2.1 ht hu (fun j hj c hc => by
      have := d99 M1 G1 A1 hW R1 o hJ ((hW.2.2.2.2 t ht).2.1 c hc) (asA_of ht hu hc) hj
      exact ⟨this.1, by omega⟩)
    have : B = B' := Nat.eq_of_testBit_eq (fun i => by
      by_cases hi : i < (aK A t).length
      · rw [Bool.eq_iff_iff, b3 i hi, b3' i hi]
      · have p : 2 ^ (aK A t).length ≤ 2 ^ i := Nat.pow_le_pow_right (by decide) (by omega)
        rw [Nat.testBit_lt_two_pow (by omega), Nat.testBit_lt_two_pow (by omega)])
    subst this
    exact ⟨B, b2, b2', b1⟩
  · exact ⟨0, c_given0 hW hC ht hu, n_given0 hW R1 ht hu, Nat.two_pow_pos _⟩
/-- what the reference holds behind a join of the same tables -/
theorem cur_more {I R R0 R' : gM} {A : aT} (hW : WF A) (hA : A9 R) (hR : RT R (R 70) A) (fR : ∀ k, k ≠ 62 → k ≠ 74 → k ≠ 75 → k ≠ 76 → k ≠ 77 → k ≠ 78 → k ≠ 79 → k ≠ 80 → R' k = R k) (fj : ∀ j, j ≠ 19 → j ≠ 26 → j ≠ 27 → R' 62 j = R 62 j) : A9 R' ∧ RT R' (R' 70) A := by
  refine ⟨hA.join fR fj, ?_⟩
  rw [fR 70 (by omega) (by omega) (by omega) (by omega) (by omega) (by omega) (by omega) (by omega)]
  exact hR.cong (fj 17 (by omega) (by omega) (by omega)) (fR 72 (by omega) (by omega) (by omega) (by omega) (by omega) (by omega) (by omega) (by omega)) (fR 73 (by omega) (by omega) (by omega) (by omega) (by omega) (by omega) (by omega) (by omega)) hW.1 hW.k12 (fun _ _ => rfl)
theorem eq_given {I : gM} (h : InvB I) {v : Int32} {a : Int32} {b : Int32 × gM} (e1 : fX8_given v I = some a) (e2 : fX9_given v I = some b) : a = b.1 := by
  obtain ⟨A, hW, hC, hR⟩ := h.tab
  unfold fX8_given at e1
  unfold fX9_given at e2
  rcases c_isTable hW.1 hC.1 v with ⟨t, t1, rfl, z1⟩ | ⟨t1, z1⟩
  · rcases n_isTable hW.1 hR.1 (nI t) with ⟨t', t1', _, z2⟩ | ⟨t1', z2⟩
    · rw [z1, obs, if_neg (by decide)] at e1
      rw [z2, obs, if_neg (by decide)] at e2
      obtain ⟨R', J, ej, o, hJ, hS, hQ, hll, M1, G1, fR, fj⟩ := cur_two h hW (by omega) hC h.mi hR
      obtain ⟨A1, R1⟩ := cur_more (I := I) (R0 := I) hW h.1.2.1 hR fR fj
      obtain ⟨B, b1, b2, _⟩ := two_given hW hC M1 G1 A1 R1 o hJ t1
      rw [b1, obs] at e1
      rw [ej, obs, b2, obs] at e2
      cases e1; cases e2; rfl
    · exact absurd rfl (t1' t t1)
  · rcases n_isTable hW.1 hR.1 v with ⟨t', t1', q, z2⟩ | ⟨t1', z2⟩
    · exact absurd q (t1 t' t1')
    · rw [z1, obs, if_pos rfl] at e1
      rw [z2, obs, if_pos rfl] at e2
      cases e1; cases e2; rfl
end P_35r_43f_given
section P_35r_43g_more
/-! image, back, ways: the rows that both hold at their end -/
theorem find_now {I0 R0 M R : gM} {k k1 : Nat} {A : aT} (hk : k1 + 4 < k) (hM9 : MI false R0 R) (hW : WF A) (h0 : 0 < A.1.length) (hC : CT M k1 A) (hR : RT R (R 70) A) (hz : M (k + 4) 0 = 0) :
    ∃ M' R' J, fX1_findBy k k1 (M k1 2) M = some M' ∧ fX9_joinsNow R = some R' ∧ OUT k (fl4 A.2.2 (asA A)) M' R' J ∧ J ≤ 20736 ∧ Sc M' k (fl4 A.2.2 (asA A)) ∧ Sq R' (fl4 A.2.2 (asA A)) ∧ FJc k M M' := by
  obtain ⟨M', R', J, h1, h2, h3, h4, h5, h6, _, h7⟩ := find_two (I0 := I0) hk hM9 hW h0 hC hR hz hW.2.2.2.1
  refine ⟨M', R', J, by rw [hC.2.2.1]; exact h1, ?_, h3, h4, h5, h6, h7⟩
  unfold fX9_joinsNow
  rw [show (1 : Int32) = nI 1 from rfl, rI_n (by omega) (by omega), obs, hR.2.2.1, h2, obs]
theorem InvB.n {I : gM} (h : InvB I) : I 3 0 = 0 ↔ I 62 17 = 0 := by
  obtain ⟨A, hW, hC, hR⟩ := h.tab
  rw [hC.1, hR.1]
theorem post_two {R0 I' b : gM} (h : InvB b) (n : b 3 0 ≠ 0) (hM : MI false R0 I') (e : fX9_joinsNow I' = some b) : b 18 0 = b 62 26 := by
  obtain ⟨A, hW, hC, hR⟩ := h.tab
  obtain ⟨r, er, _, Mr, Gr, f1, f2⟩ := n_rowsNow hM
  rw [e] at er
  obtain rfl := Option.some.inj er
  have hRI : RT I' (I' 70) A := by
    rw [← f1 70 (by omega) (by omega) (by omega) (by omega) (by omega) (by omega) (by omega) (by omega)]
    exact hR.cong (f2 17 (by omega) (by omega) (by omega)).symm (f1 72 (by omega) (by omega) (by omega) (by omega) (by omega) (by omega) (by omega) (by omega)).symm (f1 73 (by omega) (by omega) (by omega) (by omega) (by omega) (by omega) (by omega) (by omega)).symm hW.1 hW.k12 (fun _ _ => rfl)
  have n' : 0 < A.1.length := by
    have := mt (hC.n0 hW).mpr n
    omega
  obtain ⟨R', J, ej, o, _⟩ := cur_two h hW n' hC hM hRI
  rw [e] at ej
  obtain rfl := Option.some.inj ej
  exact o.1.trans o.2.1.symm
theorem n_areT {I : gM} {r : Int32} (h : fX9_areTables I = some r) : (r = 0 ∧ (I 62 17).toInt ≤ 0) ∨ (r = 1 ∧ 0 < (I 62 17).toInt) := by
  unfold fX9_areTables at h
  rcases oi h with ⟨c, h⟩ | ⟨c, h⟩
  · rw [Int32.le_iff_toInt_le, t0i] at c
    exact Or.inl ⟨(Option.some.inj h).symm, c⟩
  · rw [Int32.le_iff_toInt_le, t0i] at c
    exact Or.inr ⟨(Option.some.inj h).symm, by omega⟩
theorem eq_image {I : gM} (h : InvB I) {a b : Int32 × gM} (e1 : fX8_image I = some a) (e2 : fX9_image a.2 = some b) (hB : InvB b.2) : a.1 = b.1 := by
  obtain ⟨A, hW, hC, hR⟩ := h.tab
  have hMa : MI true I a.2 := by
    obtain ⟨p, ep, _, hp⟩ := tfX8_image I h.1.1
    rw [e1] at ep
    obtain rfl := Option.some.inj ep
    exact hp
  have lo : ∀ q, q < 62 → b.2 q = a.2 q := fun q hq => zfX9_image _ e2 q (by omega) (by omega) (by omega) (by omega) (by omega) (by omega) (by omega) (by omega) (by omega)
  have k17 : b.2 62 17 = a.2 62 17 := xfX9_image _ e2 62 17 (by omega) (by omega) (by omega) (by omega) (by omega) (by omega) (by omega) (by omega) (by omega) (by omega) (by omega) (by omega)
  unfold fX8_image at e1
  unfold fX9_image at e2
  rw [n_areTables hW.1 (by rw [hMa.hi (by omega)]; exact hR.1), obs] at e2
  by_cases n : A.1.length = 0
  · rw [if_pos ((hC.n0 hW).mpr n)] at e1
    rw [if_pos n, if_pos rfl] at e2
    cases e1; cases e2; rfl
  · rw [if_neg (mt (hC.n0 hW).mp n)] at e1
    rw [if_neg n, if_neg (by decide)] at e2
    obtain ⟨r1, _, e1⟩ := ob e1
    obtain ⟨r2, _, e1⟩ := ob e1
    obtain ⟨I3, _, e1⟩ := ob e1
    obtain rfl := Option.some.inj e1
    obtain ⟨w, ew, w1, _, _⟩ := n_lX9_image_11 (I0 := I3) (I := I3) hMa.re
    rw [show ((0 : Int32), I3) = (nI 0, I3) from rfl, ew, obs, pU_n, obs] at e2
    have M5 : MI false I3 (g_up w 62 42 1) := w1.up (k := 62) rfl (lo := 0) (hi := 1) rfl (by decide) (by decide)
    unfold fX9_rowsNow at e2
    obtain ⟨p, ep, e2⟩ := ob e2
    obtain ⟨r, er, ep⟩ := ob ep
    obtain rfl := Option.some.inj ep
    obtain rfl := Option.some.inj e2
    have := post_two hB (fun z => n ((hC.n0 hW).mp ?_)) M5 er
    · exact (congrFun (lo 18 (by omega)) 0).symm.trans this
    · have := (hB.n).mp z
      rw [k17, hMa.hi (by omega)] at this
      exact (h.n).mpr this
theorem eq_back {I : gM} (h : InvB I) {a b : Int32 × gM} (e1 : fX8_back I = some a) (e2 : fX9_back a.2 = some b) (hB : InvB b.2) : a.1 = b.1 := by
  have hMa : MI true I a.2 := by
    obtain ⟨p, ep, _, hp⟩ := tfX8_back I h.1.1
    rw [e1] at ep
    obtain rfl := Option.some.inj ep
    exact hp
  have c1 : I 0 15 = I 62 42 := by
    obtain ⟨_, _, _, _, S, m, nx, hR⟩ := h.1
    exact hR.2.2.2.2.1.1
  have lo : ∀ q, q < 62 → b.2 q = a.2 q := fun q hq => zfX9_back _ e2 q (by omega) (by omega) (by omega) (by omega) (by omega) (by omega) (by omega) (by omega) (by omega)
  have k17 : b.2 62 17 = a.2 62 17 := xfX9_back _ e2 62 17 (by omega) (by omega) (by omega) (by omega) (by omega) (by omega) (by omega) (by omega) (by omega) (by omega) (by omega) (by omega)
  unfold fX8_back at e1
  unfold fX9_back at e2
  by_cases i0 : I 62 42 = 0
  · rw [if_pos (c1.trans i0)] at e1
    obtain rfl := Option.some.inj e1
    rw [if_pos i0] at e2
    cases e2; rfl
  · rw [if_neg (fun z => i0 (c1.symm.trans z))] at e1
    rw [if_neg (by rw [hMa.hi (by omega)]; exact i0)] at e2
    obtain ⟨r1, _, e1⟩ := ob e1
    obtain ⟨r2, _, e1⟩ := ob e1
    obtain ⟨r3, _, e1⟩ := ob e1
    obtain ⟨r4, _, e1⟩ := ob e1
    obtain rfl := Option.some.inj e1
    obtain ⟨w, ew, w1, _, _⟩ := n_lX9_back_11 (I0 := r4) (I := r4) hMa.re
    rw [show ((0 : Int32), r4) = (nI 0, r4) from rfl, ew, obs, pU_n, obs] at e2
    have M5 : MI false r4 (g_up w 62 29 0) := w1.up (k := 62) rfl (lo := 0) (hi := 40) rfl (by decide) (by decide)
    unfold fX9_rowsNow at e2
    obtain ⟨p, ep, e2⟩ := ob e2
    obtain ⟨r, er, ep⟩ := ob ep
    obtain rfl := Option.some.inj ep
    obtain rfl := Option.some.inj e2
    have := post_two hB (fun z => ?_) M5 er
    · exact (congrFun (lo 18 (by omega)) 0).symm.trans this
    · have := (hB.n).mp z
      rw [k17, hMa.hi (by omega)] at this
      exact h.2.2 i0 this
theorem eq_ways {I : gM} (h : InvB I) {v1 : Int32} {v2 : Int64} {J : gN} {a b : Int32 × gM × gN} (e1 : fX8_ways v1 v2 I J = some a) (e2 : fX9_ways v1 v2 a.2.1 a.2.2 = some b) (hB : InvB b.2.1) : a.1 = b.1 := by
  obtain ⟨A, hW, hC, hR⟩ := h.tab
  have hMa : MI true I a.2.1 := by
    obtain ⟨p, ep, _, hp⟩ := tfX8_ways v1 v2 I J h.1.1
    rw [e1] at ep
    obtain rfl := Option.some.inj ep
    exact hp
  have lo : ∀ q, q < 62 → b.2.1 q = a.2.1 q := fun q hq => zfX9_ways _ _ _ _ e2 q (by omega) (by omega) (by omega) (by omega) (by omega) (by omega) (by omega) (by omega) (by omega) (by omega)
  have k17 : b.2.1 62 17 = a.2.1 62 17 := xfX9_ways _ _ _ _ e2 62 17 (by omega) (by omega) (by omega) (by omega) (by omega) (by omega) (by omega) (by omega) (by omega) (by omega) (by omega) (by omega) (by omega)
  have en : a.2.1 62 17 = nI A.1.length := by rw [hMa.hi (by omega)]; exact hR.1
  unfold fX8_ways at e1
  unfold fX9_ways at e2
  rw [n_areTables hW.1 en, obs] at e2
  by_cases n : A.1.length = 0
  · rw [if_pos ((hC.n0 hW).mpr n)] at e1
    rw [if_pos n, if_pos rfl] at e2
    cases e1; cases e2; rfl
  · rw [if_neg (mt (hC.n0 hW).mp n)] at e1
    rw [if_neg n, if_neg (by decide)] at e2
    have t40 : (40 : Int32).toInt = 40 := by decide
    have hin := n_in v1 1 40
    rw [t1i, t40] at hin
    rcases oi e1 with ⟨c, e1⟩ | ⟨c, e1⟩
    · rw [Int32.lt_iff_toInt_lt, t1i] at c
      rcases hin with ⟨z1, z2, _⟩ | ⟨_, z⟩
      · omega
      · rw [z, obs, if_pos rfl] at e2
        cases e1; cases e2; rfl
    · rw [Int32.lt_iff_toInt_lt, t1i] at c
      rcases oi e1 with ⟨d, e1⟩ | ⟨d, e1⟩
      · rw [Int32.le_iff_toInt_le, t40] at d
        obtain ⟨J1, _, e1⟩ := ob e1
        obtain ⟨w3, _, e1⟩ := ob e1
        obtain rfl := Option.some.inj e1
        rcases hin with ⟨z1, z2, z⟩ | ⟨z, _⟩
        · rw [z, obs, if_neg (by decide)] at e2
          obtain ⟨J3, _, e2⟩ := ob e2
          obtain ⟨w, ew, w1, _, _⟩ := n_ways27 (I0 := w3.1) (I := w3.1) hMa.re (A9.hi hMa h.1.2.1) (by omega) hW.1 en J3 ⟨z1, z2⟩
          have ew : lX9_ways_27 v1 ((0 : Int32), w3.1, J3) = some w := ew
          have e2 : ((lX9_ways_27 v1 ((0 : Int32), w3.1, J3)).bind fun w5 => (fX9_rowsNow w5.1).bind fun r6 => some (r6.1, r6.2, w5.2)) = some b := e2
          rw [ew, obs] at e2
          unfold fX9_rowsNow at e2
          obtain ⟨p, ep, e2⟩ := ob e2
          obtain ⟨r, er, ep⟩ := ob ep
          obtain rfl := Option.some.inj ep
          obtain rfl := Option.some.inj e2
          have := post_two hB (fun z => n ((hC.n0 hW).mp ?_)) w1 er
          · exact (congrFun (lo 18 (by omega)) 0).symm.trans this
          · have := (hB.n).mp z
            rw [k17, hMa.hi (by omega)] at this
            exact (h.n).mpr this
        · exact absurd ⟨by omega, by omega⟩ z
      · rw [Int32.le_iff_toInt_le, t40] at d
        rcases hin with ⟨z1, z2, _⟩ | ⟨_, z⟩
        · omega
        · rw [z, obs, if_pos rfl] at e2
          cases e1; cases e2; rfl
theorem eq_log {I : gM} (h : InvB I) {v1 v2 a b : Int32} (e1 : fX8_log v1 v2 I = some a) (e2 : fX9_log v1 v2 I = some b) : a = b := by
  obtain ⟨a', b', e1', e2', _, e⟩ := all_log3 h.1 v1 v2
  rw [e1] at e1'
  rw [e2] at e2'
  cases e1'; cases e2'; exact e
/-! without -/
def clr (u t : Nat) : Nat := if u.testBit t then u - 2 ^ t else u
theorem clr_n : ∀ u, u < 16 → ∀ t, t < 4 → nI u &&& (((1 : Int32) <<< (nI t &&& 31)) ^^^ (-1)) = nI (clr u t) := by decide +kernel
theorem clr_0 : ∀ u, u < 16 → ∀ t, t < 4 → 0 < u → (clr u t = 0 ↔ u = 2 ^ t) := by decide +kernel
theorem clr_le (u t : Nat) : clr u t ≤ u := by
  unfold clr
  split
  · exact Nat.sub_le _ _
  · exact Nat.le_refl _
theorem eq_without {I : gM} (h : InvB I) {v : Int32} {a b : Int32 × gM} (e1 : fX8_without v I = some a) (e2 : fX9_without v a.2 = some b) : a.1 = b.1 := by
  obtain ⟨A, hW, hC, hR⟩ := h.tab
  have hMa : MI true I a.2 := by
    obtain ⟨p, ep, _, hp⟩ := tfX8_without v I h.1.1
    rw [e1] at ep
    obtain rfl := Option.some.inj ep
    exact hp
  have hRa := hR.hi hMa hW
  unfold fX8_without at e1
  unfold fX9_without at e2
  rcases c_isTable hW.1 hC.1 v with ⟨t, t1, rfl, z1⟩ | ⟨t1, z1⟩
  · rcases n_isTable hW.1 hRa.1 (nI t) with ⟨t', t1', _, z2⟩ | ⟨t1', z2⟩
    · have t4 : t < 4 := by have := hW.1; omega
      have u16 := hW.u
      have u0 := hW.2.2.1 (by omega)
      have p4 : 2 ^ t ≤ 2 ^ 3 := Nat.pow_le_pow_right (by decide) (by omega)
      rw [z1, obs, if_neg (by decide), hC.2.1, clr_n _ u16 _ t4] at e1
      rw [z2, obs, if_neg (by decide), show rI 331 (a.2 70) (0 : Int32) = some (a.2 70 0) from rI_n (a := 0) (by omega) (by omega), obs, obs, obs, hRa.2.1, clr_n _ u16 _ t4, one_shl _ t4] at e2
      by_cases c : A.2.1 = 2 ^ t
      · rw [if_pos (by rw [(clr_0 _ u16 _ t4 u0).mpr c]; rfl)] at e1
        rw [if_pos (by rw [c])] at e2
        cases e1; cases e2; rfl
      · have cn := mt (clr_0 _ u16 _ t4 u0).mp c
        have cle := clr_le A.2.1 t
        rw [if_neg (show ¬ nI (clr A.2.1 t) = (0 : Int32) from fun z => cn (nI_inj (b := 0) z (by omega) (by omega)))] at e1
        rw [if_neg (fun z => c (nI_inj z (by omega) (by omega)))] at e2
        generalize hcl : clr A.2.1 t = cl at *
        obtain ⟨r2, er2, C2, k2, k2'⟩ := c_copyT (k := 8) (k1 := 3) (by omega) hW hC
        rw [er2, obs, pU_n, obs] at e1
        generalize hI3 : g_up r2 8 1 (nI cl) = I3 at *
        have W' : WF (A.1, cl, A.2.2) := ⟨hW.1, by show cl < 2 ^ A.1.length; have := hW.2.1; omega, fun _ => by show 0 < cl; omega, hW.2.2.2.1, hW.2.2.2.2⟩
        have C3 : CT I3 8 (A.1, cl, A.2.2) := ⟨by rw [← hI3, g_up_ne (Or.inr (by decide))]; exact C2.1, by rw [← hI3, g_up_self], by rw [← hI3, g_up_ne (Or.inr (by decide))]; exact C2.2.2.1, fun t ht => by
          have := C2.2.2.2 t ht
          unfold CTt at this ⊢
          rw [← hI3, g_up_row (by omega), g_up_row (by omega), g_up_row (by omega), g_up_row (by omega)]
          exact this⟩
        obtain ⟨I5, e5, M5, k5, k5'⟩ : ∃ I5, wI a.2 70 331 0 (nI cl) = some I5 ∧ MI false a.2 I5 ∧ (∀ q, q ≠ 70 → I5 q = a.2 q) ∧ ∀ j, I5 70 j = if j = 0 then nI cl else a.2 70 j := by
          have tp := tTop (nI cl)
          exact ⟨_, wI_n (a := 0) (by omega) (by omega), (hMa.re (b' := false)).up (k := 70) rfl (lo := top.1) (hi := top.2) rfl tp.1 tp.2, fun q hq => g_up_row hq, fun j => gu_in⟩
        rw [e5, obs] at e2
        have R5 : RT I5 (I5 70) (A.1, cl, A.2.2) := by
          refine ⟨by rw [k5 62 (by omega)]; exact hRa.1, by rw [k5', if_pos rfl], by rw [k5', if_neg (by decide)]; exact hRa.2.2.1, fun t ht => ?_⟩
          obtain ⟨g1, g2, g3, g4⟩ := hRa.2.2.2 t ht
          refine ⟨by rw [k5 72 (by omega)]; exact g1, by rw [k5 73 (by omega)]; exact g2, by rw [k5', if_neg (by omega)]; exact g3, fun i hi c hc => by rw [k5', if_neg (by omega)]; exact g4 i hi c hc⟩
        have z33 : I3 (29 + 4) 0 = 0 := by
          rw [← hI3, g_up_row (by omega), k2 (29 + 4) (by omega)]
          exact h.2.1.2.1
        obtain ⟨M', R', J, f1, f2, o, _⟩ := find_now (I0 := I) (k := 29) (k1 := 8) (by omega) M5 W' (by show 0 < A.1.length; omega) C3 R5 z33
        rw [f1, obs] at e1
        unfold fX9_rowsNow at e2
        rw [f2, obs, obs] at e2
        obtain ⟨I7, e7, e2⟩ := ob e2
        cases e1; cases e2
        exact o.1.trans o.2.1.symm
    · exact absurd rfl (t1' t t1)
  · rcases n_isTable hW.1 hRa.1 v with ⟨t', t1', q, z2⟩ | ⟨t1', z2⟩
    · exact absurd q (t1 t' t1')
    · rw [z1, obs, if_pos rfl] at e1
      rw [z2, obs, if_pos rfl] at e2
      cases e1; cases e2; rfl
end P_35r_43g_more
section P_35r_43h_would
/-! would, run: acts on the tables beside, the reference's ones put aside -/
theorem RT.of {I r : gM} {w w' : Nat → Int32} {A : aT} (hW : WF A) (h : RT I w A) (h62 : r 62 = I 62) (h72 : r 72 = I 72) (h73 : r 73 = I 73) (hw : ∀ x, x < 150 → w' x = w x) : RT r w' A := h.cong (by rw [h62]) h72 h73 hW.1 hW.k12 hw
/-- a step that both refuse alike, or do: the class on the tables at k, the reference on its rows now -/
theorem step_two {I0 M R0 R : gM} {k : Nat} {A : aT} (hk : kX5 k) (hM : MI true I0 M) (hM9 : MI false R0 R) (hW : WF A) (hC : CT M k A) (hR : RT R (R 70) A) {s : Nat} (hs : s < 4) (num x y z : Int32) (h2 : 2 ≤ s → x = -1 ∧ y = -1 ∧ z = -1) :
    (∃ r, r ≠ -1 ∧ fX5_refusal k (nI s) num x y z M = some r ∧ fX9_whyNot (nI s) num x y z R = some r) ∨
    (∃ A' q r v b, fX5_refusal k (nI s) num x y z M = some (-1) ∧ fX9_whyNot (nI s) num x y z R = some (-1) ∧ fX5_packed x y z = some q ∧ fX5_change k (nI s) num q M = some r ∧ fX9_doNow (nI s) num x y z R = some (v, b) ∧ WF A' ∧ A'.1.length = A.1.length ∧ MI true I0 r ∧ CT r k A' ∧ Fk k M r ∧ MI false R0 b ∧ RT b (b 70) A' ∧ (∀ q, q ≠ 70 → b q = R q)) := by
  obtain ⟨r, e1, e2, _, _⟩ := why_two (k := k) (by have := hk.2.1; omega) hM hM9 hW hC hR hs num x y z
  by_cases hr : r = -1
  · subst hr
    refine Or.inr ?_
    obtain ⟨w', hact9⟩ := n_can hM9.re hW.1 hR.1 e2
    obtain ⟨A', hact, hR', hw'⟩ := act_abs hW hR hact9
    have hkn : kn x < 128 ∧ kn y < 128 ∧ kn z < 128 := by
      rcases Nat.lt_or_ge s 2 with c | c
      · rcases hact with ⟨_, _, _, _, _, _, q, _⟩ | ⟨_, _, _, _, _, q, _⟩ | ⟨q, _⟩ | ⟨q, _, _⟩
        · exact (row_k q).2.1
        · exact (row_k q).2.1
        · have := nI_inj (b := 2) q (by omega) (by omega)
          omega
        · rename_i q2 _ _
          rcases (by omega : s = 0 ∨ s = 1) with rfl | rfl
          · exact absurd rfl q
          · exact absurd rfl (by assumption)
      · obtain ⟨f1, f2, f3⟩ := h2 c
        rw [f1, f2, f3]; decide
    obtain ⟨r, er, C', F'⟩ := c_change hW hC hact
    obtain ⟨v, b, eb, Mb, bk, b70, _⟩ := n_doNow hM9 hW.1 hR.1 hact9
    have Mr : MI true I0 r := by
      obtain ⟨p, ep, hp⟩ := tfX5_change k (nI s) num (nI (kyz x y z)) M hk hM
      rw [er] at ep
      obtain rfl := Option.some.inj ep
      exact hp
    have hWA := hW.act hact
    exact ⟨A', _, r, v, b, e1, e2, n_packed hkn.1 hkn.2.1 hkn.2.2, er, eb, hWA, nI_inj (hR'.1.symm.trans hR.1) (by have := hWA.1; omega) (by have := hW.1; omega), Mr, C', F', Mb, RT.of hWA (by rw [← b70] at hR'; exact hR') (bk 62 (by omega)) (bk 72 (by omega)) (bk 73 (by omega)) (fun _ _ => rfl), bk⟩
  · exact Or.inl ⟨r, hr, e1, e2⟩
theorem eq_would {I : gM} (h : InvB I) {v1 v2 v3 v4' v5 : Int32} {a b : Int32 × gM} (e1 : fX8_would v1 v2 v3 v4' v5 I = some a) (e2 : fX9_would v1 v2 v3 v4' v5 a.2 = some b) : a.1 = b.1 := by
  obtain ⟨A, hW, hC, hR⟩ := h.tab
  have hMa : MI true I a.2 := by
    obtain ⟨p, ep, hp⟩ := tfX8_would v1 v2 v3 v4' v5 I h.1.1
    rw [e1] at ep
    obtain rfl := Option.some.inj ep
    exact hp
  have hRa := hR.hi hMa hW
  obtain ⟨r2, er2, C2, k2, k2'⟩ := c_copyT (k := 8) (k1 := 3) (by omega) hW hC
  have M2 : MI true I r2 := by
    obtain ⟨p, ep, hp⟩ := tfX5_copyFrom 8 3 I kX5_8 kX5_3 h.1.1
    rw [er2] at ep
    obtain rfl := Option.some.inj ep
    exact hp
  obtain ⟨p, ep, p1, p2, p3⟩ := n_putAside (I0 := a.2) (I := a.2) hMa.re
  have Rp : RT p (p 70) A := hRa.of hW (p3 62 (by omega)) (p3 72 (by omega)) (p3 73 (by omega)) (fun x _ => by rw [p3 70 (by omega)])
  have hwhy : ∀ r, fX9_whyNot (nI 0) v1 v2 v3 v4' p = some r → fX9_whyPut v1 v2 v3 v4' a.2 = some r := fun r e => by
    rw [why_cong (I := a.2) (by rw [p3 62 (by omega)]) (p3 70 (by omega)) (p3 72 (by omega))] at e
    unfold fX9_whyNot at e
    rw [if_pos (show nI 0 = 0 from rfl)] at e
    obtain ⟨q, eq, e⟩ := ob e
    rw [eq]; exact e
  have href : ∀ r, fX5_refusal 8 (nI 0) v1 v2 v3 v4' r2 = some r → fX5_refusal 3 0 v1 v2 v3 v4' I = some r := fun r e => by
    obtain ⟨q, z1, z2, _, _⟩ := why_two (k := 3) (by omega) h.1.1 p1 hW hC Rp (s := 0) (by omega) v1 v2 v3 v4'
    obtain ⟨q', y1, y2, _, _⟩ := why_two (k := 8) (by omega) M2 p1 hW C2 Rp (s := 0) (by omega) v1 v2 v3 v4'
    rw [z2] at y2
    rw [e] at y1
    cases y1; cases y2
    exact z1
  unfold fX8_would at e1
  unfold fX9_would at e2
  rcases step_two kX5_8 M2 p1 hW C2 Rp (s := 0) (by omega) v1 v2 v3 v4' (fun q => absurd q (by omega)) with ⟨r, hr, f1, f2⟩ | ⟨A', q, r, v, g, f1, f2, f3, f4, f5, W', n', Mr, C', F', Mg, Rg, gk⟩
  · rw [hwhy _ f2, obs, if_neg hr] at e2
    obtain rfl := Option.some.inj e2
    rcases oi e1 with ⟨_, e1⟩ | ⟨_, e1⟩
    · obtain rfl := Option.some.inj e1; rfl
    · rcases oi e1 with ⟨_, e1⟩ | ⟨_, e1⟩
      · obtain rfl := Option.some.inj e1; rfl
      · rw [href _ f1, obs, if_neg hr] at e1
        obtain rfl := Option.some.inj e1; rfl
  · rw [hwhy _ f2, obs, if_pos rfl] at e2
    have t0 : (0 : Int32).toInt = 0 := by decide
    have t1 : (1 : Int32).toInt = 1 := by decide
    rcases oi e1 with ⟨c, e1⟩ | ⟨c, e1⟩
    · rw [Int32.lt_iff_toInt_lt, t0] at c
      rcases n_in v5 0 1 with ⟨h1, h2, h3⟩ | ⟨h1, h3⟩
      · omega
      · rw [h3, obs, if_pos rfl] at e2
        cases e1; cases e2; rfl
    · rw [Int32.lt_iff_toInt_lt, t0] at c
      rcases oi e1 with ⟨d, e1⟩ | ⟨d, e1⟩
      · rw [Int32.lt_iff_toInt_lt, t1] at d
        rcases n_in v5 0 1 with ⟨h1, h2, h3⟩ | ⟨h1, h3⟩
        · omega
        · rw [h3, obs, if_pos rfl] at e2
          cases e1; cases e2; rfl
      · rw [Int32.lt_iff_toInt_lt, t1] at d
        rw [href _ f1, obs, if_pos rfl, er2, obs, f3, obs, show fX5_change 8 (0 : Int32) v1 q r2 = some r from f4, obs] at e1
        rcases n_in v5 0 1 with ⟨h1, h2, h3⟩ | ⟨h1, h3⟩
        · have eg : fX9_putsNow v1 v2 v3 v4' p = some (v, g) := by
            unfold fX9_doNow at f5
            rw [if_pos (show nI 0 = 0 from rfl)] at f5
            obtain ⟨r', z1, z2⟩ := ob f5
            rw [z1]; exact z2
          rw [h3, obs, if_neg (by decide), ep, obs, eg, obs] at e2
          have n0 : 0 < A'.1.length := by
            rw [n']
            rcases Nat.eq_zero_or_pos A.1.length with z | z
            · exfalso
              obtain ⟨w', q⟩ := n_can p1.re hW.1 Rp.1 f2
              rcases q with ⟨_, t, _, _, ht, _⟩ | ⟨q, _⟩ | ⟨q, _⟩ | ⟨q, _⟩
              · omega
              · exact absurd q (by decide)
              · exact absurd q (by decide)
              · exact absurd rfl q
            · exact z
          have z33 : r (29 + 4) 0 = 0 := by
            rw [F'.1 (29 + 4) (by omega), k2 (29 + 4) (by omega)]
            exact h.2.1.2.1
          obtain ⟨M', R', J, g1, g2, o, _⟩ := find_now (I0 := I) (k := 29) (k1 := 8) (by omega) Mg W' n0 C' Rg z33
          rw [g1, obs] at e1
          rw [g2, obs] at e2
          obtain ⟨r6, e6, e2⟩ := ob e2
          have k62 : r6 62 = R' 62 := zfX9_bringBack _ e6 62 (by omega)
          rw [k62] at e2
          rcases oi e1 with ⟨c5, e1⟩ | ⟨c5, e1⟩
          · rw [if_pos c5] at e2
            cases e1; cases e2
            exact o.1.trans o.2.1.symm
          · rw [if_neg c5] at e2
            cases e1; cases e2
            exact o.2.2.1
        · exact absurd ⟨by omega, by omega⟩ h1
/-- the steps of a script on the tables beside -/
theorem rh_end {k k1 i n : Nat} {M : gM} (e : M k 0 = nI n) (h : n ≤ i) (hn : n ≤ 12) (hi : i ≤ 12) : lX4_rehearse_2 k k1 (nI i, M) = some (.inr M) := by
  unfold lX4_rehearse_2
  rw [itO_eq]; dsimp only
  rw [if_pos (show M k 0 ≤ nI i by rw [e]; exact (nI_leI (by omega) (by omega)).mpr h), obs]; rfl
theorem rh_step {k k1 i n : Nat} {M : gM} (e : M k 0 = nI n) (h : i < n) (hn : n ≤ 12) : lX4_rehearse_2 k k1 (nI i, M) = (fX5_refusal k1 (M (k + 1) (5 * i)) (M (k + 1) (5 * i + 1)) (M (k + 1) (5 * i + 2)) (M (k + 1) (5 * i + 3)) (M (k + 1) (5 * i + 4)) M).bind fun r6 => if r6 = -1 then (fX5_packed (M (k + 1) (5 * i + 2)) (M (k + 1) (5 * i + 3)) (M (k + 1) (5 * i + 4))).bind fun r7 => (fX5_change k1 (M (k + 1) (5 * i)) (M (k + 1) (5 * i + 1)) r7 M).bind fun r8 => lX4_rehearse_2 k k1 (nI (i + 1), r8) else some (.inl (nI i, M)) := by
  conv => lhs; unfold lX4_rehearse_2
  rw [itO_eq]; dsimp only
  have p0 : fX4_partOf k (nI i) 0 M = some (M (k + 1) (5 * i)) := partOf_n (k := k) (i := i) (c := 0) (M := M) (by omega)
  have p1 : fX4_partOf k (nI i) 1 M = some (M (k + 1) (5 * i + 1)) := partOf_n (k := k) (i := i) (c := 1) (M := M) (by omega)
  have p2 : fX4_partOf k (nI i) 2 M = some (M (k + 1) (5 * i + 2)) := partOf_n (k := k) (i := i) (c := 2) (M := M) (by omega)
  have p3 : fX4_partOf k (nI i) 3 M = some (M (k + 1) (5 * i + 3)) := partOf_n (k := k) (i := i) (c := 3) (M := M) (by omega)
  have p4 : fX4_partOf k (nI i) 4 M = some (M (k + 1) (5 * i + 4)) := partOf_n (k := k) (i := i) (c := 4) (M := M) (by omega)
  rw [if_neg (show ¬ M k 0 ≤ nI i by rw [e]; exact mt (nI_leI (by omega) (by omega)).mp (by omega)), p0, obs, p1, obs, p2, obs, p3, obs, p4, obs, nI_1]
  generalize fX5_refusal _ _ _ _ _ _ M = o
  cases o with
  | none => rfl
  | some r6 =>
    rw [obs, obs]
    by_cases c : r6 = -1
    · rw [if_pos c, if_pos c]
      generalize fX5_packed _ _ _ = o
      cases o with
      | none => rfl
      | some r7 =>
        rw [obs, obs]
        generalize fX5_change _ _ _ _ M = o
        cases o with
        | none => rfl
        | some r8 => rw [obs, obs, obs]; rfl
    · rw [if_neg c, if_neg c, obs]; rfl
theorem rs_step0 {s i n : Nat} {R : gM} (hs : s < 4) (e : R 69 s = nI n) (h : i < n) (hn : n ≤ 12) : lX9_goSteps_2 (nI s) (nI 0) (nI i, R) = (fX9_whyNot (R 68 (60 * s + 5 * i)) (R 68 (60 * s + 5 * i + 1)) (R 68 (60 * s + 5 * i + 2)) (R 68 (60 * s + 5 * i + 3)) (R 68 (60 * s + 5 * i + 4)) R).bind fun r7 => if r7 = -1 then (fX9_doNow (R 68 (60 * s + 5 * i)) (R 68 (60 * s + 5 * i + 1)) (R 68 (60 * s + 5 * i + 2)) (R 68 (60 * s + 5 * i + 3)) (R 68 (60 * s + 5 * i + 4)) R).bind (fun r19 => lX9_goSteps_2 (nI s) (nI 0) (nI (i + 1), r19.2)) else some (.inl (nI i, R)) := by
  conv => lhs; unfold lX9_goSteps_2
  rw [itO_eq]; dsimp only
  have b0 : (5 : Int32) * ((12 : Int32) * nI s + nI i) = nI (60 * s + 5 * i) := by rw [a12, L5, nI_mul]; congr 1; omega
  rw [rI_n (by omega) (by omega), obs, e, if_neg (mt (nI_leI (by omega) (by omega)).mp (by omega)), b0, rI_n (by omega) (by omega), obs, show nI (60 * s + 5 * i) + 1 = nI (60 * s + 5 * i + 1) from nI_1 _, rI_n (by omega) (by omega), obs, show nI (60 * s + 5 * i) + 2 = nI (60 * s + 5 * i + 2) by rw [L2, nI_add], rI_n (by omega) (by omega), obs, show nI (60 * s + 5 * i) + 3 = nI (60 * s + 5 * i + 3) by rw [L3, nI_add], rI_n (by omega) (by omega), obs, show nI (60 * s + 5 * i) + 4 = nI (60 * s + 5 * i + 4) by rw [L4, nI_add], rI_n (by omega) (by omega), obs]
  generalize fX9_whyNot _ _ _ _ _ R = o
  cases o with
  | none => rfl
  | some r7 =>
    simp only [obs]
    by_cases c : r7 = -1
    · rw [if_pos c, if_pos c, if_pos (show nI 0 = 0 from rfl)]
      generalize fX9_doNow _ _ _ _ _ R = o
      cases o with
      | none => rfl
      | some r19 =>
        simp only [obs]
        unfold bX9_goSteps_178
        rw [obs, nI_1]; rfl
    · rw [if_neg c, if_neg c, obs]; rfl
theorem reh_go {I0 R0 : gM} {s : Nat} (hs : s < 4) {ss : List (Nat × Nat × List Nat)} (h12 : ss.length ≤ 12) (hok : ∀ i, i < ss.length → stepOK (ss.getD i (0, 0, []))) : ∀ (d i : Nat) (M R : gM) (A : aT), i + d = ss.length → MI true I0 M → MI false R0 R → WF A → CT M 8 A → RT R (R 70) A → ScK M (54 + 2 * s) ss → R 69 s = nI ss.length → (∀ a, a < 5 * ss.length → R 68 (60 * s + a) = se (ss.getD (a / 5) (0, 0, [])) (a % 5)) →
    ∃ M' R' A', ((lX4_rehearse_2 (54 + 2 * s) 8 (nI i, M) = some (.inr M') ∧ lX9_goSteps_2 (nI s) (nI 0) (nI i, R) = some (.inr R')) ∨ ∃ j, j < 12 ∧ lX4_rehearse_2 (54 + 2 * s) 8 (nI i, M) = some (.inl (nI j, M')) ∧ lX9_goSteps_2 (nI s) (nI 0) (nI i, R) = some (.inl (nI j, R'))) ∧ MI true I0 M' ∧ MI false R0 R' ∧ WF A' ∧ A'.1.length = A.1.length ∧ CT M' 8 A' ∧ RT R' (R' 70) A' ∧ (∀ q, q < 8 ∨ 12 < q → M' q = M q) ∧ (∀ q, q ≠ 70 → R' q = R q) := by
  intro d
  induction d with
  | zero =>
    intro i M R A hi hM hM9 hW hC hR hk e69 e68
    exact ⟨M, R, A, Or.inl ⟨rh_end hk.1 (by omega) h12 (by omega), rs_end hs e69 (by omega) h12 (by omega) _⟩, hM, hM9, hW, rfl, hC, hR, fun _ _ => rfl, fun _ _ => rfl⟩
  | succ d ih =>
    intro i M R A hi hM hM9 hW hC hR hk e69 e68
    rw [rh_step hk.1 (by omega) h12, rs_step0 hs e69 (by omega) h12]
    have hst := hok i (by omega)
    generalize hg : ss.getD i (0, 0, []) = st at *
    have g8 : ∀ c, c < 5 → M (54 + 2 * s + 1) (5 * i + c) = se st c := fun c hc => by
      rw [hk.2.2 _ (by omega), show (5 * i + c) / 5 = i by omega, show (5 * i + c) % 5 = c by omega, hg]
    have g9 : ∀ c, c < 5 → R 68 (60 * s + 5 * i + c) = se st c := fun c hc => by
      rw [show 60 * s + 5 * i + c = 60 * s + (5 * i + c) by omega, e68 _ (by omega), show (5 * i + c) / 5 = i by omega, show (5 * i + c) % 5 = c by omega, hg]
    have z8 : M (54 + 2 * s + 1) (5 * i) = se st 0 := g8 0 (by omega)
    have z9 : R 68 (60 * s + 5 * i) = se st 0 := g9 0 (by omega)
    rw [z8, g8 1 (by omega), g8 2 (by omega), g8 3 (by omega), g8 4 (by omega), z9, g9 1 (by omega), g9 2 (by omega), g9 3 (by omega), g9 4 (by omega)]
    have q0 : se st 0 = nI st.1 := rfl
    rw [q0]
    have hx : 2 ≤ st.1 → se st 2 = -1 ∧ se st 3 = -1 ∧ se st 4 = -1 := fun c => by
      have e := hst.2 c
      unfold se ce
      rw [e]
      exact ⟨rfl, rfl, rfl⟩
    rcases step_two kX5_8 hM hM9 hW hC hR (s := st.1) hst.1 (se st 1) (se st 2) (se st 3) (se st 4) hx with ⟨r, hr, e1, e2⟩ | ⟨A', q, r, v, b, e1, e2, e3, e4, e5, W', n', Mr, C', F', Mb, Rb, bk⟩
    · rw [e1, obs, e2, obs, if_neg hr, if_neg hr]
      exact ⟨M, R, A, Or.inr ⟨i, by omega, rfl, rfl⟩, hM, hM9, hW, rfl, hC, hR, fun _ _ => rfl, fun _ _ => rfl⟩
    · rw [e1, obs, e2, obs, if_pos rfl, if_pos rfl, e3, obs, e4, obs, e5, obs]
      have hk' : ScK r (54 + 2 * s) ss := ⟨by rw [F'.1 _ (by omega)]; exact hk.1, hk.2.1, fun x hx => by rw [F'.1 _ (by omega)]; exact hk.2.2 x hx⟩
      obtain ⟨M', R', A2, hc, k1, k2, k3, k4, k5, k6, k7, k8⟩ := ih (i + 1) r b A' (by omega) Mr Mb W' C' Rb hk' (by rw [bk 69 (by omega)]; exact e69) (fun x hx => by rw [bk 68 (by omega)]; exact e68 x hx)
      exact ⟨M', R', A2, hc, k1, k2, k3, k4.trans n', k5, k6, fun q hq => (k7 q hq).trans (F'.1 q hq), fun q hq => (k8 q hq).trans (bk q hq)⟩
theorem eq_run {I : gM} (h : InvB I) {v w : Int32} {a b : Int32 × gM} (e1 : fX8_run v w I = some a) (e2 : fX9_run v w a.2 = some b) : a.1 = b.1 := by
  obtain ⟨A, hW, hC, hR⟩ := h.tab
  have hMa : MI true I a.2 := by
    obtain ⟨p, ep, hp⟩ := tfX8_run v w I h.1.1
    rw [e1] at ep
    obtain rfl := Option.some.inj ep
    exact hp
  have hRa := hR.hi hMa hW
  obtain ⟨n, hn, en⟩ := h.mi.n (k := 62) (j := 12) (hi := 4) rfl
  have en' : a.2 62 12 = nI n := by rw [hMa.hi (by omega)]; exact en
  have hS := h.1.2.2.2.1
  unfold fX8_run at e1
  unfold fX9_run at e2
  rcases scr_n hS hn en v with ⟨s, hs, rfl, z1⟩ | ⟨hno, z1⟩
  · have z2 : fX9_isScript (nI s) a.2 = some 1 := by
      rcases n_isScript hn en' (nI s) with ⟨_, _, _, z⟩ | ⟨z, _⟩
      · exact z
      · exact absurd rfl (z s hs)
    rw [z1, obs, if_neg (by decide)] at e1
    rw [z2, obs, if_neg (by decide), n_areTables hW.1 hRa.1, obs] at e2
    by_cases n0 : A.1.length = 0
    · rw [if_pos ((hC.n0 hW).mpr n0)] at e1
      rw [if_pos n0, if_pos rfl] at e2
      cases e1; cases e2; rfl
    · rw [if_neg (mt (hC.n0 hW).mp n0)] at e1
      rw [if_neg n0, if_neg (by decide)] at e2
      have t0 : (0 : Int32).toInt = 0 := by decide
      have t1 : (1 : Int32).toInt = 1 := by decide
      rcases oi e1 with ⟨c, e1⟩ | ⟨c, e1⟩
      · rw [Int32.lt_iff_toInt_lt, t0] at c
        rcases n_in w 0 1 with ⟨h1, h2, h3⟩ | ⟨h1, h3⟩
        · omega
        · rw [h3, obs, if_pos rfl] at e2
          cases e1; cases e2; rfl
      · rw [Int32.lt_iff_toInt_lt, t0] at c
        rcases oi e1 with ⟨d, e1⟩ | ⟨d, e1⟩
        · rw [Int32.le_iff_toInt_le, t1] at d
          rcases n_in w 0 1 with ⟨h1, h2, h3⟩ | ⟨h1, h3⟩
          · rw [h3, obs, if_neg (by decide)] at e2
            obtain ⟨ss, k1, k2, k3, k4⟩ := hS.2 s (by omega) (by rw [en, nIt (by omega)]; omega)
            obtain ⟨r2, er2, C2, f2, f2'⟩ := c_copyT (k := 8) (k1 := 3) (by omega) hW hC
            have M2 : MI true I r2 := by
              obtain ⟨p, ep, hp⟩ := tfX5_copyFrom 8 3 I kX5_8 kX5_3 h.1.1
              rw [er2] at ep
              obtain rfl := Option.some.inj ep
              exact hp
            obtain ⟨p, ep, p1, p2, p3⟩ := n_putAside (I0 := a.2) (I := a.2) hMa.re
            have Rp : RT p (p 70) A := hRa.of hW (p3 62 (by omega)) (p3 72 (by omega)) (p3 73 (by omega)) (fun x _ => by rw [p3 70 (by omega)])
            have kk : ScK r2 (54 + 2 * s) ss := ⟨by rw [f2 _ (by omega)]; exact k1.1, k1.2.1, fun x hx => by rw [f2 _ (by omega)]; exact k1.2.2 x hx⟩
            have p69 : p 69 s = nI ss.length := by rw [p3 69 (by omega), hMa.hi (by omega)]; exact k2
            have s4 : s < 4 := by omega
            have l12 := k1.2.1
            obtain ⟨M', R', A', hc, g1, g2, g3, g4, g5, g6, g7, g8⟩ := reh_go (I0 := I) (R0 := a.2) s4 l12 k4 ss.length 0 r2 p A (by omega) M2 p1 hW C2 Rp kk p69 (fun x hx => by rw [p3 68 (by omega), hMa.hi (by omega)]; exact k3 x hx)
            rw [er2, obs, rA_n s4, obs] at e1
            rw [ep, obs] at e2
            have z33 : M' (29 + 4) 0 = 0 := by
              rw [g7 (29 + 4) (by omega), f2 (29 + 4) (by omega)]
              exact h.2.1.2.1
            obtain ⟨M3, R3, J, y1, y2, o, _⟩ := find_now (I0 := I) (k := 29) (k1 := 8) (by omega) g2 g3 (by omega) g5 g6 z33
            have m54 : M' (54 + 2 * s) 0 = nI ss.length := by rw [g7 _ (by omega), f2 _ (by omega)]; exact k1.1
            have fin : ∀ x, fX4_rehearse (54 + 2 * s) 8 r2 = some (x, M') → fX9_goSteps (nI s) 0 p = some (x, R') → a.1 = b.1 := fun x y3 y4 => by
              rw [y3, obs] at e1
              rw [y4, obs] at e2
              unfold fX9_rowsNow at e2
              rw [y2, obs, obs] at e2
              obtain ⟨r7, e7, e2⟩ := ob e2
              have k69 : r7 69 = p 69 := (zfX9_bringBack _ e7 69 (by omega)).trans ((zfX9_joinsNow _ y2 69 (by omega) (by omega) (by omega) (by omega) (by omega) (by omega) (by omega) (by omega)).trans (g8 69 (by omega)))
              rcases (by omega : w.toInt = 0 ∨ w.toInt = 1) with c | c
              · have cw : w = 0 := Int32.toInt_inj.mp (c.trans t0.symm)
                rw [if_pos cw, obs] at e1
                rw [if_neg (by rw [cw]; decide), rI_n (by omega) (by omega), obs, k69, p69] at e2
                by_cases cx : x = nI ss.length
                · rw [if_pos (show (x, M').1 = (x, M').2 (54 + 2 * s) 0 from cx.trans m54.symm)] at e1
                  rw [if_pos cx] at e2
                  cases e1; cases e2; rfl
                · rw [if_neg (show ¬ (x, M').1 = (x, M').2 (54 + 2 * s) 0 from fun z => cx (z.trans m54))] at e1
                  rw [if_neg cx] at e2
                  cases e1; cases e2; rfl
              · have cw : w = 1 := Int32.toInt_inj.mp (c.trans t1.symm)
                rw [if_neg (by rw [cw]; decide)] at e1
                dsimp only at e1
                rw [y1, obs] at e1
                rw [if_pos cw] at e2
                cases e1; cases e2
                exact o.1.trans o.2.1.symm
            rcases hc with ⟨c1, c2⟩ | ⟨j, hj, c1, c2⟩
            · refine fin (nI ss.length) ?_ ?_
              · unfold fX4_rehearse
                rw [show ((0 : Int32), r2) = (nI 0, r2) from rfl, c1, obs]
                show some (M' (54 + 2 * s) 0, M') = _
                rw [m54]
              · unfold fX9_goSteps
                have c2 : lX9_goSteps_2 (nI s) 0 ((0 : Int32), p) = some (.inr R') := c2
                rw [c2, obs]
                show ((rI 5 (R' 69) (nI s)).bind fun u21 => some (u21, R')) = _
                rw [rI_n (by omega) (by omega), obs, g8 69 (by omega), p69]
            · refine fin (nI j) ?_ ?_
              · unfold fX4_rehearse
                rw [show ((0 : Int32), r2) = (nI 0, r2) from rfl, c1, obs]; rfl
              · unfold fX9_goSteps
                have c2 : lX9_goSteps_2 (nI s) 0 ((0 : Int32), p) = some (.inl (nI j, R')) := c2
                rw [c2, obs]; rfl
          · rw [t0, t1] at h1
            exact absurd ⟨by omega, by omega⟩ h1
        · rw [Int32.le_iff_toInt_le, t1] at d
          rcases n_in w 0 1 with ⟨h1, h2, h3⟩ | ⟨h1, h3⟩
          · omega
          · rw [h3, obs, if_pos rfl] at e2
            cases e1; cases e2; rfl
  · have z2 : fX9_isScript v a.2 = some 0 := by
      rcases n_isScript hn en' v with ⟨t, q1, q2, _⟩ | ⟨_, z⟩
      · exact absurd q2 (hno t q1)
      · exact z
    rw [z1, obs, if_pos rfl] at e1
    rw [z2, obs, if_pos rfl] at e2
    cases e1; cases e2; rfl
end P_35r_43h_would
