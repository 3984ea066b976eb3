/-! the reference's join: the search -/
def stf (I : gM) (d t : Nat) : Nat := (I 78 (4 * d + t)).toInt.toNat
def nkf (I : gM) (d t : Nat) : Nat := (I 77 (4 * d + t)).toInt.toNat
def kf (I : gM) (d t : Nat) : Int32 := I 76 (12 * (4 * d + t) + stf I d t)
/-- all tables of a depth stand at a key -/
def DS (B : gM) (n d : Nat) (f : Nat → Int32) (I : gM) : Prop := ∀ t, t < n → inn B t d → Ky B t d f I (nkf I d t) ∧ stf I d t < nkf I d t ∧ I 78 (4 * d + t) = nI (stf I d t)
theorem n_keyAt {I : gM} {d t st : Nat} (hd : d < 4) (ht : t < 4) (hs : st < 12) (e : I 78 (4 * d + t) = nI st) : fX9_keyAt (nI d) (nI t) I = some (I 76 (12 * (4 * d + t) + st)) := by
  unfold fX9_keyAt
  rw [a4, rI_n (by omega) (by omega), obs, e, a12, rI_n (by omega) (by omega), obs]
theorem DS.key {B I : gM} {n d t : Nat} {f : Nat → Int32} (h : DS B n d f I) (hd : d < 4) (hn : n ≤ 4) (ht : t < n) (q : inn B t d) : fX9_keyAt (nI d) (nI t) I = some (kf I d t) ∧ ∃ i, i < mn B t ∧ FT B t i d f ∧ vl B t i d = kf I d t := by
  obtain ⟨h1, h2, h3⟩ := h t ht q
  exact ⟨n_keyAt hd (by omega) (by have := h1.1; omega) h3, (h1.2.2.2 _).mpr ⟨_, h2, rfl⟩⟩
theorem mX_ge {a b : Int32} : a.toInt ≤ (mX a b).toInt ∧ b.toInt ≤ (mX a b).toInt ∧ (mX a b = a ∨ mX a b = b) := by
  unfold mX
  by_cases h : a < b
  · rw [if_pos h]
    have := (iLT rfl rfl).mp h
    exact ⟨by omega, by omega, Or.inr rfl⟩
  · rw [if_neg h]
    have := mt (iLT (a := a) (b := b) rfl rfl).mpr h
    exact ⟨by omega, by omega, Or.inl rfl⟩
theorem n_greatestKey {B I : gM} {n D d : Nat} {f : Nat → Int32} (h : Bs B n D) (C : Cx B I) (hd : d < 4) (S : DS B n d f I) : ∃ v, fX9_greatestKey (nI d) I = some v ∧ (∀ t, t < n → inn B t d → (kf I d t).toInt ≤ v.toInt) ∧ (v = -1 ∨ ∃ t, t < n ∧ inn B t d ∧ kf I d t = v) ∧ -1 ≤ v.toInt := by
  have n4 : n ≤ 4 := h.1
  have key : T (lX9_greatestKey_4 (nI d) I (-1, nI 0)) (fun v => (∀ t, t < n → inn B t d → (kf I d t).toInt ≤ v.toInt) ∧ (v = -1 ∨ ∃ t, t < n ∧ inn B t d ∧ kf I d t = v) ∧ -1 ≤ v.toInt) := by
    unfold lX9_greatestKey_4
    refine t_it (P := fun s => ∃ t, s.2 = nI t ∧ t ≤ n ∧ (∀ t', t' < t → inn B t' d → (kf I d t').toInt ≤ s.1.toInt) ∧ (s.1 = -1 ∨ ∃ t', t' < n ∧ inn B t' d ∧ kf I d t' = s.1) ∧ -1 ≤ s.1.toInt) (μ := fun s => 20 - s.2.toInt.toNat) (fun s p => ?_) ⟨0, rfl, by omega, fun t' a => by omega, Or.inl rfl, by show -1 ≤ ((-1) : Int32).toInt; decide⟩
    obtain ⟨s1, s2⟩ := s
    obtain ⟨t, e1, h1, h2, h3, h4⟩ := p
    dsimp only at e1 h2 h3 h4
    subst e1
    dsimp only
    have tn : I 62 17 = nI n := C.1.trans h.2.2.1
    have mu : 20 - (nI t + 1).toInt.toNat < 20 - (nI t).toInt.toNat ∨ n ≤ t := by
      by_cases z : n ≤ t
      · exact Or.inr z
      · rw [nI_1, nIt (by omega), nIt (by omega)]; exact Or.inl (by omega)
    refine t_ite (fun c => ?_) (fun c => ?_)
    · rw [tn] at c
      have c := (nI_leI (by omega) (by omega)).mp c
      exact t_ret ⟨fun t' a b => h2 t' (by omega) b, h3, h4⟩
    · rw [tn] at c
      have c := mt (nI_leI (a := n) (b := t) (by omega) (by omega)).mpr c
      have mu := mu.resolve_right c
      by_cases q : inn B t d
      · refine t_be (n_isIn1 h C (by omega) hd q) ?_
        rw [if_neg (by decide)]
        refine t_be (S.key hd n4 (by omega) q).1 ?_
        refine t_nx ?_ mu
        dsimp only
        obtain ⟨g1, g2, g3⟩ := mX_ge (a := s1) (b := kf I d t)
        refine ⟨t + 1, nI_1 t, by omega, fun t' a b => ?_, ?_, by omega⟩
        · rcases (by omega : t' < t ∨ t' = t) with z | z
          · have := h2 t' z b; omega
          · rw [z]; exact g2
        · rcases g3 with z | z
          · rw [z]; exact h3
          · rw [z]; exact Or.inr ⟨t, by omega, q, rfl⟩
      · refine t_be (n_isIn0 h C (by omega) hd q) ?_
        rw [if_pos rfl]
        refine t_nx ?_ mu
        dsimp only
        refine ⟨t + 1, nI_1 t, by omega, fun t' a b => ?_, h3, h4⟩
        rcases (by omega : t' < t ∨ t' = t) with z | z
        · exact h2 t' z b
        · subst z; exact absurd b q
  obtain ⟨v, e, h⟩ := key
  refine ⟨v, ?_, h⟩
  unfold fX9_greatestKey
  rw [L0, e, obs]
theorem n_firstBehind {B I : gM} {n D d : Nat} {f : Nat → Int32} (h : Bs B n D) (C : Cx B I) (hd : d < 4) (S : DS B n d f I) (v : Int32) : ∃ r, fX9_firstBehind (nI d) v I = some r ∧ ((∃ t, t < n ∧ r = nI t ∧ inn B t d ∧ (kf I d t).toInt < v.toInt ∧ ∀ t', t' < t → inn B t' d → v.toInt ≤ (kf I d t').toInt) ∨ (r = -1 ∧ ∀ t, t < n → inn B t d → v.toInt ≤ (kf I d t).toInt)) := by
  have n4 : n ≤ 4 := h.1
  have key : T (lX9_firstBehind_2 (nI d) v I (nI 0)) (Sum.elim (fun r => ∃ t, t < n ∧ r = nI t ∧ inn B t d ∧ (kf I d t).toInt < v.toInt ∧ ∀ t', t' < t → inn B t' d → v.toInt ≤ (kf I d t').toInt) (fun _ : Unit => ∀ t, t < n → inn B t d → v.toInt ≤ (kf I d t).toInt)) := by
    unfold lX9_firstBehind_2
    refine t_it (P := fun s => ∃ t, s = nI t ∧ t ≤ n ∧ ∀ t', t' < t → inn B t' d → v.toInt ≤ (kf I d t').toInt) (μ := fun s => 20 - s.toInt.toNat) (fun s p => ?_) ⟨0, rfl, by omega, fun t' a => by omega⟩
    obtain ⟨t, rfl, h1, h2⟩ := p
    have tn : I 62 17 = nI n := C.1.trans h.2.2.1
    refine t_ite (fun c => ?_) (fun c => ?_)
    · rw [tn] at c
      have c := (nI_leI (by omega) (by omega)).mp c
      exact t_ret (show ∀ t, t < n → inn B t d → v.toInt ≤ (kf I d t).toInt from fun t' a b => h2 t' (by omega) b)
    · rw [tn] at c
      have c := mt (nI_leI (a := n) (b := t) (by omega) (by omega)).mpr c
      have mu : 20 - (nI t + 1).toInt.toNat < 20 - (nI t).toInt.toNat := by rw [nI_1, nIt (by omega), nIt (by omega)]; omega
      by_cases q : inn B t d
      · refine t_be (n_isIn1 h C (by omega) hd q) ?_
        rw [if_neg (by decide)]
        refine t_be (S.key hd n4 (by omega) q).1 ?_
        refine t_ite (fun c2 => ?_) (fun c2 => ?_)
        · have c2 := (iLE rfl rfl).mp c2
          refine t_nx ⟨t + 1, nI_1 t, by omega, fun t' a b => ?_⟩ mu
          rcases (by omega : t' < t ∨ t' = t) with z | z
          · exact h2 t' z b
          · rw [z]; exact c2
        · have c2 := mt (iLE (a := v) (b := kf I d t) rfl rfl).mpr c2
          exact t_ret (show ∃ t2, t2 < n ∧ nI t = nI t2 ∧ inn B t2 d ∧ (kf I d t2).toInt < v.toInt ∧ ∀ t', t' < t2 → inn B t' d → v.toInt ≤ (kf I d t').toInt from ⟨t, by omega, rfl, q, by omega, h2⟩)
      · refine t_be (n_isIn0 h C (by omega) hd q) ?_
        rw [if_pos rfl]
        refine t_nx ⟨t + 1, nI_1 t, by omega, fun t' a b => ?_⟩ mu
        rcases (by omega : t' < t ∨ t' = t) with z | z
        · exact h2 t' z b
        · subst z; exact absurd b q
  obtain ⟨r, e, h⟩ := key
  unfold fX9_firstBehind
  rw [L0, e, obs]
  rcases r with r | r
  · exact ⟨r, rfl, Or.inl h⟩
  · exact ⟨-1, rfl, Or.inr ⟨rfl, h⟩⟩
theorem n_firstIn {B I : gM} {n D d t0 : Nat} (h : Bs B n D) (C : Cx B I) (hd : d < 4) (h0 : t0 < n) (q0 : inn B t0 d) (hl : ∀ t', t' < t0 → ¬ inn B t' d) : fX9_firstIn (nI d) I = some (nI t0) := by
  have n4 : n ≤ 4 := h.1
  have key : T (lX9_firstIn_2 (nI d) I (nI 0)) (fun r => r = nI t0) := by
    unfold lX9_firstIn_2
    refine t_it (P := fun s => ∃ t, s = nI t ∧ t ≤ t0) (μ := fun s => 20 - s.toInt.toNat) (fun s p => ?_) ⟨0, rfl, by omega⟩
    obtain ⟨t, rfl, h1⟩ := p
    by_cases q : t = t0
    · subst q
      refine t_be (n_isIn1 h C (by omega) hd q0) ?_
      rw [if_neg (by decide)]
      exact t_ret (show nI t = nI t from rfl)
    · refine t_be (n_isIn0 h C (by omega) hd (hl t (by omega))) ?_
      rw [if_pos rfl]
      refine t_nx ⟨t + 1, nI_1 t, by omega⟩ ?_
      show 20 - (nI t + 1).toInt.toNat < 20 - (nI t).toInt.toNat
      rw [nI_1, nIt (by omega), nIt (by omega)]; omega
  obtain ⟨r, e, h⟩ := key
  unfold fX9_firstIn
  rw [L0, e, obs, h]
theorem n_leaps {I0 I : gM} {d t nk st : Nat} (hM : MI false I0 I) (hd : d < 4) (ht : t < 4) (v : Int32) (hn : nk ≤ 12) (e7 : I 77 (4 * d + t) = nI nk) (e8 : I 78 (4 * d + t) = nI st) (hs : st ≤ nk) : ∃ st' b r, fX9_leaps (nI d) (nI t) v I = some (b, r) ∧ MI false I0 r ∧ st ≤ st' ∧ st' ≤ nk ∧ (∀ j, st ≤ j → j < st' → (I 76 (12 * (4 * d + t) + j)).toInt < v.toInt) ∧ (st' < nk → v.toInt ≤ (I 76 (12 * (4 * d + t) + st')).toInt) ∧ ((b = 1 ∧ st' < nk) ∨ (b = 0 ∧ st' = nk)) ∧ (∀ k, k ≠ 62 → k ≠ 78 → r k = I k) ∧ (∀ j, j ≠ 27 → r 62 j = I 62 j) ∧ r 62 27 = I 62 27 + 1 ∧ ∀ j, r 78 j = if j = 4 * d + t then nI st' else I 78 j := by
  have key : T (lX9_leaps_17 v (nI (4 * d + t)) (g_up I 62 27 (I 62 27 + 1))) (fun r => ∃ st', MI false I0 r ∧ st ≤ st' ∧ st' ≤ nk ∧ (∀ j, st ≤ j → j < st' → (I 76 (12 * (4 * d + t) + j)).toInt < v.toInt) ∧ (st' < nk → v.toInt ≤ (I 76 (12 * (4 * d + t) + st')).toInt) ∧ (∀ k, k ≠ 62 → k ≠ 78 → r k = I k) ∧ (∀ j, j ≠ 27 → r 62 j = I 62 j) ∧ r 62 27 = I 62 27 + 1 ∧ ∀ j, r 78 j = if j = 4 * d + t then nI st' else I 78 j) := by
    unfold lX9_leaps_17
    refine t_it (P := fun s => ∃ s1, MI false I0 s ∧ st ≤ s1 ∧ s1 ≤ nk ∧ (∀ j, st ≤ j → j < s1 → (I 76 (12 * (4 * d + t) + j)).toInt < v.toInt) ∧ (∀ k, k ≠ 62 → k ≠ 78 → s k = I k) ∧ (∀ j, j ≠ 27 → s 62 j = I 62 j) ∧ s 62 27 = I 62 27 + 1 ∧ ∀ j, s 78 j = if j = 4 * d + t then nI s1 else I 78 j) (μ := fun s => 13 - (s 78 (4 * d + t)).toInt.toNat) (fun s p => ?_)
      ⟨st, hM.up (k := 62) rfl (lo := -2147483648) (hi := 2147483647) rfl (tTop _).1 (tTop _).2, by omega, hs, fun j a b => by omega, fun k h _ => g_up_row h, fun j hj => g_up_ne (Or.inr hj), g_up_self, fun j => by
        rw [g_up_row (by omega)]
        by_cases z : j = 4 * d + t
        · rw [if_pos z, z, e8]
        · rw [if_neg z]⟩
    obtain ⟨s1, hMs, h1, h2, h3, h4, h5, h6, h7⟩ := p
    have v78 : s 78 (4 * d + t) = nI s1 := by rw [h7, if_pos rfl]
    have v77 : s 77 (4 * d + t) = nI nk := by rw [h4 77 (by omega) (by omega), e7]
    refine t_be (rI_n (by omega) (by omega)) (t_be (rI_n (by omega) (by omega)) ?_)
    rw [v78, v77]
    refine t_ite (fun c => ?_) (fun c => ?_)
    · have c := (nI_leI (by omega) (by omega)).mp c
      exact t_ret (show ∃ st', MI false I0 s ∧ st ≤ st' ∧ st' ≤ nk ∧ (∀ j, st ≤ j → j < st' → (I 76 (12 * (4 * d + t) + j)).toInt < v.toInt) ∧ (st' < nk → v.toInt ≤ (I 76 (12 * (4 * d + t) + st')).toInt) ∧ (∀ k, k ≠ 62 → k ≠ 78 → s k = I k) ∧ (∀ j, j ≠ 27 → s 62 j = I 62 j) ∧ s 62 27 = I 62 27 + 1 ∧ ∀ j, s 78 j = if j = 4 * d + t then nI st' else I 78 j from ⟨s1, hMs, h1, h2, h3, fun z => by omega, h4, h5, h6, h7⟩)
    · have c := mt (nI_leI (a := nk) (b := s1) (by omega) (by omega)).mpr c
      refine t_be (rI_n (by omega) (by omega)) ?_
      rw [v78, a12]
      refine t_be (rI_n (by omega) (by omega)) ?_
      rw [h4 76 (by omega) (by omega)]
      refine t_ite (fun c2 => ?_) (fun c2 => ?_)
      · have c2 := (iLE rfl rfl).mp c2
        exact t_ret (show ∃ st', MI false I0 s ∧ st ≤ st' ∧ st' ≤ nk ∧ (∀ j, st ≤ j → j < st' → (I 76 (12 * (4 * d + t) + j)).toInt < v.toInt) ∧ (st' < nk → v.toInt ≤ (I 76 (12 * (4 * d + t) + st')).toInt) ∧ (∀ k, k ≠ 62 → k ≠ 78 → s k = I k) ∧ (∀ j, j ≠ 27 → s 62 j = I 62 j) ∧ s 62 27 = I 62 27 + 1 ∧ ∀ j, s 78 j = if j = 4 * d + t then nI st' else I 78 j from ⟨s1, hMs, h1, h2, h3, fun z => c2, h4, h5, h6, h7⟩)
      · have c2 := mt (iLE (a := v) (b := I 76 (12 * (4 * d + t) + s1)) rfl rfl).mpr c2
        refine t_be (rI_n (by omega) (by omega)) ?_
        rw [v78, nI_1]
        refine t_be (wI_n (by omega) (by omega)) ?_
        refine t_nx ?_ ?_
        · refine ⟨s1 + 1, hMs.up (k := 78) rfl (lo := 0) (hi := 12) rfl (by rw [tnI (by omega)]; omega) (by rw [tnI (by omega)]; omega), by omega, by omega, fun j a b => ?_, fun k y1 y2 => ?_, fun j hj => ?_, ?_, fun j => ?_⟩
          · rcases (by omega : j < s1 ∨ j = s1) with z | z
            · exact h3 j a z
            · rw [z]; omega
          · rw [g_up_row y2]; exact h4 k y1 y2
          · rw [g_up_row (by omega)]; exact h5 j hj
          · rw [g_up_row (by omega)]; exact h6
          · rw [gu_in, h7]
            by_cases z : j = 4 * d + t
            · rw [if_pos z, if_pos z]
            · rw [if_neg z, if_neg z, if_neg z]
        · show 13 - (g_up s 78 (4 * d + t) (nI (s1 + 1)) 78 (4 * d + t)).toInt.toNat < 13 - (nI s1).toInt.toNat
          rw [g_up_self, nIt (by omega), nIt (by omega)]; omega
  obtain ⟨r, e, st', h0, h1, h2, h3, h4, h5, h6, h7, h8⟩ := key
  unfold fX9_leaps
  rw [pU_n, obs, a4, e, obs]
  unfold bX9_leaps_70
  rw [rI_n (by omega) (by omega), obs, rI_n (by omega) (by omega), obs, h8, if_pos rfl, h5 77 (by omega) (by omega), e7]
  by_cases z : nk ≤ st'
  · rw [if_pos ((nI_leI (by omega) (by omega)).mpr z)]
    exact ⟨st', 0, r, rfl, h0, h1, h2, h3, h4, Or.inr ⟨rfl, by omega⟩, h5, h6, h7, h8⟩
  · rw [if_neg (mt (nI_leI (a := nk) (b := st') (by omega) (by omega)).mp z)]
    exact ⟨st', 1, r, rfl, h0, h1, h2, h3, h4, Or.inl ⟨rfl, by omega⟩, h5, h6, h7, h8⟩
