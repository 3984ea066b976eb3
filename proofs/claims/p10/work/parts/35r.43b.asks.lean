/-! what is asked of the join: both hold the same one -/
theorem InvB.tab {I : gM} (h : InvB I) : ∃ A, WF A ∧ CT I 3 A ∧ RT I (I 70) A := by
  obtain ⟨_, _, _, _, S, m, nx, hR⟩ := h.1
  exact ⟨S m, hR.2.1 m (Nat.le_refl _), hR.2.2.1.1, hR.2.2.1.2.1⟩
theorem InvB.mi {I : gM} (h : InvB I) : MI false I I := h.1.1.re
theorem it_two {σ τ ρ ρ' : Type} {f : σ → Option (σ ⊕ ρ)} {g : τ → Option (τ ⊕ ρ')} (R : σ → τ → Prop) (Q : ρ → ρ' → Prop) (h : ∀ s t, R s t → ∀ y, f s = some y → ∃ z, g t = some z ∧ ((∃ s' t', y = .inl s' ∧ z = .inl t' ∧ R s' t') ∨ ∃ r r', y = .inr r ∧ z = .inr r' ∧ Q r r')) {s : σ} {t : τ} (h0 : R s t) {r : ρ} (e : itO f s = some r) : ∃ r', itO g t = some r' ∧ Q r r' := by
  have key : ∀ s, itO f s = some r → ∀ t, R s t → ∃ r', itO g t = some r' ∧ Q r r' := by
    refine itO_ind (P := fun s => ∀ t, R s t → ∃ r', itO g t = some r' ∧ Q r r') (fun s y e hl hr t ht => ?_)
    obtain ⟨z, ez, q⟩ := h s t ht y e
    rcases q with ⟨s', t', rfl, rfl, q⟩ | ⟨r1, r', rfl, rfl, q⟩
    · rw [it_l ez]; exact hl s' rfl t' q
    · have := hr r1 rfl
      subst this
      exact ⟨r', it_r ez, q⟩
  exact key s e t h0
theorem nn_of {v : Int32} (h : ¬ v < 0) : 0 ≤ v.toInt := by
  rw [Int32.lt_iff_toInt_lt] at h
  rw [show (0 : Int32).toInt = 0 by decide] at h
  omega
theorem fl4_at : ∀ o, o < 24 → ∀ am, am < 16 → ∀ l, l < 4 → am.testBit l = true → ∃ e, e < 4 ∧ (e < (fl4 o am).length ∧ (fl4 o am).getD e 0 = l) := by decide +kernel
theorem CT.n0 {I : gM} {k : Nat} {A : aT} (hW : WF A) (hC : CT I k A) : I k 0 = 0 ↔ A.1.length = 0 := by
  rw [hC.1]
  have := hW.1
  exact ⟨fun q => nI_inj (b := 0) q (by omega) (by omega), fun q => by rw [q]; rfl⟩
theorem c_isAsked {I : gM} {A : aT} (hW : WF A) (hC : CT I 3 A) (v : Int32) : (∃ l, l < 4 ∧ v = nI l ∧ (asA A).testBit l = true ∧ fX8_isAsked v I = some 1) ∨ ((∀ l, l < 4 → v = nI l → ¬ (asA A).testBit l = true) ∧ fX8_isAsked v I = some 0) := by
  unfold fX8_isAsked
  by_cases c0 : v < 0
  · rw [if_pos c0]
    refine Or.inr ⟨fun l hl e => ?_, rfl⟩
    subst e
    exact absurd ((nI_ltI (b := 0) (by omega) (by omega)).mp c0) (by omega)
  · rw [if_neg c0]
    have p := nn_of c0
    obtain ⟨l, rfl, hl31⟩ : ∃ l, v = nI l ∧ l < 2 ^ 31 := ⟨_, nI_self p, by have := v.toInt_lt; omega⟩
    rw [show (4 : Int32) = nI 4 from rfl]
    by_cases c4 : nI 4 ≤ nI l
    · rw [if_pos c4]
      have := (nI_leI (by omega) (by omega)).mp c4
      exact Or.inr ⟨fun l' hl e => absurd (nI_inj e (by omega) (by omega)) (by omega), rfl⟩
    · have := mt (nI_leI (by omega) (by omega)).mpr c4
      rw [if_neg c4, c_asked hW hC, obs]
      have q := hs0_bit _ (asA_lt hW) l (by omega)
      by_cases b : (asA A).testBit l = true
      · rw [if_neg (fun z => q.mp z b)]
        exact Or.inl ⟨l, by omega, rfl, b, rfl⟩
      · rw [if_pos (q.mpr b)]
        exact Or.inr ⟨fun l' hl e => by rw [← nI_inj e (by omega) (by omega)]; exact b, rfl⟩
theorem n_isAskedK {R0 R : gM} {A : aT} (hM : MI false R0 R) (hW : WF A) (hR : RT R (R 70) A) (v : Int32) : (∃ l, l < 4 ∧ v = nI l ∧ (asA A).testBit l = true ∧ 0 < A.1.length ∧ fX9_isAsked v R = some 1) ∨ ((∀ l, l < 4 → v = nI l → ¬ (asA A).testBit l = true) ∧ fX9_isAsked v R = some 0) := by
  obtain ⟨am, a1, a2, a3⟩ := n_asked hM hW.1 hR.1
  have e := am_asA hM hW hR hR.1 hW.1 a1 a3
  subst e
  rcases n_isAsked hM hW.1 hR.1 v with ⟨l, h1, h2, h3, h4, h5⟩ | ⟨h1, h2⟩
  · exact Or.inl ⟨l, h1, h2, (a3 l h1).mpr h3, h4, h5⟩
  · exact Or.inr ⟨fun l hl e q => h1 l hl e ((a3 l hl).mp q), h2⟩
/-- both are asked of a letter that is asked, or both are not -/
theorem two_asked {I R0 R : gM} {A : aT} (hW : WF A) (hC : CT I 3 A) (hM : MI false R0 R) (hR : RT R (R 70) A) (v : Int32) : (∃ l, l < 4 ∧ v = nI l ∧ (asA A).testBit l = true ∧ 0 < A.1.length ∧ fX8_isAsked v I = some 1 ∧ fX9_isAsked v R = some 1) ∨ (fX8_isAsked v I = some 0 ∧ fX9_isAsked v R = some 0) := by
  rcases c_isAsked hW hC v with ⟨l, h1, h2, h3, h4⟩ | ⟨h1, h2⟩
  · rcases n_isAskedK hM hW hR v with ⟨l', g1, g2, g3, g4, g5⟩ | ⟨g1, g2⟩
    · exact Or.inl ⟨l, h1, h2, h3, g4, h4, g5⟩
    · exact absurd h3 (g1 l h1 h2)
  · rcases n_isAskedK hM hW hR v with ⟨l', g1, g2, g3, g4, g5⟩ | ⟨g1, g2⟩
    · exact absurd g3 (h1 l' g1 g2)
    · exact Or.inr ⟨h2, g2⟩
/-- the class's join now beside the reference's join of the same tables -/
theorem cur_two {I R R0 : gM} {A : aT} (h : InvB I) (hW : WF A) (hn : 0 < A.1.length) (hC : CT I 3 A) (hM : MI false R0 R) (hR : RT R (R 70) A) : ∃ R' J, fX9_joinsNow R = some R' ∧ OUT 18 (fl4 A.2.2 (asA A)) I R' J ∧ J ≤ 20736 ∧ Sc I 18 (fl4 A.2.2 (asA A)) ∧ Sq R' (fl4 A.2.2 (asA A)) ∧ 0 < (fl4 A.2.2 (asA A)).length ∧ MI false R0 R' ∧ GJ9 R' ∧ (∀ k, k ≠ 62 → k ≠ 74 → k ≠ 75 → k ≠ 76 → k ≠ 77 → k ≠ 78 → k ≠ 79 → k ≠ 80 → R' k = R k) ∧ ∀ j, j ≠ 19 → j ≠ 26 → j ≠ 27 → R' 62 j = R 62 j := by
  have n0 : I 3 0 ≠ 0 := fun z => by have := (hC.n0 hW).mp z; omega
  obtain ⟨I8, M', a1, a2, a3, a4⟩ := (h.2.1.2.2 n0).1
  have hC8 : CT I8 3 A := hC.cong (fun j _ => by rw [a1 3 (by omega)]) (a1 4 (by omega)) (a1 5 (by omega)) (a1 6 (by omega)) (a1 7 (by omega))
  obtain ⟨r, er, _, Mr, Gr, f1, f2⟩ := n_rowsNow hM
  obtain ⟨M2, R', J, g1, g2, o, g4, g5, g6, g7, _⟩ := find_two (I0 := I) (k := 18) (k1 := 3) (by omega) hM hW hn hC8 hR a2 hW.2.2.2.1
  rw [hC.2.2.1, g1] at a3
  obtain rfl := Option.some.inj a3
  have er' := er
  unfold fX9_joinsNow at er'
  rw [show (1 : Int32) = nI 1 from rfl, rI_n (by omega) (by omega), obs, hR.2.2.1, g2, obs] at er'
  obtain rfl := Option.some.inj er'
  refine ⟨R', J, er, ⟨by rw [a4 18 (by omega)]; exact o.1, o.2.1, by rw [a4 18 (by omega)]; exact o.2.2.1, fun e he => by rw [a4 (18 + 1) (by omega)]; exact o.2.2.2.1 e he, fun j hj => by rw [a4 (18 + 3) (by omega)]; exact o.2.2.2.2 j hj⟩, g4, ⟨by rw [a4 18 (by omega)]; exact g5.1, fun e he => by rw [a4 (18 + 2) (by omega)]; exact g5.2 e he⟩, g6, g7, Mr, Gr, f1, f2⟩
theorem d4_v {P l : Nat} (hP : P < 268435456) (hl : l < 4) : (nI P >>> (((21 : Int32) - ((7 : Int32) * nI l)) &&& 31)) &&& 127 = nI (d4 l P) := by
  rcases (by omega : l = 0 ∨ l = 1 ∨ l = 2 ∨ l = 3) with rfl | rfl | rfl | rfl
  · rw [show (((21 : Int32) - ((7 : Int32) * nI 0)) &&& 31) = 21 by decide +kernel, pk_shrN (by omega) 21 21 (by decide), pk_andN (by omega) 7 (by decide), d4_0]
  · rw [show (((21 : Int32) - ((7 : Int32) * nI 1)) &&& 31) = 14 by decide +kernel, pk_shrN (by omega) 14 14 (by decide), pk_andN (by omega) 7 (by decide), d4_1]
  · rw [show (((21 : Int32) - ((7 : Int32) * nI 2)) &&& 31) = 7 by decide +kernel, pk_shrN (by omega) 7 7 (by decide), pk_andN (by omega) 7 (by decide), d4_2]
  · rw [show (((21 : Int32) - ((7 : Int32) * nI 3)) &&& 31) = 0 by decide +kernel, pk_shrN (by omega) 0 0 (by decide), pk_andN (by omega) 7 (by decide), d4_3]
/-- the number of a letter in a row of the class's join at k -/
def rdg (M : gM) (k j l : Nat) : Nat := d4 l (kn (M (k + 3) j))
theorem rdg_lt (M : gM) (k j l : Nat) : rdg M k j l < 128 := Nat.mod_lt _ (by decide)
theorem OUT.dg {k : Nat} {ls : List Nat} {M I : gM} {J : Nat} (o : OUT k ls M I J) {j : Nat} (hj : j < J) : M (k + 3) j = nI (kn (M (k + 3) j)) ∧ kn (M (k + 3) j) < 268435456 ∧ ∀ e, e < ls.length → I 80 (4 * j + ls.getD e 0) = nI (rdg M k j (ls.getD e 0)) := by
  obtain ⟨P, h1, h2, h3⟩ := o.2.2.2.2 j hj
  have e : kn (M (k + 3) j) = P := by
    unfold kn
    rw [h2, nIt (by omega)]
  unfold rdg
  rw [e]
  exact ⟨h2, h1, h3⟩
theorem c_numberAt {k : Nat} {ls : List Nat} {M I : gM} {J : Nat} (o : OUT k ls M I J) (hJ : J ≤ 20736) {j l : Nat} (hj : j < J) (hl : l < 4) : fX1_numberAt k (nI j) (nI l) M = some (nI (rdg M k j l)) := by
  have := o.dg hj
  unfold fX1_numberAt fX1_rowAt
  rw [if_neg (show ¬ nI j < 0 from fun z => absurd ((nI_ltI (b := 0) (by omega) (by omega)).mp z) (by omega)), o.1, if_neg (show ¬ nI J ≤ nI j from fun z => absurd ((nI_leI (by omega) (by omega)).mp z) (by omega)), rI_n (by omega) (by omega), obs, obs, this.1, d4_v this.2.1 hl]
  rfl
theorem n_number80 {R : gM} {j l : Nat} (hj : j < 20736) (hl : l < 4) : fX9_numberOf (nI j) (nI l) R = some (R 80 (4 * j + l)) := by
  unfold fX9_numberOf
  rw [show (4 : Int32) = nI 4 from rfl, nI_mul, nI_add, rI_n (by omega) (by omega), obs]
theorem eq_rows {I : gM} (h : InvB I) {a : Int32} {b : Int32 × gM} (e1 : fX8_rows I = some a) (e2 : fX9_rows I = some b) : a = b.1 := by
  obtain ⟨A, hW, hC, hR⟩ := h.tab
  unfold fX8_rows at e1
  unfold fX9_rows at e2
  rw [n_areTables hW.1 hR.1, obs] at e2
  by_cases n : A.1.length = 0
  · rw [if_pos ((hC.n0 hW).mpr n)] at e1
    rw [if_pos n, if_pos rfl] at e2
    cases e1; cases e2; rfl
  · rw [if_neg (mt (hC.n0 hW).mp n)] at e1
    rw [if_neg n, if_neg (by decide)] at e2
    obtain ⟨R', J, ej, o, _⟩ := cur_two h hW (by omega) hC h.mi hR
    unfold fX9_rowsNow at e2
    rw [ej, obs, obs] at e2
    cases e1; cases e2
    exact o.1.trans o.2.1.symm
theorem eq_leaps {I : gM} (h : InvB I) {a : Int32} {b : Int32 × gM} (e1 : fX8_leaps I = some a) (e2 : fX9_leaps_ I = some b) : a = b.1 := by
  obtain ⟨A, hW, hC, hR⟩ := h.tab
  unfold fX8_leaps at e1
  unfold fX9_leaps_ at e2
  rw [n_areTables hW.1 hR.1, obs] at e2
  by_cases n : A.1.length = 0
  · rw [if_pos ((hC.n0 hW).mpr n)] at e1
    rw [if_pos n, if_pos rfl] at e2
    cases e1; cases e2; rfl
  · rw [if_neg (mt (hC.n0 hW).mp n)] at e1
    rw [if_neg n, if_neg (by decide)] at e2
    obtain ⟨R', J, ej, o, _⟩ := cur_two h hW (by omega) hC h.mi hR
    rw [ej, obs] at e2
    cases e1; cases e2
    exact o.2.2.1
theorem eq_beginnings {I : gM} (h : InvB I) {v : Int32} {a : Int32} {b : Int32 × gM} (e1 : fX8_beginnings v I = some a) (e2 : fX9_beginnings v I = some b) : a = b.1 := by
  obtain ⟨A, hW, hC, hR⟩ := h.tab
  unfold fX8_beginnings at e1
  unfold fX9_beginnings at e2
  rw [n_areTables hW.1 hR.1, obs] at e2
  by_cases n : A.1.length = 0
  · rw [if_pos ((hC.n0 hW).mpr n)] at e1
    rw [if_pos n, if_pos rfl] at e2
    cases e1; cases e2; rfl
  · rw [if_neg (mt (hC.n0 hW).mp n)] at e1
    rw [if_neg n, if_neg (by decide)] at e2
    obtain ⟨R', J, ej, o, hJ, hS, hQ, hl, _⟩ := cur_two h hW (by omega) hC h.mi hR
    have l4 : (fl4 A.2.2 (asA A)).length ≤ 4 := (okS_fl4 hW.2.2.2.1 (asA_lt hW)).1
    by_cases c1 : v < 1
    · rw [if_pos c1] at e1
      have : ¬ (1 : Int32) ≤ v := fun z => by rw [Int32.le_iff_toInt_le] at z; rw [Int32.lt_iff_toInt_lt] at c1; omega
      rw [if_neg this] at e2
      cases e1; cases e2; rfl
    · have d1 : (1 : Int32) ≤ v := by rw [Int32.le_iff_toInt_le]; rw [Int32.lt_iff_toInt_lt] at c1; omega
      rw [if_neg c1] at e1
      rw [if_pos d1, ej, obs] at e2
      obtain ⟨l, rfl, hl31⟩ : ∃ l, v = nI l ∧ l < 2 ^ 31 := ⟨_, nI_self (by have := Int32.le_iff_toInt_le.mp d1; rw [show (1 : Int32).toInt = 1 by decide] at this; omega), by have := v.toInt_lt; omega⟩
      have l1 : 1 ≤ l := (nI_leI (a := 1) (by omega) (by omega)).mp d1
      rw [hS.1] at e1
      rw [hQ.1] at e2
      by_cases c2 : nI l ≤ nI (fl4 A.2.2 (asA A)).length
      · have c3 := (nI_leI (by omega) (by omega)).mp c2
        rw [if_pos c2, nI_s1 (by omega), rI_n (by omega) (by omega), obs] at e1
        rw [if_neg (show ¬ nI (fl4 A.2.2 (asA A)).length < nI l from fun z => absurd ((nI_ltI (by omega) (by omega)).mp z) (by omega)), rI_n (by omega) (by omega), obs] at e2
        cases e1; cases e2
        have := o.2.2.2.1 (l - 1) (by omega)
        rw [show l - 1 + 1 = l by omega] at this
        exact this
      · have c3 := mt (nI_leI (by omega) (by omega)).mpr c2
        rw [if_neg c2] at e1
        rw [if_pos (show nI (fl4 A.2.2 (asA A)).length < nI l from (nI_ltI (by omega) (by omega)).mpr (by omega))] at e2
        cases e1; cases e2; rfl
theorem eq_row {I : gM} (h : InvB I) {v w : Int32} {a : Int32} {b : Int32 × gM} (e1 : fX8_row v w I = some a) (e2 : fX9_row v w I = some b) : a = b.1 := by
  obtain ⟨A, hW, hC, hR⟩ := h.tab
  unfold fX8_row at e1
  unfold fX9_row at e2
  rcases two_asked hW hC h.mi hR w with ⟨l, hl, rfl, hb, n, z1, z2⟩ | ⟨z1, z2⟩
  · rw [z1, obs, if_neg (by decide)] at e1
    rw [z2, obs, if_neg (by decide)] at e2
    obtain ⟨R', J, ej, o, hJ, hS, hQ, _⟩ := cur_two h hW n hC h.mi hR
    by_cases c : v < 0
    · rw [if_pos c] at e1 e2
      cases e1; cases e2; rfl
    · rw [if_neg c] at e1 e2
      obtain ⟨j, rfl, hj31⟩ : ∃ l, v = nI l ∧ l < 2 ^ 31 := ⟨_, nI_self (nn_of c), by have := v.toInt_lt; omega⟩
      unfold fX9_rowsNow at e2
      rw [ej, obs, obs] at e2
      dsimp only at e2
      rw [o.1] at e1
      rw [o.2.1] at e2
      by_cases cj : j < J
      · rw [if_pos ((nI_ltI (by omega) (by omega)).mpr cj), c_numberAt o hJ cj hl, obs] at e1
        rw [if_neg (fun z => absurd ((nI_leI (by omega) (by omega)).mp z) (by omega)), n_number80 (by omega) hl, obs] at e2
        obtain ⟨e, _, e3, e4⟩ := fl4_at _ hW.2.2.2.1 _ (asA_lt hW) l hl hb
        have := (o.dg cj).2.2 e e3
        rw [e4] at this
        cases e1; cases e2
        exact this.symm
      · rw [if_neg (fun z => cj ((nI_ltI (by omega) (by omega)).mp z))] at e1
        rw [if_pos ((nI_leI (by omega) (by omega)).mpr (by omega))] at e2
        cases e1; cases e2; rfl
  · rw [z1, obs, if_pos rfl] at e1
    rw [z2, obs, if_pos rfl] at e2
    cases e1; cases e2; rfl
