/-- a row being read: k columns are written -/
def RwS (I M : gM) (b k q : Nat) (row : List Nat) : Prop := M 62 4 = -1 ∧ M 62 3 = nI q ∧ (∀ j, j ≠ 3 → M 62 j = I 62 j) ∧ (∀ a, a ≠ 62 → a ≠ 67 → M a = I a) ∧ ∀ a, M 67 a = if b ≤ a ∧ a < b + k then ce row (a - b) else I 67 a
theorem RwS.mv {I M : gM} {b k q : Nat} {row : List Nat} (h : RwS I M b k q row) (q' : Nat) : RwS I (P9 M q') b k q' row :=
  ⟨by rw [P9_j (by decide)]; exact h.1, P9_3, fun j hj => by rw [P9_j hj]; exact h.2.2.1 j hj, fun a h1 h2 => by rw [P9_k h1]; exact h.2.2.2.1 a h1 h2, fun a => by rw [P9_k (by decide)]; exact h.2.2.2.2 a⟩
theorem RwS.wr {I M : gM} {b k q : Nat} {row row' : List Nat} (h : RwS I M b k q row) {v : Int32} (hp : ∀ c, c < k → ce row' c = ce row c) (hv : ce row' k = v) : RwS I (g_up M 67 (b + k) v) b (k + 1) q row' := by
  refine ⟨by rw [g_up_row (by decide)]; exact h.1, by rw [g_up_row (by decide)]; exact h.2.1, fun j hj => by rw [g_up_row (by decide)]; exact h.2.2.1 j hj, fun a h1 h2 => by rw [g_up_row h2]; exact h.2.2.2.1 a h1 h2, fun a => ?_⟩
  rw [gu_in, h.2.2.2.2]
  by_cases d1 : a = b + k
  · rw [if_pos d1, if_pos (by omega), d1, Nat.add_sub_cancel_left, hv]
  · rw [if_neg d1]
    by_cases d2 : b ≤ a ∧ a < b + k
    · rw [if_pos d2, if_pos (by omega), hp _ (by omega)]
    · rw [if_neg d2, if_neg (by omega)]
theorem RwS.tp {I M : gM} {b k q n p : Nat} {row : List Nat} (h : RwS I M b k q row) (hT : TP9 I n p) (hq : q ≤ n) : TP9 M n q := ⟨by rw [h.2.2.1 2 (by decide)]; exact hT.1, hT.2.1, h.2.1, hq⟩
theorem RwS.tape {I M : gM} {b k q : Nat} {row : List Nat} (h : RwS I M b k q row) : M 63 = I 63 := h.2.2.2.1 63 (by decide) (by decide)
theorem RwS.wide {I M : gM} {b k q : Nat} {row : List Nat} (h : RwS I M b k q row) : M 64 = I 64 := h.2.2.2.1 64 (by decide) (by decide)
/-- what follows a column -/
noncomputable def cKo (t b : Nat) : ((Int32 × gM) ⊕ gM) → Option gM := fun y => Sum.elim (fun s' => lX9_readRow_16 (nI t) (nI b) s') (fun r => some r) y
theorem st_0 {t b : Nat} {M : gM} : lX9_readRow_16 (nI t) (nI b) (nI 0, M) = (bX9_readRow_41 (nI t) (nI b) (nI 0) M).bind (cKo t b) := by
  conv => lhs; unfold lX9_readRow_16
  rw [itO_eq]; dsimp only
  rw [if_neg (by decide), if_pos (by decide)]
  rfl
theorem st_p {t b k wd : Nat} {M : gM} (ht : t < 4) (e : M 64 t = nI wd) (hw : wd ≤ 3) (h1 : 1 ≤ k) (h2 : k < 3) (h : wd ≤ k) : lX9_readRow_16 (nI t) (nI b) (nI k, M) = (bX9_readRow_41 (nI t) (nI b) (nI k) M).bind (cKo t b) := by
  conv => lhs; unfold lX9_readRow_16
  rw [itO_eq]; dsimp only
  rw [L3, if_neg (mt (nI_leI (by omega) (by omega)).mp (by omega)), L0, if_neg (mt (nI_leI (by omega) (by omega)).mp (by omega)), rI_n (by omega) (by omega), obs, e, if_pos ((nI_leI (by omega) (by omega)).mpr h)]
  rfl
theorem st_m {t b k wd : Nat} {M : gM} (ht : t < 4) (e : M 64 t = nI wd) (hw : wd ≤ 3) (h1 : 1 ≤ k) (h2 : k < wd) : lX9_readRow_16 (nI t) (nI b) (nI k, M) = (fX9_must 44 M).bind fun r6 => (bX9_readRow_41 (nI t) (nI b) (nI k) r6).bind (cKo t b) := by
  conv => lhs; unfold lX9_readRow_16
  rw [itO_eq]; dsimp only
  rw [L3, if_neg (mt (nI_leI (by omega) (by omega)).mp (by omega)), L0, if_neg (mt (nI_leI (by omega) (by omega)).mp (by omega)), rI_n (by omega) (by omega), obs, e, if_neg (mt (nI_leI (by omega) (by omega)).mp (by omega))]
  cases fX9_must 44 M <;> rfl
theorem st_3 {t b : Nat} {M : gM} : lX9_readRow_16 (nI t) (nI b) (nI 3, M) = some M := by
  unfold lX9_readRow_16
  rw [itO_eq]; dsimp only
  rw [if_pos (by decide), obs]; rfl
theorem ce_1 {x c : Nat} : ce [x] c = if c = 0 then nI x else -1 := by
  unfold ce
  by_cases h : c = 0
  · subst h; rfl
  · rw [if_neg h, if_neg (by simp only [List.length_cons, List.length_nil]; omega)]
/-- one column: a number is read, or it is wrong to the end -/
theorem n_numCol {I M : gM} {t wd b k q n p : Nat} {row : List Nat} (hT : TP9 I n p) (hS : RwS I M b k q row) (hq : q ≤ n) (ht : t < 4) (e : I 64 t = nI wd) (hw : wd ≤ 3) (hk : k < wd) (hb : b + 2 < 144) (hl : row.length = k) :
    (∃ v q', pNum (I 63) n 99 q = some (v, q') ∧ q' ≤ n ∧ ∃ M', RwS I M' b (k + 1) q' (row ++ [v]) ∧ (bX9_readRow_41 (nI t) (nI b) (nI k) M).bind (cKo t b) = lX9_readRow_16 (nI t) (nI b) (nI (k + 1), M')) ∨
    (pNum (I 63) n 99 q = none ∧ ∃ r, (bX9_readRow_41 (nI t) (nI b) (nI k) M).bind (cKo t b) = some r ∧ NE r) := by
  have e' : M 64 t = nI wd := by rw [hS.wide]; exact e
  rcases n_colN (b := b) (hS.tp hT hq) hS.1 ht e' hw hk (by omega) with ⟨v, q', e1, e2⟩ | ⟨e1, r, e2, h1, h2⟩
  · rw [hS.tape] at e1
    refine Or.inl ⟨v, q', e1, (pNum_le e1).2.2, _, (hS.mv q').wr (row' := row ++ [v]) (v := nI v) (fun c hc => ?_) ?_, ?_⟩
    · unfold ce
      rw [if_pos (by rw [List.length_append]; omega), if_pos (by omega), List.getD_eq_getElem?_getD, List.getD_eq_getElem?_getD, List.getElem?_append_left (by omega)]
    · unfold ce
      rw [if_pos (by rw [List.length_append]; simp only [List.length_cons, List.length_nil]; omega), List.getD_eq_getElem?_getD, List.getElem?_append_right (by omega), hl, Nat.sub_self]; rfl
    · rw [e2, obs]; rfl
  · rw [hS.tape] at e1
    refine Or.inr ⟨e1, ?_⟩
    obtain ⟨r', e3, h3⟩ := n_step9 (b := b) (k := k + 1) h1 ht (by rw [h2]; exact e') hw hb (2 - k) (by omega)
    refine ⟨r', ?_, h3⟩
    rw [e2, obs]
    exact e3
theorem n_negCol {I M : gM} {t wd b k q : Nat} {row : List Nat} (hS : RwS I M b k q row) (ht : t < 4) (e : I 64 t = nI wd) (hw : wd ≤ 3) (h1 : 1 ≤ k) (hk : k < 3) (h : wd ≤ k) (hb : b + 2 < 144) (hl : row.length ≤ k) :
    ∃ M', RwS I M' b (k + 1) q row ∧ lX9_readRow_16 (nI t) (nI b) (nI k, M) = lX9_readRow_16 (nI t) (nI b) (nI (k + 1), M') := by
  have e' : M 64 t = nI wd := by rw [hS.wide]; exact e
  refine ⟨_, hS.wr (row' := row) (v := -1) (fun _ _ => rfl) ?_, ?_⟩
  · unfold ce
    rw [if_neg (by omega)]
  · rw [st_p ht e' hw h1 hk h, n_col9 ht e' hw hk (by omega) h, obs]; rfl
/-- a comma and a number -/
theorem n_nextCol {I M : gM} {t wd b k q n p : Nat} {row : List Nat} (hT : TP9 I n p) (hS : RwS I M b k q row) (hq : q ≤ n) (ht : t < 4) (e : I 64 t = nI wd) (hw : wd ≤ 3) (h1 : 1 ≤ k) (hk : k < wd) (hb : b + 2 < 144) (hl : row.length = k) :
    (∃ p2 v q', pMust (I 63) n 44 q = some p2 ∧ pNum (I 63) n 99 p2 = some (v, q') ∧ q' ≤ n ∧ ∃ M', RwS I M' b (k + 1) q' (row ++ [v]) ∧ lX9_readRow_16 (nI t) (nI b) (nI k, M) = lX9_readRow_16 (nI t) (nI b) (nI (k + 1), M')) ∨
    (((pMust (I 63) n 44 q).bind fun p2 => pNum (I 63) n 99 p2) = none ∧ ∃ r, lX9_readRow_16 (nI t) (nI b) (nI k, M) = some r ∧ NE r) := by
  have e' : M 64 t = nI wd := by rw [hS.wide]; exact e
  rw [st_m ht e' hw h1 hk]
  rcases n_must (hS.tp hT hq) hS.1 44 with ⟨p2, e1, e2⟩ | ⟨e1, r, e2, h2⟩
  · rw [hS.tape] at e1
    have l2 := pMust_le (by decide) e1
    rw [e2, obs, e1, obs]
    rcases n_numCol hT (hS.mv p2) l2 ht e hw hk hb hl with ⟨v, q', e3, h3, M', h4, e4⟩ | ⟨e3, r, e4, h4⟩
    · exact Or.inl ⟨p2, v, q', rfl, e3, h3, M', h4, e4⟩
    · exact Or.inr ⟨e3, r, e4, h4⟩
  · rw [hS.tape] at e1
    rw [e2, obs, e1]
    refine Or.inr ⟨rfl, ?_⟩
    have h6 : r 64 = M 64 := funext fun j => xfX9_must _ _ e2 64 j (Or.inl (by decide)) (Or.inl (by decide))
    obtain ⟨r1, e3, h3, h4⟩ := n_colE (b := b) (k := k) h2 ht (by rw [h6]; exact e') hw (by omega) (by omega)
    rw [e3, obs]
    exact n_step9 (b := b) (k := k + 1) h3 ht (by rw [h4, h6]; exact e') hw hb (2 - k) (by omega)
theorem n_row16 {I : gM} {n p t wd b : Nat} (ht : t < 4) (hT : TP9 I n p) (hw : I 62 4 = -1) (e : I 64 t = nI wd) (h1 : 1 ≤ wd) (h3 : wd ≤ 3) (hb : b + 2 < 144) :
    ∃ r, lX9_readRow_16 (nI t) (nI b) (nI 0, I) = some r ∧ ((pRow (I 63) n wd p = none ∧ NE r) ∨ ∃ x, pRow (I 63) n wd p = some x ∧ x.2 ≤ n ∧ x.1.length = wd ∧ (∀ c, c < wd → x.1.getD c 0 ≤ 99) ∧ RwS I r b 3 x.2 x.1) := by
  have hS : RwS I I b 0 p [] := ⟨hw, hT.2.2.1, fun _ _ => rfl, fun _ _ _ => rfl, fun a => by rw [if_neg (by omega)]⟩
  rw [st_0]
  unfold pRow
  rcases (n_numCol (row := []) hT hS hT.2.2.2 ht e h3 (by omega) hb rfl).symm with ⟨e1, r, g1, hr⟩ | ⟨x, q1, e1, l1, M1, S1, g1⟩
  · rw [e1]; exact ⟨r, g1, Or.inl ⟨rfl, hr⟩⟩
  rw [e1, obs, g1]
  dsimp only
  have x99 := (pNum_le e1).2.1
  by_cases c1 : wd ≤ 1
  · rw [if_pos c1]
    obtain ⟨M2, S2, g2⟩ := n_negCol S1 ht e h3 (by omega) (by omega) c1 hb (by simp)
    obtain ⟨M3, S3, g3⟩ := n_negCol S2 ht e h3 (by omega) (by omega) (by omega) hb (by simp)
    rw [g2, g3, st_3]
    refine ⟨M3, rfl, Or.inr ⟨_, rfl, l1, ?_, fun c hc => ?_, S3⟩⟩
    · show 1 = wd; omega
    · have : c = 0 := by omega
      subst this; exact x99
  rw [if_neg c1]
  rcases (n_nextCol hT S1 l1 ht e h3 (by omega) (by omega) hb rfl).symm with ⟨e2, r, g2, hr⟩ | ⟨p2, y, q2, em, e2, l2, M2, S2, g2⟩
  · refine ⟨r, g2, Or.inl ⟨?_, hr⟩⟩
    cases em : pMust (I 63) n 44 q1 with
    | none => rfl
    | some p2 => rw [em, obs] at e2; rw [obs, e2]; rfl
  rw [em, obs, e2, obs, g2]
  dsimp only
  have y99 := (pNum_le e2).2.1
  by_cases c2 : wd ≤ 2
  · rw [if_pos c2]
    obtain ⟨M3, S3, g3⟩ := n_negCol S2 ht e h3 (by omega) (by omega) (by omega) hb (by simp)
    rw [g3, st_3]
    refine ⟨M3, rfl, Or.inr ⟨_, rfl, l2, ?_, fun c hc => ?_, S3⟩⟩
    · show 2 = wd; omega
    · rcases (show c = 0 ∨ c = 1 by omega) with rfl | rfl
      · exact x99
      · exact y99
  rw [if_neg c2]
  rcases (n_nextCol hT S2 l2 ht e h3 (by omega) (by omega) hb rfl).symm with ⟨e3, r, g3, hr⟩ | ⟨p3, z, q3, em, e3, l3, M3, S3, g3⟩
  · refine ⟨r, g3, Or.inl ⟨?_, hr⟩⟩
    cases em : pMust (I 63) n 44 q2 with
    | none => rfl
    | some p2 => rw [em, obs] at e3; rw [obs, e3]; rfl
  rw [em, obs, e3, obs, g3, st_3]
  have z99 := (pNum_le e3).2.1
  refine ⟨M3, rfl, Or.inr ⟨_, rfl, l3, ?_, fun c hc => ?_, S3⟩⟩
  · show 3 = wd; omega
  · rcases (show c = 0 ∨ c = 1 ∨ c = 2 by omega) with rfl | rfl | rfl
    · exact x99
    · exact y99
    · exact z99
