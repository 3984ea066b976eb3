theorem n_readHead {I : gM} {n p t : Nat} (ht : t < 4) (hT : TP9 I n p) (hw : I 62 4 = -1) :
    ∃ r, fX9_readHead (nI t) I = some r ∧ ((pHead (I 63) n 4 [] p = none ∧ NE r) ∨ ∃ x, pHead (I 63) n 4 [] p = some x ∧ r 62 4 = -1 ∧ r 62 3 = nI x.2 ∧ (∀ a, r 64 a = if a = t then nI x.1.length else I 64 a) ∧ ∀ a, r 65 a = if 3 * t ≤ a ∧ a < 3 * t + x.1.length then nI (x.1.getD (a - 3 * t) 0) else I 65 a) := by
  have hs := sk_le (w := I 63) hT.2.2.2
  unfold fX9_readHead
  rw [wI_n (by omega) (by omega), obs]
  have hT1 : TP9 (g_up I 64 t 0) n p := ⟨by rw [g_up_row (by decide)]; exact hT.1, hT.2.1, by rw [g_up_row (by decide)]; exact hT.2.2.1, hT.2.2.2⟩
  have W1 : g_up I 64 t 0 63 = I 63 := g_up_row (by decide)
  rw [n_ahead hT1, obs, W1]
  dsimp only
  rw [n_isLetter9, obs]
  by_cases c1 : lt_ (hr (I 63) n (sk (I 63) n p))
  · rw [if_pos c1, if_neg n10]
    have W : P9 (g_up I 64 t 0) (sk (I 63) n p) 63 = I 63 := (P9_k (by decide)).trans W1
    obtain ⟨r, e, h⟩ := n_headGo (I := I) ht 4 [] (sk (I 63) n p) 0 (P9 (g_up I 64 t 0) (sk (I 63) n p)) (by decide) rfl (hT1.at hs.2) (by rw [P9_j (by decide), g_up_row (by decide)]; exact hw) W (by decide) (fun j _ => by simp) (by rw [P9_k (by decide), g_up_self]; rfl) (fun _ => by rw [sk_sk hT.2.2.2]; exact c1) (fun a ha => by rw [P9_k (by decide), g_up_ne (Or.inr ha)]) (fun a => by rw [P9_k (by decide), g_up_row (by decide), if_neg (by simp only [List.length_nil]; omega)])
    refine ⟨r, e, ?_⟩
    have es : pHead (I 63) n 4 [] (sk (I 63) n p) = pHead (I 63) n 4 [] p := by
      unfold pHead; rw [sk_sk hT.2.2.2]
    rw [es] at h
    exact h
  · rw [if_neg c1, if_pos rfl]
    obtain ⟨r, er, hr⟩ := n_bad (hT1.at (q := sk (I 63) n p) hs.2)
    rw [er, obs]
    unfold lX9_readHead_24
    rw [itO_eq]; dsimp only
    rw [if_neg hr, obs]
    show ∃ r', bX9_readHead_121 r = some r' ∧ _
    unfold bX9_readHead_121
    rw [e_must hr, obs]
    refine ⟨r, rfl, Or.inl ⟨?_, hr⟩⟩
    unfold pHead
    rw [if_neg c1, if_pos rfl]
/-! a row -/
def pRow (w : Nat → Int32) (n wd p : Nat) : Option (List Nat × Nat) :=
  (pNum w n 99 p).bind fun a => if wd ≤ 1 then some ([a.1], a.2) else
  (pMust w n 44 a.2).bind fun p2 => (pNum w n 99 p2).bind fun b => if wd ≤ 2 then some ([a.1, b.1], b.2) else
  (pMust w n 44 b.2).bind fun p3 => (pNum w n 99 p3).bind fun c => some ([a.1, b.1, c.1], c.2)
/-- a row's cell -/
def ce (r : List Nat) (c : Nat) : Int32 := if c < r.length then nI (r.getD c 0) else -1
theorem n_col9 {M : gM} {t wd b k : Nat} (ht : t < 4) (e : M 64 t = nI wd) (hw : wd ≤ 3) (hk : k < 3) (hb : b + k < 144) (h : wd ≤ k) : bX9_readRow_41 (nI t) (nI b) (nI k) M = some (.inl (nI (k + 1), g_up M 67 (b + k) (-1))) := by
  unfold bX9_readRow_41 bX9_readRow_68
  rw [rI_n (by omega) (by omega), obs, e, if_pos ((nI_leI (by omega) (by omega)).mpr h), nI_add, wI_n (by omega) (by omega), obs, nI_1]
theorem n_colE {M : gM} {t wd b k : Nat} (hM : NE M) (ht : t < 4) (e : M 64 t = nI wd) (hw : wd ≤ 3) (hk : k < 3) (hb : b + k < 144) : ∃ r, bX9_readRow_41 (nI t) (nI b) (nI k) M = some (.inl (nI (k + 1), r)) ∧ NE r ∧ r 64 = M 64 := by
  by_cases h : wd ≤ k
  · refine ⟨_, n_col9 ht e hw hk hb h, ?_, g_up_row (by decide)⟩
    show g_up M 67 (b + k) (-1) 62 4 ≠ -1
    rw [g_up_row (by decide)]; exact hM
  · unfold bX9_readRow_41 bX9_readRow_68
    rw [rI_n (by omega) (by omega), obs, e, if_neg (mt (nI_leI (by omega) (by omega)).mp h), e_number hM, obs]
    dsimp only
    rw [nI_add, wI_n (by omega) (by omega), obs, nI_1]
    refine ⟨_, rfl, ?_, g_up_row (by decide)⟩
    show g_up M 67 (b + k) 0 62 4 ≠ -1
    rw [g_up_row (by decide)]; exact hM
theorem n_colN {M : gM} {t wd b k n p : Nat} (hT : TP9 M n p) (hM : M 62 4 = -1) (ht : t < 4) (e : M 64 t = nI wd) (hw : wd ≤ 3) (hk : k < wd) (hb : b + k < 144) :
    (∃ v q, pNum (M 63) n 99 p = some (v, q) ∧ bX9_readRow_41 (nI t) (nI b) (nI k) M = some (.inl (nI (k + 1), g_up (P9 M q) 67 (b + k) (nI v)))) ∨ (pNum (M 63) n 99 p = none ∧ ∃ r, bX9_readRow_41 (nI t) (nI b) (nI k) M = some (.inl (nI (k + 1), r)) ∧ NE r ∧ r 64 = M 64) := by
  unfold bX9_readRow_41 bX9_readRow_68
  rw [rI_n (by omega) (by omega), obs, e, if_neg (mt (nI_leI (by omega) (by omega)).mp (by omega))]
  rcases n_number hT hM (hi := 99) (by omega) with ⟨v, q, e1, e2⟩ | ⟨e1, r, e2, hr⟩
  · refine Or.inl ⟨v, q, e1, ?_⟩
    rw [show (99 : Int32) = nI 99 from rfl, e2, obs]
    dsimp only
    rw [nI_add, wI_n (by omega) (by omega), obs, nI_1]
  · refine Or.inr ⟨e1, ?_⟩
    rw [show (99 : Int32) = nI 99 from rfl, e2, obs, nI_add, wI_n (by omega) (by omega), obs, nI_1]
    refine ⟨_, rfl, ?_, ?_⟩
    · show g_up r.2 67 (b + k) r.1 62 4 ≠ -1
      rw [g_up_row (by decide)]; exact hr
    · rw [g_up_row (by decide)]
      funext j
      exact xfX9_number _ _ e2 64 j (Or.inl (by decide)) (Or.inl (by decide))
theorem n_step9 {M : gM} {t wd b k : Nat} (hM : NE M) (ht : t < 4) (e : M 64 t = nI wd) (hw : wd ≤ 3) (hb : b + 2 < 144) : ∀ j, k + j = 3 → ∃ r, lX9_readRow_16 (nI t) (nI b) (nI k, M) = some r ∧ NE r := by
  intro j
  induction j generalizing k M with
  | zero =>
    intro hj
    unfold lX9_readRow_16
    rw [itO_eq]; dsimp only
    rw [show k = 3 by omega, if_pos (by decide), obs]
    exact ⟨M, rfl, hM⟩
  | succ j ih =>
    intro hj
    obtain ⟨r, e1, h1, h2⟩ := n_colE (b := b) (k := k) hM ht e hw (by omega) (by omega)
    unfold lX9_readRow_16
    rw [itO_eq]; dsimp only
    rw [L3, if_neg (mt (nI_leI (by omega) (by omega)).mp (by omega))]
    have fin : ∃ r, (((bX9_readRow_41 (nI t) (nI b) (nI k) M).bind fun y => Sum.elim (fun s' => lX9_readRow_16 (nI t) (nI b) s') (fun r => some r) y)) = some r ∧ NE r := by
      rw [e1, obs]
      exact ih h1 (by rw [h2]; exact e) (by omega)
    by_cases c : k ≤ 0
    · rw [L0, if_pos ((nI_leI (by omega) (by omega)).mpr c)]
      exact fin
    · rw [L0, if_neg (mt (nI_leI (by omega) (by omega)).mp c), rI_n (by omega) (by omega), obs, e]
      by_cases c2 : wd ≤ k
      · rw [if_pos ((nI_leI (by omega) (by omega)).mpr c2)]
        exact fin
      · rw [if_neg (mt (nI_leI (by omega) (by omega)).mp c2), e_must hM, obs]
        exact fin
