/-! a head of letters -/
abbrev lt_ (c : Int32) : Prop := ¬ c < 97 ∧ ¬ 100 < c
def lv (c : Int32) : Nat := (c.toInt - 97).toNat
theorem lt_v {c : Int32} (h : lt_ c) : lv c ≤ 3 ∧ c = nI (97 + lv c) := by
  have h1 := mt (iLT (a := c) (b := 97) rfl (by decide : (97 : Int32).toInt = 97)).mpr h.1
  have h2 := mt (iLT (a := (100 : Int32)) (b := c) (by decide : (100 : Int32).toInt = 100) rfl).mpr h.2
  unfold lv
  refine ⟨by omega, ?_⟩
  rw [nI_self (x := c) (by omega)]
  congr 1
  rw [← nI_self (x := c) (by omega)]
  omega
theorem lt_ne {c : Int32} (h : lt_ c) : c ≠ -1 := fun e => by subst e; exact absurd h (by decide)
def pHead (w : Nat → Int32) (n : Nat) : Nat → List Nat → Nat → Option (List Nat × Nat)
  | 0, _, _ => none
  | k + 1, ls, p =>
    if lt_ (hr w n (sk w n p)) then
      if ls.length = 3 ∨ lv (hr w n (sk w n p)) ∈ ls then none
      else pHead w n k (ls ++ [lv (hr w n (sk w n p))]) (sk w n p + 1)
    else if ls = [] then none
    else if hr w n (sk w n p) = 58 then some (ls, sk w n p + 1) else none
theorem pHead_ok {w : Nat → Int32} {n : Nat} : ∀ {k : Nat} {ls : List Nat} {p : Nat} {r : List Nat × Nat}, ls.length ≤ 3 → pHead w n k ls p = some r → ls.length ≤ r.1.length ∧ 1 ≤ r.1.length ∧ r.1.length ≤ 3 ∧ r.2 ≤ n := by
  intro k
  induction k with
  | zero => intro ls p r _ h; cases h
  | succ k ih =>
    intro ls p r hl h
    unfold pHead at h
    by_cases c1 : lt_ (hr w n (sk w n p))
    · rw [if_pos c1] at h
      split at h
      · cases h
      · rename_i c2
        have q := ih (by rw [List.length_append]; simp only [List.length_cons, List.length_nil]; omega) h
        rw [List.length_append] at q
        omega
    · rw [if_neg c1] at h
      split at h
      · cases h
      · rename_i c2
        split at h
        · rename_i c3
          have l1 := hr_lt (w := w) (n := n) (p := sk w n p) (by rw [c3]; decide)
          have : ls.length ≠ 0 := fun e => c2 (List.eq_nil_of_length_eq_zero e)
          cases h
          exact ⟨Nat.le_refl _, by show 1 ≤ ls.length; omega, hl, by show _ + 1 ≤ n; omega⟩
        · cases h
theorem n_isLetter9 (c : Int32) : fX9_isLetter c = some (if lt_ c then 1 else 0) := by
  unfold fX9_isLetter lt_
  by_cases c1 : c < 97
  · rw [if_pos c1, if_neg (fun z => z.1 c1)]
  · rw [if_neg c1]
    by_cases c2 : 100 < c
    · rw [if_pos c2, if_neg (fun z => z.2 c2)]
    · rw [if_neg c2, if_pos ⟨c1, c2⟩]
theorem e_bad {I : gM} (h : NE I) : fX9_bad I = some I := by
  unfold fX9_bad
  rw [if_neg h, pU_n, obs, g_up_same rfl]
theorem e_must {I : gM} (h : NE I) (c : Int32) : fX9_must c I = some I := by
  unfold fX9_must
  rw [if_neg h]
  unfold bX9_must_29
  rw [e_bad h, obs]
theorem e_number {I : gM} (h : NE I) (c : Int32) : fX9_number c I = some (0, I) := by
  unfold fX9_number
  rw [if_neg h]
  unfold bX9_number_18
  rw [e_bad h, obs]
theorem hs_or : ∀ m, m < 16 → ∀ l, l < 4 → nI m ||| ((1 : Int32) <<< (nI l &&& 31)) = nI (m ||| 2 ^ l) ∧ m ||| 2 ^ l < 16 ∧ ∀ j, j < 4 → ((m ||| 2 ^ l).testBit j = true ↔ (m.testBit j = true ∨ j = l)) := by decide +kernel
theorem n_headGo {I : gM} {n t : Nat} (ht : t < 4) : ∀ (k : Nat) (ls : List Nat) (p s : Nat) (M : gM), ls.length ≤ 3 → ls.length + k = 4 → TP9 M n p → M 62 4 = -1 → M 63 = I 63 → s < 16 → (∀ j, j < 4 → (s.testBit j = true ↔ j ∈ ls)) → M 64 t = nI ls.length → (ls = [] → lt_ (hr (I 63) n (sk (I 63) n p))) →
    (∀ a, a ≠ t → M 64 a = I 64 a) → (∀ a, M 65 a = if 3 * t ≤ a ∧ a < 3 * t + ls.length then nI (ls.getD (a - 3 * t) 0) else I 65 a) →
    ∃ r, ((lX9_readHead_24 (nI t) (nI s, M)).bind fun w => bX9_readHead_121 w) = some r ∧
      ((pHead (I 63) n k ls p = none ∧ NE r) ∨ ∃ x, pHead (I 63) n k ls p = some x ∧ r 62 4 = -1 ∧ r 62 3 = nI x.2 ∧ (∀ a, r 64 a = if a = t then nI x.1.length else I 64 a) ∧ ∀ a, r 65 a = if 3 * t ≤ a ∧ a < 3 * t + x.1.length then nI (x.1.getD (a - 3 * t) 0) else I 65 a) := by
  intro k
  induction k with
  | zero =>
    intro ls p s M hl hk hT hw h63 hs16 hb h64 hne he64 h65
    omega
  | succ k ih =>
    intro ls p s M hl hk hT hw h63 hs16 hb h64 hne he64 h65
    have W : ∀ q, P9 M q 63 = I 63 := fun q => (P9_k (by decide)).trans h63
    have hs := sk_le (w := I 63) hT.2.2.2
    have hn := hT.2.1
    have ea := n_ahead hT
    rw [h63] at ea
    have eh := n_here (hT.at hs.2)
    rw [W] at eh
    unfold lX9_readHead_24 pHead
    generalize hq : sk (I 63) n p = q at *
    rw [itO_eq]; dsimp only
    rw [if_pos hw, ea, obs]; dsimp only
    rw [n_isLetter9, obs]
    by_cases c1 : lt_ (hr (I 63) n q)
    · have v1 := lt_v c1
      have l1 := hr_lt (lt_ne c1)
      rw [if_pos c1, if_pos c1, if_neg n10, eh, obs, rI_n (by omega) (by omega), obs, P9_k (by decide), h64]
      have bad : ∀ σ : Int32, ∃ r, ((((bX9_readHead_69 σ (P9 M q)).bind fun y => Sum.elim (fun s' => lX9_readHead_24 (nI t) s') (fun r => some r) y)).bind fun w => bX9_readHead_121 w) = some r ∧ NE r := by
        intro σ
        obtain ⟨r, er, hr⟩ := n_bad (hT.at hs.2)
        refine ⟨r, ?_, hr⟩
        unfold bX9_readHead_69 bX9_readHead_118
        rw [er, obs, obs]
        show ((lX9_readHead_24 (nI t) (σ, r)).bind _) = _
        unfold lX9_readHead_24
        rw [itO_eq]; dsimp only
        rw [if_neg hr, obs]
        show bX9_readHead_121 r = _
        unfold bX9_readHead_121
        rw [e_must hr, obs]
      by_cases c2 : ls.length = 3
      · rw [if_pos (by rw [c2]; rfl), if_pos (Or.inl c2)]
        obtain ⟨r, er, hr⟩ := bad (nI s)
        exact ⟨r, er, Or.inl ⟨rfl, hr⟩⟩
      · rw [if_neg (show ¬ nI ls.length = (3 : Int32) from fun e => c2 (nI_inj (b := 3) e (by omega) (by omega)))]
        have ec : hr (I 63) n q - 97 = nI (lv (hr (I 63) n q)) := by
          conv => lhs; rw [v1.2]
          rw [show (97 : Int32) = nI 97 from rfl, nI_sub (by omega)]
          congr 1; omega
        rw [ec]
        by_cases c3 : lv (hr (I 63) n q) ∈ ls
        · rw [n_has1 ((hs_nI hs16 (by omega)).mpr ((hb _ (by omega)).mpr c3)), obs, if_neg n10, if_pos (Or.inr c3)]
          obtain ⟨r, er, hr⟩ := bad (nI s)
          exact ⟨r, er, Or.inl ⟨rfl, hr⟩⟩
        · rw [n_has0 (fun z => c3 ((hb _ (by omega)).mp ((hs_nI hs16 (by omega)).mp z))), obs, if_pos rfl, if_neg (by intro z; rcases z with z | z; exact c2 z; exact c3 z)]
          obtain ⟨b1, b2, b3⟩ := hs_or s hs16 (lv (hr (I 63) n q)) (by omega)
          rw [obs, a3, wI_n (by omega) (by omega), obs, g_up_row (show 64 ≠ 65 by decide), P9_k (by decide), rI_n (by omega) (by omega), obs, h64, nI_1, wI_n (by omega) (by omega), obs, pU_n, obs]
          unfold bX9_readHead_118
          rw [obs, b1]
          show ∃ r, ((lX9_readHead_24 (nI t) (nI (s ||| 2 ^ lv (hr (I 63) n q)), _)).bind _) = _ ∧ _
          generalize hN : g_up (g_up (g_up (P9 M q) 65 (3 * t + ls.length) (nI (lv (hr (I 63) n q)))) 64 t (nI (ls.length + 1))) 62 3 _ = N
          have N3 : N 62 3 = nI (q + 1) := by
            rw [← hN, g_up_self, g_up_row (by decide), g_up_row (by decide), P9_3, nI_1]
          have Nj : ∀ j, j ≠ 3 → N 62 j = M 62 j := fun j hj => by
            rw [← hN, g_up_ne (Or.inr hj), g_up_row (by decide), g_up_row (by decide), P9_j hj]
          have N63 : N 63 = I 63 := by
            rw [← hN, g_up_row (by decide), g_up_row (by decide), g_up_row (by decide), W]
          have N64 : ∀ a, N 64 a = if a = t then nI (ls.length + 1) else M 64 a := fun a => by
            rw [← hN, g_up_row (by decide), gu_in, g_up_row (by decide), P9_k (by decide)]
          have N65 : ∀ a, N 65 a = if a = 3 * t + ls.length then nI (lv (hr (I 63) n q)) else M 65 a := fun a => by
            rw [← hN, g_up_row (by decide), g_up_row (by decide), gu_in, P9_k (by decide)]
          have el : (ls ++ [lv (hr (I 63) n q)]).length = ls.length + 1 := by rw [List.length_append]; rfl
          refine ih (ls ++ [lv (hr (I 63) n q)]) (q + 1) (s ||| 2 ^ lv (hr (I 63) n q)) N (by rw [el]; omega) (by rw [el]; omega) ⟨by rw [Nj 2 (by decide)]; exact hT.1, hT.2.1, N3, by omega⟩ (by rw [Nj 4 (by decide)]; exact hw) N63 b2 (fun j hj => ?_) (by rw [N64, if_pos rfl, el]) (fun e => absurd e (by simp)) (fun a ha => by rw [N64, if_neg ha]; exact he64 a ha) (fun a => ?_)
          · rw [b3 j hj, hb j hj, List.mem_append, List.mem_singleton]
          · rw [N65, el, h65]
            by_cases d1 : a = 3 * t + ls.length
            · rw [if_pos d1, if_pos (by omega), d1, Nat.add_sub_cancel_left, List.getD_eq_getElem?_getD, List.getElem?_append_right (Nat.le_refl _), Nat.sub_self]; rfl
            · rw [if_neg d1]
              by_cases d2 : 3 * t ≤ a ∧ a < 3 * t + ls.length
              · rw [if_pos d2, if_pos (by omega), List.getD_eq_getElem?_getD, List.getD_eq_getElem?_getD, List.getElem?_append_left (by omega)]
              · rw [if_neg d2, if_neg (by omega)]
    · rw [if_neg c1, if_neg c1, if_pos rfl, obs]
      have c2 : ¬ ls = [] := fun e => c1 (hne e)
      rw [if_neg c2]
      show ∃ r, bX9_readHead_121 (P9 M q) = some r ∧ _
      unfold bX9_readHead_121
      rcases n_must (hT.at hs.2) (by rw [P9_j (by decide)]; exact hw) 58 with ⟨q', e1, e2⟩ | ⟨e1, r, e2, hr⟩
      · rw [W] at e1
        unfold pMust at e1
        rw [← hq, sk_sk hT.2.2.2, hq] at e1
        split at e1
        · rename_i c3
          cases e1
          rw [e2, obs, P9_P9, if_pos c3]
          refine ⟨_, rfl, Or.inr ⟨_, rfl, by rw [P9_j (by decide)]; exact hw, P9_3, fun a => ?_, fun a => ?_⟩⟩
          · rw [P9_k (by decide)]
            by_cases d : a = t
            · rw [if_pos d, d, h64]
            · rw [if_neg d, he64 a d]
          · rw [P9_k (by decide)]; exact h65 a
        · cases e1
      · rw [W] at e1
        unfold pMust at e1
        rw [← hq, sk_sk hT.2.2.2, hq] at e1
        split at e1
        · cases e1
        · rename_i c3
          rw [e2, obs, if_neg c3]
          exact ⟨r, rfl, Or.inl ⟨rfl, hr⟩⟩
