theorem C8.hr {M : gM} {w : Nat → Int32} {n p : Nat} (h : C8 M w n p) (q : Nat) : hr w n q = -1 ∨ ∃ a, 1 ≤ a ∧ a ≤ 255 ∧ hr w n q = nI a := by
  by_cases c : n ≤ q
  · exact Or.inl (by unfold CLeapJoinLaw_law_r3989_430068.hr; rw [if_pos c])
  · obtain ⟨_, b2, b3⟩ := h.2.2.2.2 q (by omega)
    exact Or.inr ⟨(w q).toInt.toNat, by omega, by omega, by unfold CLeapJoinLaw_law_r3989_430068.hr; rw [if_neg c]; exact nI_self (by omega)⟩
theorem lt_t : ∀ a, a < 256 → (lt_ (nI a) ∨ (nI a - 97 < 0) ∨ (¬ (nI a - 97 < 0) ∧ (4 : Int32) ≤ nI a - 97)) := by decide +kernel
theorem lt_n {M : gM} {w : Nat → Int32} {n p : Nat} (h : C8 M w n p) {q : Nat} (hn : ¬ lt_ (hr w n q)) : (hr w n q - 97 < 0) ∨ (¬ (hr w n q - 97 < 0) ∧ (4 : Int32) ≤ hr w n q - 97) := by
  rcases h.hr q with e | ⟨a, _, h2, e⟩
  · rw [e]; exact Or.inl (by decide)
  · rw [e] at hn ⊢
    rcases lt_t a (by omega) with z | z
    · exact absurd z hn
    · exact z
/-- what stands behind the letters, as the grammar has it -/
def pTail (w : Nat → Int32) (n : Nat) (x : List Nat × Nat) : Option ((List Nat × List (List Nat)) × Nat) :=
  if dg (hr w n (sk w n x.2)) then (pRows w n x.1.length 12 [] (sk w n x.2)).bind fun y => some ((x.1, y.1), y.2) else some ((x.1, []), sk w n x.2)
noncomputable def kLe (t : Nat) : (gM ⊕ gM) → Option (Int32 × gM) := fun w5 => Sum.elim (fun w5_0 => bX6_isClause_66 8 (nI t) w5_0) (fun w5_1 => bX6_isClause_66 8 (nI t) w5_1) w5
theorem c_lettersGo {w : Nat → Int32} {n t : Nat} (ht : t < 4) : ∀ (k : Nat) (ls : List Nat) (p : Nat) (M : gM) (r : Int32 × gM), ls.length ≤ 3 → ls.length + k = 4 → C8 M w n p → LsC M t ls → (∀ x, x ∈ ls → x ≤ 3) →
    (lX6_isClause_13 8 (nI ls.length, M)).bind (kLe t) = some r → CR w n t ((pHead w n k ls p).bind (pTail w n)) r := by
  intro k
  induction k with
  | zero => intro ls p M r h1 h2; omega
  | succ k ih =>
    intro ls p M r h3 hk hT hL hls h
    have hs := sk_le (w := w) hT.2.2.2.1
    have hn := hT.2.1
    have fl : ∀ {sp : Option ((List Nat × List (List Nat)) × Nat)}, sp = none → r.1 = 0 → CR w n t sp r := fun h1 h2 => Or.inr ⟨h1, Or.inl h2⟩
    have l58 : lt_ (hr w n (sk w n p)) → hr w n (sk w n p) ≠ 58 := fun a b => by rw [b] at a; exact absurd a (by decide)
    unfold lX6_isClause_13 at h
    rw [itO_eq] at h; dsimp only at h
    unfold pHead
    by_cases c0 : ls.length = 3
    · rw [L3, if_pos ((nI_leI (by omega) (by omega)).mpr (by omega)), obs] at h
      change bX6_isClause_66 8 (nI t) M = some r at h
      rcases c_tail ht h3 hT hL.1 hL.2.1 h with ⟨z1, z2⟩ | ⟨z1, z2, z3⟩
      · refine fl ?_ z2
        by_cases c1 : lt_ (hr w n (sk w n p))
        · rw [if_pos c1, if_pos (Or.inl c0)]; rfl
        · rw [if_neg c1]
          by_cases c2 : ls = []
          · rw [if_pos c2]; rfl
          · rw [if_neg c2, if_neg (fun y => z1 ⟨c2, y⟩)]; rfl
      · rw [if_neg (fun y => l58 y z2), if_neg z1, if_pos z2, obs]
        exact z3
    · rw [L3, if_neg (mt (nI_leI (by omega) (by omega)).mp (by omega)), c_peek hT, obs] at h
      dsimp only at h
      have hT1 := hT.at (q := sk w n p) hs.2
      have hL1 : LsC (P6 M (sk w n p)) t ls := ⟨by rw [P6_k (by decide)]; exact hL.1, by rw [P6_k (by decide)]; exact hL.2.1, fun c hc => by rw [P6_k (by decide)]; exact hL.2.2 c hc⟩
      by_cases c1 : lt_ (hr w n (sk w n p))
      · have v1 := lt_v c1
        have l1 := hr_lt (lt_ne c1)
        have ec : hr w n (sk w n p) - 97 = nI (lv (hr w n (sk w n p))) := by
          conv => lhs; rw [v1.2]
          rw [show (97 : Int32) = nI 97 from rfl, nI_sub (by omega)]
          congr 1; omega
        rw [if_pos c1]
        rw [ec, L0, if_neg (mt (nI_ltI (by omega) (by omega)).mp (by omega)), L4, if_neg (mt (nI_leI (by omega) (by omega)).mp (by omega))] at h
        rcases c_addLetter ht h3 hL1 v1.1 hls with ⟨m1, e⟩ | ⟨m1, N, e, hN⟩
        · rw [e, obs] at h
          dsimp only at h
          rw [if_pos (show (0 : Int32) = nI 0 from rfl), obs] at h
          change bX6_isClause_66 8 (nI t) (P6 M (sk w n p)) = some r at h
          rw [if_pos m1]
          rcases c_tail ht h3 hT1 hL1.1 hL1.2.1 h with ⟨z1, z2⟩ | ⟨z1, z2, z3⟩
          · exact fl rfl z2
          · rw [sk_sk hT.2.2.2.1] at z2
            exact absurd z2 (l58 c1)
        · have f := xfX5_addLetter _ _ _ e
          have hTN : C8 N w n (sk w n p) := hT1.cong (fun j => f 1 j (by decide) (by decide)) (fun j => f 2 j (by decide) (by decide))
          rw [e, obs] at h
          dsimp only at h
          rw [if_neg (show ¬ (1 : Int32) = nI 0 from n10), pU_n, obs, obs, hTN.2.2.1, nI_1] at h
          rw [if_neg m1]
          have el : (ls ++ [lv (hr w n (sk w n p))]).length = ls.length + 1 := by rw [List.length_append]; rfl
          refine ih (ls ++ [lv (hr w n (sk w n p))]) (sk w n p + 1) (P6 N (sk w n p + 1)) r (by rw [el]; omega) (by rw [el]; omega) (hTN.at (by omega)) ⟨?_, ?_, fun c hc => ?_⟩ (fun x hx => ?_) ?_
          · rw [P6_k (by decide)]; exact hN.1
          · rw [P6_k (by decide)]; exact hN.2.1
          · rw [P6_k (by decide)]; exact hN.2.2 c hc
          · rcases List.mem_append.mp hx with z | z
            · exact hls x z
            · rw [List.mem_singleton.mp z]; exact v1.1
          · rw [el]
            rw [nI_1] at h
            exact h
      · rw [if_neg c1]
        have h : bX6_isClause_66 8 (nI t) (P6 M (sk w n p)) = some r := by
          rcases lt_n hT c1 with z | ⟨z1, z2⟩
          · rw [if_pos z, obs] at h; exact h
          · rw [if_neg z1, if_pos z2, obs] at h; exact h
        rcases c_tail ht h3 hT1 hL1.1 hL1.2.1 h with ⟨z1, z2⟩ | ⟨z1, z2, z3⟩
        · refine fl ?_ z2
          rw [sk_sk hT.2.2.2.1] at z1
          by_cases c2 : ls = []
          · rw [if_pos c2]; rfl
          · rw [if_neg c2, if_neg (fun y => z1 ⟨c2, y⟩)]; rfl
        · rw [sk_sk hT.2.2.2.1] at z2 z3
          rw [if_neg z1, if_pos z2, obs]
          exact z3
theorem c_isClause {M : gM} {w : Nat → Int32} {n p t : Nat} (ht : t < 4) (hT : C8 M w n p) (e8 : M 8 0 = nI t) {r : Int32 × gM} (h : fX6_isClause 8 M = some r) : CR w n t (pTable w n p) r := by
  unfold fX6_isClause at h
  obtain ⟨r1, e1, h⟩ := ob h
  have f := xfX5_open _ _ e1
  have g : r1 8 0 = nI (t + 1) ∧ r1 9 t = nI 0 := by
    unfold fX5_open at e1
    rw [e8, L4, if_neg (mt (nI_leI (by omega) (by omega)).mp (by omega)), wI_n (by omega) (by omega), obs, g_up_row (show 8 ≠ 9 by decide), e8, wI_n (by omega) (by omega), obs, pU_n, obs, pU_n, obs] at e1
    cases e1
    refine ⟨?_, ?_⟩
    · rw [g_up_self, g_up_ne (Or.inr (by decide)), g_up_row (by decide), g_up_row (by decide), e8, nI_1]
    · rw [g_up_row (by decide), g_up_row (by decide), g_up_row (by decide), g_up_self]; rfl
  have hT1 : C8 r1 w n p := hT.cong (fun j => f 1 j (by decide) (by decide) (Or.inl (by decide)) (Or.inl (by decide))) (fun j => f 2 j (by decide) (by decide) (Or.inl (by decide)) (Or.inl (by decide)))
  rw [g.1, nI_s1 (by omega), Nat.add_sub_cancel] at h
  exact c_lettersGo ht 4 [] p r1 r (by decide) rfl hT1 ⟨g.2, g.1, fun c hc => absurd hc (Nat.not_lt_zero c)⟩ (fun x hx => by cases hx) h
/-! all clauses -/
noncomputable def kTs : (Int32 × gM) → Option (Int32 × gM) := fun w7 => bX6_readTables_57 w7.1 w7.2
/-- what follows a clause, as the grammar has it -/
def pNext (w : Nat → Int32) (n k : Nat) (ts : List (List Nat × List (List Nat))) (q : Nat) : Option (List (List Nat × List (List Nat))) :=
  if hr w n q = 59 ∧ k ≠ 0 then pTabs w n k ts (q + 1) else if hr w n q = -1 then some ts else none
theorem c_bad0 {M : gM} {m : Nat} {r : Int32 × gM} {I0 : gM} (hM : MI true I0 M) (h : (lX6_readTables_17 8 (0, nI m, M)).bind kTs = some r) : r.1 ≠ -1 := by
  unfold lX6_readTables_17 at h
  rw [itO_eq] at h; dsimp only at h
  rw [if_pos rfl, obs] at h
  change some (M 1 2, M) = some r at h
  cases h
  intro e
  have := (hM.at (k := 1) (j := 2) (lo := 0) (hi := 400) rfl).1
  dsimp only at e
  rw [e] at this
  exact absurd this (by decide)
theorem c_badS {M : gM} {m : Nat} {r : Int32 × gM} {w : Nat → Int32} {n : Nat} (hB : BS M w n) (h : (lX6_readTables_17 8 (1, nI m, M)).bind kTs = some r) : r.1 ≠ -1 := by
  obtain ⟨q, b1, b2, b3⟩ := hB.mv
  have b4 : hr w n q ≠ -1 := dg_ne b2
  have b5 := b3.2.1
  have b6 := b3.2.2.2.1
  have fin : ∀ {r : Int32 × gM}, kTs (1, M) = some r → r.1 ≠ -1 := by
    intro r h
    unfold kTs bX6_readTables_57 at h
    rw [if_neg n10, b1, obs] at h
    dsimp only at h
    rw [if_neg b4, b3.2.2.1] at h
    cases h
    exact nI_m1 (by omega)
  unfold lX6_readTables_17 at h
  rw [itO_eq] at h; dsimp only at h
  rw [if_neg n10] at h
  by_cases c : (4 : Int32) ≤ nI m
  · rw [if_pos c, obs] at h
    exact fin h
  · rw [if_neg c, b1, obs] at h
    dsimp only at h
    rw [if_neg (fun z => by rw [z] at b2; exact absurd b2 (by decide)), obs] at h
    exact fin h
theorem c_tabsGo {w : Nat → Int32} {n : Nat} {I0 : gM} : ∀ (k : Nat) (ts : List (List Nat × List (List Nat))) (p : Nat) (M : gM) (r : Int32 × gM), k ≤ 3 → ts.length + k = 4 → C8 M w n p → M 8 0 = nI ts.length → MI true I0 M →
    (lX6_readTables_17 8 (1, nI ts.length, M)).bind kTs = some r → (∃ x, pNext w n k ts (sk w n p) = some x ∧ r.1 = -1) ∨ (pNext w n k ts (sk w n p) = none ∧ r.1 ≠ -1) := by
  intro k
  induction k with
  | zero =>
    intro ts p M r hk hl hT e8 hM h
    have hs := sk_le (w := w) hT.2.2.2.1
    have hn := hT.2.1
    unfold lX6_readTables_17 at h
    rw [itO_eq] at h; dsimp only at h
    rw [if_neg n10, L4, if_pos ((nI_leI (by omega) (by omega)).mpr (by omega)), obs] at h
    change bX6_readTables_57 1 M = some r at h
    unfold bX6_readTables_57 at h
    rw [if_neg n10, c_peek hT, obs] at h
    dsimp only at h
    unfold pNext
    rw [if_neg (fun z => z.2 rfl)]
    by_cases c : hr w n (sk w n p) = -1
    · rw [if_pos c] at h
      cases h
      rw [if_pos c]
      exact Or.inl ⟨_, rfl, rfl⟩
    · rw [if_neg c, P6_2] at h
      cases h
      rw [if_neg c]
      exact Or.inr ⟨rfl, nI_m1 (by omega)⟩
  | succ k ih =>
    intro ts p M r hk hl hT e8 hM h
    have hs := sk_le (w := w) hT.2.2.2.1
    have hn := hT.2.1
    have hT1 := hT.at (q := sk w n p) hs.2
    unfold lX6_readTables_17 at h
    rw [itO_eq] at h; dsimp only at h
    rw [if_neg n10, L4, if_neg (mt (nI_leI (by omega) (by omega)).mp (by omega)), c_peek hT, obs] at h
    dsimp only at h
    unfold pNext
    by_cases c1 : hr w n (sk w n p) = 59
    · have l1 := hr_lt (w := w) (n := n) (p := sk w n p) (by rw [c1]; decide)
      rw [if_pos c1, pU_n, obs, P6_2, nI_1, P6_pU] at h
      rw [if_pos ⟨c1, by omega⟩]
      unfold pTabs
      obtain ⟨y, ey, h⟩ := ob h
      obtain ⟨z, ez, ey⟩ := ob ey
      obtain ⟨r6, e6, ez⟩ := ob ez
      cases ez
      change lX6_readTables_17 8 (r6.1, nI ts.length + 1, r6.2) = some y at ey
      rw [nI_1] at ey
      have h : (lX6_readTables_17 8 (r6.1, nI (ts.length + 1), r6.2)).bind kTs = some r := (congrArg (fun o => Option.bind o kTs) ey).trans h
      have hMP : MI true I0 (P6 M (sk w n p + 1)) := hM.up (k := 1) rfl (lo := 0) (hi := 400) rfl (by rw [tnI (by omega)]; omega) (by rw [tnI (by omega)]; omega)
      obtain ⟨r6', e6', _, hM6⟩ := tfX6_isClause 8 (P6 M (sk w n p + 1)) kX5_8 hMP
      rw [e6] at e6'
      cases e6'
      rcases c_isClause (t := ts.length) (by omega) (hT.at (q := sk w n p + 1) (by omega)) (by rw [P6_k (by decide)]; exact e8) e6 with ⟨x, s1, s2, s3, p', s4, s5⟩ | ⟨s1, s2 | ⟨s2, s3⟩⟩
      · rw [s1, obs]
        rw [s2] at h
        have el : (ts ++ [x.1]).length = ts.length + 1 := by rw [List.length_append]; rfl
        have q := ih (ts ++ [x.1]) p' r6.2 r (by omega) (by rw [el]; omega) s4 (by rw [el]; exact s3) hM6 (by rw [el]; exact h)
        rw [s5] at q
        exact q
      · rw [s1]
        rw [s2] at h
        exact Or.inr ⟨rfl, c_bad0 hM6 h⟩
      · rw [s1]
        rw [s2] at h
        exact Or.inr ⟨rfl, c_badS s3 h⟩
    · rw [if_neg c1, obs] at h
      change bX6_readTables_57 1 (P6 M (sk w n p)) = some r at h
      unfold bX6_readTables_57 at h
      rw [if_neg n10, c_peek hT1, obs, sk_sk hT.2.2.2.1] at h
      dsimp only at h
      rw [if_neg (fun z => c1 z.1)]
      by_cases c : hr w n (sk w n p) = -1
      · rw [if_pos c] at h
        cases h
        rw [if_pos c]
        exact Or.inl ⟨_, rfl, rfl⟩
      · rw [if_neg c, P6_2] at h
        cases h
        rw [if_neg c]
        exact Or.inr ⟨rfl, nI_m1 (by omega)⟩
