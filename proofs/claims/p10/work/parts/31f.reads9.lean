/-! all tables -/
def pTabs (w : Nat → Int32) (n : Nat) : Nat → List (List Nat × List (List Nat)) → Nat → Option (List (List Nat × List (List Nat)))
  | 0, _, _ => none
  | k + 1, ts, p => (pTable w n p).bind fun x =>
    if hr w n (sk w n x.2) = 59 ∧ k ≠ 0 then pTabs w n k (ts ++ [x.1]) (sk w n x.2 + 1)
    else if hr w n (sk w n x.2) = -1 then some (ts ++ [x.1]) else none
/-- what is read of one table -/
def TbC (M : gM) (i : Nat) (tb : List Nat × List (List Nat)) : Prop := M 64 i = nI tb.1.length ∧ (∀ c, c < tb.1.length → M 65 (3 * i + c) = nI (tb.1.getD c 0)) ∧ M 66 i = nI tb.2.length ∧ ∀ j, j < tb.2.length → ∀ c, c < 3 → M 67 (36 * i + 3 * j + c) = ce (tb.2.getD j []) c
def TsC (M : gM) (ts : List (List Nat × List (List Nat))) : Prop := M 62 9 = nI ts.length ∧ ts.length ≤ 4 ∧ ∀ i tb, ts[i]? = some tb → okTab tb ∧ TbC M i tb
theorem r62_0 {M : gM} : bX9_readAll_63 0 M = some (.inl (0, M)) := by
  unfold bX9_readAll_63 bX9_readAll_78
  rw [if_pos rfl, pU_n, obs, Int32.add_zero, g_up_same rfl]
theorem r62_1 {M : gM} {q : Nat} (h : M 62 3 = nI q) : bX9_readAll_63 1 M = some (.inl (1, P9 M (q + 1))) := by
  unfold bX9_readAll_63 bX9_readAll_78
  rw [if_neg n10, pU_n, obs, h, nI_1]; rfl
theorem r11_0 {M : gM} : lX9_readAll_11 (0, M) = some M := by
  unfold lX9_readAll_11
  rw [itO_eq]; dsimp only
  rw [if_pos rfl, obs]; rfl
theorem e_ends {M : gM} (h : NE M) : fX9_ends M = some (M 62 4, M) := by
  unfold fX9_ends
  rw [if_neg h]
theorem n_ends {M : gM} {n p : Nat} (hT : TP9 M n p) (hw : M 62 4 = -1) : (hr (M 63) n (sk (M 63) n p) = -1 ∧ fX9_ends M = some (-1, P9 M (sk (M 63) n p))) ∨ (hr (M 63) n (sk (M 63) n p) ≠ -1 ∧ ∃ r, fX9_ends M = some r ∧ r.1 ≠ -1 ∧ NE r.2) := by
  have hs := sk_le (w := M 63) hT.2.2.2
  unfold fX9_ends
  rw [if_pos hw, n_ahead hT, obs]
  dsimp only
  by_cases c : hr (M 63) n (sk (M 63) n p) = -1
  · refine Or.inl ⟨c, ?_⟩
    rw [if_pos c, P9_j (by decide), hw]
  · rw [if_neg c]
    obtain ⟨r, er, hr⟩ := n_bad (hT.at hs.2)
    rw [er, obs]
    exact Or.inr ⟨c, _, rfl, hr, hr⟩
theorem n_tabsGo {n : Nat} {w : Nat → Int32} : ∀ (k : Nat) (ts : List (List Nat × List (List Nat))) (q : Nat) (M : gM), 1 ≤ k → ts.length + k = 4 → TP9 M n q → M 62 4 = -1 → M 63 = w → TsC M ts →
    ∃ r, ((lX9_readAll_11 (1, M)).bind fun w7 => fX9_ends w7) = some r ∧ ((pTabs w n k ts q = none ∧ r.1 ≠ -1 ∧ NE r.2) ∨ ∃ x, pTabs w n k ts q = some x ∧ r.1 = -1 ∧ 1 ≤ x.length ∧ TsC r.2 x) := by
  intro k
  induction k with
  | zero => intro ts q M h; omega
  | succ k ih =>
    intro ts q M _ hk hT hw e63 hC
    obtain ⟨hC9, _, hCC⟩ := hC
    obtain ⟨r, er, h⟩ := n_readTable (t := ts.length) (by omega) hT hw
    rw [e63] at h
    have f := xfX9_readTable _ _ er
    unfold lX9_readAll_11 pTabs
    rw [itO_eq]; dsimp only
    rw [if_neg n10, hC9, er, obs, pU_n, obs]
    have r9 : r 62 9 = nI ts.length := by rw [f 62 9 (by decide) (Or.inr (by decide)) (Or.inr (by decide)) (by decide) (by decide) (by decide)]; exact hC9
    rw [r9, nI_1]
    generalize hN : g_up r 62 9 (nI (ts.length + 1)) = N
    have N9 : N 62 9 = nI (ts.length + 1) := by rw [← hN, g_up_self]
    have Nj : ∀ j, j ≠ 9 → N 62 j = r 62 j := fun j hj => by rw [← hN, g_up_ne (Or.inr hj)]
    have Nk : ∀ a, a ≠ 62 → N a = r a := fun a ha => by rw [← hN, g_up_row ha]
    rcases h with ⟨e1, hr⟩ | ⟨x, e1, hx, hok, hB⟩
    · have hN4 : NE N := by
        show N 62 4 ≠ -1
        rw [Nj 4 (by decide)]; exact hr
      rw [if_neg hN4, e1]
      unfold bX9_readAll_62
      rw [r62_0, obs]
      show ∃ r', ((lX9_readAll_11 (0, N)).bind fun w7 => fX9_ends w7) = some r' ∧ _
      rw [r11_0, obs, e_ends hN4]
      exact ⟨_, rfl, Or.inl ⟨rfl, hN4, hN4⟩⟩
    · obtain ⟨b4, b3, bj, b63, b64, b65, b66, b67⟩ := hB
      have hTN : TP9 N n x.2 := ⟨by rw [Nj 2 (by decide), bj 2 (by decide)]; exact hT.1, hT.2.1, by rw [Nj 3 (by decide)]; exact b3, hx⟩
      have N63 : N 63 = w := by rw [Nk 63 (by decide), b63, e63]
      have N4 : N 62 4 = -1 := by rw [Nj 4 (by decide)]; exact b4
      have hs := sk_le (w := w) hx
      have ea := n_ahead hTN
      rw [N63] at ea
      have el : (ts ++ [x.1]).length = ts.length + 1 := by rw [List.length_append]; rfl
      have hCN : ∀ i tb, (ts ++ [x.1])[i]? = some tb → okTab tb ∧ TbC N i tb := by
        intro i tb hi
        by_cases d : i < ts.length
        · rw [List.getElem?_append_left d] at hi
          obtain ⟨o1, c1, c2, c3, c4⟩ := hCC i tb hi
          have o2 := o1.2.1
          have o3 := o1.2.2.1
          refine ⟨o1, ?_, fun c hc => ?_, ?_, fun j hj c hc => ?_⟩
          · rw [Nk 64 (by decide), b64, if_neg (by omega)]; exact c1
          · rw [Nk 65 (by decide), b65, if_neg (by omega)]; exact c2 c hc
          · rw [Nk 66 (by decide), b66, if_neg (by omega)]; exact c3
          · rw [Nk 67 (by decide), b67, if_neg (by omega)]; exact c4 j hj c hc
        · have hlt : i < (ts ++ [x.1]).length := by
            rcases Nat.lt_or_ge i (ts ++ [x.1]).length with z | z
            · exact z
            · rw [List.getElem?_eq_none z] at hi; cases hi
          have : i = ts.length := by omega
          subst this
          rw [List.getElem?_append_right (Nat.le_refl _), Nat.sub_self] at hi
          have : x.1 = tb := Option.some.inj hi
          subst this
          refine ⟨hok, ?_, fun c hc => ?_, ?_, fun j hj c hc => ?_⟩
          · rw [Nk 64 (by decide), b64, if_pos rfl]
          · rw [Nk 65 (by decide), b65, if_pos (by omega), Nat.add_sub_cancel_left]
          · rw [Nk 66 (by decide), b66, if_pos rfl]
          · rw [Nk 67 (by decide), b67, if_pos (by omega), show (36 * ts.length + 3 * j + c - 36 * ts.length) / 3 = j by omega, show (36 * ts.length + 3 * j + c - 36 * ts.length) % 3 = c by omega]
      have hCP : ∀ q, TsC (P9 N q) (ts ++ [x.1]) := fun q => ⟨by rw [P9_j (by decide), N9, el], by rw [el]; omega, fun i tb hi => by
        obtain ⟨o1, c1, c2, c3, c4⟩ := hCN i tb hi
        refine ⟨o1, ?_, fun c hc => ?_, ?_, fun j hj c hc => ?_⟩
        · rw [P9_k (by decide)]; exact c1
        · rw [P9_k (by decide)]; exact c2 c hc
        · rw [P9_k (by decide)]; exact c3
        · rw [P9_k (by decide)]; exact c4 j hj c hc⟩
      rw [if_pos N4, ea, obs, e1, obs]
      dsimp only
      have hTS := hTN.at (q := sk w n x.2) hs.2
      have W2 : P9 N (sk w n x.2) 63 = w := (P9_k (by decide)).trans N63
      have stop : ∃ r', (((bX9_readAll_62 (P9 N (sk w n x.2))).bind fun y => Sum.elim (fun s' => lX9_readAll_11 s') (fun r => some r) y).bind fun w7 => fX9_ends w7) = some r' ∧ (((if hr w n (sk w n x.2) = -1 then some (ts ++ [x.1]) else none) = none ∧ r'.1 ≠ -1 ∧ NE r'.2) ∨ ∃ y, (if hr w n (sk w n x.2) = -1 then some (ts ++ [x.1]) else none) = some y ∧ r'.1 = -1 ∧ 1 ≤ y.length ∧ TsC r'.2 y) := by
        unfold bX9_readAll_62
        rw [r62_0, obs]
        show ∃ r', ((lX9_readAll_11 (0, _)).bind fun w7 => fX9_ends w7) = some r' ∧ _
        rw [r11_0, obs]
        rcases n_ends hTS (by rw [P9_j (by decide)]; exact N4) with ⟨z1, z2⟩ | ⟨z1, r', z2, z3, z4⟩
        · rw [W2, sk_sk hx] at z1 z2
          rw [z2, if_pos z1, P9_P9]
          exact ⟨_, rfl, Or.inr ⟨_, rfl, rfl, by rw [el]; omega, hCP _⟩⟩
        · rw [W2, sk_sk hx] at z1
          rw [z2, if_neg z1]
          exact ⟨_, rfl, Or.inl ⟨rfl, z3, z4⟩⟩
      by_cases c1 : hr w n (sk w n x.2) = 59
      · have l1 := hr_lt (w := w) (n := n) (p := sk w n x.2) (by rw [c1]; decide)
        have e9 : P9 N (sk w n x.2) 62 9 = nI (ts.length + 1) := (P9_j (by decide)).trans N9
        rw [if_pos c1]
        by_cases c2 : k = 0
        · rw [if_pos (show (4 : Int32) ≤ P9 N (sk w n x.2) 62 9 by rw [e9, L4]; exact (nI_leI (by omega) (by omega)).mpr (by omega)), if_neg (fun z => z.2 c2)]
          exact stop
        · rw [if_neg (show ¬ (4 : Int32) ≤ P9 N (sk w n x.2) 62 9 by rw [e9, L4]; exact mt (nI_leI (by omega) (by omega)).mp (by omega)), if_pos ⟨c1, c2⟩, r62_1 P9_3, obs, P9_P9]
          exact ih (ts ++ [x.1]) (sk w n x.2 + 1) (P9 N (sk w n x.2 + 1)) (by omega) (by rw [el]; omega) (hTN.at (by omega)) (by rw [P9_j (by decide)]; exact N4) ((P9_k (by decide)).trans N63) (hCP _)
      · rw [if_neg c1, if_neg (fun z => c1 z.1)]
        exact stop
/-- the reference reads all tables: told, or wrong -/
theorem n_readAll {I : gM} {n p : Nat} (hT : TP9 I n p) : ∃ r, fX9_readAll I = some r ∧ ((pTabs (I 63) n 4 [] 0 = none ∧ r.1 ≠ -1) ∨ ∃ x, pTabs (I 63) n 4 [] 0 = some x ∧ r.1 = -1 ∧ 1 ≤ x.length ∧ TsC r.2 x) := by
  unfold fX9_readAll fX9_begins
  rw [pU_n, obs, pU_n, obs, obs, pU_n, obs]
  generalize hN : g_up (g_up (g_up I 62 3 0) 62 4 (-1)) 62 9 0 = N
  have Nj : ∀ j, j ≠ 3 → j ≠ 4 → j ≠ 9 → N 62 j = I 62 j := fun j h1 h2 h3 => by rw [← hN, g_up_ne (Or.inr h3), g_up_ne (Or.inr h2), g_up_ne (Or.inr h1)]
  have N3 : N 62 3 = nI 0 := by rw [← hN, g_up_ne (Or.inr (by decide)), g_up_ne (Or.inr (by decide)), g_up_self]; rfl
  have N4 : N 62 4 = -1 := by rw [← hN, g_up_ne (Or.inr (by decide)), g_up_self]
  have N9 : N 62 9 = nI 0 := by rw [← hN, g_up_self]; rfl
  have N63 : N 63 = I 63 := by rw [← hN, g_up_row (by decide), g_up_row (by decide), g_up_row (by decide)]
  obtain ⟨r, er, h⟩ := n_tabsGo (n := n) (w := I 63) 4 [] 0 N (by omega) rfl ⟨by rw [Nj 2 (by decide) (by decide) (by decide)]; exact hT.1, hT.2.1, N3, by omega⟩ N4 N63 ⟨N9, by decide, fun i tb h => by cases h⟩
  obtain ⟨w7, e7, h7⟩ := ob er
  rw [show ((1 : Int32), N) = (1, N) from rfl, e7, obs, h7, obs]
  refine ⟨_, rfl, ?_⟩
  rcases h with ⟨e1, h1, _⟩ | ⟨x, e1, h1, h2, h3⟩
  · exact Or.inl ⟨e1, h1⟩
  · exact Or.inr ⟨x, e1, h1, h2, h3⟩
