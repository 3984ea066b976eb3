section P_31e_reads9
def okRow (wd : Nat) (r : List Nat) : Prop := r.length = wd ∧ ∀ c, c < wd → r.getD c 0 ≤ 99
/-- the rows rs of table t are read -/
def RsS (I M : gM) (t q : Nat) (rs : List (List Nat)) : Prop := M 62 4 = -1 ∧ M 62 3 = nI q ∧ (∀ j, j ≠ 3 → M 62 j = I 62 j) ∧ (∀ a, a ≠ 62 → a ≠ 66 → a ≠ 67 → M a = I a) ∧ (∀ a, M 66 a = if a = t then nI rs.length else I 66 a) ∧
  ∀ a, M 67 a = if 36 * t ≤ a ∧ a < 36 * t + 3 * rs.length then ce (rs.getD ((a - 36 * t) / 3) []) ((a - 36 * t) % 3) else I 67 a
theorem RsS.mv {I M : gM} {t q : Nat} {rs : List (List Nat)} (h : RsS I M t q rs) (q' : Nat) : RsS I (P9 M q') t q' rs :=
  ⟨by rw [P9_j (by decide)]; exact h.1, P9_3, fun j hj => by rw [P9_j hj]; exact h.2.2.1 j hj, fun a h1 h2 h3 => by rw [P9_k h1]; exact h.2.2.2.1 a h1 h2 h3, fun a => by rw [P9_k (by decide)]; exact h.2.2.2.2.1 a, fun a => by rw [P9_k (by decide)]; exact h.2.2.2.2.2 a⟩
theorem RsS.tp {I M : gM} {t q n p : Nat} {rs : List (List Nat)} (h : RsS I M t q rs) (hT : TP9 I n p) (hq : q ≤ n) : TP9 M n q := ⟨by rw [h.2.2.1 2 (by decide)]; exact hT.1, hT.2.1, h.2.1, hq⟩
theorem n_readRow {I M : gM} {n p q t wd : Nat} {rs : List (List Nat)} (ht : t < 4) (hT : TP9 I n p) (hS : RsS I M t q rs) (hq : q ≤ n) (e : I 64 t = nI wd) (h1 : 1 ≤ wd) (h3 : wd ≤ 3) (hm : rs.length ≤ 11) :
    ∃ r, fX9_readRow (nI t) M = some r ∧ ((pRow (I 63) n wd q = none ∧ NE r) ∨ ∃ x, pRow (I 63) n wd q = some x ∧ x.2 ≤ n ∧ okRow wd x.1 ∧ RsS I r t x.2 (rs ++ [x.1])) := by
  have e6 : M 66 t = nI rs.length := by rw [hS.2.2.2.2.1, if_pos rfl]
  have e64 : M 64 = I 64 := hS.2.2.2.1 64 (by decide) (by decide) (by decide)
  have e63 : M 63 = I 63 := hS.2.2.2.1 63 (by decide) (by decide) (by decide)
  unfold fX9_readRow
  rw [rI_n (by omega) (by omega), obs, e6, a12, L3, nI_mul, L0]
  obtain ⟨w, ew, h⟩ := n_row16 (b := 3 * (12 * t + rs.length)) ht (hS.tp hT hq) hS.1 (by rw [e64]; exact e) h1 h3 (by omega)
  rw [ew, obs]
  rcases h with ⟨e1, hr⟩ | ⟨x, e1, hx, hl, hv, hR⟩
  · rw [e63] at e1
    have e7 : w 66 t = nI rs.length := by
      rw [← e6]
      exact xlX9_readRow_16 _ _ _ ew 66 t (by decide) (Or.inl (by decide)) (Or.inl (by decide))
    rw [rI_n (by omega) (by omega), obs, e7, nI_1, wI_n (by omega) (by omega), obs]
    refine ⟨_, rfl, Or.inl ⟨e1, ?_⟩⟩
    show g_up w 66 t (nI (rs.length + 1)) 62 4 ≠ -1
    rw [g_up_row (by decide)]; exact hr
  · rw [e63] at e1
    have e7 : w 66 = M 66 := hR.2.2.2.1 66 (by decide) (by decide)
    rw [rI_n (by omega) (by omega), obs, e7, e6, nI_1, wI_n (by omega) (by omega), obs]
    have el : (rs ++ [x.1]).length = rs.length + 1 := by rw [List.length_append]; rfl
    refine ⟨_, rfl, Or.inr ⟨x, e1, hx, ⟨hl, hv⟩, ?_, ?_, fun j hj => ?_, fun a h1 h2 h3 => ?_, fun a => ?_, fun a => ?_⟩⟩
    · rw [g_up_row (by decide)]; exact hR.1
    · rw [g_up_row (by decide)]; exact hR.2.1
    · rw [g_up_row (by decide), hR.2.2.1 j hj]; exact hS.2.2.1 j hj
    · rw [g_up_row h2, hR.2.2.2.1 a h1 h3]; exact hS.2.2.2.1 a h1 h2 h3
    · rw [gu_in, e7, hS.2.2.2.2.1, el]
      by_cases d : a = t
      · rw [if_pos d, if_pos d]
      · rw [if_neg d, if_neg d, if_neg d]
    · rw [g_up_row (by decide), hR.2.2.2.2, hS.2.2.2.2.2, el]
      by_cases d1 : 3 * (12 * t + rs.length) ≤ a ∧ a < 3 * (12 * t + rs.length) + 3
      · rw [if_pos d1, if_pos (by omega), show (a - 36 * t) / 3 = rs.length by omega, show (a - 36 * t) % 3 = a - 3 * (12 * t + rs.length) by omega, List.getD_eq_getElem?_getD, List.getElem?_append_right (Nat.le_refl _), Nat.sub_self]; rfl
      · rw [if_neg d1]
        by_cases d2 : 36 * t ≤ a ∧ a < 36 * t + 3 * rs.length
        · rw [if_pos d2, if_pos (by omega), List.getD_eq_getElem?_getD, List.getD_eq_getElem?_getD, List.getElem?_append_left (by omega)]
        · rw [if_neg d2, if_neg (by omega)]
/-! rows -/
def pRows (w : Nat → Int32) (n wd : Nat) : Nat → List (List Nat) → Nat → Option (List (List Nat) × Nat)
  | 0, _, _ => none
  | k + 1, rs, p => (pRow w n wd p).bind fun x =>
    if hr w n (sk w n x.2) = 47 ∧ k ≠ 0 then pRows w n wd k (rs ++ [x.1]) (sk w n x.2 + 1) else some (rs ++ [x.1], sk w n x.2)
theorem t78_0 {M : gM} : bX9_readTable_78 0 M = some (.inl (0, M)) := by
  unfold bX9_readTable_78 bX9_readTable_93
  rw [if_pos rfl, pU_n, obs, Int32.add_zero, g_up_same rfl]
theorem t78_1 {M : gM} {q : Nat} (h : M 62 3 = nI q) : bX9_readTable_78 1 M = some (.inl (1, P9 M (q + 1))) := by
  unfold bX9_readTable_78 bX9_readTable_93
  rw [if_neg n10, pU_n, obs, h, nI_1]; rfl
theorem t36_0 {t : Nat} {M : gM} : lX9_readTable_36 (nI t) (0, M) = some M := by
  unfold lX9_readTable_36
  rw [itO_eq]; dsimp only
  rw [if_pos rfl, obs]; rfl
theorem n_rowsGo {I : gM} {n p t wd : Nat} (ht : t < 4) (hT : TP9 I n p) (e : I 64 t = nI wd) (h1 : 1 ≤ wd) (h3 : wd ≤ 3) : ∀ (k : Nat) (rs : List (List Nat)) (q : Nat) (M : gM), 1 ≤ k → rs.length + k = 12 → RsS I M t q rs → q ≤ n → (∀ r, r ∈ rs → okRow wd r) →
    ∃ r, lX9_readTable_36 (nI t) (1, M) = some r ∧ ((pRows (I 63) n wd k rs q = none ∧ NE r) ∨ ∃ x, pRows (I 63) n wd k rs q = some x ∧ x.2 ≤ n ∧ x.1.length ≤ 12 ∧ (∀ r, r ∈ x.1 → okRow wd r) ∧ RsS I r t x.2 x.1) := by
  intro k
  induction k with
  | zero => intro rs q M h; omega
  | succ k ih =>
    intro rs q M _ hk hS hq hok
    obtain ⟨r, er, h⟩ := n_readRow ht hT hS hq e h1 h3 (by omega)
    unfold lX9_readTable_36 pRows
    rw [itO_eq]; dsimp only
    rw [if_neg n10, er, obs]
    rcases h with ⟨e1, hr⟩ | ⟨x, e1, hx, hox, hR⟩
    · rw [if_neg hr, e1]
      unfold bX9_readTable_77
      rw [t78_0, obs]
      show ∃ r', lX9_readTable_36 (nI t) (0, r) = some r' ∧ _
      rw [t36_0]
      exact ⟨r, rfl, Or.inl ⟨rfl, hr⟩⟩
    · have hTr := hR.tp hT hx
      have hs := sk_le (w := I 63) hx
      have e63 : r 63 = I 63 := hR.2.2.2.1 63 (by decide) (by decide) (by decide)
      have ea := n_ahead hTr
      rw [e63] at ea
      rw [if_pos hR.1, ea, obs, e1, obs]
      dsimp only
      have hR2 := hR.mv (sk (I 63) n x.2)
      have el : (rs ++ [x.1]).length = rs.length + 1 := by rw [List.length_append]; rfl
      have hok2 : ∀ r, r ∈ rs ++ [x.1] → okRow wd r := fun r hr => by
        rcases List.mem_append.mp hr with z | z
        · exact hok r z
        · rw [List.mem_singleton.mp z]; exact hox
      have stop : ∃ r', ((bX9_readTable_77 (P9 r (sk (I 63) n x.2))).bind fun y => Sum.elim (fun s' => lX9_readTable_36 (nI t) s') (fun r => some r) y) = some r' ∧ RsS I r' t (sk (I 63) n x.2) (rs ++ [x.1]) := by
        unfold bX9_readTable_77
        rw [t78_0, obs]
        show ∃ r', lX9_readTable_36 (nI t) (0, _) = some r' ∧ _
        rw [t36_0]
        exact ⟨_, rfl, hR2⟩
      by_cases c1 : hr (I 63) n (sk (I 63) n x.2) = 47
      · have l1 := hr_lt (w := I 63) (n := n) (p := sk (I 63) n x.2) (by rw [c1]; decide)
        rw [if_pos c1, rI_n (by omega) (by omega), obs, hR2.2.2.2.2.1, if_pos rfl, el]
        by_cases c2 : k = 0
        · rw [L12, if_pos ((nI_leI (by omega) (by omega)).mpr (by omega)), if_neg (fun z => z.2 c2)]
          obtain ⟨r', e2, h2⟩ := stop
          exact ⟨r', e2, Or.inr ⟨_, rfl, hs.2, by rw [el]; omega, hok2, h2⟩⟩
        · rw [L12, if_neg (mt (nI_leI (by omega) (by omega)).mp (by omega)), if_pos ⟨c1, c2⟩, t78_1 P9_3, obs, P9_P9]
          exact ih (rs ++ [x.1]) (sk (I 63) n x.2 + 1) (P9 r (sk (I 63) n x.2 + 1)) (by omega) (by rw [el]; omega) (hR.mv _) (by omega) hok2
      · rw [if_neg c1, if_neg (fun z => c1 z.1)]
        obtain ⟨r', e2, h2⟩ := stop
        exact ⟨r', e2, Or.inr ⟨_, rfl, hs.2, by rw [el]; omega, hok2, h2⟩⟩
/-! a table -/
def pTable (w : Nat → Int32) (n p : Nat) : Option ((List Nat × List (List Nat)) × Nat) :=
  (pHead w n 4 [] p).bind fun x => if dg (hr w n (sk w n x.2)) then (pRows w n x.1.length 12 [] (sk w n x.2)).bind fun y => some ((x.1, y.1), y.2) else some ((x.1, []), sk w n x.2)
def okTab (tb : List Nat × List (List Nat)) : Prop := 1 ≤ tb.1.length ∧ tb.1.length ≤ 3 ∧ tb.2.length ≤ 12 ∧ ∀ r, r ∈ tb.2 → okRow tb.1.length r
/-- table t is read -/
def TbS (I M : gM) (t q : Nat) (tb : List Nat × List (List Nat)) : Prop := M 62 4 = -1 ∧ M 62 3 = nI q ∧ (∀ j, j ≠ 3 → M 62 j = I 62 j) ∧ M 63 = I 63 ∧ (∀ a, M 64 a = if a = t then nI tb.1.length else I 64 a) ∧ (∀ a, M 65 a = if 3 * t ≤ a ∧ a < 3 * t + tb.1.length then nI (tb.1.getD (a - 3 * t) 0) else I 65 a) ∧
  (∀ a, M 66 a = if a = t then nI tb.2.length else I 66 a) ∧
  ∀ a, M 67 a = if 36 * t ≤ a ∧ a < 36 * t + 3 * tb.2.length then ce (tb.2.getD ((a - 36 * t) / 3) []) ((a - 36 * t) % 3) else I 67 a
theorem t35_0 {t : Nat} {M : gM} : bX9_readTable_34 (nI t) M = some M := by
  unfold bX9_readTable_34 bX9_readTable_35
  rw [t36_0, obs]
theorem n_readTable {I : gM} {n p t : Nat} (ht : t < 4) (hT : TP9 I n p) (hw : I 62 4 = -1) :
    ∃ r, fX9_readTable (nI t) I = some r ∧ ((pTable (I 63) n p = none ∧ NE r) ∨ ∃ x, pTable (I 63) n p = some x ∧ x.2 ≤ n ∧ okTab x.1 ∧ TbS I r t x.2 x.1) := by
  unfold fX9_readTable pTable
  obtain ⟨r, er, h⟩ := n_readHead ht hT hw
  rw [er, obs, wI_n (by omega) (by omega), obs]
  have f := xfX9_readHead _ _ er
  rcases h with ⟨e1, hr⟩ | ⟨x, e1, g4, g3, g64, g65⟩
  · rw [if_neg (show ¬ g_up r 66 t 0 62 4 = -1 by rw [g_up_row (by decide)]; exact hr), t35_0, e1]
    exact ⟨_, rfl, Or.inl ⟨rfl, show g_up r 66 t 0 62 4 ≠ -1 by rw [g_up_row (by decide)]; exact hr⟩⟩
  · obtain ⟨_, x1, x3, xn⟩ := pHead_ok (by decide) e1
    generalize hN : g_up r 66 t 0 = N
    have Nk : ∀ a, a ≠ 66 → N a = r a := fun a ha => by rw [← hN, g_up_row ha]
    have N66 : ∀ a, N 66 a = if a = t then nI 0 else I 66 a := fun a => by
      rw [← hN, gu_in, f 66 a (by decide) (Or.inl (by decide)) (Or.inl (by decide)) (by decide)]; rfl
    have hTN : TP9 N n x.2 := ⟨by rw [Nk 62 (by decide), f 62 2 (by decide) (Or.inr (by decide)) (Or.inr (by decide)) (by decide)]; exact hT.1, hT.2.1, by rw [Nk 62 (by decide)]; exact g3, xn⟩
    have N63 : N 63 = I 63 := by
      rw [Nk 63 (by decide)]
      exact funext fun a => f 63 a (by decide) (Or.inl (by decide)) (Or.inl (by decide)) (by decide)
    have N4 : N 62 4 = -1 := by rw [Nk 62 (by decide)]; exact g4
    have Nj : ∀ j, j ≠ 3 → N 62 j = I 62 j := fun j hj => by
      by_cases d : j = 4
      · rw [d, N4, hw]
      · rw [Nk 62 (by decide)]; exact f 62 j (by decide) (Or.inr hj) (Or.inr d) (by decide)
    have hs := sk_le (w := I 63) xn
    have ea := n_ahead hTN
    rw [N63] at ea
    rw [if_pos N4, ea, obs, e1, obs]
    dsimp only
    rw [n_isDigit9, obs]
    have hS0 : RsS N N t x.2 [] := ⟨N4, hTN.2.2.1, fun _ _ => rfl, fun _ _ _ _ => rfl, fun a => by
      rw [N66]
      by_cases d : a = t
      · rw [if_pos d, if_pos d]; rfl
      · rw [if_neg d, if_neg d], fun a => by rw [if_neg (by simp only [List.length_nil]; omega)]⟩
    have fin : ∀ (r' : gM) (q : Nat) (rs : List (List Nat)), RsS N r' t q rs → TbS I r' t q (x.1, rs) := by
      intro r' q rs hR
      refine ⟨hR.1, hR.2.1, fun j hj => (hR.2.2.1 j hj).trans (Nj j hj), (hR.2.2.2.1 63 (by decide) (by decide) (by decide)).trans N63, fun a => ?_, fun a => ?_, fun a => ?_, fun a => ?_⟩
      · rw [hR.2.2.2.1 64 (by decide) (by decide) (by decide), Nk 64 (by decide)]; exact g64 a
      · rw [hR.2.2.2.1 65 (by decide) (by decide) (by decide), Nk 65 (by decide)]; exact g65 a
      · rw [hR.2.2.2.2.1, N66]
        by_cases d : a = t
        · rw [if_pos d, if_pos d]
        · rw [if_neg d, if_neg d, if_neg d]
      · rw [hR.2.2.2.2.2, Nk 67 (by decide), f 67 a (by decide) (Or.inl (by decide)) (Or.inl (by decide)) (by decide)]
    by_cases c1 : dg (hr (I 63) n (sk (I 63) n x.2))
    · rw [if_pos c1, if_pos c1, if_neg n10]
      unfold bX9_readTable_35
      have e64 : N 64 t = nI x.1.length := by rw [Nk 64 (by decide), g64, if_pos rfl]
      obtain ⟨r', e2, h2⟩ := n_rowsGo (I := N) ht hTN e64 x1 x3 12 [] (sk (I 63) n x.2) (P9 N (sk (I 63) n x.2)) (by omega) rfl (hS0.mv _) hs.2 (fun r hr => by cases hr)
      rw [N63] at h2
      rw [e2, obs]
      rcases h2 with ⟨e3, hr⟩ | ⟨y, e3, hy, hl, hok, hR⟩
      · rw [e3]; exact ⟨r', rfl, Or.inl ⟨rfl, hr⟩⟩
      · rw [e3]
        exact ⟨r', rfl, Or.inr ⟨_, rfl, hy, ⟨x1, x3, hl, hok⟩, fin r' y.2 y.1 hR⟩⟩
    · rw [if_neg c1, if_neg c1, if_pos rfl, t35_0]
      exact ⟨_, rfl, Or.inr ⟨_, rfl, hs.2, ⟨x1, x3, by show 0 ≤ 12; omega, fun r hr => by cases hr⟩, fin _ _ _ (hS0.mv _)⟩⟩
end P_31e_reads9
section P_31f_reads9
/-! all tables -/
def pTabs (w : Nat → Int32) (n : Nat) : Nat → List (List Nat × List (List Nat)) → Nat → Option (List (List Nat × List (List Nat)))
  | 0, _, _ => none
  | k + 1, ts, p => (pTable w n p).bind fun x =>
    if hr w n (sk w n x.2) = 59 ∧ k ≠ 0 then pTabs w n k (ts ++ [x.1]) (sk w n x.2 + 1)
    else if hr w n (sk w n x.2) = -1 then some (ts ++ [x.1]) else none
/-- what is read of one table -/
def TbC (M : gM) (i : Nat) (tb : List Nat × List (List Nat)) : Prop := M 64 i = nI tb.1.length ∧ (∀ c, c < tb.1.length → M 65 (3 * i + c) = nI (tb.1.getD c 0)) ∧ M 66 i = nI tb.2.length ∧ ∀ j, j < tb.2.length → ∀ c, c < 3 → M 67 (36 * i + 3 * j + c) = ce (tb.2.getD j []) c
def TsC (M : gM) (ts : List (List Nat × List (List Nat))) : Prop := M 62 9 = nI ts.length ∧ ts.length ≤ 4 ∧ ∀ i tb, ts[i]? = some tb → okTab tb ∧ TbC M i tb
theorem r62_0 {M : gM} : bX9_readAll_63 0 M = some (.inl (0, M)) := by
  unfold bX9_readAll_63 bX9_readAll_78
  rw [if_pos rfl, pU_n, obs, Int32.add_zero, g_up_same rfl]
theorem r62_1 {M : gM} {q : Nat} (h : M 62 3 = nI q) : bX9_readAll_63 1 M = some (.inl (1, P9 M (q + 1))) := by
  unfold bX9_readAll_63 bX9_readAll_78
  rw [if_neg n10, pU_n, obs, h, nI_1]; rfl
theorem r11_0 {M : gM} : lX9_readAll_11 (0, M) = some M := by
  unfold lX9_readAll_11
  rw [itO_eq]; dsimp only
  rw [if_pos rfl, obs]; rfl
theorem e_ends {M : gM} (h : NE M) : fX9_ends M = some (M 62 4, M) := by
  unfold fX9_ends
  rw [if_neg h]
theorem n_ends {M : gM} {n p : Nat} (hT : TP9 M n p) (hw : M 62 4 = -1) : (hr (M 63) n (sk (M 63) n p) = -1 ∧ fX9_ends M = some (-1, P9 M (sk (M 63) n p))) ∨ (hr (M 63) n (sk (M 63) n p) ≠ -1 ∧ ∃ r, fX9_ends M = some r ∧ r.1 ≠ -1 ∧ NE r.2) := by
  have hs := sk_le (w := M 63) hT.2.2.2
  unfold fX9_ends
  rw [if_pos hw, n_ahead hT, obs]
  dsimp only
  by_cases c : hr (M 63) n (sk (M 63) n p) = -1
  · refine Or.inl ⟨c, ?_⟩
    rw [if_pos c, P9_j (by decide), hw]
  · rw [if_neg c]
    obtain ⟨r, er, hr⟩ := n_bad (hT.at hs.2)
    rw [er, obs]
    exact Or.inr ⟨c, _, rfl, hr, hr⟩
theorem n_tabsGo {n : Nat} {w : Nat → Int32} : ∀ (k : Nat) (ts : List (List Nat × List (List Nat))) (q : Nat) (M : gM), 1 ≤ k → ts.length + k = 4 → TP9 M n q → M 62 4 = -1 → M 63 = w → TsC M ts →
    ∃ r, ((lX9_readAll_11 (1, M)).bind fun w7 => fX9_ends w7) = some r ∧ ((pTabs w n k ts q = none ∧ r.1 ≠ -1 ∧ NE r.2) ∨ ∃ x, pTabs w n k ts q = some x ∧ r.1 = -1 ∧ 1 ≤ x.length ∧ TsC r.2 x) := by
  intro k
  induction k with
  | zero => intro ts q M h; omega
  | succ k ih =>
    intro ts q M _ hk hT hw e63 hC
    obtain ⟨hC9, _, hCC⟩ := hC
    obtain ⟨r, er, h⟩ := n_readTable (t := ts.length) (by omega) hT hw
    rw [e63] at h
    have f := xfX9_readTable _ _ er
    unfold lX9_readAll_11 pTabs
    rw [itO_eq]; dsimp only
    rw [if_neg n10, hC9, er, obs, pU_n, obs]
    have r9 : r 62 9 = nI ts.length := by rw [f 62 9 (by decide) (Or.inr (by decide)) (Or.inr (by decide)) (by decide) (by decide) (by decide)]; exact hC9
    rw [r9, nI_1]
    generalize hN : g_up r 62 9 (nI (ts.length + 1)) = N
    have N9 : N 62 9 = nI (ts.length + 1) := by rw [← hN, g_up_self]
    have Nj : ∀ j, j ≠ 9 → N 62 j = r 62 j := fun j hj => by rw [← hN, g_up_ne (Or.inr hj)]
    have Nk : ∀ a, a ≠ 62 → N a = r a := fun a ha => by rw [← hN, g_up_row ha]
    rcases h with ⟨e1, hr⟩ | ⟨x, e1, hx, hok, hB⟩
    · have hN4 : NE N := by
        show N 62 4 ≠ -1
        rw [Nj 4 (by decide)]; exact hr
      rw [if_neg hN4, e1]
      unfold bX9_readAll_62
      rw [r62_0, obs]
      show ∃ r', ((lX9_readAll_11 (0, N)).bind fun w7 => fX9_ends w7) = some r' ∧ _
      rw [r11_0, obs, e_ends hN4]
      exact ⟨_, rfl, Or.inl ⟨rfl, hN4, hN4⟩⟩
    · obtain ⟨b4, b3, bj, b63, b64, b65, b66, b67⟩ := hB
      have hTN : TP9 N n x.2 := ⟨by rw [Nj 2 (by decide), bj 2 (by decide)]; exact hT.1, hT.2.1, by rw [Nj 3 (by decide)]; exact b3, hx⟩
      have N63 : N 63 = w := by rw [Nk 63 (by decide), b63, e63]
      have N4 : N 62 4 = -1 := by rw [Nj 4 (by decide)]; exact b4
      have hs := sk_le (w := w) hx
      have ea := n_ahead hTN
      rw [N63] at ea
      have el : (ts ++ [x.1]).length = ts.length + 1 := by rw [List.length_append]; rfl
      have hCN : ∀ i tb, (ts ++ [x.1])[i]? = some tb → okTab tb ∧ TbC N i tb := by
        intro i tb hi
        by_cases d : i < ts.length
        · rw [List.getElem?_append_left d] at hi
          obtain ⟨o1, c1, c2, c3, c4⟩ := hCC i tb hi
          have o2 := o1.2.1
          have o3 := o1.2.2.1
          refine ⟨o1, ?_, fun c hc => ?_, ?_, fun j hj c hc => ?_⟩
          · rw [Nk 64 (by decide), b64, if_neg (by omega)]; exact c1
          · rw [Nk 65 (by decide), b65, if_neg (by omega)]; exact c2 c hc
          · rw [Nk 66 (by decide), b66, if_neg (by omega)]; exact c3
          · rw [Nk 67 (by decide), b67, if_neg (by omega)]; exact c4 j hj c hc
        · have hlt : i < (ts ++ [x.1]).length := by
            rcases Nat.lt_or_ge i (ts ++ [x.1]).length with z | z
            · exact z
            · rw [List.getElem?_eq_none z] at hi; cases hi
          have : i = ts.length := by omega
          subst this
          rw [List.getElem?_append_right (Nat.le_refl _), Nat.sub_self] at hi
          have : x.1 = tb := Option.some.inj hi
          subst this
          refine ⟨hok, ?_, fun c hc => ?_, ?_, fun j hj c hc => ?_⟩
          · rw [Nk 64 (by decide), b64, if_pos rfl]
          · rw [Nk 65 (by decide), b65, if_pos (by omega), Nat.add_sub_cancel_left]
          · rw [Nk 66 (by decide), b66, if_pos rfl]
          · rw [Nk 67 (by decide), b67, if_pos (by omega), show (36 * ts.length + 3 * j + c - 36 * ts.length) / 3 = j by omega, show (36 * ts.length + 3 * j + c - 36 * ts.length) % 3 = c by omega]
      have hCP : ∀ q, TsC (P9 N q) (ts ++ [x.1]) := fun q => ⟨by rw [P9_j (by decide), N9, el], by rw [el]; omega, fun i tb hi => by
        obtain ⟨o1, c1, c2, c3, c4⟩ := hCN i tb hi
        refine ⟨o1, ?_, fun c hc => ?_, ?_, fun j hj c hc => ?_⟩
        · rw [P9_k (by decide)]; exact c1
        · rw [P9_k (by decide)]; exact c2 c hc
        · rw [P9_k (by decide)]; exact c3
        · rw [P9_k (by decide)]; exact c4 j hj c hc⟩
      rw [if_pos N4, ea, obs, e1, obs]
      dsimp only
      have hTS := hTN.at (q := sk w n x.2) hs.2
      have W2 : P9 N (sk w n x.2) 63 = w := (P9_k (by decide)).trans N63
      have stop : ∃ r', (((bX9_readAll_62 (P9 N (sk w n x.2))).bind fun y => Sum.elim (fun s' => lX9_readAll_11 s') (fun r => some r) y).bind fun w7 => fX9_ends w7) = some r' ∧ (((if hr w n (sk w n x.2) = -1 then some (ts ++ [x.1]) else none) = none ∧ r'.1 ≠ -1 ∧ NE r'.2) ∨ ∃ y, (if hr w n (sk w n x.2) = -1 then some (ts ++ [x.1]) else none) = some y ∧ r'.1 = -1 ∧ 1 ≤ y.length ∧ TsC r'.2 y) := by
        unfold bX9_readAll_62
        rw [r62_0, obs]
        show ∃ r', ((lX9_readAll_11 (0, _)).bind fun w7 => fX9_ends w7) = some r' ∧ _
        rw [r11_0, obs]
        rcases n_ends hTS (by rw [P9_j (by decide)]; exact N4) with ⟨z1, z2⟩ | ⟨z1, r', z2, z3, z4⟩
        · rw [W2, sk_sk hx] at z1 z2
          rw [z2, if_pos z1, P9_P9]
          exact ⟨_, rfl, Or.inr ⟨_, rfl, rfl, by rw [el]; omega, hCP _⟩⟩
        · rw [W2, sk_sk hx] at z1
          rw [z2, if_neg z1]
          exact ⟨_, rfl, Or.inl ⟨rfl, z3, z4⟩⟩
      by_cases c1 : hr w n (sk w n x.2) = 59
      · have l1 := hr_lt (w := w) (n := n) (p := sk w n x.2) (by rw [c1]; decide)
        have e9 : P9 N (sk w n x.2) 62 9 = nI (ts.length + 1) := (P9_j (by decide)).trans N9
        rw [if_pos c1]
        by_cases c2 : k = 0
        · rw [if_pos (show (4 : Int32) ≤ P9 N (sk w n x.2) 62 9 by rw [e9, L4]; exact (nI_leI (by omega) (by omega)).mpr (by omega)), if_neg (fun z => z.2 c2)]
          exact stop
        · rw [if_neg (show ¬ (4 : Int32) ≤ P9 N (sk w n x.2) 62 9 by rw [e9, L4]; exact mt (nI_leI (by omega) (by omega)).mp (by omega)), if_pos ⟨c1, c2⟩, r62_1 P9_3, obs, P9_P9]
          exact ih (ts ++ [x.1]) (sk w n x.2 + 1) (P9 N (sk w n x.2 + 1)) (by omega) (by rw [el]; omega) (hTN.at (by omega)) (by rw [P9_j (by decide)]; exact N4) ((P9_k (by decide)).trans N63) (hCP _)
      · rw [if_neg c1, if_neg (fun z => c1 z.1)]
        exact stop
/-- the reference reads all tables: told, or wrong -/
theorem n_readAll {I : gM} {n p : Nat} (hT : TP9 I n p) : ∃ r, fX9_readAll I = some r ∧ ((pTabs (I 63) n 4 [] 0 = none ∧ r.1 ≠ -1) ∨ ∃ x, pTabs (I 63) n 4 [] 0 = some x ∧ r.1 = -1 ∧ 1 ≤ x.length ∧ TsC r.2 x) := by
  unfold fX9_readAll fX9_begins
  rw [pU_n, obs, pU_n, obs, obs, pU_n, obs]
  generalize hN : g_up (g_up (g_up I 62 3 0) 62 4 (-1)) 62 9 0 = N
  have Nj : ∀ j, j ≠ 3 → j ≠ 4 → j ≠ 9 → N 62 j = I 62 j := fun j h1 h2 h3 => by rw [← hN, g_up_ne (Or.inr h3), g_up_ne (Or.inr h2), g_up_ne (Or.inr h1)]
  have N3 : N 62 3 = nI 0 := by rw [← hN, g_up_ne (Or.inr (by decide)), g_up_ne (Or.inr (by decide)), g_up_self]; rfl
  have N4 : N 62 4 = -1 := by rw [← hN, g_up_ne (Or.inr (by decide)), g_up_self]
  have N9 : N 62 9 = nI 0 := by rw [← hN, g_up_self]; rfl
  have N63 : N 63 = I 63 := by rw [← hN, g_up_row (by decide), g_up_row (by decide), g_up_row (by decide)]
  obtain ⟨r, er, h⟩ := n_tabsGo (n := n) (w := I 63) 4 [] 0 N (by omega) rfl ⟨by rw [Nj 2 (by decide) (by decide) (by decide)]; exact hT.1, hT.2.1, N3, by omega⟩ N4 N63 ⟨N9, by decide, fun i tb h => by cases h⟩
  obtain ⟨w7, e7, h7⟩ := ob er
  rw [show ((1 : Int32), N) = (1, N) from rfl, e7, obs, h7, obs]
  refine ⟨_, rfl, ?_⟩
  rcases h with ⟨e1, h1, _⟩ | ⟨x, e1, h1, h2, h3⟩
  · exact Or.inl ⟨e1, h1⟩
  · exact Or.inr ⟨x, e1, h1, h2, h3⟩
end P_31f_reads9
section P_31g_takes9
/-! the reference takes what it read -/
theorem insW_row {w : Nat → Int32} {t m i : Nat} {x y z : Int32} (ht : t < 4) (hm : m ≤ 11) (hi : i ≤ m) {wd : Nat} (hw : wd ≤ 3) (hr : ∀ c, c < wd → 0 ≤ (if c = 0 then x else if c = 1 then y else z).toInt) (hb : ∀ j, j < m → ∀ c, c < wd → 0 ≤ (w (6 + 3 * (12 * t + j) + c)).toInt) :
    ∀ j, j < m + 1 → ∀ c, c < wd → 0 ≤ (insW w t m i x y z (6 + 3 * (12 * t + j) + c)).toInt := by
  intro j hj c hc
  unfold insW
  rw [if_neg (by omega)]
  by_cases d : j = i
  · subst d
    have q := hr c hc
    by_cases c0 : c = 0
    · subst c0; rw [if_pos rfl] at q; rw [if_pos (by omega)]; exact q
    · rw [if_neg c0] at q
      rw [if_neg (by omega)]
      by_cases c1 : c = 1
      · subst c1; rw [if_pos rfl] at q; rw [if_pos (by omega)]; exact q
      · rw [if_neg c1] at q
        rw [if_neg (by omega), if_pos (by omega)]; exact q
  · rw [if_neg (by omega), if_neg (by omega), if_neg (by omega)]
    by_cases d2 : i < j
    · rw [if_pos (by omega), show 6 + 3 * (12 * t + j) + c - 3 = 6 + 3 * (12 * t + (j - 1)) + c by omega]
      exact hb _ (by omega) c hc
    · rw [if_neg (by omega)]
      exact hb _ (by omega) c hc
theorem insW_out {w : Nat → Int32} {t m i : Nat} {x y z : Int32} (ht : t < 4) (hm : m ≤ 11) (hi : i ≤ m) {a : Nat} (h1 : a ≠ 2 + t) (h2 : a < 6 + 36 * t ∨ 42 + 36 * t ≤ a) : insW w t m i x y z a = w a := by
  unfold insW
  rw [if_neg h1, if_neg (by omega), if_neg (by omega), if_neg (by omega), if_neg (by omega)]
theorem ce_ok {r : List Nat} {wd c : Nat} (h : okRow wd r) (hc : c < wd) : 0 ≤ (ce r c).toInt := by
  have := h.2 c hc
  unfold ce
  rw [if_pos (by rw [h.1]; exact hc), tnI (by omega)]
  omega
theorem ce_rg {r : List Nat} {wd c : Nat} (h : okRow wd r) : -1 ≤ (ce r c).toInt ∧ (ce r c).toInt ≤ 99 := by
  unfold ce
  by_cases d : c < r.length
  · have := h.2 c (by rw [← h.1]; exact d)
    rw [if_pos d, tnI (by omega)]
    omega
  · rw [if_neg d]
    decide
theorem n_take101 {I0 I : gM} {t : Nat} {tb : List Nat × List (List Nat)} (ht : t < 4) (hM : MI false I0 I) (hC : TbC I t tb) (hok : okTab tb) (e0 : I 70 (2 + t) = 0) :
    T (lX9_takeTables_101 (nI t) (nI 0, I)) (fun r => MI false I0 r ∧ (∀ q, q ≠ 70 → r q = I q) ∧ (∀ j, j < (r 70 (2 + t)).toInt.toNat → ∀ c, c < tb.1.length → 0 ≤ (r 70 (6 + 3 * (12 * t + j) + c)).toInt) ∧ ∀ a, a ≠ 2 + t → (a < 6 + 36 * t ∨ 42 + 36 * t ≤ a) → r 70 a = I 70 a) := by
  obtain ⟨_, _, c66, c67⟩ := hC
  obtain ⟨o1, o3, o12, orow⟩ := hok
  unfold lX9_takeTables_101
  refine t_it (P := fun s => ∃ i m, s.1 = nI i ∧ i ≤ tb.2.length ∧ m ≤ i ∧ s.2 70 (2 + t) = nI m ∧ MI false I0 s.2 ∧ (∀ q, q ≠ 70 → s.2 q = I q) ∧ (∀ j, j < m → ∀ c, c < tb.1.length → 0 ≤ (s.2 70 (6 + 3 * (12 * t + j) + c)).toInt) ∧ ∀ a, a ≠ 2 + t → (a < 6 + 36 * t ∨ 42 + 36 * t ≤ a) → s.2 70 a = I 70 a) (μ := fun s => 20 - s.1.toInt.toNat) (fun s p => ?_) ⟨0, 0, rfl, by omega, by omega, e0, hM, fun _ _ => rfl, fun j hj => absurd hj (by omega), fun _ _ _ => rfl⟩
  obtain ⟨s1, s2⟩ := s
  obtain ⟨i, m, e1, hi, hm, em, h1, h2, h3, h4⟩ := p
  dsimp only at e1 em h1 h2 h3 h4
  subst e1
  dsimp only
  refine t_be (rI_n (by omega) (by omega)) ?_
  rw [h2 66 (by decide), c66]
  refine t_ite (fun c => ?_) (fun c => ?_)
  · refine t_ret (show MI false I0 s2 ∧ _ from ⟨h1, h2, fun j hj => ?_, h4⟩)
    rw [em, nIt (by omega)] at hj
    exact h3 j hj
  · have c := mt (nI_leI (a := tb.2.length) (b := i) (by omega) (by omega)).mpr c
    have hrow : okRow tb.1.length (tb.2.getD i []) := orow _ (by rw [List.getD_eq_getElem?_getD, List.getElem?_eq_getElem (by omega)]; exact List.getElem_mem _)
    have g : ∀ c, c < 3 → s2 67 (3 * (12 * t + i) + c) = ce (tb.2.getD i []) c := fun c hc => by
      rw [h2 67 (by decide), ← c67 i (by omega) c hc]
      congr 1; omega
    have b0 : (3 : Int32) * ((12 : Int32) * nI t + nI i) = nI (3 * (12 * t + i)) := by rw [a12, L3, nI_mul]
    rw [b0]
    have b1 : nI (3 * (12 * t + i)) + 1 = nI (3 * (12 * t + i) + 1) := nI_1 _
    have b2 : nI (3 * (12 * t + i)) + 2 = nI (3 * (12 * t + i) + 2) := by rw [L2, nI_add]
    rw [b1, b2]
    refine t_be (rI_n (by omega) (by omega)) ?_
    refine t_be (rI_n (by omega) (by omega)) ?_
    refine t_be (rI_n (by omega) (by omega)) ?_
    have g0 := g 0 (by omega)
    have g1 := g 1 (by omega)
    have g2 := g 2 (by omega)
    rw [Nat.add_zero] at g0
    rw [g0, g1, g2]
    obtain ⟨i', _, ei⟩ := n_hasRow ht (by omega) em (ce (tb.2.getD i []) 0) (ce (tb.2.getD i []) 1) (ce (tb.2.getD i []) 2)
    refine t_be ei ?_
    have mu : 20 - (nI (i + 1)).toInt.toNat < 20 - (nI i).toInt.toNat := by rw [nIt (by omega), nIt (by omega)]; omega
    refine t_ite (fun c3 => ?_) (fun c3 => ?_)
    · refine t_be (rI_n (by omega) (by omega)) ?_
      refine t_be (rI_n (by omega) (by omega)) ?_
      refine t_be (rI_n (by omega) (by omega)) ?_
      rw [g0, g1, g2]
      obtain ⟨i2, r, hcl, er, hk, h70⟩ := n_putsNow ht (by omega) em (ce (tb.2.getD i []) 0) (ce (tb.2.getD i []) 1) (ce (tb.2.getD i []) 2)
      refine t_be er ?_
      unfold bX9_takeTables_178
      rw [nI_1]
      have hi2 := hcl.1
      refine t_nx ?_ mu
      refine ⟨i + 1, m + 1, rfl, by omega, by omega, ?_, ?_, fun q hq => ?_, ?_, fun a ha1 ha2 => ?_⟩
      · dsimp only; rw [h70]; unfold insW; rw [if_pos rfl]
      · dsimp only
        refine h1.one rfl hk (fun j => ?_)
        rw [h70]
        exact rW.ins (fun j => h1.1 70 j) ht (by omega) hi2 ⟨ce_rg hrow, ce_rg hrow, ce_rg hrow⟩ j
      · dsimp only; rw [hk q hq]; exact h2 q hq
      · dsimp only
        rw [h70]
        refine insW_row ht (by omega) hi2 o3 (fun c hc => ?_) h3
        rcases (show c = 0 ∨ c = 1 ∨ c = 2 by omega) with rfl | rfl | rfl
        · exact ce_ok hrow hc
        · exact ce_ok hrow hc
        · exact ce_ok hrow hc
      · dsimp only
        rw [h70, insW_out ht (by omega) hi2 ha1 ha2]
        exact h4 a ha1 ha2
    · unfold bX9_takeTables_178
      rw [nI_1]
      refine t_nx ?_ mu
      exact ⟨i + 1, m, rfl, by omega, by omega, em, h1, h2, h3, h4⟩
theorem n_take68 {I0 I : gM} {t : Nat} (ht : t < 4) (hM : MI false I0 I) : T (lX9_takeTables_68 (nI t) (nI 0, I)) (fun r => MI false I0 r ∧ (∀ q, q ≠ 73 → r q = I q) ∧ ∀ a, r 73 a = if 3 * t ≤ a ∧ a < 3 * t + 3 then I 65 a else I 73 a) := by
  unfold lX9_takeTables_68
  refine t_it (P := fun s => ∃ k, s.1 = nI k ∧ k ≤ 3 ∧ MI false I0 s.2 ∧ (∀ q, q ≠ 73 → s.2 q = I q) ∧ ∀ a, s.2 73 a = if 3 * t ≤ a ∧ a < 3 * t + k then I 65 a else I 73 a) (μ := fun s => 20 - s.1.toInt.toNat) (fun s p => ?_) ⟨0, rfl, by omega, hM, fun _ _ => rfl, fun a => by rw [if_neg (by omega)]⟩
  obtain ⟨s1, s2⟩ := s
  obtain ⟨k, e1, hk, h1, h2, h3⟩ := p
  dsimp only at e1 h1 h2 h3
  subst e1
  dsimp only
  refine t_ite (fun c => ?_) (fun c => ?_)
  · have c := (nI_leI (a := 3) (b := k) (by omega) (by omega)).mp c
    have : k = 3 := by omega
    subst this
    exact t_ret (show MI false I0 s2 ∧ _ from ⟨h1, h2, h3⟩)
  · have c := mt (nI_leI (a := 3) (b := k) (by omega) (by omega)).mpr c
    rw [a3]
    refine t_be (rI_n (by omega) (by omega)) ?_
    refine t_be (wI_n (by omega) (by omega)) ?_
    have hv := h1.at (k := 65) (j := 3 * t + k) (lo := 0) (hi := 3) rfl
    rw [nI_1]
    refine t_nx ?_ (show 20 - (nI (k + 1)).toInt.toNat < 20 - (nI k).toInt.toNat by rw [nIt (by omega), nIt (by omega)]; omega)
    refine ⟨k + 1, rfl, by omega, h1.up (k := 73) rfl (lo := 0) (hi := 3) rfl hv.1 hv.2, fun q hq => ?_, fun a => ?_⟩
    · dsimp only; rw [g_up_row hq]; exact h2 q hq
    · dsimp only
      rw [gu_in, h3, h2 65 (by decide)]
      by_cases d : a = 3 * t + k
      · rw [if_pos d, if_pos (by omega), d]
      · rw [if_neg d]
        by_cases d2 : 3 * t ≤ a ∧ a < 3 * t + k
        · rw [if_pos d2, if_pos (by omega)]
        · rw [if_neg d2, if_neg (by omega)]
end P_31g_takes9
section P_31h_text9
theorem n_take10 {I0 I : gM} (hM : MI false I0 I) : T (lX9_takeTables_10 (nI 0, I)) (fun r => MI false I0 r ∧ (∀ q, q ≠ 70 → r q = I q) ∧ ∀ a, a < 331 → r 70 a = 0) := by
  unfold lX9_takeTables_10
  refine t_it (P := fun s => ∃ k, s.1 = nI k ∧ k ≤ 331 ∧ MI false I0 s.2 ∧ (∀ q, q ≠ 70 → s.2 q = I q) ∧ ∀ a, a < k → s.2 70 a = 0) (μ := fun s => 400 - s.1.toInt.toNat) (fun s p => ?_) ⟨0, rfl, by omega, hM, fun _ _ => rfl, fun a h => absurd h (by omega)⟩
  obtain ⟨s1, s2⟩ := s
  obtain ⟨k, e1, hk, h1, h2, h3⟩ := p
  dsimp only at e1 h1 h2 h3
  subst e1
  dsimp only
  refine t_ite (fun c => ?_) (fun c => ?_)
  · have c := (nI_leI (a := 331) (b := k) (by omega) (by omega)).mp c
    exact t_ret (show MI false I0 s2 ∧ _ from ⟨h1, h2, fun a ha => h3 a (by omega)⟩)
  · have c := mt (nI_leI (a := 331) (b := k) (by omega) (by omega)).mpr c
    refine t_be (wI_n (by omega) (by omega)) ?_
    rw [nI_1]
    refine t_nx ?_ (show 400 - (nI (k + 1)).toInt.toNat < 400 - (nI k).toInt.toNat by rw [nIt (by omega), nIt (by omega)]; omega)
    refine ⟨k + 1, rfl, by omega, h1.up (k := 70) (lo := (rgNow k).1) (hi := (rgNow k).2) rfl rfl ?_ ?_, fun q hq => ?_, fun a ha => ?_⟩
    · have z : (0 : Int32).toInt = 0 := rfl
      rw [z]; unfold rgNow; split <;> (try split) <;> (try split) <;> (try split) <;> decide
    · have z : (0 : Int32).toInt = 0 := rfl
      rw [z]; unfold rgNow; split <;> (try split) <;> (try split) <;> (try split) <;> decide
    · dsimp only; rw [g_up_row hq]; exact h2 q hq
    · dsimp only
      rw [gu_in]
      by_cases d : a = k
      · rw [if_pos d]
      · rw [if_neg d]; exact h3 a (by omega)
theorem n_takeTables {I0 I : gM} {ts : List (List Nat × List (List Nat))} (hM : MI false I0 I) (hC : TsC I ts) : ∃ r, fX9_takeTables I = some (nI ts.length, r) ∧ MI false I0 r ∧ A9 r ∧ r 62 17 = nI ts.length := by
  obtain ⟨h9, hl, hC⟩ := hC
  unfold fX9_takeTables
  rw [pU_n, obs, h9]
  have hM1 : MI false I0 (g_up I 62 17 (nI ts.length)) := hM.up (k := 62) rfl (lo := 0) (hi := 4) rfl (by rw [tnI (by omega)]; omega) (by rw [tnI (by omega)]; omega)
  obtain ⟨w3, e3, hM3, f3, z3⟩ := n_take10 hM1
  rw [show (((0 : Int32)), g_up I 62 17 (nI ts.length)) = (nI 0, g_up I 62 17 (nI ts.length)) from rfl, e3, obs]
  rw [show wI w3 70 331 0 (((1 : Int32) <<< ((w3 62 17) &&& 31)) - 1) = some (g_up w3 70 0 (((1 : Int32) <<< ((w3 62 17) &&& 31)) - 1)) from wI_n (a := 0) (by omega) (by omega), obs]
  have tp := tTop (((1 : Int32) <<< ((w3 62 17) &&& 31)) - 1)
  have hM4 : MI false I0 (g_up w3 70 0 (((1 : Int32) <<< ((w3 62 17) &&& 31)) - 1)) := hM3.up (k := 70) rfl (lo := top.1) (hi := top.2) rfl tp.1 tp.2
  generalize hN : g_up w3 70 0 (((1 : Int32) <<< ((w3 62 17) &&& 31)) - 1) = N
  rw [hN] at hM4
  have Nk : ∀ q, q ≠ 70 → N q = g_up I 62 17 (nI ts.length) q := fun q hq => by rw [← hN, g_up_row hq]; exact f3 q hq
  have N0 : ∀ a, 0 < a → a < 331 → N 70 a = 0 := fun a h1 h2 => by rw [← hN, g_up_ne (Or.inr (by omega))]; exact z3 a h2
  have N17 : N 62 17 = nI ts.length := by rw [Nk 62 (by decide), g_up_self]
  have NC : ∀ k, k ≠ 62 → k ≠ 70 → N k = I k := fun k h1 h2 => by rw [Nk k h2, g_up_row h1]
  have key : T (lX9_takeTables_46 (nI 0, N)) (fun r => MI false I0 r ∧ r 62 = N 62 ∧ okW ts.length (r 72) (r 70)) := by
    unfold lX9_takeTables_46
    refine t_it (P := fun s => ∃ t, s.1 = nI t ∧ t ≤ ts.length ∧ MI false I0 s.2 ∧ (∀ q, q ≠ 70 → q ≠ 72 → q ≠ 73 → s.2 q = N q) ∧ (∀ i, t ≤ i → i < 4 → s.2 70 (2 + i) = 0) ∧ okW t (s.2 72) (s.2 70)) (μ := fun s => 20 - s.1.toInt.toNat) (fun s p => ?_) ⟨0, rfl, by omega, hM4, fun _ _ _ _ => rfl, fun i _ hi => N0 _ (by omega) (by omega), fun t ht => absurd ht (by omega)⟩
    obtain ⟨s1, s2⟩ := s
    obtain ⟨t, e1, ht, h1, h2, h3, h4⟩ := p
    dsimp only at e1 h1 h2 h3 h4
    subst e1
    dsimp only
    have e17 : s2 62 17 = nI ts.length := by rw [h2 62 (by decide) (by decide) (by decide), N17]
    refine t_ite (fun c => ?_) (fun c => ?_)
    · rw [e17] at c
      have c := (nI_leI (by omega) (by omega)).mp c
      have : t = ts.length := by omega
      subst this
      exact t_ret (show MI false I0 s2 ∧ _ from ⟨h1, h2 62 (by decide) (by decide) (by decide), h4⟩)
    · rw [e17] at c
      have c := mt (nI_leI (a := ts.length) (b := t) (by omega) (by omega)).mpr c
      obtain ⟨hok, c64, c65, c66, c67⟩ := hC t _ (List.getElem?_eq_getElem (by omega))
      have o3 := hok.2.1
      have o12 := hok.2.2.1
      refine t_be (rI_n (by omega) (by omega)) ?_
      refine t_be (wI_n (by omega) (by omega)) ?_
      have e64 : s2 64 t = nI ts[t].1.length := by rw [h2 64 (by decide) (by decide) (by decide), NC 64 (by decide) (by decide)]; exact c64
      have hM5 : MI false I0 (g_up s2 72 t (s2 64 t)) := h1.up (k := 72) rfl (lo := 0) (hi := 3) rfl (by rw [e64, tnI (by omega)]; omega) (by rw [e64, tnI (by omega)]; omega)
      rw [L0]
      refine t_bind (n_take68 (by omega) hM5) (fun w9 ⟨hM9, f9, _⟩ => ?_)
      have hC9 : TbC w9 t ts[t] := by
        refine ⟨?_, fun c hc => ?_, ?_, fun j hj c hc => ?_⟩
        · rw [f9 64 (by decide), g_up_row (by decide)]; exact e64
        · rw [f9 65 (by decide), g_up_row (by decide), h2 65 (by decide) (by decide) (by decide), NC 65 (by decide) (by decide)]; exact c65 c hc
        · rw [f9 66 (by decide), g_up_row (by decide), h2 66 (by decide) (by decide) (by decide), NC 66 (by decide) (by decide)]; exact c66
        · rw [f9 67 (by decide), g_up_row (by decide), h2 67 (by decide) (by decide) (by decide), NC 67 (by decide) (by decide)]; exact c67 j hj c hc
      have e70 : w9 70 = s2 70 := by rw [f9 70 (by decide), g_up_row (by decide)]
      refine t_bind (n_take101 (by omega) hM9 hC9 hok (by rw [e70]; exact h3 t (by omega) (by omega))) (fun w19 ⟨hM19, f19, r19, o19⟩ => ?_)
      rw [nI_1]
      refine t_nx ?_ (show 20 - (nI (t + 1)).toInt.toNat < 20 - (nI t).toInt.toNat by rw [nIt (by omega), nIt (by omega)]; omega)
      have e72 : ∀ a, w19 72 a = if a = t then nI ts[t].1.length else s2 72 a := fun a => by rw [f19 72 (by decide), f9 72 (by decide), gu_in, e64]
      refine ⟨t + 1, rfl, by omega, hM19, fun q h70 h72 h73 => ?_, fun i hi hi4 => ?_, fun i hi j hj c hc => ?_⟩
      · dsimp only
        rw [f19 q h70, f9 q h73, g_up_row h72]; exact h2 q h70 h72 h73
      · dsimp only
        rw [o19 _ (by omega) (by omega), e70]; exact h3 i (by omega) hi4
      · dsimp only at hj hc ⊢
        rw [e72] at hc
        by_cases d : i = t
        · subst d
          rw [if_pos rfl, nIt (by omega)] at hc
          exact r19 j hj _ hc
        · rw [if_neg d] at hc
          rw [o19 _ (by omega) (by omega), e70] at hj
          have rw2 : rW (s2 70) := fun j => h1.1 70 j
          have := rw2.m (t := i) (by omega)
          have hc3 := (h1.at (k := 72) (j := i) (lo := 0) (hi := 3) rfl).2
          rw [o19 _ (by omega) (by omega), e70]
          exact h4 i (by omega) j hj c hc
  obtain ⟨w20, e20, hM20, f20, ok20⟩ := key
  rw [show (((0 : Int32)), N) = (nI 0, N) from rfl, e20, obs, pU_n, obs, pU_n, obs]
  have hA : MI false I0 (g_up (g_up w20 62 29 0) 62 42 0) := (hM20.up (k := 62) (j := 29) rfl (lo := 0) (hi := 40) rfl (by decide) (by decide)).up (k := 62) (j := 42) rfl (lo := 0) (hi := 1) rfl (by decide) (by decide)
  have e17 : g_up (g_up w20 62 29 0) 62 42 0 62 17 = nI ts.length := by
    rw [g_up_ne (Or.inr (by decide)), g_up_ne (Or.inr (by decide)), f20, N17]
  refine ⟨_, by rw [e17], hA, ⟨?_, fun a ha => ?_, fun h => ?_⟩, e17⟩
  · rw [e17, nIt (by omega), g_up_row (by decide), g_up_row (by decide), g_up_row (by decide), g_up_row (by decide)]
    exact ok20
  · rw [g_up_ne (Or.inr (by decide)), g_up_self] at ha
    exact absurd ha (Nat.not_lt_zero a)
  · rw [g_up_self] at h
    exact absurd rfl h
theorem A9.frame {I r : gM} (h : A9 I) (hx : ∀ q j, q ≠ 62 ∨ (j ≠ 2 ∧ j ≠ 3 ∧ j ≠ 4 ∧ j ≠ 9 ∧ j ≠ 12) → q ≠ 64 → q ≠ 65 → q ≠ 66 → q ≠ 67 → q ≠ 68 → q ≠ 69 → r q j = I q j) : A9 r :=
  h.same (hx 62 17 (Or.inr (by decide)) (by decide) (by decide) (by decide) (by decide) (by decide) (by decide)) (hx 62 29 (Or.inr (by decide)) (by decide) (by decide) (by decide) (by decide) (by decide) (by decide)) (hx 62 42 (Or.inr (by decide)) (by decide) (by decide) (by decide) (by decide) (by decide) (by decide)) (fun k hk => funext fun j => by
    rcases hk with rfl | rfl | rfl | rfl <;> exact hx _ j (Or.inl (by decide)) (by decide) (by decide) (by decide) (by decide) (by decide) (by decide))
end P_31h_text9
section P_31i_text9
/-- the tape's length as a number -/
theorem MI.tp {I0 I : gM} (h : MI false I0 I) : ∃ n, n ≤ 400 ∧ I 62 2 = nI n := h.n (k := 62) (j := 2) (hi := 400) rfl
theorem n_readAllM {I0 I : gM} (hM : MI false I0 I) {n : Nat} (hn : n ≤ 400) (e : I 62 2 = nI n) : ∃ r, fX9_readAll I = some r ∧ MI false I0 r.2 ∧ ((pTabs (I 63) n 4 [] 0 = none ∧ r.1 ≠ -1) ∨ ∃ x, pTabs (I 63) n 4 [] 0 = some x ∧ r.1 = -1 ∧ 1 ≤ x.length ∧ TsC r.2 x) := by
  have hT : TP9 (P9 I 0) n 0 := ⟨by rw [P9_j (by decide)]; exact e, hn, P9_3, by omega⟩
  have es : fX9_readAll (P9 I 0) = fX9_readAll I := by
    unfold fX9_readAll fX9_begins
    rw [pU_n, pU_n, show g_up (P9 I 0) 62 3 0 = g_up I 62 3 0 from P9_P9 (p := 0) (q := 0)]
  obtain ⟨r, er, h⟩ := n_readAll hT
  rw [es] at er
  rw [P9_k (by decide)] at h
  obtain ⟨r', er', _, hM'⟩ := tfX9_readAll I hM
  rw [er] at er'
  cases er'
  exact ⟨r, er, hM', h⟩
/-- the tables are told, or nothing but the reading has changed -/
theorem n_text0 {I0 I : gM} (hM : MI false I0 I) (hA : A9 I) {n : Nat} (hn : n ≤ 400) (e : I 62 2 = nI n) : ∃ r, fX9_text 0 I = some r ∧ MI false I0 r.2 ∧ A9 r.2 ∧ r.2 63 = I 63 ∧ r.2 62 12 = I 62 12 ∧
    ((pTabs (I 63) n 4 [] 0 = none ∧ r.1 = -1 ∧ r.2 62 2 = I 62 2) ∨ ∃ x, pTabs (I 63) n 4 [] 0 = some x ∧ r.1 = nI x.length ∧ r.2 62 2 = 0) := by
  obtain ⟨r, er, hMr, h⟩ := n_readAllM hM hn e
  have f := xfX9_readAll _ er
  unfold fX9_text
  rw [if_pos rfl, er, obs]
  rcases h with ⟨e1, h1⟩ | ⟨x, e1, h1, _, hC⟩
  · rw [if_neg h1]
    unfold bX9_text_22
    rw [if_neg (by decide)]
    refine ⟨_, rfl, hMr, hA.frame (fun q j h1 h2 h3 h4 h5 _ _ => f q j (by omega) (by omega) (by omega) h2 h3 h4 h5), ?_, ?_, Or.inl ⟨e1, rfl, ?_⟩⟩
    · exact funext fun j => f 63 j (Or.inl (by decide)) (Or.inl (by decide)) (Or.inl (by decide)) (by decide) (by decide) (by decide) (by decide)
    · exact f 62 12 (Or.inr (by decide)) (Or.inr (by decide)) (Or.inr (by decide)) (by decide) (by decide) (by decide) (by decide)
    · exact f 62 2 (Or.inr (by decide)) (Or.inr (by decide)) (Or.inr (by decide)) (by decide) (by decide) (by decide) (by decide)
  · rw [if_pos h1, pU_n, obs]
    have hM2 : MI false I0 (g_up r.2 62 2 0) := hMr.up (k := 62) rfl (lo := 0) (hi := 400) rfl (by decide) (by decide)
    have hC2 : TsC (g_up r.2 62 2 0) x := ⟨by rw [g_up_ne (Or.inr (by decide))]; exact hC.1, hC.2.1, fun i tb hi => by
      obtain ⟨o1, c1, c2, c3, c4⟩ := hC.2.2 i tb hi
      refine ⟨o1, ?_, fun c hc => ?_, ?_, fun j hj c hc => ?_⟩
      · rw [g_up_row (by decide)]; exact c1
      · rw [g_up_row (by decide)]; exact c2 c hc
      · rw [g_up_row (by decide)]; exact c3
      · rw [g_up_row (by decide)]; exact c4 j hj c hc⟩
    obtain ⟨s, es, hMs, hAs, _⟩ := n_takeTables hM2 hC2
    have fs := xfX9_takeTables _ es
    rw [es, obs]
    refine ⟨_, rfl, hMs, hAs, ?_, ?_, Or.inr ⟨x, e1, rfl, ?_⟩⟩
    · refine funext fun j => ?_
      rw [fs 63 j (Or.inl (by decide)) (by decide) (by decide) (by decide) (Or.inl (by decide)) (Or.inl (by decide)), g_up_row (by decide)]
      exact f 63 j (Or.inl (by decide)) (Or.inl (by decide)) (Or.inl (by decide)) (by decide) (by decide) (by decide) (by decide)
    · rw [fs 62 12 (Or.inr (by decide)) (by decide) (by decide) (by decide) (Or.inr (by decide)) (Or.inr (by decide)), g_up_ne (Or.inr (by decide))]
      exact f 62 12 (Or.inr (by decide)) (Or.inr (by decide)) (Or.inr (by decide)) (by decide) (by decide) (by decide) (by decide)
    · rw [fs 62 2 (Or.inr (by decide)) (by decide) (by decide) (by decide) (Or.inr (by decide)) (Or.inr (by decide)), g_up_self]
theorem n_text1 {I0 I : gM} (hM : MI false I0 I) (hA : A9 I) : ∃ r, fX9_text 1 I = some r ∧ MI false I0 r.2 ∧ A9 r.2 ∧ r.2 63 = I 63 ∧
    ((r.1 = -1 ∧ r.2 62 2 = I 62 2 ∧ r.2 62 12 = I 62 12 ∧ (¬ (4 : Int32) ≤ I 62 12 → ∃ s, fX9_readScript (I 62 12) I = some s ∧ s.1 ≠ -1)) ∨
     (¬ (4 : Int32) ≤ I 62 12 ∧ r.2 62 2 = 0 ∧ r.2 62 12 = I 62 12 + 1 ∧ r.1 = I 62 12 ∧ ∃ s, fX9_readScript (I 62 12) I = some s ∧ s.1 = -1)) := by
  unfold fX9_text
  rw [if_neg (by decide)]
  unfold bX9_text_22
  rw [if_pos rfl]
  obtain ⟨sc, hs, esc⟩ := hM.n (k := 62) (j := 12) (hi := 4) rfl
  by_cases c : (4 : Int32) ≤ I 62 12
  · rw [if_pos c]
    exact ⟨_, rfl, hM, hA, rfl, Or.inl ⟨rfl, rfl, rfl, fun h => absurd c h⟩⟩
  · rw [if_neg c]
    have c4 : sc < 4 := by
      rw [esc] at c
      have := mt (nI_leI (a := 4) (b := sc) (by omega) (by omega)).mpr c
      omega
    obtain ⟨s, es, _, hMs⟩ := tfX9_readScript (I 62 12) I hM (by rw [esc, tnI (by omega)]; omega)
    have f := xfX9_readScript _ _ es
    have hAs : A9 s.2 := hA.frame (fun q j h1 h2 h3 h4 h5 h6 h7 => f q j (by omega) (by omega) h7 h6)
    have f63 : s.2 63 = I 63 := funext fun j => f 63 j (Or.inl (by decide)) (Or.inl (by decide)) (by decide) (by decide)
    have f12 : s.2 62 12 = I 62 12 := f 62 12 (Or.inr (by decide)) (Or.inr (by decide)) (by decide) (by decide)
    rw [es, obs]
    by_cases c2 : s.1 = -1
    · rw [if_pos c2, pU_n, obs, pU_n, obs, g_up_self, g_up_ne (Or.inr (by decide)), f12]
      have hM2 : MI false I0 (g_up (g_up s.2 62 2 0) 62 12 (I 62 12 + 1)) := (hMs.up (k := 62) (j := 2) rfl (lo := 0) (hi := 400) rfl (by decide) (by decide)).up (k := 62) (j := 12) rfl (lo := 0) (hi := 4) rfl (by rw [esc, nI_1, tnI (by omega)]; omega) (by rw [esc, nI_1, tnI (by omega)]; omega)
      refine ⟨_, rfl, hM2, hAs.frame (fun q j h1 _ _ _ _ _ _ => by dsimp only; rw [g_up_ne (by omega), g_up_ne (by omega)]), ?_, Or.inr ⟨c, ?_, ?_, ?_, s, rfl, c2⟩⟩
      · dsimp only; rw [g_up_row (by decide), g_up_row (by decide)]; exact f63
      · dsimp only; rw [g_up_ne (Or.inr (by decide)), g_up_self]
      · dsimp only; rw [g_up_self]
      · show I 62 12 + 1 - 1 = I 62 12
        rw [esc, nI_1, nI_s1 (by omega), Nat.add_sub_cancel]
    · rw [if_neg c2]
      exact ⟨_, rfl, hMs, hAs, f63, Or.inl ⟨rfl, f 62 2 (Or.inr (by decide)) (Or.inr (by decide)) (by decide) (by decide), f12, fun _ => ⟨s, rfl, c2⟩⟩⟩
theorem n_textN {I : gM} {v : Int32} (h0 : v ≠ 0) (h1 : v ≠ 1) : fX9_text v I = some (-1, I) := by
  unfold fX9_text
  rw [if_neg h0]
  unfold bX9_text_22
  rw [if_neg h1]
theorem t_text9 {I0 I : gM} (hM : MI false I0 I) (hA : A9 I) (v : Int32) : T (fX9_text v I) (fun r => MI false I0 r.2 ∧ A9 r.2) := by
  by_cases c0 : v = 0
  · subst c0
    obtain ⟨n, hn, e⟩ := hM.tp
    obtain ⟨r, er, h1, h2, _⟩ := n_text0 hM hA hn e
    exact ⟨r, er, h1, h2⟩
  · by_cases c1 : v = 1
    · subst c1
      obtain ⟨r, er, h1, h2, _⟩ := n_text1 hM hA
      exact ⟨r, er, h1, h2⟩
    · rw [n_textN c0 c1]
      exact t_ret ⟨hM, hA⟩
theorem t_log9 {I0 I : gM} (hM : MI false I0 I) (v1 v2 : Int32) : T (fX9_log v1 v2 I) (fun _ => True) := by
  obtain ⟨m, hm, em⟩ := hM.n (k := 70) (j := 150) (hi := 60) rfl
  have er : ∀ {f : Int32 → Option Int32} {Q : Int32 → Prop}, T (f (nI m)) Q → T ((rI 331 (I 70) (150 : Int32)).bind f) Q := fun h => t_be ((rI_n (a := 150) (by omega) (by omega)).trans (congrArg some em)) h
  unfold fX9_log
  refine er ?_
  rcases n_in v1 0 (nI m - 1) with ⟨a1, a2, e⟩ | ⟨_, e⟩
  · refine t_be e ?_
    rw [if_neg n10]
    rcases n_in v2 0 2 with ⟨b1, b2, e⟩ | ⟨_, e⟩
    · refine t_be e ?_
      rw [if_neg n10]
      refine er ?_
      have m1 : 1 ≤ m := by
        rcases Nat.eq_zero_or_pos m with z | z
        · subst z
          have : (nI 0 - 1 : Int32).toInt = -1 := by decide
          have z0 : (0 : Int32).toInt = 0 := rfl
          omega
        · exact z
      rw [nI_s1 m1, tnI (by omega)] at a2
      have z0 : (0 : Int32).toInt = 0 := rfl
      have z2 : (2 : Int32).toInt = 2 := rfl
      rw [nI_s1 m1, nI_self (x := v1) (by omega), nI_self (x := v2) (by omega), nI_sub (by omega), L3, nI_mul, L151, nI_add, nI_add]
      refine t_be (rI_n (by omega) (by omega)) ?_
      exact t_ret trivial
    · refine t_be e ?_
      rw [if_pos rfl]; exact t_ret trivial
  · refine t_be e ?_
    rw [if_pos rfl]; exact t_ret trivial
end P_31i_text9
section P_31j_feed
/-! feed: the signs of five words, class and reference -/
/-- a word's four signs -/
def bw (v : Int32) : List Int32 := [(v >>> ((24 : Int32) &&& 31)) &&& 255, (v >>> ((16 : Int32) &&& 31)) &&& 255, (v >>> ((8 : Int32) &&& 31)) &&& 255, (v >>> ((0 : Int32) &&& 31)) &&& 255]
def nz (l : List Int32) : List Int32 := l.filter (fun b => decide (b ≠ 0))
theorem nz_app {a b : List Int32} : nz (a ++ b) = nz a ++ nz b := List.filter_append _ _
theorem nz_0 {b : Int32} (h : b = 0) : nz [b] = [] := by subst h; rfl
theorem nz_1 {b : Int32} (h : ¬ b = 0) : nz [b] = [b] := by unfold nz; rw [List.filter_cons, if_pos (by simpa using h)]; rfl
theorem nz_take {l : List Int32} {k : Nat} (h : k < l.length) : nz (l.take (k + 1)) = nz (l.take k) ++ nz [l.getD k 0] := by
  rw [← nz_app]
  congr 1
  rw [List.take_succ, List.getD_eq_getElem?_getD, List.getElem?_eq_getElem h]; rfl
def by5 (v1 v2 v3 v4 v5 : Int32) : List Int32 := bw v1 ++ (bw v2 ++ (bw v3 ++ (bw v4 ++ bw v5)))
theorem by5_len {v1 v2 v3 v4 v5 : Int32} : (by5 v1 v2 v3 v4 v5).length = 20 := rfl
theorem n_byteOf (v1 v2 v3 v4 v5 : Int32) {k : Nat} (h : k < 20) : fX9_byteOf v1 v2 v3 v4 v5 (nI k) = some ((by5 v1 v2 v3 v4 v5).getD k 0) := by
  unfold fX9_byteOf bX9_byteOf_45
  rcases (show k = 0 ∨ k = 1 ∨ k = 2 ∨ k = 3 ∨ k = 4 ∨ k = 5 ∨ k = 6 ∨ k = 7 ∨ k = 8 ∨ k = 9 ∨ k = 10 ∨ k = 11 ∨ k = 12 ∨ k = 13 ∨ k = 14 ∨ k = 15 ∨ k = 16 ∨ k = 17 ∨ k = 18 ∨ k = 19 by omega) with rfl | rfl | rfl | rfl | rfl | rfl | rfl | rfl | rfl | rfl | rfl | rfl | rfl | rfl | rfl | rfl | rfl | rfl | rfl | rfl
  · rw [if_neg (by decide), show (((24 : Int32) - ((8 : Int32) * (iR (nI 0) 4))) &&& 31) = (24 : Int32) &&& 31 by decide +kernel]; rfl
  · rw [if_neg (by decide), show (((24 : Int32) - ((8 : Int32) * (iR (nI 1) 4))) &&& 31) = (16 : Int32) &&& 31 by decide +kernel]; rfl
  · rw [if_neg (by decide), show (((24 : Int32) - ((8 : Int32) * (iR (nI 2) 4))) &&& 31) = (8 : Int32) &&& 31 by decide +kernel]; rfl
  · rw [if_neg (by decide), show (((24 : Int32) - ((8 : Int32) * (iR (nI 3) 4))) &&& 31) = (0 : Int32) &&& 31 by decide +kernel]; rfl
  · rw [if_pos (by decide), if_neg (by decide), show (((24 : Int32) - ((8 : Int32) * (iR (nI 4) 4))) &&& 31) = (24 : Int32) &&& 31 by decide +kernel]; rfl
  · rw [if_pos (by decide), if_neg (by decide), show (((24 : Int32) - ((8 : Int32) * (iR (nI 5) 4))) &&& 31) = (16 : Int32) &&& 31 by decide +kernel]; rfl
  · rw [if_pos (by decide), if_neg (by decide), show (((24 : Int32) - ((8 : Int32) * (iR (nI 6) 4))) &&& 31) = (8 : Int32) &&& 31 by decide +kernel]; rfl
  · rw [if_pos (by decide), if_neg (by decide), show (((24 : Int32) - ((8 : Int32) * (iR (nI 7) 4))) &&& 31) = (0 : Int32) &&& 31 by decide +kernel]; rfl
  · rw [if_pos (by decide), if_pos (by decide), if_neg (by decide), show (((24 : Int32) - ((8 : Int32) * (iR (nI 8) 4))) &&& 31) = (24 : Int32) &&& 31 by decide +kernel]; rfl
  · rw [if_pos (by decide), if_pos (by decide), if_neg (by decide), show (((24 : Int32) - ((8 : Int32) * (iR (nI 9) 4))) &&& 31) = (16 : Int32) &&& 31 by decide +kernel]; rfl
  · rw [if_pos (by decide), if_pos (by decide), if_neg (by decide), show (((24 : Int32) - ((8 : Int32) * (iR (nI 10) 4))) &&& 31) = (8 : Int32) &&& 31 by decide +kernel]; rfl
  · rw [if_pos (by decide), if_pos (by decide), if_neg (by decide), show (((24 : Int32) - ((8 : Int32) * (iR (nI 11) 4))) &&& 31) = (0 : Int32) &&& 31 by decide +kernel]; rfl
  · rw [if_pos (by decide), if_pos (by decide), if_pos (by decide), if_neg (by decide), show (((24 : Int32) - ((8 : Int32) * (iR (nI 12) 4))) &&& 31) = (24 : Int32) &&& 31 by decide +kernel]; rfl
  · rw [if_pos (by decide), if_pos (by decide), if_pos (by decide), if_neg (by decide), show (((24 : Int32) - ((8 : Int32) * (iR (nI 13) 4))) &&& 31) = (16 : Int32) &&& 31 by decide +kernel]; rfl
  · rw [if_pos (by decide), if_pos (by decide), if_pos (by decide), if_neg (by decide), show (((24 : Int32) - ((8 : Int32) * (iR (nI 14) 4))) &&& 31) = (8 : Int32) &&& 31 by decide +kernel]; rfl
  · rw [if_pos (by decide), if_pos (by decide), if_pos (by decide), if_neg (by decide), show (((24 : Int32) - ((8 : Int32) * (iR (nI 15) 4))) &&& 31) = (0 : Int32) &&& 31 by decide +kernel]; rfl
  · rw [if_pos (by decide), if_pos (by decide), if_pos (by decide), if_pos (by decide), show (((24 : Int32) - ((8 : Int32) * (iR (nI 16) 4))) &&& 31) = (24 : Int32) &&& 31 by decide +kernel]; rfl
  · rw [if_pos (by decide), if_pos (by decide), if_pos (by decide), if_pos (by decide), show (((24 : Int32) - ((8 : Int32) * (iR (nI 17) 4))) &&& 31) = (16 : Int32) &&& 31 by decide +kernel]; rfl
  · rw [if_pos (by decide), if_pos (by decide), if_pos (by decide), if_pos (by decide), show (((24 : Int32) - ((8 : Int32) * (iR (nI 18) 4))) &&& 31) = (8 : Int32) &&& 31 by decide +kernel]; rfl
  · rw [if_pos (by decide), if_pos (by decide), if_pos (by decide), if_pos (by decide), show (((24 : Int32) - ((8 : Int32) * (iR (nI 19) 4))) &&& 31) = (0 : Int32) &&& 31 by decide +kernel]; rfl
/-- signs written behind the n first ones -/
def wt (w : Nat → Int32) (n : Nat) (l : List Int32) : Nat → Int32 := fun a => if n ≤ a ∧ a < n + l.length then l.getD (a - n) 0 else w a
theorem wt_nil {w : Nat → Int32} {n a : Nat} : wt w n [] a = w a := by unfold wt; rw [if_neg (by simp only [List.length_nil]; omega)]
theorem wt_snoc {w : Nat → Int32} {n a : Nat} {l : List Int32} {b : Int32} : wt w n (l ++ [b]) a = if a = n + l.length then b else wt w n l a := by
  unfold wt
  rw [show (l ++ [b]).length = l.length + 1 by rw [List.length_append]; rfl]
  by_cases d : a = n + l.length
  · rw [if_pos d, if_pos (by omega), d, Nat.add_sub_cancel_left, List.getD_eq_getElem?_getD, List.getElem?_append_right (Nat.le_refl _), Nat.sub_self]; rfl
  · rw [if_neg d]
    by_cases d2 : n ≤ a ∧ a < n + l.length
    · rw [if_pos d2, if_pos (by omega), List.getD_eq_getElem?_getD, List.getD_eq_getElem?_getD, List.getElem?_append_left (by omega)]
    · rw [if_neg d2, if_neg (by omega)]
/-- the memory with signs behind the tape: length at (o, x), signs in y -/
def fe (o x y : Nat) (I : gM) (n : Nat) (l : List Int32) : gM := fun k j => if k = o ∧ j = x then nI (n + l.length) else if k = y then wt (I y) n l j else I k j
theorem fe_nil {o x y : Nat} {I : gM} {n : Nat} (e : I o x = nI n) : fe o x y I n [] = I := by
  funext k j
  unfold fe
  by_cases c : k = o ∧ j = x
  · rw [if_pos c, c.1, c.2, e]; rfl
  · rw [if_neg c]
    by_cases d : k = y
    · rw [if_pos d, wt_nil, d]
    · rw [if_neg d]
theorem fe_len {o x y : Nat} {I : gM} {n : Nat} {l : List Int32} : fe o x y I n l o x = nI (n + l.length) := by unfold fe; rw [if_pos ⟨rfl, rfl⟩]
theorem fe_snoc {o x y : Nat} (hy : y ≠ o) {I : gM} {n : Nat} {l : List Int32} {b : Int32} : g_up (g_up (fe o x y I n l) y (n + l.length) b) o x (nI (n + l.length + 1)) = fe o x y I n (l ++ [b]) := by
  funext k j
  by_cases c : k = o ∧ j = x
  · rw [c.1, c.2, g_up_self, fe_len, List.length_append]; rfl
  · rw [g_up_ne (by omega)]
    by_cases d : k = y
    · subst d
      rw [gu_in]
      unfold fe
      rw [if_neg c, if_neg c, if_pos rfl, if_pos rfl, wt_snoc]
    · rw [g_up_row d]
      unfold fe
      rw [if_neg c, if_neg c, if_neg d, if_neg d]
theorem n_feed9 (v1 v2 v3 v4 v5 : Int32) {I : gM} {n : Nat} (hn : n ≤ 400) (e : I 62 2 = nI n) : fX9_feed v1 v2 v3 v4 v5 I = some (if n + (nz (by5 v1 v2 v3 v4 v5)).length ≤ 400 then (nI (n + (nz (by5 v1 v2 v3 v4 v5)).length), fe 62 2 63 I n (nz (by5 v1 v2 v3 v4 v5))) else (-1, I)) := by
  generalize hL : by5 v1 v2 v3 v4 v5 = L
  have l20 : L.length = 20 := by rw [← hL]; rfl
  have hb : ∀ k, k < 20 → fX9_byteOf v1 v2 v3 v4 v5 (nI k) = some (L.getD k 0) := fun k hk => by rw [← hL]; exact n_byteOf v1 v2 v3 v4 v5 hk
  have tl : L.take 20 = L := List.take_of_length_le (by omega)
  have s20 : ∀ k, (nz (L.take k)).length ≤ k := fun k => Nat.le_trans (List.length_filter_le _ _) (List.length_take_le _ _)
  have key : T (lX9_feed_6 v1 v2 v3 v4 v5 (nI 0, nI 0)) (fun r => r = nI (nz L).length) := by
    unfold lX9_feed_6
    refine t_it (P := fun s => ∃ k, k ≤ 20 ∧ s.2 = nI k ∧ s.1 = nI (nz (L.take k)).length) (μ := fun s => 30 - s.2.toInt.toNat) (fun s p => ?_) ⟨0, by omega, rfl, rfl⟩
    obtain ⟨s1, s2⟩ := s
    obtain ⟨k, hk, e2, e1⟩ := p
    dsimp only at e1 e2
    subst e1; subst e2
    dsimp only
    refine t_ite (fun c => ?_) (fun c => ?_)
    · have c := (nI_leI (a := 20) (b := k) (by omega) (by omega)).mp c
      have : k = 20 := by omega
      subst this
      rw [tl]
      exact t_ret rfl
    · have c := mt (nI_leI (a := 20) (b := k) (by omega) (by omega)).mpr c
      have ht := nz_take (l := L) (k := k) (by omega)
      have := s20 k
      refine t_be (hb k (by omega)) ?_
      have mu : 30 - (nI (k + 1)).toInt.toNat < 30 - (nI k).toInt.toNat := by rw [nIt (by omega), nIt (by omega)]; omega
      refine t_ite (fun z => ?_) (fun z => ?_)
      · unfold bX9_feed_35
        rw [nI_1]
        rw [nz_0 z, List.append_nil] at ht
        refine t_nx ?_ mu
        refine ⟨k + 1, by omega, rfl, ?_⟩
        dsimp only
        rw [ht, L0, nI_add, Nat.add_zero]
      · unfold bX9_feed_35
        rw [nI_1, nI_1]
        rw [nz_1 z] at ht
        refine t_nx ?_ mu
        refine ⟨k + 1, by omega, rfl, ?_⟩
        dsimp only
        rw [ht, List.length_append]; rfl
  have key2 : n + (nz L).length ≤ 400 → T (lX9_feed_62 v1 v2 v3 v4 v5 (nI 0, I)) (fun r => r = fe 62 2 63 I n (nz L)) := by
    intro h400
    have sl : ∀ k, (nz (L.take k)).length ≤ (nz L).length := fun k => by
      have q : nz L = nz (L.take k) ++ nz (L.drop k) := by rw [← nz_app, List.take_append_drop]
      rw [q, List.length_append]; omega
    unfold lX9_feed_62
    refine t_it (P := fun s => ∃ k, k ≤ 20 ∧ s.1 = nI k ∧ s.2 = fe 62 2 63 I n (nz (L.take k))) (μ := fun s => 30 - s.1.toInt.toNat) (fun s p => ?_) ⟨0, by omega, rfl, (fe_nil e).symm⟩
    obtain ⟨s1, s2⟩ := s
    obtain ⟨k, hk, e1, e2⟩ := p
    dsimp only at e1 e2
    subst e1; subst e2
    dsimp only
    refine t_ite (fun c => ?_) (fun c => ?_)
    · have c := (nI_leI (a := 20) (b := k) (by omega) (by omega)).mp c
      have : k = 20 := by omega
      subst this
      rw [tl]
      exact t_ret rfl
    · have c := mt (nI_leI (a := 20) (b := k) (by omega) (by omega)).mpr c
      have ht := nz_take (l := L) (k := k) (by omega)
      refine t_be (hb k (by omega)) ?_
      have mu : 30 - (nI (k + 1)).toInt.toNat < 30 - (nI k).toInt.toNat := by rw [nIt (by omega), nIt (by omega)]; omega
      refine t_ite (fun z => ?_) (fun z => ?_)
      · unfold bX9_feed_109
        rw [nI_1]
        rw [nz_0 z, List.append_nil] at ht
        refine t_nx ?_ mu
        exact ⟨k + 1, by omega, rfl, by dsimp only; rw [ht]⟩
      · rw [nz_1 z] at ht
        have q1 := sl (k + 1)
        rw [ht, List.length_append] at q1
        have q2 : [L.getD k 0].length = 1 := rfl
        have e0 : fe 62 2 63 I n (nz (L.take k)) 62 2 = nI (n + (nz (L.take k)).length) := fe_len
        refine t_be ((congrArg (fun i => wI (fe 62 2 63 I n (nz (L.take k))) 63 400 i (L.getD k 0)) e0).trans (wI_n (by omega) (by omega))) ?_
        refine t_be pU_n ?_
        rw [g_up_row (by decide), e0, nI_1, fe_snoc (by decide)]
        unfold bX9_feed_109
        rw [nI_1]
        refine t_nx ?_ mu
        exact ⟨k + 1, by omega, rfl, by dsimp only; rw [ht]⟩
  unfold fX9_feed
  obtain ⟨w, ew, rfl⟩ := key
  rw [show ((0 : Int32), (0 : Int32)) = (nI 0, nI 0) from rfl, ew, obs, e, nI_add]
  have := s20 20
  rw [tl] at this
  by_cases c : n + (nz L).length ≤ 400
  · rw [L400, if_pos ((nI_leI (by omega) (by omega)).mpr c), if_pos c]
    obtain ⟨r, er, rfl⟩ := key2 c
    rw [show ((0 : Int32), I) = (nI 0, I) from rfl, er, obs, fe_len]
  · rw [L400, if_neg (mt (nI_leI (by omega) (by omega)).mp c), if_neg c]
end P_31j_feed
section P_32a_feed8
/-! feed of the class -/
def bc (b : Int32) : Int32 := vp_nar .byte b.toInt8.toInt32
theorem c_in1 {v σ : Int32} {m : Nat} (h : ¬ σ < 0) : lX6_bytesIn_5 v (nI m, σ) = lX6_bytesIn_5 v (nI (m + (nz [(v >>> (σ &&& 31)) &&& 255]).length), σ + (-8)) := by
  conv => lhs; unfold lX6_bytesIn_5
  rw [itO_eq]; dsimp only
  rw [if_neg h]
  by_cases c : (v >>> (σ &&& 31)) &&& 255 = 0
  · rw [if_pos c, nz_0 c]
    unfold bX6_bytesIn_22
    rw [obs]; rfl
  · rw [if_neg c, nz_1 c, nI_1]
    unfold bX6_bytesIn_22
    rw [obs]; rfl
theorem c_bytesIn (v : Int32) : fX6_bytesIn v = some (nI (nz (bw v)).length) := by
  unfold fX6_bytesIn
  rw [show ((0 : Int32), (24 : Int32)) = (nI 0, 24) from rfl, c_in1 (by decide), show (24 : Int32) + (-8) = 16 by decide, c_in1 (by decide), show (16 : Int32) + (-8) = 8 by decide, c_in1 (by decide), show (8 : Int32) + (-8) = 0 by decide, c_in1 (by decide), show (0 : Int32) + (-8) = -8 by decide]
  unfold lX6_bytesIn_5
  rw [itO_eq]; dsimp only
  rw [if_pos (by decide), obs]
  show some (nI _) = some (nI _)
  congr 2
  have e : bw v = [(v >>> ((24 : Int32) &&& 31)) &&& 255] ++ ([(v >>> ((16 : Int32) &&& 31)) &&& 255] ++ ([(v >>> ((8 : Int32) &&& 31)) &&& 255] ++ [(v >>> ((0 : Int32) &&& 31)) &&& 255])) := rfl
  rw [e, nz_app, nz_app, nz_app, List.length_append, List.length_append, List.length_append]
  omega
theorem c_ap1 {I : gM} {v σ : Int32} {n : Nat} {l : List Int32} (h : ¬ σ < 0) (h4 : n + l.length + (nz [(v >>> (σ &&& 31)) &&& 255]).length ≤ 400) :
    lX6_append_3 v (σ, fe 1 0 2 I n (l.map bc)) = lX6_append_3 v (σ + (-8), fe 1 0 2 I n ((l ++ nz [(v >>> (σ &&& 31)) &&& 255]).map bc)) := by
  conv => lhs; unfold lX6_append_3
  rw [itO_eq]; dsimp only
  rw [if_neg h]
  have lm : (l.map bc).length = l.length := List.length_map _
  by_cases c : (v >>> (σ &&& 31)) &&& 255 = 0
  · rw [if_pos c, nz_0 c, List.append_nil]
    unfold bX6_append_50
    rw [obs]; rfl
  · rw [nz_1 c] at h4 ⊢
    have h5 : n + l.length + 1 ≤ 400 := h4
    have e0 : fe 1 0 2 I n (l.map bc) 1 0 = nI (n + (l.map bc).length) := fe_len
    rw [if_neg c, if_neg (show ¬ (400 : Int32) ≤ fe 1 0 2 I n (l.map bc) 1 0 by rw [e0, L400, lm]; exact mt (nI_leI (by omega) (by omega)).mp (by omega)), e0, wI_n (by rw [lm]; omega) (by omega), obs, pU_n, obs, g_up_row (show 1 ≠ 2 by decide), e0, nI_1, fe_snoc (by decide)]
    unfold bX6_append_50
    rw [obs, List.map_append]; rfl
theorem c_append {I : gM} {v : Int32} {n : Nat} {l : List Int32} (h : n + l.length + (nz (bw v)).length ≤ 400) : fX6_append v (fe 1 0 2 I n (l.map bc)) = some (fe 1 0 2 I n ((l ++ nz (bw v)).map bc)) := by
  have e : bw v = [(v >>> ((24 : Int32) &&& 31)) &&& 255] ++ ([(v >>> ((16 : Int32) &&& 31)) &&& 255] ++ ([(v >>> ((8 : Int32) &&& 31)) &&& 255] ++ [(v >>> ((0 : Int32) &&& 31)) &&& 255])) := rfl
  rw [e, nz_app, nz_app, nz_app, List.length_append, List.length_append, List.length_append] at h
  unfold fX6_append
  rw [c_ap1 (by decide) (by omega), show (24 : Int32) + (-8) = 16 by decide, c_ap1 (by decide) (by rw [List.length_append]; omega), show (16 : Int32) + (-8) = 8 by decide, c_ap1 (by decide) (by rw [List.length_append, List.length_append]; omega), show (8 : Int32) + (-8) = 0 by decide, c_ap1 (by decide) (by rw [List.length_append, List.length_append, List.length_append]; omega), show (0 : Int32) + (-8) = -8 by decide]
  unfold lX6_append_3
  rw [itO_eq]; dsimp only
  rw [if_pos (by decide), obs]
  show some _ = some _
  congr 2
  rw [e, nz_app, nz_app, nz_app, List.append_assoc, List.append_assoc, List.append_assoc]
theorem n_feed8 (v1 v2 v3 v4 v5 : Int32) {I : gM} {n : Nat} (hn : n ≤ 400) (e : I 1 0 = nI n) : fX8_feed v1 v2 v3 v4 v5 I = some (if n + (nz (by5 v1 v2 v3 v4 v5)).length ≤ 400 then (nI (n + (nz (by5 v1 v2 v3 v4 v5)).length), fe 1 0 2 I n ((nz (by5 v1 v2 v3 v4 v5)).map bc)) else (-1, I)) := by
  have el : nz (by5 v1 v2 v3 v4 v5) = nz (bw v1) ++ (nz (bw v2) ++ (nz (bw v3) ++ (nz (bw v4) ++ nz (bw v5)))) := by
    unfold by5; rw [nz_app, nz_app, nz_app, nz_app]
  have l4 : ∀ v, (nz (bw v)).length ≤ 4 := fun v => List.length_filter_le _ _
  have q1 := l4 v1
  have q2 := l4 v2
  have q3 := l4 v3
  have q4 := l4 v4
  have q5 := l4 v5
  unfold fX8_feed
  rw [c_bytesIn, obs, c_bytesIn, obs, c_bytesIn, obs, c_bytesIn, obs, c_bytesIn, obs, e, nI_add, nI_add, nI_add, nI_add, nI_add, el, List.length_append, List.length_append, List.length_append, List.length_append]
  by_cases c : n + ((nz (bw v1)).length + ((nz (bw v2)).length + ((nz (bw v3)).length + ((nz (bw v4)).length + (nz (bw v5)).length)))) ≤ 400
  · rw [L400, if_pos ((nI_leI (by omega) (by omega)).mpr (by omega)), if_pos c]
    have e0 : I = fe 1 0 2 I n (([] : List Int32).map bc) := (fe_nil e).symm
    conv => lhs; rw [e0]
    rw [c_append (by simp only [List.length_nil]; omega), obs, List.nil_append, c_append (by omega), obs, c_append (by rw [List.length_append]; omega), obs, c_append (by rw [List.length_append, List.length_append]; omega), obs, c_append (by rw [List.length_append, List.length_append, List.length_append]; omega), obs, fe_len, List.length_map, List.append_assoc, List.append_assoc, List.append_assoc, List.length_append, List.length_append, List.length_append, List.length_append]
  · rw [L400, if_neg (mt (nI_leI (by omega) (by omega)).mp (by omega)), if_neg c]
/-- the two tapes hold the same signs -/
def TPR (I : gM) : Prop := ∃ n, n ≤ 400 ∧ I 1 0 = nI n ∧ I 62 2 = nI n ∧ ∀ j, j < n → I 2 j = bc (I 63 j) ∧ 1 ≤ (I 63 j).toInt ∧ (I 63 j).toInt ≤ 255
theorem bw_rg {v b : Int32} (h : b ∈ nz (bw v)) : 1 ≤ b.toInt ∧ b.toInt ≤ 255 := by
  obtain ⟨h1, h2⟩ := List.mem_filter.mp h
  have h2 : b ≠ 0 := by simpa using h2
  have q : 0 ≤ b.toInt ∧ b.toInt ≤ 255 := by
    have g : ∀ a : Int32, 0 ≤ (a &&& 255).toInt ∧ (a &&& 255).toInt ≤ 255 := fun a => and_b a (Or.inr (Or.inr (Or.inl rfl)))
    rcases List.mem_cons.mp h1 with rfl | h1
    · exact g _
    rcases List.mem_cons.mp h1 with rfl | h1
    · exact g _
    rcases List.mem_cons.mp h1 with rfl | h1
    · exact g _
    rcases List.mem_cons.mp h1 with rfl | h1
    · exact g _
    · cases h1
  have : b.toInt ≠ 0 := fun e => h2 ((iEQ rfl (by decide : (0 : Int32).toInt = 0)).mpr e)
  omega
theorem by5_rg {v1 v2 v3 v4 v5 b : Int32} (h : b ∈ nz (by5 v1 v2 v3 v4 v5)) : 1 ≤ b.toInt ∧ b.toInt ≤ 255 := by
  unfold by5 at h
  rw [nz_app, nz_app, nz_app, nz_app] at h
  rcases List.mem_append.mp h with h | h
  · exact bw_rg h
  rcases List.mem_append.mp h with h | h
  · exact bw_rg h
  rcases List.mem_append.mp h with h | h
  · exact bw_rg h
  rcases List.mem_append.mp h with h | h
  · exact bw_rg h
  · exact bw_rg h
theorem fe_k {o x y : Nat} {I : gM} {n : Nat} {l : List Int32} {k : Nat} (h1 : k ≠ o) (h2 : k ≠ y) : fe o x y I n l k = I k := by
  funext j
  unfold fe
  rw [if_neg (fun z => h1 z.1), if_neg h2]
theorem fe_j {o x y : Nat} (hy : y ≠ o) {I : gM} {n : Nat} {l : List Int32} {j : Nat} (h : j ≠ x) : fe o x y I n l o j = I o j := by
  unfold fe
  rw [if_neg (fun z => h z.2), if_neg (fun z => hy z.symm)]
theorem fe_y {o x y : Nat} (hy : y ≠ o) {I : gM} {n : Nat} {l : List Int32} : fe o x y I n l y = wt (I y) n l := by
  funext j
  unfold fe
  rw [if_neg (fun z => hy z.1), if_pos rfl]
/-- both are fed: the answers are the same, and the tapes stay the same -/
theorem feed_both (v1 v2 v3 v4 v5 : Int32) {I : gM} (hR : TPR I) : ∃ v A B, fX8_feed v1 v2 v3 v4 v5 I = some (v, A) ∧ fX9_feed v1 v2 v3 v4 v5 A = some (v, B) ∧ TPR B ∧ (∀ q, q ≠ 1 → q ≠ 2 → q ≠ 62 → q ≠ 63 → B q = I q) ∧ (∀ j, j ≠ 0 → B 1 j = I 1 j) ∧ ∀ j, j ≠ 2 → B 62 j = I 62 j := by
  obtain ⟨n, hn, e1, e2, h⟩ := hR
  have a1 := n_feed8 v1 v2 v3 v4 v5 hn e1
  by_cases c : n + (nz (by5 v1 v2 v3 v4 v5)).length ≤ 400
  · rw [if_pos c] at a1
    have a2 := n_feed9 v1 v2 v3 v4 v5 (I := fe 1 0 2 I n ((nz (by5 v1 v2 v3 v4 v5)).map bc)) hn (by rw [fe_k (by decide) (by decide)]; exact e2)
    rw [if_pos c] at a2
    refine ⟨_, _, _, a1, a2, ⟨n + (nz (by5 v1 v2 v3 v4 v5)).length, c, ?_, fe_len, fun j hj => ?_⟩, fun q q1 q2 q3 q4 => ?_, fun j hj => ?_, fun j hj => ?_⟩
    · rw [fe_k (by decide) (by decide), fe_len, List.length_map]
    · rw [fe_k (show 2 ≠ 62 by decide) (by decide), fe_y (show 2 ≠ 1 by decide), fe_y (show 63 ≠ 62 by decide), fe_k (show 63 ≠ 1 by decide) (by decide)]
      unfold wt
      rw [List.length_map]
      by_cases d : n ≤ j ∧ j < n + (nz (by5 v1 v2 v3 v4 v5)).length
      · have d2 : j - n < (nz (by5 v1 v2 v3 v4 v5)).length := by omega
        rw [if_pos d, if_pos d, List.getD_eq_getElem?_getD, List.getD_eq_getElem?_getD, List.getElem?_map, List.getElem?_eq_getElem d2]
        exact ⟨rfl, by5_rg (List.getElem_mem d2)⟩
      · rw [if_neg d, if_neg d]
        exact h j (by omega)
    · rw [fe_k q3 q4, fe_k q1 q2]
    · rw [fe_k (by decide) (by decide), fe_j (by decide) hj]
    · rw [fe_j (by decide) hj, fe_k (by decide) (by decide)]
  · rw [if_neg c] at a1
    have a2 := n_feed9 v1 v2 v3 v4 v5 hn e2
    rw [if_neg c] at a2
    exact ⟨_, _, _, a1, a2, ⟨n, hn, e1, e2, h⟩, fun _ _ _ _ _ => rfl, fun _ _ => rfl, fun _ _ => rfl⟩
end P_32a_feed8
section P_32b_tape8
/-! the class reads the signs -/
theorem bc_t : ∀ a, a < 256 → (bc (nI a) &&& 255 = nI a ∧ (bc (nI a) = 32 ↔ nI a = 32)) ∧ (dg (bc (nI a)) ↔ dg (nI a)) ∧ (dg (nI a) → bc (nI a) = nI a) := by decide +kernel
theorem bc_ok {b : Int32} (h : 1 ≤ b.toInt ∧ b.toInt ≤ 255) : (bc b &&& 255 = b ∧ (bc b = 32 ↔ b = 32)) ∧ (dg (bc b) ↔ dg b) ∧ (dg b → bc b = b) := by
  have e := nI_self (x := b) (by omega)
  rw [e]
  exact bc_t _ (by omega)
def P6 (I : gM) (p : Nat) : gM := g_up I 1 2 (nI p)
theorem P6_P6 {I : gM} {p q : Nat} : P6 (P6 I p) q = P6 I q := by
  funext a b
  unfold P6
  by_cases c : a = 1 ∧ b = 2
  · rw [c.1, c.2, g_up_self, g_up_self]
  · rw [g_up_ne (by omega), g_up_ne (by omega), g_up_ne (by omega)]
theorem P6_2 {I : gM} {p : Nat} : P6 I p 1 2 = nI p := g_up_self
theorem P6_j {I : gM} {p j : Nat} (h : j ≠ 2) : P6 I p 1 j = I 1 j := g_up_ne (Or.inr h)
theorem P6_k {I : gM} {p k : Nat} (h : k ≠ 1) : P6 I p k = I k := g_up_row h
theorem P6_same {I : gM} {p : Nat} (h : I 1 2 = nI p) : P6 I p = I := g_up_same h
theorem P6_pU {I : gM} {p q : Nat} : g_up (P6 I p) 1 2 (nI q) = P6 I q := P6_P6
/-- the class's tape: n signs of w, the reading at p -/
def C8 (M : gM) (w : Nat → Int32) (n p : Nat) : Prop := M 1 0 = nI n ∧ n ≤ 400 ∧ M 1 2 = nI p ∧ p ≤ n ∧ ∀ j, j < n → M 2 j = bc (w j) ∧ 1 ≤ (w j).toInt ∧ (w j).toInt ≤ 255
theorem C8.at {M : gM} {w : Nat → Int32} {n p q : Nat} (h : C8 M w n p) (hq : q ≤ n) : C8 (P6 M q) w n q := ⟨by rw [P6_j (by decide)]; exact h.1, h.2.1, P6_2, hq, fun j hj => by rw [P6_k (by decide)]; exact h.2.2.2.2 j hj⟩
theorem C8.cong {M N : gM} {w : Nat → Int32} {n p : Nat} (h : C8 M w n p) (e1 : ∀ j, N 1 j = M 1 j) (e2 : ∀ j, N 2 j = M 2 j) : C8 N w n p := ⟨by rw [e1]; exact h.1, h.2.1, by rw [e1]; exact h.2.2.1, h.2.2.2.1, fun j hj => by rw [e2]; exact h.2.2.2.2 j hj⟩
theorem c_peek {M : gM} {w : Nat → Int32} {n p : Nat} (h : C8 M w n p) : fX6_peek M = some (hr w n (sk w n p), P6 M (sk w n p)) := by
  have key : ∀ (k : Nat) (M : gM) (p : Nat), n - p = k → C8 M w n p → lX6_peek_0 M = some (P6 M (sk w n p)) := by
    intro k
    induction k with
    | zero =>
      intro M p hk h
      have := h.2.2.2.1
      have := h.2.1
      unfold lX6_peek_0
      rw [itO_eq, h.1, h.2.2.1, if_pos ((nI_leI (by omega) (by omega)).mpr (by omega)), obs]
      show some M = _
      rw [sk, if_neg (by omega), P6_same h.2.2.1]
    | succ k ih =>
      intro M p hk h
      have := h.2.2.2.1
      have := h.2.1
      obtain ⟨b1, b2, b3⟩ := h.2.2.2.2 p (by omega)
      have b4 := (bc_ok ⟨b2, b3⟩).1.2
      unfold lX6_peek_0
      rw [itO_eq, h.1, h.2.2.1, if_neg (mt (nI_leI (by omega) (by omega)).mp (by omega)), L400, if_neg (mt (nI_leI (by omega) (by omega)).mp (by omega)), rI_n (by omega) (by omega), obs, b1]
      by_cases c : w p = 32
      · rw [if_pos (b4.mpr c), pU_n, obs, obs, nI_1]
        show lX6_peek_0 (P6 M (p + 1)) = _
        rw [ih (P6 M (p + 1)) (p + 1) (by omega) (h.at (by omega)), P6_P6]
        conv => rhs; rw [sk, if_pos ⟨by omega, c⟩]
      · rw [if_neg (mt b4.mp c), obs]
        show some M = _
        rw [sk, if_neg (fun z => c z.2), P6_same h.2.2.1]
  have hs := sk_le (w := w) h.2.2.2.1
  have := h.2.1
  have hq := h.at hs.2
  unfold fX6_peek bX6_peek_48
  rw [key _ M p rfl h, obs, hq.1, hq.2.2.1]
  unfold hr
  by_cases c : n ≤ sk w n p
  · rw [if_pos ((nI_leI (by omega) (by omega)).mpr c), if_pos c]
  · obtain ⟨b1, b2, b3⟩ := h.2.2.2.2 (sk w n p) (by omega)
    rw [if_neg (mt (nI_leI (by omega) (by omega)).mp c), L400, if_neg (mt (nI_leI (by omega) (by omega)).mp (by omega)), rI_n (by omega) (by omega), obs, if_neg c, P6_k (by decide), b1, (bc_ok ⟨b2, b3⟩).1.1]
theorem n_isDigit6 (c : Int32) : fX6_isDigit c = some (if dg c then 1 else 0) := by
  unfold fX6_isDigit dg
  by_cases c1 : c < 48
  · rw [if_pos c1, if_neg (fun z => z.1 c1)]
  · rw [if_neg c1]
    by_cases c2 : 57 < c
    · rw [if_pos c2, if_neg (fun z => z.2 c2)]
    · rw [if_neg c2, if_pos ⟨c1, c2⟩]
/-- a number as the class reads it: whatever stands behind it -/
def cNum (w : Nat → Int32) (n p : Nat) : Option (Nat × Nat) :=
  if dg (hr w n (sk w n p)) then
    if dg (hr w n (sk w n p + 1)) then some (10 * dv (hr w n (sk w n p)) + dv (hr w n (sk w n p + 1)), sk w n p + 2)
    else some (dv (hr w n (sk w n p)), sk w n p + 1)
  else none
theorem cNum_p {w : Nat → Int32} {n p hi : Nat} : (∃ x, pNum w n hi p = some x ∧ cNum w n p = some x ∧ x.1 ≤ hi) ∨ (pNum w n hi p = none ∧ (cNum w n p = none ∨ (∃ x, cNum w n p = some x ∧ dg (hr w n x.2)) ∨ ∃ x, cNum w n p = some x ∧ hi < x.1)) := by
  unfold pNum cNum
  dsimp only
  by_cases c1 : dg (hr w n (sk w n p))
  · rw [if_pos c1, if_pos c1]
    by_cases c2 : dg (hr w n (sk w n p + 1))
    · rw [if_pos c2, if_pos c2]
      by_cases c3 : dg (hr w n (sk w n p + 2))
      · rw [if_pos c3]
        exact Or.inr ⟨rfl, Or.inr (Or.inl ⟨_, rfl, c3⟩)⟩
      · rw [if_neg c3]
        by_cases c4 : 10 * dv (hr w n (sk w n p)) + dv (hr w n (sk w n p + 1)) ≤ hi
        · rw [if_pos c4]; exact Or.inl ⟨_, rfl, rfl, c4⟩
        · rw [if_neg c4]; exact Or.inr ⟨rfl, Or.inr (Or.inr ⟨_, rfl, by dsimp only; omega⟩)⟩
    · rw [if_neg c2, if_neg c2]
      by_cases c4 : dv (hr w n (sk w n p)) ≤ hi
      · rw [if_pos c4]; exact Or.inl ⟨_, rfl, rfl, c4⟩
      · rw [if_neg c4]; exact Or.inr ⟨rfl, Or.inr (Or.inr ⟨_, rfl, by dsimp only; omega⟩)⟩
  · rw [if_neg c1, if_neg c1]; exact Or.inr ⟨rfl, Or.inl rfl⟩
theorem cNum_le {w : Nat → Int32} {n p : Nat} {x : Nat × Nat} (h : cNum w n p = some x) : x.1 ≤ 99 ∧ x.2 ≤ n := by
  unfold cNum at h
  by_cases c1 : dg (hr w n (sk w n p))
  · rw [if_pos c1] at h
    have v1 := (dg_v c1).1
    have l1 := hr_lt (dg_ne c1)
    by_cases c2 : dg (hr w n (sk w n p + 1))
    · rw [if_pos c2] at h
      have v2 := (dg_v c2).1
      have l2 := hr_lt (dg_ne c2)
      cases h
      exact ⟨by dsimp only; omega, by dsimp only; omega⟩
    · rw [if_neg c2] at h
      cases h
      exact ⟨by dsimp only; omega, by dsimp only; omega⟩
  · rw [if_neg c1] at h; cases h
theorem c_number {M : gM} {w : Nat → Int32} {n p : Nat} (h : C8 M w n p) : (∃ x, cNum w n p = some x ∧ fX6_number M = some (nI x.1, P6 M x.2)) ∨ (cNum w n p = none ∧ fX6_number M = some (-1, P6 M (sk w n p))) := by
  have hs := sk_le (w := w) h.2.2.2.1
  have hn := h.2.1
  unfold fX6_number cNum
  rw [c_peek h, obs]
  dsimp only
  rw [n_isDigit6, obs]
  by_cases c1 : dg (hr w n (sk w n p))
  · have v1 := dg_v c1
    have l1 := hr_lt (dg_ne c1)
    have hq := h.at (q := sk w n p + 1) (by omega)
    have e1 : hr w n (sk w n p) - 48 = nI (dv (hr w n (sk w n p))) := by
      conv => lhs; rw [v1.2]
      rw [show (48 : Int32) = nI 48 from rfl, nI_sub (by omega)]
      congr 1; omega
    rw [if_pos c1, if_pos c1, if_neg n10, pU_n, obs, P6_2, nI_1, P6_pU, hq.1, hq.2.2.1, e1]
    by_cases d : n ≤ sk w n p + 1
    · rw [if_pos ((nI_leI (by omega) (by omega)).mpr d), if_neg (show ¬ dg (hr w n (sk w n p + 1)) by unfold hr; rw [if_pos d]; exact dg_m1)]
      exact Or.inl ⟨_, rfl, rfl⟩
    · obtain ⟨b1, b2, b3⟩ := h.2.2.2.2 (sk w n p + 1) (by omega)
      obtain ⟨_, b4, b5⟩ := bc_ok ⟨b2, b3⟩
      have eh : hr w n (sk w n p + 1) = w (sk w n p + 1) := by unfold hr; rw [if_neg d]
      rw [if_neg (mt (nI_leI (by omega) (by omega)).mp d), L400, if_neg (mt (nI_leI (by omega) (by omega)).mp (by omega)), rI_n (by omega) (by omega), obs, P6_k (by decide), b1, n_isDigit6, obs, eh]
      by_cases c2 : dg (w (sk w n p + 1))
      · have v2 := dg_v c2
        rw [if_pos (b4.mpr c2), if_pos c2, if_neg n10, obs, pU_n, obs, nI_1, P6_pU, b5 c2]
        refine Or.inl ⟨_, rfl, ?_⟩
        congr 2
        dsimp only
        conv => lhs; rw [v2.2]
        rw [show (10 : Int32) = nI 10 from rfl, show (48 : Int32) = nI 48 from rfl, nI_mul, nI_add, nI_sub (by omega)]
        congr 1; omega
      · rw [if_neg (mt b4.mp c2), if_neg c2, if_pos rfl]
        exact Or.inl ⟨_, rfl, rfl⟩
  · rw [if_neg c1, if_neg c1, if_pos rfl]
    exact Or.inr ⟨rfl, rfl⟩
end P_32b_tape8
section P_32c_rows8
/-! the class reads rows -/
theorem sk_dg {w : Nat → Int32} {n p : Nat} (h : dg (hr w n p)) : sk w n p = p := by
  rw [sk, if_neg]
  intro z
  have := hr32.mpr z
  rw [this] at h
  exact absurd h (by decide)
/-- the reading stands at a digit behind a number -/
def BS (M : gM) (w : Nat → Int32) (n : Nat) : Prop := ∃ q, C8 M w n q ∧ dg (hr w n q)
noncomputable def kRw (t : Nat) : ((Int32 × Int32 × gM) ⊕ (gM ⊕ (gM ⊕ (Int32 × gM)))) → Option (gM ⊕ (gM ⊕ (Int32 × gM))) := fun y => Sum.elim (fun s' => lX6_isRow_5 8 (nI t) s') (fun r => some r) y
def FR (o : Option (gM ⊕ (gM ⊕ (Int32 × gM)))) : Prop := ∃ m, o = some (.inl m) ∨ o = some (.inr (.inl m))
theorem cr_end {M : gM} {t wd k : Nat} {ρ : Int32} (ht : t < 4) (e : M 9 t = nI wd) (hw : wd ≤ 3) (hk : k ≤ 3) (h : wd ≤ k) : lX6_isRow_5 8 (nI t) (ρ, nI k, M) = some (.inr (.inr (ρ, M))) := by
  unfold lX6_isRow_5
  rw [itO_eq]; dsimp only
  rw [rI_n (by omega) (by omega), obs, e, if_pos ((nI_leI (by omega) (by omega)).mpr h), obs]; rfl
theorem cr_0 {M : gM} {t wd : Nat} {ρ : Int32} (ht : t < 4) (e : M 9 t = nI wd) (hw : wd ≤ 3) (h : 1 ≤ wd) : lX6_isRow_5 8 (nI t) (ρ, nI 0, M) = (bX6_isRow_42 ρ (nI 0) M).bind (kRw t) := by
  conv => lhs; unfold lX6_isRow_5
  rw [itO_eq]; dsimp only
  rw [rI_n (by omega) (by omega), obs, e, if_neg (mt (nI_leI (by omega) (by omega)).mp (by omega)), if_pos (by decide)]; rfl
theorem cr_k {M : gM} {w : Nat → Int32} {n p t wd k : Nat} {ρ : Int32} (hT : C8 M w n p) (ht : t < 4) (e : M 9 t = nI wd) (hw : wd ≤ 3) (h1 : 1 ≤ k) (h : k < wd) :
    (∃ q, pMust w n 44 p = some q ∧ q ≤ n ∧ lX6_isRow_5 8 (nI t) (ρ, nI k, M) = (bX6_isRow_42 ρ (nI k) (P6 M q)).bind (kRw t)) ∨ (pMust w n 44 p = none ∧ FR (lX6_isRow_5 8 (nI t) (ρ, nI k, M))) := by
  have hs := sk_le (w := w) hT.2.2.2.1
  have hn := hT.2.1
  unfold pMust
  unfold lX6_isRow_5
  rw [itO_eq]; dsimp only
  rw [rI_n (by omega) (by omega), obs, e, if_neg (mt (nI_leI (by omega) (by omega)).mp (by omega)), L0, if_neg (mt (nI_leI (by omega) (by omega)).mp (by omega)), c_peek hT, obs]
  dsimp only
  by_cases c : hr w n (sk w n p) = 44
  · have l1 := hr_lt (w := w) (n := n) (p := sk w n p) (by rw [c]; decide)
    rw [if_pos c, if_pos c, pU_n, obs, P6_2, nI_1, P6_pU]
    exact Or.inl ⟨_, rfl, by omega, rfl⟩
  · rw [if_neg c, if_neg c, obs]
    exact Or.inr ⟨rfl, P6 M (sk w n p), Or.inl rfl⟩
theorem c_col {M : gM} {w : Nat → Int32} {n p t k : Nat} {ρ : Int32} (hT : C8 M w n p) : (∃ x, cNum w n p = some x ∧ ∃ ρ', (bX6_isRow_42 ρ (nI k) M).bind (kRw t) = lX6_isRow_5 8 (nI t) (ρ', nI (k + 1), P6 M x.2)) ∨ (cNum w n p = none ∧ FR ((bX6_isRow_42 ρ (nI k) M).bind (kRw t))) := by
  unfold bX6_isRow_42
  rcases c_number hT with ⟨x, e1, e2⟩ | ⟨e1, e2⟩
  · have := cNum_le e1
    refine Or.inl ⟨x, e1, ρ ||| (nI x.1 <<< (((14 : Int32) - ((7 : Int32) * nI k)) &&& 31)), ?_⟩
    rw [e2, obs, if_neg (nI_m1 (by omega)), obs, nI_1]; rfl
  · rw [e2, obs, if_pos rfl, obs]
    exact Or.inr ⟨e1, P6 M (sk w n p), Or.inr rfl⟩
/-- what reading a row ends in -/
def RR (w : Nat → Int32) (n : Nat) (sp : Option (List Nat × Nat)) (o : Option (gM ⊕ (gM ⊕ (Int32 × gM)))) : Prop :=
  (∃ x ρ M, sp = some x ∧ o = some (.inr (.inr (ρ, M))) ∧ C8 M w n x.2) ∨ (sp = none ∧ (FR o ∨ ∃ ρ M, o = some (.inr (.inr (ρ, M))) ∧ BS M w n))
theorem c_stuck {M : gM} {w : Nat → Int32} {n p t wd k : Nat} {ρ : Int32} (hT : C8 M w n p) (hd : dg (hr w n p)) (ht : t < 4) (e : M 9 t = nI wd) (hw : wd ≤ 3) (h1 : 1 ≤ k) (hk : k ≤ 3) : RR w n none (lX6_isRow_5 8 (nI t) (ρ, nI k, M)) := by
  refine Or.inr ⟨rfl, ?_⟩
  by_cases c : wd ≤ k
  · exact Or.inr ⟨ρ, M, cr_end ht e hw hk c, p, hT, hd⟩
  · rcases cr_k (ρ := ρ) hT ht e hw h1 (by omega) with ⟨q, e1, _⟩ | ⟨_, h⟩
    · unfold pMust at e1
      rw [sk_dg hd] at e1
      split at e1
      · rename_i z
        rw [z] at hd
        exact absurd hd (by decide)
      · cases e1
    · exact Or.inl h
theorem c_nCol {M : gM} {w : Nat → Int32} {n p t wd k : Nat} {ρ : Int32} (hT : C8 M w n p) (ht : t < 4) (e : M 9 t = nI wd) (hw : wd ≤ 3) (hk : k < 3) :
    (∃ v q ρ', pNum w n 99 p = some (v, q) ∧ q ≤ n ∧ (bX6_isRow_42 ρ (nI k) M).bind (kRw t) = lX6_isRow_5 8 (nI t) (ρ', nI (k + 1), P6 M q)) ∨ (pNum w n 99 p = none ∧ RR w n none ((bX6_isRow_42 ρ (nI k) M).bind (kRw t))) := by
  have eP : ∀ q, P6 M q 9 t = nI wd := fun q => by rw [P6_k (by decide)]; exact e
  rcases c_col (ρ := ρ) (k := k) (t := t) hT with ⟨x, e1, ρ', e2⟩ | ⟨e1, h⟩
  · have l := cNum_le e1
    rcases cNum_p (w := w) (n := n) (p := p) (hi := 99) with ⟨y, f1, f2, _⟩ | ⟨f1, f2⟩
    · rw [e1] at f2
      cases f2
      exact Or.inl ⟨x.1, x.2, ρ', f1, l.2, e2⟩
    · refine Or.inr ⟨f1, ?_⟩
      rw [e1] at f2
      rw [e2]
      rcases f2 with f2 | ⟨y, f2, f3⟩ | ⟨y, f2, f3⟩
      · cases f2
      · cases f2
        exact c_stuck (hT.at l.2) f3 ht (eP _) hw (by omega) (by omega)
      · cases f2; omega
  · rcases cNum_p (w := w) (n := n) (p := p) (hi := 99) with ⟨y, f1, f2, _⟩ | ⟨f1, _⟩
    · rw [e1] at f2; cases f2
    · exact Or.inr ⟨f1, Or.inr ⟨rfl, Or.inl h⟩⟩
theorem c_row5 {M : gM} {w : Nat → Int32} {n p t wd : Nat} {ρ : Int32} (hT : C8 M w n p) (ht : t < 4) (e : M 9 t = nI wd) (h1 : 1 ≤ wd) (hw : wd ≤ 3) : RR w n (pRow w n wd p) (lX6_isRow_5 8 (nI t) (ρ, nI 0, M)) := by
  have eP : ∀ q, P6 M q 9 t = nI wd := fun q => by rw [P6_k (by decide)]; exact e
  have rn : ∀ {o}, RR w n none o → ∀ {sp : Option (List Nat × Nat)}, sp = none → RR w n sp o := fun h _ hs => by rw [hs]; exact h
  rw [cr_0 ht e hw h1]
  unfold pRow
  rcases (c_nCol (ρ := ρ) (k := 0) hT ht e hw (by omega)).symm with ⟨e1, h⟩ | ⟨x, q1, ρ1, e1, l1, g1⟩
  · rw [e1]; exact h
  rw [e1, obs, g1]
  dsimp only
  by_cases c1 : wd ≤ 1
  · rw [if_pos c1, cr_end ht (eP _) hw (by omega) c1]
    exact Or.inl ⟨_, _, _, rfl, rfl, hT.at l1⟩
  rw [if_neg c1]
  rcases (cr_k (ρ := ρ1) (k := 1) (hT.at l1) ht (eP _) hw (by omega) (by omega)).symm with ⟨em, h⟩ | ⟨p2, em, l2, g2⟩
  · rw [em]; exact Or.inr ⟨rfl, Or.inl h⟩
  rw [em, obs, g2, P6_P6]
  rcases (c_nCol (ρ := ρ1) (k := 1) (hT.at l2) ht (eP _) hw (by omega)).symm with ⟨e2, h⟩ | ⟨y, q2, ρ2, e2, l3, g3⟩
  · rw [e2]; exact h
  rw [e2, obs, g3, P6_P6]
  dsimp only
  by_cases c2 : wd ≤ 2
  · rw [if_pos c2, cr_end ht (eP _) hw (by omega) c2]
    exact Or.inl ⟨_, _, _, rfl, rfl, hT.at l3⟩
  rw [if_neg c2]
  rcases (cr_k (ρ := ρ2) (k := 2) (hT.at l3) ht (eP _) hw (by omega) (by omega)).symm with ⟨em, h⟩ | ⟨p3, em, l4, g4⟩
  · rw [em]; exact Or.inr ⟨rfl, Or.inl h⟩
  rw [em, obs, g4, P6_P6]
  rcases (c_nCol (ρ := ρ2) (k := 2) (hT.at l4) ht (eP _) hw (by omega)).symm with ⟨e3, h⟩ | ⟨z, q3, ρ3, e3, l5, g5⟩
  · rw [e3]; exact h
  rw [e3, obs, g5, P6_P6, cr_end ht (eP _) hw (by omega) (by omega)]
  exact Or.inl ⟨_, _, _, rfl, rfl, hT.at l5⟩
theorem c_isRow {M : gM} {w : Nat → Int32} {n p t wd : Nat} (hT : C8 M w n p) (ht : t < 4) (e : M 9 t = nI wd) (h1 : 1 ≤ wd) (hw : wd ≤ 3) {r : Int32 × gM} (h : fX6_isRow 8 (nI t) M = some r) :
    (∃ x, pRow w n wd p = some x ∧ r.1 = 1 ∧ C8 r.2 w n x.2) ∨ (pRow w n wd p = none ∧ (r.1 = 0 ∨ (r.1 = 1 ∧ BS r.2 w n))) := by
  unfold fX6_isRow at h
  obtain ⟨w5, e5, h⟩ := ob h
  have ins : ∀ {ρ : Int32} {N : gM}, ((fX5_insert 8 (nI t) ρ N).bind fun r6 => some ((1 : Int32), r6)) = some r → r.1 = 1 ∧ (∀ j, r.2 1 j = N 1 j) ∧ ∀ j, r.2 2 j = N 2 j := by
    intro ρ N h
    obtain ⟨r6, e6, h⟩ := ob h
    cases h
    exact ⟨rfl, fun j => xfX5_insert _ _ _ _ e6 1 j (by decide) (by decide), fun j => xfX5_insert _ _ _ _ e6 2 j (by decide) (by decide)⟩
  rcases c_row5 (ρ := 0) hT ht e h1 hw with ⟨x, ρ, N, s1, s2, s3⟩ | ⟨s1, s2⟩
  · rw [show ((0 : Int32), (0 : Int32), M) = (0, nI 0, M) from rfl, s2] at e5
    cases e5
    obtain ⟨i1, i2, i3⟩ := ins h
    exact Or.inl ⟨x, s1, i1, s3.cong i2 i3⟩
  · refine Or.inr ⟨s1, ?_⟩
    rcases s2 with ⟨m, s2 | s2⟩ | ⟨ρ, N, s2, q, s3, s4⟩
    · rw [show ((0 : Int32), (0 : Int32), M) = (0, nI 0, M) from rfl, s2] at e5
      cases e5
      cases h
      exact Or.inl rfl
    · rw [show ((0 : Int32), (0 : Int32), M) = (0, nI 0, M) from rfl, s2] at e5
      cases e5
      cases h
      exact Or.inl rfl
    · rw [show ((0 : Int32), (0 : Int32), M) = (0, nI 0, M) from rfl, s2] at e5
      cases e5
      obtain ⟨i1, i2, i3⟩ := ins h
      exact Or.inr ⟨i1, q, s3.cong i2 i3, s4⟩
end P_32c_rows8
section P_32d_tabs8
/-! the class reads clauses -/
/-- what reading a clause ends in -/
def CR (w : Nat → Int32) (n t : Nat) (sp : Option ((List Nat × List (List Nat)) × Nat)) (r : Int32 × gM) : Prop :=
  (∃ x, sp = some x ∧ r.1 = 1 ∧ r.2 8 0 = nI (t + 1) ∧ ∃ p', C8 r.2 w n p' ∧ sk w n p' = sk w n x.2) ∨ (sp = none ∧ (r.1 = 0 ∨ (r.1 = 1 ∧ BS r.2 w n)))
noncomputable def kCl (t : Nat) : (gM ⊕ (gM ⊕ gM)) → Option (Int32 × gM) := fun w14 => Sum.elim (fun w14_0 => some ((0 : Int32), w14_0)) (Sum.elim (fun w14_1 => some ((1 : Int32), w14_1)) (fun w14_2 => (fX6_isRow 8 (nI t) w14_2).bind fun r15 => (bO r15.1).bind fun u16 => some (u16, r15.2))) w14
theorem BS.mv {M : gM} {w : Nat → Int32} {n : Nat} (h : BS M w n) : ∃ q, fX6_peek M = some (hr w n q, M) ∧ dg (hr w n q) ∧ C8 M w n q := by
  obtain ⟨q, h1, h2⟩ := h
  refine ⟨q, ?_, h2, h1⟩
  rw [c_peek h1, sk_dg h2, P6_same h1.2.2.1]
theorem c_rowsGo {w : Nat → Int32} {n t : Nat} {ls : List Nat} (ht : t < 4) (h1 : 1 ≤ ls.length) (h3 : ls.length ≤ 3) : ∀ (k : Nat) (rs : List (List Nat)) (p : Nat) (M : gM) (r : Int32 × gM), 1 ≤ k → k ≤ 12 → C8 M w n p → M 9 t = nI ls.length → M 8 0 = nI (t + 1) →
    (lX6_isClause_114 8 (nI t) (nI (13 - k), M)).bind (kCl t) = some r → CR w n t ((pRows w n ls.length k rs p).bind fun y => some ((ls, y.1), y.2)) r := by
  intro k
  induction k with
  | zero => intro rs p M r h; omega
  | succ k ih =>
    intro rs p M r _ hk hT e9 e8 h
    have fr : ∀ {r1 : Int32 × gM}, fX6_isRow 8 (nI t) M = some r1 → r1.2 9 t = nI ls.length ∧ r1.2 8 0 = nI (t + 1) := fun e => ⟨(xfX6_isRow _ _ _ e 9 t (Or.inl (by decide)) (by decide) (by decide)).trans e9, (xfX6_isRow _ _ _ e 8 0 (Or.inl (by decide)) (by decide) (by decide)).trans e8⟩
    by_cases k0 : k = 0
    · subst k0
      unfold lX6_isClause_114 at h
      rw [itO_eq] at h; dsimp only at h
      rw [if_pos (by decide), obs] at h
      change ((fX6_isRow 8 (nI t) M).bind fun r15 => (bO r15.1).bind fun u16 => some (u16, r15.2)) = some r at h
      obtain ⟨r1, e1, h⟩ := ob h
      have f := fr e1
      unfold pRows
      rcases c_isRow hT ht e9 h1 h3 e1 with ⟨x, s1, s2, s3⟩ | ⟨s1, s2 | ⟨s2, s3⟩⟩
      · rw [s2, bO_1, obs] at h
        cases h
        rw [s1, obs, if_neg (fun z => z.2 rfl), obs]
        exact Or.inl ⟨_, rfl, rfl, f.2, x.2, s3, (sk_sk s3.2.2.2.1).symm⟩
      · rw [s2, bO_0, obs] at h
        cases h
        rw [s1]
        exact Or.inr ⟨rfl, Or.inl rfl⟩
      · rw [s2, bO_1, obs] at h
        cases h
        rw [s1]
        exact Or.inr ⟨rfl, Or.inr ⟨rfl, s3⟩⟩
    · unfold lX6_isClause_114 at h
      rw [itO_eq] at h; dsimp only at h
      rw [L12, if_neg (mt (nI_leI (by omega) (by omega)).mp (by omega))] at h
      obtain ⟨y, ey, h⟩ := ob h
      obtain ⟨z, ez, ey⟩ := ob ey
      obtain ⟨r1, e1, ez⟩ := ob ez
      have f := fr e1
      unfold pRows
      rcases c_isRow hT ht e9 h1 h3 e1 with ⟨x, s1, s2, s3⟩ | ⟨s1, s2 | ⟨s2, s3⟩⟩
      · rw [if_neg (show ¬ r1.1 = 0 by rw [s2]; exact n10), c_peek s3, obs] at ez
        dsimp only at ez
        rw [s1, obs]
        have hs := sk_le (w := w) s3.2.2.2.1
        by_cases c : hr w n (sk w n x.2) = 47
        · have l1 := hr_lt (w := w) (n := n) (p := sk w n x.2) (by rw [c]; decide)
          rw [if_pos c, pU_n, obs, P6_2, nI_1, nI_1, P6_pU] at ez
          cases ez
          rw [if_pos ⟨c, k0⟩]
          refine ih (rs ++ [x.1]) (sk w n x.2 + 1) (P6 r1.2 (sk w n x.2 + 1)) r (by omega) (by omega) (s3.at (by omega)) (by rw [P6_k (by decide)]; exact f.1) (by rw [P6_k (by decide)]; exact f.2) ?_
          change itO _ (nI (13 - (k + 1) + 1), _) = some y at ey
          rw [show 13 - (k + 1) + 1 = 13 - k by omega] at ey
          exact (congrArg (fun o => Option.bind o (kCl t)) ey).trans h
        · rw [if_neg c] at ez
          cases ez
          cases ey
          change some ((1 : Int32), P6 r1.2 (sk w n x.2)) = some r at h
          cases h
          rw [if_neg (fun z => c z.1), obs]
          exact Or.inl ⟨_, rfl, rfl, by dsimp only; rw [P6_k (by decide)]; exact f.2, sk w n x.2, s3.at hs.2, rfl⟩
      · rw [if_pos s2] at ez
        cases ez
        cases ey
        change some ((0 : Int32), r1.2) = some r at h
        cases h
        rw [s1]
        exact Or.inr ⟨rfl, Or.inl rfl⟩
      · obtain ⟨q, b1, b2, b3⟩ := s3.mv
        rw [if_neg (show ¬ r1.1 = 0 by rw [s2]; exact n10), b1, obs] at ez
        dsimp only at ez
        rw [if_neg (fun z => by rw [z] at b2; exact absurd b2 (by decide))] at ez
        cases ez
        cases ey
        change some ((1 : Int32), r1.2) = some r at h
        cases h
        rw [s1]
        exact Or.inr ⟨rfl, Or.inr ⟨rfl, q, b3, b2⟩⟩
/-- behind the letters -/
theorem c_tail {w : Nat → Int32} {n p t : Nat} {ls : List Nat} {M : gM} {r : Int32 × gM} (ht : t < 4) (h3 : ls.length ≤ 3) (hT : C8 M w n p) (e9 : M 9 t = nI ls.length) (e8 : M 8 0 = nI (t + 1)) (h : bX6_isClause_66 8 (nI t) M = some r) :
    (¬ (ls ≠ [] ∧ hr w n (sk w n p) = 58) ∧ r.1 = 0) ∨ (ls ≠ [] ∧ hr w n (sk w n p) = 58 ∧ CR w n t (if dg (hr w n (sk w n (sk w n p + 1))) then (pRows w n ls.length 12 [] (sk w n (sk w n p + 1))).bind fun y => some ((ls, y.1), y.2) else some ((ls, []), sk w n (sk w n p + 1))) r) := by
  have hs := sk_le (w := w) hT.2.2.2.1
  unfold bX6_isClause_66 at h
  rw [if_neg (show ¬ nI t < 0 by rw [L0]; exact mt (nI_ltI (by omega) (by omega)).mp (by omega)), rI_n (by omega) (by omega), obs, e9] at h
  by_cases c1 : ls = []
  · rw [c1, if_pos (show nI ([] : List Nat).length = 0 from rfl)] at h
    cases h
    exact Or.inl ⟨fun z => z.1 c1, rfl⟩
  · have l1 : 1 ≤ ls.length := by
      rcases Nat.eq_zero_or_pos ls.length with z | z
      · exact absurd (List.eq_nil_of_length_eq_zero z) c1
      · exact z
    rw [if_neg (show ¬ nI ls.length = 0 from fun z => by have := nI_inj (b := 0) z (by omega) (by omega); omega), c_peek hT, obs] at h
    dsimp only at h
    by_cases c2 : hr w n (sk w n p) = 58
    · have l2 := hr_lt (w := w) (n := n) (p := sk w n p) (by rw [c2]; decide)
      have hT2 := hT.at (q := sk w n p + 1) (by omega)
      have hs2 := sk_le (w := w) hT2.2.2.2.1
      rw [if_pos c2, pU_n, obs, P6_2, nI_1, P6_pU, c_peek hT2, obs] at h
      dsimp only at h
      rw [n_isDigit6, obs, P6_P6] at h
      refine Or.inr ⟨c1, c2, ?_⟩
      by_cases c3 : dg (hr w n (sk w n (sk w n p + 1)))
      · rw [if_pos c3, if_neg n10] at h
        rw [if_pos c3]
        exact c_rowsGo ht l1 h3 12 [] _ (P6 M (sk w n (sk w n p + 1))) r (by omega) (by omega) (hT.at hs2.2) (by rw [P6_k (by decide)]; exact e9) (by rw [P6_k (by decide)]; exact e8) h
      · rw [if_neg c3, if_pos rfl] at h
        cases h
        rw [if_neg c3]
        exact Or.inl ⟨_, rfl, rfl, by dsimp only; rw [P6_k (by decide)]; exact e8, _, hT.at hs2.2, rfl⟩
    · rw [if_neg c2] at h
      cases h
      exact Or.inl ⟨fun z => c2 z.2, rfl⟩
/-- the letters told so far -/
def LsC (M : gM) (t : Nat) (ls : List Nat) : Prop := M 9 t = nI ls.length ∧ M 8 0 = nI (t + 1) ∧ ∀ c, c < ls.length → M 11 (3 * t + c) = nI (ls.getD c 0)
theorem c_columnOf {M : gM} {t l : Nat} {ls : List Nat} (ht : t < 4) (h3 : ls.length ≤ 3) (hL : LsC M t ls) (hl : l ≤ 3) (hls : ∀ x, x ∈ ls → x ≤ 3) : (l ∈ ls ∧ ∃ i, i < 3 ∧ fX5_columnOf 8 (nI t) (nI l) M = some (nI i)) ∨ (l ∉ ls ∧ fX5_columnOf 8 (nI t) (nI l) M = some (-1)) := by
  obtain ⟨e9, e8, e11⟩ := hL
  have key : T (lX5_columnOf_2 8 (nI t) (nI l) M (nI 0)) (Sum.elim (fun r => l ∈ ls ∧ ∃ i, i < 3 ∧ r = nI i) (fun _ : Unit => l ∉ ls)) := by
    unfold lX5_columnOf_2
    refine t_it (P := fun s => ∃ i, s = nI i ∧ i ≤ ls.length ∧ ∀ c, c < i → ls.getD c 0 ≠ l) (μ := fun s => 20 - s.toInt.toNat) (fun s p => ?_) ⟨0, rfl, by omega, fun c hc => by omega⟩
    obtain ⟨i, rfl, hi, hn⟩ := p
    refine t_be (rI_n (by omega) (by omega)) ?_
    rw [e9]
    refine t_ite (fun c => ?_) (fun c => ?_)
    · have c := (nI_leI (by omega) (by omega)).mp c
      refine t_ret (show l ∉ ls from fun z => ?_)
      obtain ⟨j, hj, ej⟩ := List.getElem_of_mem z
      refine hn j (by omega) ?_
      rw [List.getD_eq_getElem?_getD, List.getElem?_eq_getElem hj]; exact ej
    · have c := mt (nI_leI (a := ls.length) (b := i) (by omega) (by omega)).mpr c
      have hm : ls.getD i 0 ∈ ls := by rw [List.getD_eq_getElem?_getD, List.getElem?_eq_getElem (by omega)]; exact List.getElem_mem _
      have hx := hls _ hm
      rw [L3, nI_mul, nI_add]
      refine t_be (rI_n (by omega) (by omega)) ?_
      rw [show t * 3 + i = 3 * t + i by omega, e11 i (by omega)]
      refine t_ite (fun z => ?_) (fun z => ?_)
      · have z := nI_inj z (by omega) (by omega)
        exact t_ret (show l ∈ ls ∧ ∃ j, j < 3 ∧ nI i = nI j from ⟨z ▸ hm, i, by omega, rfl⟩)
      · rw [nI_1]
        refine t_nx ?_ (show 20 - (nI (i + 1)).toInt.toNat < 20 - (nI i).toInt.toNat by rw [nIt (by omega), nIt (by omega)]; omega)
        refine ⟨i + 1, rfl, by omega, fun c hc => ?_⟩
        by_cases d : c = i
        · rw [d]; exact fun y => z (by rw [y])
        · exact hn c (by omega)
  unfold fX5_columnOf
  obtain ⟨r, er, h⟩ := key
  rw [show (0 : Int32) = nI 0 from rfl, er, obs]
  cases r with
  | inl r =>
    obtain ⟨h1, i, hi, e⟩ := h
    exact Or.inl ⟨h1, i, hi, by rw [← e]; rfl⟩
  | inr r => exact Or.inr ⟨h, rfl⟩
theorem c_addLetter {M : gM} {t l : Nat} {ls : List Nat} (ht : t < 4) (h3 : ls.length ≤ 3) (hL : LsC M t ls) (hl : l ≤ 3) (hls : ∀ x, x ∈ ls → x ≤ 3) :
    ((ls.length = 3 ∨ l ∈ ls) ∧ fX5_addLetter 8 (nI l) M = some (0, M)) ∨ (¬ (ls.length = 3 ∨ l ∈ ls) ∧ ∃ N, fX5_addLetter 8 (nI l) M = some (1, N) ∧ LsC N t (ls ++ [l])) := by
  obtain ⟨e9, e8, e11⟩ := hL
  have em : M 8 0 - 1 = nI t := by rw [e8, nI_s1 (by omega), Nat.add_sub_cancel]
  unfold fX5_addLetter fX5_isTable
  rw [em, if_neg (show ¬ nI t < 0 by rw [L0]; exact mt (nI_ltI (by omega) (by omega)).mp (by omega)), e8, if_neg (mt (nI_leI (by omega) (by omega)).mp (by omega)), obs, if_neg n10, rI_n (by omega) (by omega), obs, e9]
  by_cases c1 : ls.length = 3
  · rw [L3, if_pos ((nI_leI (by omega) (by omega)).mpr (by omega))]
    exact Or.inl ⟨Or.inl c1, rfl⟩
  · rw [L3, if_neg (mt (nI_leI (by omega) (by omega)).mp (by omega))]
    rcases c_columnOf (l := l) ht h3 ⟨e9, e8, e11⟩ hl hls with ⟨m1, i, hi, e⟩ | ⟨m1, e⟩
    · rw [e, obs, if_neg (nI_m1 (by omega))]
      exact Or.inl ⟨Or.inr m1, rfl⟩
    · rw [e, obs, if_pos rfl, obs, nI_mul, nI_add, wI_n (by omega) (by omega), obs, g_up_row (show 9 ≠ 11 by decide), rI_n (by omega) (by omega), obs, e9, nI_1, wI_n (by omega) (by omega), obs]
      refine Or.inr ⟨fun z => z.elim c1 m1, _, rfl, ?_, ?_, fun c hc => ?_⟩
      · rw [g_up_self, List.length_append]; rfl
      · rw [g_up_row (by decide), g_up_row (by decide)]; exact e8
      · rw [List.length_append] at hc
        have hc : c < ls.length + 1 := hc
        rw [g_up_row (by decide), gu_in]
        by_cases d : c = ls.length
        · rw [if_pos (by omega), d, List.getD_eq_getElem?_getD, List.getElem?_append_right (Nat.le_refl _), Nat.sub_self]; rfl
        · rw [if_neg (by omega), e11 c (by omega), List.getD_eq_getElem?_getD, List.getD_eq_getElem?_getD, List.getElem?_append_left (by omega)]
end P_32d_tabs8
section P_32e_reads8
theorem C8.hr {M : gM} {w : Nat → Int32} {n p : Nat} (h : C8 M w n p) (q : Nat) : hr w n q = -1 ∨ ∃ a, 1 ≤ a ∧ a ≤ 255 ∧ hr w n q = nI a := by
  by_cases c : n ≤ q
  · exact Or.inl (by unfold CLeapJoinLaw_law_r3781_b291ec.hr; rw [if_pos c])
  · obtain ⟨_, b2, b3⟩ := h.2.2.2.2 q (by omega)
    exact Or.inr ⟨(w q).toInt.toNat, by omega, by omega, by unfold CLeapJoinLaw_law_r3781_b291ec.hr; rw [if_neg c]; exact nI_self (by omega)⟩
theorem lt_t : ∀ a, a < 256 → (lt_ (nI a) ∨ (nI a - 97 < 0) ∨ (¬ (nI a - 97 < 0) ∧ (4 : Int32) ≤ nI a - 97)) := by decide +kernel
theorem lt_n {M : gM} {w : Nat → Int32} {n p : Nat} (h : C8 M w n p) {q : Nat} (hn : ¬ lt_ (hr w n q)) : (hr w n q - 97 < 0) ∨ (¬ (hr w n q - 97 < 0) ∧ (4 : Int32) ≤ hr w n q - 97) := by
  rcases h.hr q with e | ⟨a, _, h2, e⟩
  · rw [e]; exact Or.inl (by decide)
  · rw [e] at hn ⊢
    rcases lt_t a (by omega) with z | z
    · exact absurd z hn
    · exact z
/-- what stands behind the letters, as the grammar has it -/
def pTail (w : Nat → Int32) (n : Nat) (x : List Nat × Nat) : Option ((List Nat × List (List Nat)) × Nat) :=
  if dg (hr w n (sk w n x.2)) then (pRows w n x.1.length 12 [] (sk w n x.2)).bind fun y => some ((x.1, y.1), y.2) else some ((x.1, []), sk w n x.2)
noncomputable def kLe (t : Nat) : (gM ⊕ gM) → Option (Int32 × gM) := fun w5 => Sum.elim (fun w5_0 => bX6_isClause_66 8 (nI t) w5_0) (fun w5_1 => bX6_isClause_66 8 (nI t) w5_1) w5
theorem c_lettersGo {w : Nat → Int32} {n t : Nat} (ht : t < 4) : ∀ (k : Nat) (ls : List Nat) (p : Nat) (M : gM) (r : Int32 × gM), ls.length ≤ 3 → ls.length + k = 4 → C8 M w n p → LsC M t ls → (∀ x, x ∈ ls → x ≤ 3) →
    (lX6_isClause_13 8 (nI ls.length, M)).bind (kLe t) = some r → CR w n t ((pHead w n k ls p).bind (pTail w n)) r := by
  intro k
  induction k with
  | zero => intro ls p M r h1 h2; omega
  | succ k ih =>
    intro ls p M r h3 hk hT hL hls h
    have hs := sk_le (w := w) hT.2.2.2.1
    have hn := hT.2.1
    have fl : ∀ {sp : Option ((List Nat × List (List Nat)) × Nat)}, sp = none → r.1 = 0 → CR w n t sp r := fun h1 h2 => Or.inr ⟨h1, Or.inl h2⟩
    have l58 : lt_ (hr w n (sk w n p)) → hr w n (sk w n p) ≠ 58 := fun a b => by rw [b] at a; exact absurd a (by decide)
    unfold lX6_isClause_13 at h
    rw [itO_eq] at h; dsimp only at h
    unfold pHead
    by_cases c0 : ls.length = 3
    · rw [L3, if_pos ((nI_leI (by omega) (by omega)).mpr (by omega)), obs] at h
      change bX6_isClause_66 8 (nI t) M = some r at h
      rcases c_tail ht h3 hT hL.1 hL.2.1 h with ⟨z1, z2⟩ | ⟨z1, z2, z3⟩
      · refine fl ?_ z2
        by_cases c1 : lt_ (hr w n (sk w n p))
        · rw [if_pos c1, if_pos (Or.inl c0)]; rfl
        · rw [if_neg c1]
          by_cases c2 : ls = []
          · rw [if_pos c2]; rfl
          · rw [if_neg c2, if_neg (fun y => z1 ⟨c2, y⟩)]; rfl
      · rw [if_neg (fun y => l58 y z2), if_neg z1, if_pos z2, obs]
        exact z3
    · rw [L3, if_neg (mt (nI_leI (by omega) (by omega)).mp (by omega)), c_peek hT, obs] at h
      dsimp only at h
      have hT1 := hT.at (q := sk w n p) hs.2
      have hL1 : LsC (P6 M (sk w n p)) t ls := ⟨by rw [P6_k (by decide)]; exact hL.1, by rw [P6_k (by decide)]; exact hL.2.1, fun c hc => by rw [P6_k (by decide)]; exact hL.2.2 c hc⟩
      by_cases c1 : lt_ (hr w n (sk w n p))
      · have v1 := lt_v c1
        have l1 := hr_lt (lt_ne c1)
        have ec : hr w n (sk w n p) - 97 = nI (lv (hr w n (sk w n p))) := by
          conv => lhs; rw [v1.2]
          rw [show (97 : Int32) = nI 97 from rfl, nI_sub (by omega)]
          congr 1; omega
        rw [if_pos c1]
        rw [ec, L0, if_neg (mt (nI_ltI (by omega) (by omega)).mp (by omega)), L4, if_neg (mt (nI_leI (by omega) (by omega)).mp (by omega))] at h
        rcases c_addLetter ht h3 hL1 v1.1 hls with ⟨m1, e⟩ | ⟨m1, N, e, hN⟩
        · rw [e, obs] at h
          dsimp only at h
          rw [if_pos (show (0 : Int32) = nI 0 from rfl), obs] at h
          change bX6_isClause_66 8 (nI t) (P6 M (sk w n p)) = some r at h
          rw [if_pos m1]
          rcases c_tail ht h3 hT1 hL1.1 hL1.2.1 h with ⟨z1, z2⟩ | ⟨z1, z2, z3⟩
          · exact fl rfl z2
          · rw [sk_sk hT.2.2.2.1] at z2
            exact absurd z2 (l58 c1)
        · have f := xfX5_addLetter _ _ _ e
          have hTN : C8 N w n (sk w n p) := hT1.cong (fun j => f 1 j (by decide) (by decide)) (fun j => f 2 j (by decide) (by decide))
          rw [e, obs] at h
          dsimp only at h
          rw [if_neg (show ¬ (1 : Int32) = nI 0 from n10), pU_n, obs, obs, hTN.2.2.1, nI_1] at h
          rw [if_neg m1]
          have el : (ls ++ [lv (hr w n (sk w n p))]).length = ls.length + 1 := by rw [List.length_append]; rfl
          refine ih (ls ++ [lv (hr w n (sk w n p))]) (sk w n p + 1) (P6 N (sk w n p + 1)) r (by rw [el]; omega) (by rw [el]; omega) (hTN.at (by omega)) ⟨?_, ?_, fun c hc => ?_⟩ (fun x hx => ?_) ?_
          · rw [P6_k (by decide)]; exact hN.1
          · rw [P6_k (by decide)]; exact hN.2.1
          · rw [P6_k (by decide)]; exact hN.2.2 c hc
          · rcases List.mem_append.mp hx with z | z
            · exact hls x z
            · rw [List.mem_singleton.mp z]; exact v1.1
          · rw [el]
            rw [nI_1] at h
            exact h
      · rw [if_neg c1]
        have h : bX6_isClause_66 8 (nI t) (P6 M (sk w n p)) = some r := by
          rcases lt_n hT c1 with z | ⟨z1, z2⟩
          · rw [if_pos z, obs] at h; exact h
          · rw [if_neg z1, if_pos z2, obs] at h; exact h
        rcases c_tail ht h3 hT1 hL1.1 hL1.2.1 h with ⟨z1, z2⟩ | ⟨z1, z2, z3⟩
        · refine fl ?_ z2
          rw [sk_sk hT.2.2.2.1] at z1
          by_cases c2 : ls = []
          · rw [if_pos c2]; rfl
          · rw [if_neg c2, if_neg (fun y => z1 ⟨c2, y⟩)]; rfl
        · rw [sk_sk hT.2.2.2.1] at z2 z3
          rw [if_neg z1, if_pos z2, obs]
          exact z3
theorem c_isClause {M : gM} {w : Nat → Int32} {n p t : Nat} (ht : t < 4) (hT : C8 M w n p) (e8 : M 8 0 = nI t) {r : Int32 × gM} (h : fX6_isClause 8 M = some r) : CR w n t (pTable w n p) r := by
  unfold fX6_isClause at h
  obtain ⟨r1, e1, h⟩ := ob h
  have f := xfX5_open _ _ e1
  have g : r1 8 0 = nI (t + 1) ∧ r1 9 t = nI 0 := by
    unfold fX5_open at e1
    rw [e8, L4, if_neg (mt (nI_leI (by omega) (by omega)).mp (by omega)), wI_n (by omega) (by omega), obs, g_up_row (show 8 ≠ 9 by decide), e8, wI_n (by omega) (by omega), obs, pU_n, obs, pU_n, obs] at e1
    cases e1
    refine ⟨?_, ?_⟩
    · rw [g_up_self, g_up_ne (Or.inr (by decide)), g_up_row (by decide), g_up_row (by decide), e8, nI_1]
    · rw [g_up_row (by decide), g_up_row (by decide), g_up_row (by decide), g_up_self]; rfl
  have hT1 : C8 r1 w n p := hT.cong (fun j => f 1 j (by decide) (by decide) (Or.inl (by decide)) (Or.inl (by decide))) (fun j => f 2 j (by decide) (by decide) (Or.inl (by decide)) (Or.inl (by decide)))
  rw [g.1, nI_s1 (by omega), Nat.add_sub_cancel] at h
  exact c_lettersGo ht 4 [] p r1 r (by decide) rfl hT1 ⟨g.2, g.1, fun c hc => absurd hc (Nat.not_lt_zero c)⟩ (fun x hx => by cases hx) h
/-! all clauses -/
noncomputable def kTs : (Int32 × gM) → Option (Int32 × gM) := fun w7 => bX6_readTables_57 w7.1 w7.2
/-- what follows a clause, as the grammar has it -/
def pNext (w : Nat → Int32) (n k : Nat) (ts : List (List Nat × List (List Nat))) (q : Nat) : Option (List (List Nat × List (List Nat))) :=
  if hr w n q = 59 ∧ k ≠ 0 then pTabs w n k ts (q + 1) else if hr w n q = -1 then some ts else none
theorem c_bad0 {M : gM} {m : Nat} {r : Int32 × gM} {I0 : gM} (hM : MI true I0 M) (h : (lX6_readTables_17 8 (0, nI m, M)).bind kTs = some r) : r.1 ≠ -1 := by
  unfold lX6_readTables_17 at h
  rw [itO_eq] at h; dsimp only at h
  rw [if_pos rfl, obs] at h
  change some (M 1 2, M) = some r at h
  cases h
  intro e
  have := (hM.at (k := 1) (j := 2) (lo := 0) (hi := 400) rfl).1
  dsimp only at e
  rw [e] at this
  exact absurd this (by decide)
theorem c_badS {M : gM} {m : Nat} {r : Int32 × gM} {w : Nat → Int32} {n : Nat} (hB : BS M w n) (h : (lX6_readTables_17 8 (1, nI m, M)).bind kTs = some r) : r.1 ≠ -1 := by
  obtain ⟨q, b1, b2, b3⟩ := hB.mv
  have b4 : hr w n q ≠ -1 := dg_ne b2
  have b5 := b3.2.1
  have b6 := b3.2.2.2.1
  have fin : ∀ {r : Int32 × gM}, kTs (1, M) = some r → r.1 ≠ -1 := by
    intro r h
    unfold kTs bX6_readTables_57 at h
    rw [if_neg n10, b1, obs] at h
    dsimp only at h
    rw [if_neg b4, b3.2.2.1] at h
    cases h
    exact nI_m1 (by omega)
  unfold lX6_readTables_17 at h
  rw [itO_eq] at h; dsimp only at h
  rw [if_neg n10] at h
  by_cases c : (4 : Int32) ≤ nI m
  · rw [if_pos c, obs] at h
    exact fin h
  · rw [if_neg c, b1, obs] at h
    dsimp only at h
    rw [if_neg (fun z => by rw [z] at b2; exact absurd b2 (by decide)), obs] at h
    exact fin h
theorem c_tabsGo {w : Nat → Int32} {n : Nat} {I0 : gM} : ∀ (k : Nat) (ts : List (List Nat × List (List Nat))) (p : Nat) (M : gM) (r : Int32 × gM), k ≤ 3 → ts.length + k = 4 → C8 M w n p → M 8 0 = nI ts.length → MI true I0 M →
    (lX6_readTables_17 8 (1, nI ts.length, M)).bind kTs = some r → (∃ x, pNext w n k ts (sk w n p) = some x ∧ r.1 = -1) ∨ (pNext w n k ts (sk w n p) = none ∧ r.1 ≠ -1) := by
  intro k
  induction k with
  | zero =>
    intro ts p M r hk hl hT e8 hM h
    have hs := sk_le (w := w) hT.2.2.2.1
    have hn := hT.2.1
    unfold lX6_readTables_17 at h
    rw [itO_eq] at h; dsimp only at h
    rw [if_neg n10, L4, if_pos ((nI_leI (by omega) (by omega)).mpr (by omega)), obs] at h
    change bX6_readTables_57 1 M = some r at h
    unfold bX6_readTables_57 at h
    rw [if_neg n10, c_peek hT, obs] at h
    dsimp only at h
    unfold pNext
    rw [if_neg (fun z => z.2 rfl)]
    by_cases c : hr w n (sk w n p) = -1
    · rw [if_pos c] at h
      cases h
      rw [if_pos c]
      exact Or.inl ⟨_, rfl, rfl⟩
    · rw [if_neg c, P6_2] at h
      cases h
      rw [if_neg c]
      exact Or.inr ⟨rfl, nI_m1 (by omega)⟩
  | succ k ih =>
    intro ts p M r hk hl hT e8 hM h
    have hs := sk_le (w := w) hT.2.2.2.1
    have hn := hT.2.1
    have hT1 := hT.at (q := sk w n p) hs.2
    unfold lX6_readTables_17 at h
    rw [itO_eq] at h; dsimp only at h
    rw [if_neg n10, L4, if_neg (mt (nI_leI (by omega) (by omega)).mp (by omega)), c_peek hT, obs] at h
    dsimp only at h
    unfold pNext
    by_cases c1 : hr w n (sk w n p) = 59
    · have l1 := hr_lt (w := w) (n := n) (p := sk w n p) (by rw [c1]; decide)
      rw [if_pos c1, pU_n, obs, P6_2, nI_1, P6_pU] at h
      rw [if_pos ⟨c1, by omega⟩]
      unfold pTabs
      obtain ⟨y, ey, h⟩ := ob h
      obtain ⟨z, ez, ey⟩ := ob ey
      obtain ⟨r6, e6, ez⟩ := ob ez
      cases ez
      change lX6_readTables_17 8 (r6.1, nI ts.length + 1, r6.2) = some y at ey
      rw [nI_1] at ey
      have h : (lX6_readTables_17 8 (r6.1, nI (ts.length + 1), r6.2)).bind kTs = some r := (congrArg (fun o => Option.bind o kTs) ey).trans h
      have hMP : MI true I0 (P6 M (sk w n p + 1)) := hM.up (k := 1) rfl (lo := 0) (hi := 400) rfl (by rw [tnI (by omega)]; omega) (by rw [tnI (by omega)]; omega)
      obtain ⟨r6', e6', _, hM6⟩ := tfX6_isClause 8 (P6 M (sk w n p + 1)) kX5_8 hMP
      rw [e6] at e6'
      cases e6'
      rcases c_isClause (t := ts.length) (by omega) (hT.at (q := sk w n p + 1) (by omega)) (by rw [P6_k (by decide)]; exact e8) e6 with ⟨x, s1, s2, s3, p', s4, s5⟩ | ⟨s1, s2 | ⟨s2, s3⟩⟩
      · rw [s1, obs]
        rw [s2] at h
        have el : (ts ++ [x.1]).length = ts.length + 1 := by rw [List.length_append]; rfl
        have q := ih (ts ++ [x.1]) p' r6.2 r (by omega) (by rw [el]; omega) s4 (by rw [el]; exact s3) hM6 (by rw [el]; exact h)
        rw [s5] at q
        exact q
      · rw [s1]
        rw [s2] at h
        exact Or.inr ⟨rfl, c_bad0 hM6 h⟩
      · rw [s1]
        rw [s2] at h
        exact Or.inr ⟨rfl, c_badS s3 h⟩
    · rw [if_neg c1, obs] at h
      change bX6_readTables_57 1 (P6 M (sk w n p)) = some r at h
      unfold bX6_readTables_57 at h
      rw [if_neg n10, c_peek hT1, obs, sk_sk hT.2.2.2.1] at h
      dsimp only at h
      rw [if_neg (fun z => c1 z.1)]
      by_cases c : hr w n (sk w n p) = -1
      · rw [if_pos c] at h
        cases h
        rw [if_pos c]
        exact Or.inl ⟨_, rfl, rfl⟩
      · rw [if_neg c, P6_2] at h
        cases h
        rw [if_neg c]
        exact Or.inr ⟨rfl, nI_m1 (by omega)⟩
end P_32e_reads8
