def okRow (wd : Nat) (r : List Nat) : Prop := r.length = wd ∧ ∀ c, c < wd → r.getD c 0 ≤ 99
/-- the rows rs of table t are read -/
def RsS (I M : gM) (t q : Nat) (rs : List (List Nat)) : Prop := M 62 4 = -1 ∧ M 62 3 = nI q ∧ (∀ j, j ≠ 3 → M 62 j = I 62 j) ∧ (∀ a, a ≠ 62 → a ≠ 66 → a ≠ 67 → M a = I a) ∧ (∀ a, M 66 a = if a = t then nI rs.length else I 66 a) ∧
  ∀ a, M 67 a = if 36 * t ≤ a ∧ a < 36 * t + 3 * rs.length then ce (rs.getD ((a - 36 * t) / 3) []) ((a - 36 * t) % 3) else I 67 a
theorem RsS.mv {I M : gM} {t q : Nat} {rs : List (List Nat)} (h : RsS I M t q rs) (q' : Nat) : RsS I (P9 M q') t q' rs :=
  ⟨by rw [P9_j (by decide)]; exact h.1, P9_3, fun j hj => by rw [P9_j hj]; exact h.2.2.1 j hj, fun a h1 h2 h3 => by rw [P9_k h1]; exact h.2.2.2.1 a h1 h2 h3, fun a => by rw [P9_k (by decide)]; exact h.2.2.2.2.1 a, fun a => by rw [P9_k (by decide)]; exact h.2.2.2.2.2 a⟩
theorem RsS.tp {I M : gM} {t q n p : Nat} {rs : List (List Nat)} (h : RsS I M t q rs) (hT : TP9 I n p) (hq : q ≤ n) : TP9 M n q := ⟨by rw [h.2.2.1 2 (by decide)]; exact hT.1, hT.2.1, h.2.1, hq⟩
theorem n_readRow {I M : gM} {n p q t wd : Nat} {rs : List (List Nat)} (ht : t < 4) (hT : TP9 I n p) (hS : RsS I M t q rs) (hq : q ≤ n) (e : I 64 t = nI wd) (h1 : 1 ≤ wd) (h3 : wd ≤ 3) (hm : rs.length ≤ 11) :
    ∃ r, fX9_readRow (nI t) M = some r ∧ ((pRow (I 63) n wd q = none ∧ NE r) ∨ ∃ x, pRow (I 63) n wd q = some x ∧ x.2 ≤ n ∧ okRow wd x.1 ∧ RsS I r t x.2 (rs ++ [x.1])) := by
  have e6 : M 66 t = nI rs.length := by rw [hS.2.2.2.2.1, if_pos rfl]
  have e64 : M 64 = I 64 := hS.2.2.2.1 64 (by decide) (by decide) (by decide)
  have e63 : M 63 = I 63 := hS.2.2.2.1 63 (by decide) (by decide) (by decide)
  unfold fX9_readRow
  rw [rI_n (by omega) (by omega), obs, e6, a12, L3, nI_mul, L0]
  obtain ⟨w, ew, h⟩ := n_row16 (b := 3 * (12 * t + rs.length)) ht (hS.tp hT hq) hS.1 (by rw [e64]; exact e) h1 h3 (by omega)
  rw [ew, obs]
  rcases h with ⟨e1, hr⟩ | ⟨x, e1, hx, hl, hv, hR⟩
  · rw [e63] at e1
    have e7 : w 66 t = nI rs.length := by
      rw [← e6]
      exact xlX9_readRow_16 _ _ _ ew 66 t (by decide) (Or.inl (by decide)) (Or.inl (by decide))
    rw [rI_n (by omega) (by omega), obs, e7, nI_1, wI_n (by omega) (by omega), obs]
    refine ⟨_, rfl, Or.inl ⟨e1, ?_⟩⟩
    show g_up w 66 t (nI (rs.length + 1)) 62 4 ≠ -1
    rw [g_up_row (by decide)]; exact hr
  · rw [e63] at e1
    have e7 : w 66 = M 66 := hR.2.2.2.1 66 (by decide) (by decide)
    rw [rI_n (by omega) (by omega), obs, e7, e6, nI_1, wI_n (by omega) (by omega), obs]
    have el : (rs ++ [x.1]).length = rs.length + 1 := by rw [List.length_append]; rfl
    refine ⟨_, rfl, Or.inr ⟨x, e1, hx, ⟨hl, hv⟩, ?_, ?_, fun j hj => ?_, fun a h1 h2 h3 => ?_, fun a => ?_, fun a => ?_⟩⟩
    · rw [g_up_row (by decide)]; exact hR.1
    · rw [g_up_row (by decide)]; exact hR.2.1
    · rw [g_up_row (by decide), hR.2.2.1 j hj]; exact hS.2.2.1 j hj
    · rw [g_up_row h2, hR.2.2.2.1 a h1 h3]; exact hS.2.2.2.1 a h1 h2 h3
    · rw [gu_in, e7, hS.2.2.2.2.1, el]
      by_cases d : a = t
      · rw [if_pos d, if_pos d]
      · rw [if_neg d, if_neg d, if_neg d]
    · rw [g_up_row (by decide), hR.2.2.2.2, hS.2.2.2.2.2, el]
      by_cases d1 : 3 * (12 * t + rs.length) ≤ a ∧ a < 3 * (12 * t + rs.length) + 3
      · rw [if_pos d1, if_pos (by omega), show (a - 36 * t) / 3 = rs.length by omega, show (a - 36 * t) % 3 = a - 3 * (12 * t + rs.length) by omega, List.getD_eq_getElem?_getD, List.getElem?_append_right (Nat.le_refl _), Nat.sub_self]; rfl
      · rw [if_neg d1]
        by_cases d2 : 36 * t ≤ a ∧ a < 36 * t + 3 * rs.length
        · rw [if_pos d2, if_pos (by omega), List.getD_eq_getElem?_getD, List.getD_eq_getElem?_getD, List.getElem?_append_left (by omega)]
        · rw [if_neg d2, if_neg (by omega)]
/-! rows -/
def pRows (w : Nat → Int32) (n wd : Nat) : Nat → List (List Nat) → Nat → Option (List (List Nat) × Nat)
  | 0, _, _ => none
  | k + 1, rs, p => (pRow w n wd p).bind fun x =>
    if hr w n (sk w n x.2) = 47 ∧ k ≠ 0 then pRows w n wd k (rs ++ [x.1]) (sk w n x.2 + 1) else some (rs ++ [x.1], sk w n x.2)
theorem t78_0 {M : gM} : bX9_readTable_78 0 M = some (.inl (0, M)) := by
  unfold bX9_readTable_78 bX9_readTable_93
  rw [if_pos rfl, pU_n, obs, Int32.add_zero, g_up_same rfl]
theorem t78_1 {M : gM} {q : Nat} (h : M 62 3 = nI q) : bX9_readTable_78 1 M = some (.inl (1, P9 M (q + 1))) := by
  unfold bX9_readTable_78 bX9_readTable_93
  rw [if_neg n10, pU_n, obs, h, nI_1]; rfl
theorem t36_0 {t : Nat} {M : gM} : lX9_readTable_36 (nI t) (0, M) = some M := by
  unfold lX9_readTable_36
  rw [itO_eq]; dsimp only
  rw [if_pos rfl, obs]; rfl
theorem n_rowsGo {I : gM} {n p t wd : Nat} (ht : t < 4) (hT : TP9 I n p) (e : I 64 t = nI wd) (h1 : 1 ≤ wd) (h3 : wd ≤ 3) : ∀ (k : Nat) (rs : List (List Nat)) (q : Nat) (M : gM), 1 ≤ k → rs.length + k = 12 → RsS I M t q rs → q ≤ n → (∀ r, r ∈ rs → okRow wd r) →
    ∃ r, lX9_readTable_36 (nI t) (1, M) = some r ∧ ((pRows (I 63) n wd k rs q = none ∧ NE r) ∨ ∃ x, pRows (I 63) n wd k rs q = some x ∧ x.2 ≤ n ∧ x.1.length ≤ 12 ∧ (∀ r, r ∈ x.1 → okRow wd r) ∧ RsS I r t x.2 x.1) := by
  intro k
  induction k with
  | zero => intro rs q M h; omega
  | succ k ih =>
    intro rs q M _ hk hS hq hok
    obtain ⟨r, er, h⟩ := n_readRow ht hT hS hq e h1 h3 (by omega)
    unfold lX9_readTable_36 pRows
    rw [itO_eq]; dsimp only
    rw [if_neg n10, er, obs]
    rcases h with ⟨e1, hr⟩ | ⟨x, e1, hx, hox, hR⟩
    · rw [if_neg hr, e1]
      unfold bX9_readTable_77
      rw [t78_0, obs]
      show ∃ r', lX9_readTable_36 (nI t) (0, r) = some r' ∧ _
      rw [t36_0]
      exact ⟨r, rfl, Or.inl ⟨rfl, hr⟩⟩
    · have hTr := hR.tp hT hx
      have hs := sk_le (w := I 63) hx
      have e63 : r 63 = I 63 := hR.2.2.2.1 63 (by decide) (by decide) (by decide)
      have ea := n_ahead hTr
      rw [e63] at ea
      rw [if_pos hR.1, ea, obs, e1, obs]
      dsimp only
      have hR2 := hR.mv (sk (I 63) n x.2)
      have el : (rs ++ [x.1]).length = rs.length + 1 := by rw [List.length_append]; rfl
      have hok2 : ∀ r, r ∈ rs ++ [x.1] → okRow wd r := fun r hr => by
        rcases List.mem_append.mp hr with z | z
        · exact hok r z
        · rw [List.mem_singleton.mp z]; exact hox
      have stop : ∃ r', ((bX9_readTable_77 (P9 r (sk (I 63) n x.2))).bind fun y => Sum.elim (fun s' => lX9_readTable_36 (nI t) s') (fun r => some r) y) = some r' ∧ RsS I r' t (sk (I 63) n x.2) (rs ++ [x.1]) := by
        unfold bX9_readTable_77
        rw [t78_0, obs]
        show ∃ r', lX9_readTable_36 (nI t) (0, _) = some r' ∧ _
        rw [t36_0]
        exact ⟨_, rfl, hR2⟩
      by_cases c1 : hr (I 63) n (sk (I 63) n x.2) = 47
      · have l1 := hr_lt (w := I 63) (n := n) (p := sk (I 63) n x.2) (by rw [c1]; decide)
        rw [if_pos c1, rI_n (by omega) (by omega), obs, hR2.2.2.2.2.1, if_pos rfl, el]
        by_cases c2 : k = 0
        · rw [L12, if_pos ((nI_leI (by omega) (by omega)).mpr (by omega)), if_neg (fun z => z.2 c2)]
          obtain ⟨r', e2, h2⟩ := stop
          exact ⟨r', e2, Or.inr ⟨_, rfl, hs.2, by rw [el]; omega, hok2, h2⟩⟩
        · rw [L12, if_neg (mt (nI_leI (by omega) (by omega)).mp (by omega)), if_pos ⟨c1, c2⟩, t78_1 P9_3, obs, P9_P9]
          exact ih (rs ++ [x.1]) (sk (I 63) n x.2 + 1) (P9 r (sk (I 63) n x.2 + 1)) (by omega) (by rw [el]; omega) (hR.mv _) (by omega) hok2
      · rw [if_neg c1, if_neg (fun z => c1 z.1)]
        obtain ⟨r', e2, h2⟩ := stop
        exact ⟨r', e2, Or.inr ⟨_, rfl, hs.2, by rw [el]; omega, hok2, h2⟩⟩
/-! a table -/
def pTable (w : Nat → Int32) (n p : Nat) : Option ((List Nat × List (List Nat)) × Nat) :=
  (pHead w n 4 [] p).bind fun x => if dg (hr w n (sk w n x.2)) then (pRows w n x.1.length 12 [] (sk w n x.2)).bind fun y => some ((x.1, y.1), y.2) else some ((x.1, []), sk w n x.2)
def okTab (tb : List Nat × List (List Nat)) : Prop := 1 ≤ tb.1.length ∧ tb.1.length ≤ 3 ∧ tb.2.length ≤ 12 ∧ ∀ r, r ∈ tb.2 → okRow tb.1.length r
/-- table t is read -/
def TbS (I M : gM) (t q : Nat) (tb : List Nat × List (List Nat)) : Prop := M 62 4 = -1 ∧ M 62 3 = nI q ∧ (∀ j, j ≠ 3 → M 62 j = I 62 j) ∧ M 63 = I 63 ∧ (∀ a, M 64 a = if a = t then nI tb.1.length else I 64 a) ∧ (∀ a, M 65 a = if 3 * t ≤ a ∧ a < 3 * t + tb.1.length then nI (tb.1.getD (a - 3 * t) 0) else I 65 a) ∧
  (∀ a, M 66 a = if a = t then nI tb.2.length else I 66 a) ∧
  ∀ a, M 67 a = if 36 * t ≤ a ∧ a < 36 * t + 3 * tb.2.length then ce (tb.2.getD ((a - 36 * t) / 3) []) ((a - 36 * t) % 3) else I 67 a
theorem t35_0 {t : Nat} {M : gM} : bX9_readTable_34 (nI t) M = some M := by
  unfold bX9_readTable_34 bX9_readTable_35
  rw [t36_0, obs]
theorem n_readTable {I : gM} {n p t : Nat} (ht : t < 4) (hT : TP9 I n p) (hw : I 62 4 = -1) :
    ∃ r, fX9_readTable (nI t) I = some r ∧ ((pTable (I 63) n p = none ∧ NE r) ∨ ∃ x, pTable (I 63) n p = some x ∧ x.2 ≤ n ∧ okTab x.1 ∧ TbS I r t x.2 x.1) := by
  unfold fX9_readTable pTable
  obtain ⟨r, er, h⟩ := n_readHead ht hT hw
  rw [er, obs, wI_n (by omega) (by omega), obs]
  have f := xfX9_readHead _ _ er
  rcases h with ⟨e1, hr⟩ | ⟨x, e1, g4, g3, g64, g65⟩
  · rw [if_neg (show ¬ g_up r 66 t 0 62 4 = -1 by rw [g_up_row (by decide)]; exact hr), t35_0, e1]
    exact ⟨_, rfl, Or.inl ⟨rfl, show g_up r 66 t 0 62 4 ≠ -1 by rw [g_up_row (by decide)]; exact hr⟩⟩
  · obtain ⟨_, x1, x3, xn⟩ := pHead_ok (by decide) e1
    generalize hN : g_up r 66 t 0 = N
    have Nk : ∀ a, a ≠ 66 → N a = r a := fun a ha => by rw [← hN, g_up_row ha]
    have N66 : ∀ a, N 66 a = if a = t then nI 0 else I 66 a := fun a => by
      rw [← hN, gu_in, f 66 a (by decide) (Or.inl (by decide)) (Or.inl (by decide)) (by decide)]; rfl
    have hTN : TP9 N n x.2 := ⟨by rw [Nk 62 (by decide), f 62 2 (by decide) (Or.inr (by decide)) (Or.inr (by decide)) (by decide)]; exact hT.1, hT.2.1, by rw [Nk 62 (by decide)]; exact g3, xn⟩
    have N63 : N 63 = I 63 := by
      rw [Nk 63 (by decide)]
      exact funext fun a => f 63 a (by decide) (Or.inl (by decide)) (Or.inl (by decide)) (by decide)
    have N4 : N 62 4 = -1 := by rw [Nk 62 (by decide)]; exact g4
    have Nj : ∀ j, j ≠ 3 → N 62 j = I 62 j := fun j hj => by
      by_cases d : j = 4
      · rw [d, N4, hw]
      · rw [Nk 62 (by decide)]; exact f 62 j (by decide) (Or.inr hj) (Or.inr d) (by decide)
    have hs := sk_le (w := I 63) xn
    have ea := n_ahead hTN
    rw [N63] at ea
    rw [if_pos N4, ea, obs, e1, obs]
    dsimp only
    rw [n_isDigit9, obs]
    have hS0 : RsS N N t x.2 [] := ⟨N4, hTN.2.2.1, fun _ _ => rfl, fun _ _ _ _ => rfl, fun a => by
      rw [N66]
      by_cases d : a = t
      · rw [if_pos d, if_pos d]; rfl
      · rw [if_neg d, if_neg d], fun a => by rw [if_neg (by simp only [List.length_nil]; omega)]⟩
    have fin : ∀ (r' : gM) (q : Nat) (rs : List (List Nat)), RsS N r' t q rs → TbS I r' t q (x.1, rs) := by
      intro r' q rs hR
      refine ⟨hR.1, hR.2.1, fun j hj => (hR.2.2.1 j hj).trans (Nj j hj), (hR.2.2.2.1 63 (by decide) (by decide) (by decide)).trans N63, fun a => ?_, fun a => ?_, fun a => ?_, fun a => ?_⟩
      · rw [hR.2.2.2.1 64 (by decide) (by decide) (by decide), Nk 64 (by decide)]; exact g64 a
      · rw [hR.2.2.2.1 65 (by decide) (by decide) (by decide), Nk 65 (by decide)]; exact g65 a
      · rw [hR.2.2.2.2.1, N66]
        by_cases d : a = t
        · rw [if_pos d, if_pos d]
        · rw [if_neg d, if_neg d, if_neg d]
      · rw [hR.2.2.2.2.2, Nk 67 (by decide), f 67 a (by decide) (Or.inl (by decide)) (Or.inl (by decide)) (by decide)]
    by_cases c1 : dg (hr (I 63) n (sk (I 63) n x.2))
    · rw [if_pos c1, if_pos c1, if_neg n10]
      unfold bX9_readTable_35
      have e64 : N 64 t = nI x.1.length := by rw [Nk 64 (by decide), g64, if_pos rfl]
      obtain ⟨r', e2, h2⟩ := n_rowsGo (I := N) ht hTN e64 x1 x3 12 [] (sk (I 63) n x.2) (P9 N (sk (I 63) n x.2)) (by omega) rfl (hS0.mv _) hs.2 (fun r hr => by cases hr)
      rw [N63] at h2
      rw [e2, obs]
      rcases h2 with ⟨e3, hr⟩ | ⟨y, e3, hy, hl, hok, hR⟩
      · rw [e3]; exact ⟨r', rfl, Or.inl ⟨rfl, hr⟩⟩
      · rw [e3]
        exact ⟨r', rfl, Or.inr ⟨_, rfl, hy, ⟨x1, x3, hl, hok⟩, fin r' y.2 y.1 hR⟩⟩
    · rw [if_neg c1, if_neg c1, if_pos rfl, t35_0]
      exact ⟨_, rfl, Or.inr ⟨_, rfl, hs.2, ⟨x1, x3, by show 0 ≤ 12; omega, fun r hr => by cases hr⟩, fin _ _ _ (hS0.mv _)⟩⟩
