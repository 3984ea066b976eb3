/-! tables told: rows put in one by one -/
def insK (k : Nat) : List Nat → List Nat
  | [] => [k]
  | a :: l => if k = a then a :: l else if k < a then k :: a :: l else a :: insK k l
theorem srt_tl {a : Nat} {l : List Nat} (h : srt (a :: l)) : srt l := fun i j hij hj => h (i + 1) (j + 1) (by omega) (Nat.succ_lt_succ hj)
theorem insK_in {k : Nat} : ∀ {l : List Nat} {i : Nat}, srt l → i < l.length → l.getD i 0 = k → insK k l = l
  | [], _, _, hi, _ => absurd hi (Nat.not_lt_zero _)
  | a :: l, 0, _, _, e => by
    have e : a = k := e
    unfold insK
    rw [if_pos e.symm]
  | a :: l, i + 1, hs, hi, e => by
    have e : l.getD i 0 = k := e
    have hi' : i < l.length := Nat.lt_of_succ_lt_succ hi
    have q : a < l.getD i 0 := hs 0 (i + 1) (by omega) hi
    unfold insK
    rw [if_neg (by omega), if_neg (by omega), insK_in (srt_tl hs) hi' e]
theorem insK_no {k : Nat} : ∀ {l : List Nat} {i : Nat}, posK k l i → ¬ (i < l.length ∧ l.getD i 0 = k) → insK k l = insA i k l
  | [], 0, _, _ => rfl
  | [], i + 1, h, _ => absurd h.1 (Nat.not_succ_le_zero _)
  | a :: l, 0, h, hn => by
    have q : k ≤ a := h.2.2 0 (Nat.le_refl _) (Nat.succ_pos _)
    have q2 : ¬ a = k := fun z => hn ⟨Nat.succ_pos _, z⟩
    unfold insK
    rw [if_neg (fun z => q2 z.symm), if_pos (by omega)]
    rfl
  | a :: l, i + 1, h, hn => by
    have q : a < k := h.2.1 0 (by omega)
    have h' : posK k l i := ⟨Nat.le_of_succ_le_succ h.1, fun j hj => h.2.1 (j + 1) (by omega), fun j h1 h2 => h.2.2 (j + 1) (by omega) (Nat.succ_lt_succ h2)⟩
    unfold insK
    rw [if_neg (by omega), if_neg (by omega), insK_no h' (fun z => hn ⟨Nat.succ_lt_succ z.1, z.2⟩)]
    rfl
theorem posK_ex {k : Nat} : ∀ {l : List Nat}, srt l → ∃ i, posK k l i
  | [], _ => ⟨0, Nat.le_refl _, fun j hj => absurd hj (Nat.not_lt_zero _), fun j _ hj => absurd hj (Nat.not_lt_zero _)⟩
  | a :: l, hs => by
    by_cases c : k ≤ a
    · exact ⟨0, posK.of hs (Nat.zero_le _) (fun j hj => absurd hj (Nat.not_lt_zero _)) (fun _ => c)⟩
    · obtain ⟨i, h1, h2, h3⟩ := posK_ex (k := k) (srt_tl hs)
      refine ⟨i + 1, Nat.succ_le_succ h1, fun j hj => ?_, fun j h4 h5 => ?_⟩
      · cases j with
        | zero => show a < k; omega
        | succ j => exact h2 j (by omega)
      · cases j with
        | zero => omega
        | succ j => exact h3 j (by omega) (Nat.lt_of_succ_lt_succ h5)
/-- either it is there, or it comes to its place -/
theorem insK_or {k : Nat} {l : List Nat} (hs : srt l) : (inK l k ∧ insK k l = l) ∨ (¬ inK l k ∧ ∃ i, posK k l i ∧ ¬ (i < l.length ∧ l.getD i 0 = k) ∧ insK k l = insA i k l) := by
  by_cases c : inK l k
  · obtain ⟨i, hi, e⟩ := c
    exact Or.inl ⟨⟨i, hi, e⟩, insK_in hs hi e⟩
  · obtain ⟨i, hp⟩ := posK_ex (k := k) hs
    have hn : ¬ (i < l.length ∧ l.getD i 0 = k) := fun z => c ⟨i, z⟩
    exact Or.inr ⟨c, i, hp, hn, insK_no hp hn⟩
theorem insK_ok {P : Nat → Prop} {k : Nat} {l : List Nat} (hs : srt l) (hk : P k) (h : ∀ j, j < l.length → P (l.getD j 0)) : srt (insK k l) ∧ (insK k l).length ≤ l.length + 1 ∧ ∀ j, j < (insK k l).length → P ((insK k l).getD j 0) := by
  rcases insK_or (k := k) hs with ⟨_, e⟩ | ⟨_, i, hp, hn, e⟩
  · rw [e]; exact ⟨hs, by omega, h⟩
  · rw [e]; exact ⟨srt_ins hs hp hn, by rw [insA_len]; omega, insA_all hk h hp.1⟩
/-- a row told, as a number -/
def rK (r : List Nat) : Nat := pk3 (r.getD 0 0) (r.getD 1 0) (r.getD 2 0)
def ksOf (rs : List (List Nat)) : List Nat := rs.foldl (fun l r => insK (rK r) l) []
theorem ksOf_app (rs : List (List Nat)) (r : List Nat) : ksOf (rs ++ [r]) = insK (rK r) (ksOf rs) := by
  unfold ksOf
  rw [List.foldl_append]; rfl
theorem ce_kn {wd : Nat} {r : List Nat} (h : okRow wd r) (c : Nat) : kn (ce r c) = r.getD c 0 ∧ r.getD c 0 ≤ 99 := by
  unfold ce
  by_cases d : c < r.length
  · have := h.2 c (by rw [← h.1]; exact d)
    rw [if_pos d]
    exact ⟨by unfold kn; rw [nIt (by omega)], this⟩
  · rw [if_neg d, List.getD_eq_getElem?_getD, List.getElem?_eq_none (by omega)]
    exact ⟨nn_m1, Nat.zero_le _⟩
theorem kyz_ce {wd : Nat} {r : List Nat} (h : okRow wd r) : kyz (ce r 0) (ce r 1) (ce r 2) = rK r := by
  unfold kyz rK
  rw [(ce_kn h 0).1, (ce_kn h 1).1, (ce_kn h 2).1]
theorem rowOK_ce {wd : Nat} {r : List Nat} (h : okRow wd r) (h1 : 1 ≤ wd) : rowOK wd (ce r 0) (ce r 1) (ce r 2) := by
  have g : ∀ c, (c < wd → 0 ≤ (ce r c).toInt ∧ (ce r c).toInt ≤ 99) ∧ (wd ≤ c → ce r c = -1) := fun c => ⟨fun hc => by
    have := h.2 c hc
    unfold ce
    rw [if_pos (by rw [h.1]; exact hc), tnI (by omega)]; omega, fun hc => by unfold ce; rw [if_neg (by rw [h.1]; omega)]⟩
  exact ⟨(g 0).1 (by omega), g 1, g 2⟩
theorem kOK_rK {wd : Nat} {r : List Nat} (h : okRow wd r) (h1 : 1 ≤ wd) : kOK wd (rK r) := by
  rw [← kyz_ce h]; exact (row_k (rowOK_ce h h1)).1
theorem ksOf_ok {wd : Nat} (h1 : 1 ≤ wd) : ∀ (rs : List (List Nat)), (∀ r, r ∈ rs → okRow wd r) → srt (ksOf rs) ∧ (ksOf rs).length ≤ rs.length ∧ ∀ j, j < (ksOf rs).length → kOK wd ((ksOf rs).getD j 0) := by
  have key : ∀ (rs : List (List Nat)) (l : List Nat), srt l → (∀ j, j < l.length → kOK wd (l.getD j 0)) → (∀ r, r ∈ rs → okRow wd r) → srt (rs.foldl (fun l r => insK (rK r) l) l) ∧ (rs.foldl (fun l r => insK (rK r) l) l).length ≤ l.length + rs.length ∧ ∀ j, j < (rs.foldl (fun l r => insK (rK r) l) l).length → kOK wd ((rs.foldl (fun l r => insK (rK r) l) l).getD j 0) := by
    intro rs
    induction rs with
    | nil => intro l a b _; exact ⟨a, Nat.le_refl _, b⟩
    | cons r rs ih =>
      intro l a b c
      obtain ⟨i1, i2, i3⟩ := insK_ok a (kOK_rK (c r List.mem_cons_self) h1) b
      obtain ⟨j1, j2, j3⟩ := ih _ i1 i3 (fun x hx => c x (List.mem_cons_of_mem _ hx))
      refine ⟨j1, ?_, j3⟩
      show (List.foldl (fun l r => insK (rK r) l) (insK (rK r) l) rs).length ≤ l.length + (rs.length + 1)
      omega
  intro rs h
  have q := key rs [] (fun i j hij hj => absurd hj (Nat.not_lt_zero _)) (fun j hj => absurd hj (Nat.not_lt_zero _)) h
  exact ⟨q.1, by have := q.2.1; simp only [List.length_nil] at this; unfold ksOf; omega, q.2.2⟩
/-- the tables as told -/
def tOf (ts : List (List Nat × List (List Nat))) : aT := (ts.map (fun tb => (tb.1, ksOf tb.2)), 2 ^ ts.length - 1, 0)
theorem tOf_get (ts : List (List Nat × List (List Nat))) (t : Nat) : (tOf ts).1.getD t ([], []) = ((ts.getD t ([], [])).1, ksOf (ts.getD t ([], [])).2) := by
  unfold tOf
  rw [List.getD_eq_getElem?_getD, List.getElem?_map, List.getD_eq_getElem?_getD]
  cases ts[t]? with
  | none => rfl
  | some x => rfl
theorem tOf_L (ts : List (List Nat × List (List Nat))) (t : Nat) : aL (tOf ts) t = (ts.getD t ([], [])).1 := by unfold aL; rw [tOf_get]
theorem tOf_K (ts : List (List Nat × List (List Nat))) (t : Nat) : aK (tOf ts) t = ksOf (ts.getD t ([], [])).2 := by unfold aK; rw [tOf_get]
theorem tOf_n (ts : List (List Nat × List (List Nat))) : (tOf ts).1.length = ts.length := by unfold tOf; rw [List.length_map]
/-- letters of a table as told -/
def okL (ls : List Nat) : Prop := (∀ c, c < ls.length → ls.getD c 0 < 4) ∧ ∀ c d, c < d → d < ls.length → ls.getD c 0 ≠ ls.getD d 0
theorem okL_app {ls : List Nat} {l : Nat} (h : okL ls) (hl : l < 4) (hn : l ∉ ls) : okL (ls ++ [l]) := by
  have el : (ls ++ [l]).length = ls.length + 1 := by rw [List.length_append]; rfl
  have g : ∀ c, c < ls.length + 1 → (c < ls.length ∧ (ls ++ [l]).getD c 0 = ls.getD c 0) ∨ (c = ls.length ∧ (ls ++ [l]).getD c 0 = l) := fun c hc => by
    by_cases d : c < ls.length
    · exact Or.inl ⟨d, gd_lt d⟩
    · have : c = ls.length := by omega
      subst this
      exact Or.inr ⟨rfl, gd_eq⟩
  refine ⟨fun c hc => ?_, fun c d hcd hd => ?_⟩
  · rw [el] at hc
    rcases g c hc with ⟨a, b⟩ | ⟨a, b⟩
    · rw [b]; exact h.1 c a
    · rw [b]; exact hl
  · rw [el] at hd
    rcases g c (by omega) with ⟨a, b⟩ | ⟨a, b⟩
    · rcases g d hd with ⟨a', b'⟩ | ⟨a', b'⟩
      · rw [b, b']; exact h.2 c d hcd a'
      · rw [b, b']
        exact fun z => hn (z ▸ getD_mem a)
    · omega
theorem pHead_L {w : Nat → Int32} {n : Nat} : ∀ {k : Nat} {ls : List Nat} {p : Nat} {r : List Nat × Nat}, okL ls → pHead w n k ls p = some r → okL r.1
  | 0, ls, p, r, _, h => by cases h
  | k + 1, ls, p, r, hl, h => by
    unfold pHead at h
    by_cases c1 : lt_ (hr w n (sk w n p))
    · rw [if_pos c1] at h
      by_cases c2 : ls.length = 3 ∨ lv (hr w n (sk w n p)) ∈ ls
      · rw [if_pos c2] at h; cases h
      · rw [if_neg c2] at h
        exact pHead_L (okL_app hl (by have := (lt_v c1).1; omega) (fun z => c2 (Or.inr z))) h
    · rw [if_neg c1] at h
      by_cases c2 : ls = []
      · rw [if_pos c2] at h; cases h
      · rw [if_neg c2] at h
        by_cases c3 : hr w n (sk w n p) = 58
        · rw [if_pos c3] at h; cases h; exact hl
        · rw [if_neg c3] at h; cases h
theorem pTable_L {w : Nat → Int32} {n p : Nat} {r : (List Nat × List (List Nat)) × Nat} (h : pTable w n p = some r) : okL r.1.1 := by
  unfold pTable at h
  obtain ⟨x, e1, h⟩ := ob h
  have q := pHead_L ⟨fun c hc => absurd hc (Nat.not_lt_zero _), fun c d _ hd => absurd hd (Nat.not_lt_zero _)⟩ e1
  by_cases c : dg (hr w n (sk w n x.2))
  · rw [if_pos c] at h
    obtain ⟨y, _, h⟩ := ob h
    cases h; exact q
  · rw [if_neg c] at h
    cases h; exact q
theorem pTabs_L {w : Nat → Int32} {n : Nat} : ∀ {k : Nat} {ts : List (List Nat × List (List Nat))} {p : Nat} {x : List (List Nat × List (List Nat))}, (∀ tb, tb ∈ ts → okL tb.1) → pTabs w n k ts p = some x → ∀ tb, tb ∈ x → okL tb.1
  | 0, ts, p, x, _, h => by cases h
  | k + 1, ts, p, x, ht, h => by
    unfold pTabs at h
    obtain ⟨y, e1, h⟩ := ob h
    have q : ∀ tb, tb ∈ ts ++ [y.1] → okL tb.1 := fun tb hb => by
      rcases List.mem_append.mp hb with z | z
      · exact ht tb z
      · rw [List.mem_singleton.mp z]; exact pTable_L e1
    by_cases c1 : hr w n (sk w n y.2) = 59 ∧ k ≠ 0
    · rw [if_pos c1] at h
      exact pTabs_L q h
    · rw [if_neg c1] at h
      by_cases c2 : hr w n (sk w n y.2) = -1
      · rw [if_pos c2] at h; cases h; exact q
      · rw [if_neg c2] at h; cases h
theorem gd_get {α : Type} {l : List α} {d : α} {i : Nat} (h : i < l.length) : l[i]? = some (l.getD i d) := by
  rw [List.getD_eq_getElem?_getD, List.getElem?_eq_getElem h]; rfl
theorem WF_tOf {ts : List (List Nat × List (List Nat))} (h4 : ts.length ≤ 4) (h : ∀ tb, tb ∈ ts → okTab tb ∧ okL tb.1) : WF (tOf ts) := by
  have hp : 0 < 2 ^ ts.length := Nat.two_pow_pos _
  refine ⟨by rw [tOf_n]; exact h4, ?_, fun q => ?_, by show 0 < 24; omega, fun t ht => ?_⟩
  · rw [tOf_n]; show 2 ^ ts.length - 1 < 2 ^ ts.length; omega
  · rw [tOf_n] at q
    have : 2 ^ 1 ≤ 2 ^ ts.length := Nat.pow_le_pow_right (by decide) q
    show 0 < 2 ^ ts.length - 1
    omega
  · rw [tOf_n] at ht
    have hm : ts.getD t ([], []) ∈ ts := by rw [List.getD_eq_getElem?_getD, List.getElem?_eq_getElem ht]; exact List.getElem_mem ht
    obtain ⟨⟨o1, o3, o12, orow⟩, l1, l2⟩ := h _ hm
    obtain ⟨k1, k2, k3⟩ := ksOf_ok o1 _ orow
    unfold wfT
    rw [tOf_L, tOf_K]
    exact ⟨⟨o1, o3⟩, l1, l2, by omega, k1, k3⟩
