/-! the class reads tables: just these -/
theorem shl0 (x : Int32) : x <<< (0 : Int32) = x := by
  apply Int32.toBitVec_inj.1
  show x.toBitVec <<< (0 : Int32).toBitVec.smod 32 = x.toBitVec
  rw [show (0 : Int32).toBitVec.smod 32 = 0#32 by decide]
  simp
theorem sh_0 : (((14 : Int32) - ((7 : Int32) * nI 0)) &&& 31) = 14 := by decide +kernel
theorem sh_1 : (((14 : Int32) - ((7 : Int32) * nI 1)) &&& 31) = 7 := by decide +kernel
theorem sh_2 : (((14 : Int32) - ((7 : Int32) * nI 2)) &&& 31) = 0 := by decide +kernel
theorem rv_1 {a : Nat} (ha : a < 128) : (0 : Int32) ||| (nI a <<< 14) = nI (pk3 a 0 0) := by
  rw [pk_shlN 14 14 (by decide) (by omega), show (0 : Int32) = nI 0 from rfl, fa_or, Nat.zero_or]
  congr 1
  unfold pk3
  omega
theorem rv_2 {a b : Nat} (ha : a < 128) (hb : b < 128) : nI (pk3 a 0 0) ||| (nI b <<< 7) = nI (pk3 a b 0) := by
  rw [pk_shlN 7 7 (by decide) (by omega), show pk3 a 0 0 = 2 ^ 14 * a by unfold pk3; omega, fa_or_sum (k := 14) a (by omega)]
  congr 1
  unfold pk3
  omega
theorem rv_3 {a b c : Nat} (ha : a < 128) (hb : b < 128) (hc : c < 128) : nI (pk3 a b 0) ||| (nI c <<< 0) = nI (pk3 a b c) := by
  rw [shl0, show pk3 a b 0 = 2 ^ 7 * (2 ^ 7 * a + b) by unfold pk3; omega, fa_or_sum (k := 7) _ (by omega)]
  congr 1
  unfold pk3
  omega
theorem g_col {M : gM} {w : Nat → Int32} {n p t k : Nat} {ρ : Int32} {a : Nat × Nat} (hT : C8 M w n p) (h : pNum w n 99 p = some a) : (bX6_isRow_42 ρ (nI k) M).bind (kRw t) = lX6_isRow_5 8 (nI t) (ρ ||| (nI a.1 <<< (((14 : Int32) - ((7 : Int32) * nI k)) &&& 31)), nI (k + 1), P6 M a.2) ∧ a.1 ≤ 99 ∧ a.2 ≤ n := by
  have l := pNum_le (v := a.1) (q := a.2) h
  unfold bX6_isRow_42
  rcases c_number hT with ⟨x, e1, e2⟩ | ⟨e1, e2⟩
  · rcases cNum_p (w := w) (n := n) (p := p) (hi := 99) with ⟨y, f1, f2, _⟩ | ⟨f1, _⟩
    · rw [h] at f1
      obtain rfl := Option.some.inj f1
      rw [e1] at f2
      obtain rfl := Option.some.inj f2
      refine ⟨?_, l.1, l.2.2⟩
      rw [e2, obs, if_neg (nI_m1 (by omega)), obs, nI_1]; rfl
    · rw [h] at f1; cases f1
  · rcases cNum_p (w := w) (n := n) (p := p) (hi := 99) with ⟨y, f1, f2, _⟩ | ⟨f1, _⟩
    · rw [e1] at f2; cases f2
    · rw [h] at f1; cases f1
theorem g_must {M : gM} {w : Nat → Int32} {n p t wd k q : Nat} {ρ : Int32} (hT : C8 M w n p) (ht : t < 4) (e : M 9 t = nI wd) (hw : wd ≤ 3) (h1 : 1 ≤ k) (h : k < wd) (hm : pMust w n 44 p = some q) : lX6_isRow_5 8 (nI t) (ρ, nI k, M) = (bX6_isRow_42 ρ (nI k) (P6 M q)).bind (kRw t) ∧ q ≤ n := by
  rcases cr_k (ρ := ρ) hT ht e hw h1 h with ⟨q', e1, l, e2⟩ | ⟨e1, _⟩
  · rw [hm] at e1
    obtain rfl := Option.some.inj e1
    exact ⟨e2, l⟩
  · rw [hm] at e1; cases e1
theorem g_row5 {M : gM} {w : Nat → Int32} {n p t wd : Nat} {x : List Nat × Nat} (hT : C8 M w n p) (ht : t < 4) (e : M 9 t = nI wd) (h1 : 1 ≤ wd) (hw : wd ≤ 3) (h : pRow w n wd p = some x) : lX6_isRow_5 8 (nI t) (0, nI 0, M) = some (.inr (.inr (nI (rK x.1), P6 M x.2))) ∧ okRow wd x.1 ∧ x.2 ≤ n := by
  have eP : ∀ q, P6 M q 9 t = nI wd := fun q => by rw [P6_k (by decide)]; exact e
  unfold pRow at h
  obtain ⟨a, ea, h⟩ := ob h
  obtain ⟨g1, l1, q1⟩ := g_col (ρ := 0) (k := 0) (t := t) hT ea
  rw [cr_0 ht e hw h1, g1, sh_0, rv_1 (by omega)]
  by_cases c1 : wd ≤ 1
  · rw [if_pos c1] at h
    obtain rfl := Option.some.inj h
    have : wd = 1 := by omega
    subst this
    rw [cr_end ht (eP _) hw (by omega) (Nat.le_refl _)]
    exact ⟨rfl, ⟨rfl, fun c hc => by obtain rfl : c = 0 := by omega
                                     exact l1⟩, q1⟩
  rw [if_neg c1] at h
  obtain ⟨p2, em, h⟩ := ob h
  obtain ⟨g2, q2⟩ := g_must (ρ := nI (pk3 a.1 0 0)) (k := 1) (hT.at q1) ht (eP _) hw (by omega) (by omega) em
  obtain ⟨b, eb, h⟩ := ob h
  obtain ⟨g3, l3, q3⟩ := g_col (ρ := nI (pk3 a.1 0 0)) (k := 1) (t := t) ((hT.at q1).at q2) eb
  rw [g2, g3, sh_1, rv_2 (by omega) (by omega), P6_P6, P6_P6]
  by_cases c2 : wd ≤ 2
  · rw [if_pos c2] at h
    obtain rfl := Option.some.inj h
    have : wd = 2 := by omega
    subst this
    rw [cr_end ht (eP _) hw (by omega) (Nat.le_refl _)]
    exact ⟨rfl, ⟨rfl, fun c hc => by
      rcases (by omega : c = 0 ∨ c = 1) with rfl | rfl
      · exact l1
      · exact l3⟩, q3⟩
  rw [if_neg c2] at h
  obtain ⟨p3, em3, h⟩ := ob h
  obtain ⟨g4, q4⟩ := g_must (ρ := nI (pk3 a.1 b.1 0)) (k := 2) (hT.at q3) ht (eP _) hw (by omega) (by omega) em3
  obtain ⟨d, ed, h⟩ := ob h
  obtain ⟨g5, l5, q5⟩ := g_col (ρ := nI (pk3 a.1 b.1 0)) (k := 2) (t := t) ((hT.at q3).at q4) ed
  rw [g4, g5, sh_2, rv_3 (by omega) (by omega) (by omega), P6_P6, P6_P6, cr_end ht (eP _) hw (by omega) (by omega)]
  obtain rfl := Option.some.inj h
  have : wd = 3 := by omega
  subst this
  exact ⟨rfl, ⟨rfl, fun c hc => by
    rcases (by omega : c = 0 ∨ c = 1 ∨ c = 2) with rfl | rfl | rfl
    · exact l1
    · exact l3
    · exact l5⟩, q5⟩
/-- a table told, in the class's cells from 8 on -/
def CTe (M : gM) (i : Nat) (tb : List Nat × List (List Nat)) : Prop := (tb.1.length ≤ 3 ∧ (ksOf tb.2).length ≤ 12) ∧ M 9 i = nI tb.1.length ∧ (∀ c, c < tb.1.length → M 11 (3 * i + c) = nI (tb.1.getD c 0)) ∧ CTt M 8 i (ksOf tb.2)
def CTs (M : gM) (ts : List (List Nat × List (List Nat))) : Prop := M 8 0 = nI ts.length ∧ M 8 1 = nI (2 ^ ts.length - 1) ∧ M 8 2 = 0 ∧ ∀ i, i < ts.length → CTe M i (ts.getD i ([], []))
theorem CTe.cong {M r : gM} {i : Nat} {tb : List Nat × List (List Nat)} (h : CTe M i tb) (h9 : r 9 i = M 9 i) (h11 : ∀ c, c < 3 → r 11 (3 * i + c) = M 11 (3 * i + c)) (h10 : r 10 i = M 10 i) (h12 : ∀ j, j < 12 → r 12 (12 * i + j) = M 12 (12 * i + j)) : CTe r i tb := by
  obtain ⟨⟨a1, a2⟩, b, c, d⟩ := h
  exact ⟨⟨a1, a2⟩, h9.trans b, fun k hk => (h11 k (by omega)).trans (c k hk), d.cong h10 (fun j hj => h12 j (by omega))⟩
theorem CTs.P {M : gM} {ts : List (List Nat × List (List Nat))} (h : CTs M ts) (q : Nat) : CTs (P6 M q) ts := by
  have e : ∀ k, k ≠ 1 → P6 M q k = M k := fun k hk => P6_k hk
  exact ⟨by rw [e 8 (by decide)]; exact h.1, by rw [e 8 (by decide)]; exact h.2.1, by rw [e 8 (by decide)]; exact h.2.2.1, fun i hi => (h.2.2.2 i hi).cong (by rw [e 9 (by decide)]) (fun _ _ => by rw [e 11 (by decide)]) (by rw [e 10 (by decide)]) (fun _ _ => by rw [e 12 (by decide)])⟩
theorem gdA {ts : List (List Nat × List (List Nat))} {x : List Nat × List (List Nat)} {i : Nat} (hi : i < (ts ++ [x]).length) : (i < ts.length ∧ (ts ++ [x]).getD i ([], []) = ts.getD i ([], [])) ∨ (i = ts.length ∧ (ts ++ [x]).getD i ([], []) = x) := by
  rw [List.length_append] at hi
  have hi : i < ts.length + 1 := hi
  by_cases d : i < ts.length
  · exact Or.inl ⟨d, gd_lt d⟩
  · have : i = ts.length := by omega
    subst this
    exact Or.inr ⟨rfl, gd_eq⟩
theorem lenA {α : Type} {ts : List α} {x : α} : (ts ++ [x]).length = ts.length + 1 := by rw [List.length_append]; rfl
theorem CTs.last {M : gM} {ts : List (List Nat × List (List Nat))} {x : List Nat × List (List Nat)} (h : CTs M (ts ++ [x])) : CTe M ts.length x := by
  have q := h.2.2.2 ts.length (by rw [lenA]; omega)
  rw [gd_eq] at q; exact q
/-- the last table is another one then -/
theorem CTs.alt {M r : gM} {ts : List (List Nat × List (List Nat))} {x x' : List Nat × List (List Nat)} (h : CTs M (ts ++ [x])) (h8 : ∀ j, j < 3 → r 8 j = M 8 j) (h9 : ∀ a, a < ts.length → r 9 a = M 9 a) (h11 : ∀ a, a < 3 * ts.length → r 11 a = M 11 a) (h10 : ∀ a, a < ts.length → r 10 a = M 10 a) (h12 : ∀ a, a < 12 * ts.length → r 12 a = M 12 a) (hx : CTe r ts.length x') : CTs r (ts ++ [x']) := by
  obtain ⟨a1, a2, a3, a4⟩ := h
  rw [lenA] at a1 a2 a4
  refine ⟨by rw [lenA, h8 0 (by omega)]; exact a1, by rw [lenA, h8 1 (by omega)]; exact a2, by rw [h8 2 (by omega)]; exact a3, fun i hi => ?_⟩
  rcases gdA hi with ⟨d, e⟩ | ⟨d, e⟩
  · rw [e]
    have q := a4 i (by omega)
    rw [gd_lt d] at q
    exact q.cong (h9 i d) (fun c hc => h11 _ (by omega)) (h10 i d) (fun j hj => h12 _ (by omega))
  · rw [e, d]; exact hx
theorem CTs.ct {M : gM} {ts : List (List Nat × List (List Nat))} (h : CTs M ts) : CT M 8 (tOf ts) := by
  refine ⟨by rw [tOf_n]; exact h.1, h.2.1, h.2.2.1, fun t ht => ?_⟩
  rw [tOf_n] at ht
  rw [tOf_L, tOf_K]
  exact (h.2.2.2 t ht).2
theorem or_used : ∀ n, n < 4 → nI (2 ^ n - 1) ||| ((1 : Int32) <<< (nI n &&& 31)) = nI (2 ^ (n + 1) - 1) := by decide +kernel
theorem g_open {M r : gM} {ts : List (List Nat × List (List Nat))} (h : CTs M ts) (h4 : ts.length < 4) (e : fX5_open 8 M = some r) : CTs r (ts ++ [([], [])]) := by
  obtain ⟨a1, a2, a3, a4⟩ := h
  unfold fX5_open at e
  rw [a1, L4, if_neg (mt (nI_leI (by omega) (by omega)).mp (by omega)), L0, wI_n (by omega) (by omega), obs, g_up_row (show 8 ≠ 8 + 1 by decide), a1, wI_n (by omega) (by omega), obs, pU_n, obs, pU_n, obs] at e
  obtain rfl := Option.some.inj e
  have k8 : ∀ {N : gM} {v u : Int32} {j : Nat}, g_up (g_up N 9 ts.length v) 10 ts.length u 8 j = N 8 j := by
    intro N v u j
    rw [g_up_row (by decide), g_up_row (by decide)]
  refine ⟨?_, ?_, ?_, fun i hi => ?_⟩
  · rw [g_up_self, g_up_ne (Or.inr (by decide)), k8, a1, nI_1, lenA]
  · rw [g_up_ne (Or.inr (by decide)), g_up_self, k8, k8, a2, a1, or_used _ h4, lenA]
  · rw [g_up_ne (Or.inr (by decide)), g_up_ne (Or.inr (by decide)), k8]; exact a3
  · rcases gdA hi with ⟨d, e⟩ | ⟨d, e⟩
    · rw [e]
      refine (a4 i d).cong ?_ (fun c hc => ?_) ?_ (fun c hc => ?_)
      · rw [g_up_row (by decide), g_up_row (by decide), g_up_row (by decide), g_up_ne (Or.inr (by omega))]
      · rw [g_up_row (by decide), g_up_row (by decide), g_up_row (by decide), g_up_row (by decide)]
      · rw [g_up_row (by decide), g_up_row (by decide), g_up_ne (Or.inr (by omega)), g_up_row (by decide)]
      · rw [g_up_row (by decide), g_up_row (by decide), g_up_row (by decide), g_up_row (by decide)]
    · rw [e, d]
      refine ⟨⟨by decide, by decide⟩, ?_, fun c hc => absurd hc (Nat.not_lt_zero _), ?_, fun j hj => absurd hj (Nat.not_lt_zero _)⟩
      · rw [g_up_row (by decide), g_up_row (by decide), g_up_row (by decide), g_up_self]; rfl
      · show g_up _ 8 0 _ 10 ts.length = _
        rw [g_up_row (by decide), g_up_row (by decide), g_up_self]; rfl
theorem g_letter {M N : gM} {l : Nat} {ts : List (List Nat × List (List Nat))} {ls : List Nat} (h : CTs M (ts ++ [(ls, [])])) (h4 : ts.length < 4) (hn : ls.length < 3) (e : fX5_addLetter 8 (nI l) M = some (1, N)) : CTs N (ts ++ [(ls ++ [l], [])]) := by
  obtain ⟨⟨b1, b2⟩, b9, b11, b12⟩ := h.last
  have b9 : M 9 ts.length = nI ls.length := b9
  have a1 := h.1
  rw [lenA] at a1
  have em : M 8 0 - 1 = nI ts.length := by rw [a1, nI_s1 (by omega), Nat.add_sub_cancel]
  unfold fX5_addLetter fX5_isTable at e
  rw [em, if_neg (show ¬ nI ts.length < 0 by rw [L0]; exact mt (nI_ltI (by omega) (by omega)).mp (by omega)), a1, if_neg (mt (nI_leI (by omega) (by omega)).mp (by omega)), obs, if_neg n10, rI_n (by omega) (by omega), obs, b9, L3, if_neg (mt (nI_leI (by omega) (by omega)).mp (by omega))] at e
  obtain ⟨c, ec, e⟩ := ob e
  rcases oi e with ⟨_, e⟩ | ⟨_, e⟩
  · rw [obs, nI_mul, nI_add, wI_n (by omega) (by omega), obs, g_up_row (show 8 + 1 ≠ 8 + 3 by decide), rI_n (by omega) (by omega), obs, b9, nI_1, wI_n (by omega) (by omega), obs] at e
    have hN := (congrArg Prod.snd (Option.some.inj e)).symm
    have hN : N = g_up (g_up M 11 (ts.length * 3 + ls.length) (nI l)) 9 ts.length (nI (ls.length + 1)) := hN
    subst hN
    refine h.alt (fun j _ => by rw [g_up_row (by decide), g_up_row (by decide)]) (fun a ha => by rw [g_up_ne (Or.inr (by omega)), g_up_row (by decide)]) (fun a ha => by rw [g_up_row (by decide), g_up_ne (Or.inr (by omega))]) (fun a ha => by rw [g_up_row (by decide), g_up_row (by decide)]) (fun a ha => by rw [g_up_row (by decide), g_up_row (by decide)]) ⟨⟨?_, show (ksOf []).length ≤ 12 by decide⟩, ?_, fun c hc => ?_, ?_, fun j hj => absurd hj (Nat.not_lt_zero _)⟩
    · show (ls ++ [l]).length ≤ 3
      rw [lenA]; omega
    · show _ = nI (ls ++ [l]).length
      rw [g_up_self, lenA]
    · have hc : c < (ls ++ [l]).length := hc
      rw [lenA] at hc
      show _ = nI ((ls ++ [l]).getD c 0)
      rw [g_up_row (by decide), gu_in]
      by_cases d : c = ls.length
      · rw [if_pos (by omega), d, gd_eq]
      · rw [if_neg (by omega), gd_lt (by omega)]; exact b11 c (by show c < ls.length; omega)
    · show g_up _ 9 _ _ 10 ts.length = _
      rw [g_up_row (by decide), g_up_row (by decide)]; exact b12.1
  · cases e
theorem g_insert {M : gM} {n t q : Nat} {ks : List Nat} (hn : n ≤ 4) (e : M 8 0 = nI n) (ht : t < n) (hl : ks.length ≤ 11) (h : CTt M 8 t ks) (hq : q < 2097152) (hk : ∀ i, i < ks.length → ks.getD i 0 < 2097152) (hs : srt ks) : ∃ r, fX5_insert 8 (nI t) (nI q) M = some r ∧ CTt r 8 t (insK q ks) ∧ (∀ x, x ≠ 10 → x ≠ 12 → r x = M x) ∧ (∀ a, a < t → r 10 a = M 10 a) ∧ ∀ a, a < 12 * t → r 12 a = M 12 a := by
  rcases insK_or (k := q) hs with ⟨⟨i, hi, ei⟩, eK⟩ | ⟨hno, i, hp, hne, eK⟩
  · have h1 : fX5_isTable 8 (nI t) M = some 1 := by
      rcases c_isTable hn e (nI t) with ⟨_, _, _, z⟩ | ⟨z, _⟩
      · exact z
      · exact absurd rfl (z t ht)
    rcases c_placeOf (by omega) (by omega) h hq hk with ⟨i', a, b, c⟩ | ⟨a, _⟩
    · refine ⟨M, ?_, by rw [eK]; exact h, fun _ _ _ => rfl, fun _ _ => rfl, fun _ _ => rfl⟩
      unfold fX5_insert
      rw [h1, obs, if_neg n10, rI_n (by omega) (by omega), obs, h.1, L12, if_neg (mt (nI_leI (by omega) (by omega)).mp (by omega)), c, obs, if_neg (nI_m1 (by omega))]
    · exact absurd ei (a i hi)
  · obtain ⟨i', r, er, hp', r1, r2, r3⟩ := c_insert hn e ht hl h hq hk hs (fun j hj z => hno ⟨j, hj, z⟩)
    have := hp'.eq hp
    subst this
    have hi := hp.1
    refine ⟨r, er, ?_, r1, fun a ha => ?_, fun a ha => ?_⟩
    · rw [eK]
      refine ⟨?_, fun j hj => ?_⟩
      · show r (8 + 2) t = _
        rw [r2, if_pos rfl, insA_len]
      · rw [insA_len] at hj
        show r (8 + 4) (12 * t + j) = _
        rw [r3, insA_get j hp.1]
        unfold iw
        by_cases c1 : j = i'
        · rw [if_pos (by omega), if_neg (by omega), if_pos c1]
        · rw [if_neg (by omega)]
          by_cases c2 : j < i'
          · rw [if_neg (by omega), if_pos c2]; exact h.2 j (by omega)
          · rw [if_pos (by omega), if_neg c2, if_neg c1, show 12 * t + j - 1 = 12 * t + (j - 1) by omega]; exact h.2 (j - 1) (by omega)
    · show r (8 + 2) a = _
      rw [r2, if_neg (by omega)]
    · show r (8 + 4) a = _
      rw [r3]
      unfold iw
      rw [if_neg (by omega), if_neg (by omega)]
theorem g_isRow {M : gM} {w : Nat → Int32} {n p : Nat} {ts : List (List Nat × List (List Nat))} {ls : List Nat} {rs : List (List Nat)} {x : List Nat × Nat} (h4 : ts.length < 4) (hT : C8 M w n p) (hC : CTs M (ts ++ [(ls, rs)])) (h1 : 1 ≤ ls.length) (h3 : ls.length ≤ 3) (hrs : ∀ r, r ∈ rs → okRow ls.length r) (hl : rs.length ≤ 11) (hx : pRow w n ls.length p = some x) {r : Int32 × gM} (h : fX6_isRow 8 (nI ts.length) M = some r) :
    r.1 = 1 ∧ C8 r.2 w n x.2 ∧ okRow ls.length x.1 ∧ CTs r.2 (ts ++ [(ls, rs ++ [x.1])]) := by
  obtain ⟨b0, b9, b11, b12⟩ := hC.last
  obtain ⟨g1, g2, g3⟩ := g_row5 hT h4 b9 h1 h3 hx
  have hP := hC.P x.2
  obtain ⟨d0, d9, d11, d12⟩ := hP.last
  have d8 := hP.1
  rw [lenA] at d8
  obtain ⟨k1, k2, k3⟩ := ksOf_ok h1 rs hrs
  obtain ⟨r6, e6, i2, i1, i3, i4⟩ := g_insert (q := rK x.1) (by omega) d8 (show ts.length < ts.length + 1 by omega) (show (ksOf rs).length ≤ 11 by omega) d12 (kOK_rK g2 h1).lt (fun i hi => (k3 i hi).lt) k1
  unfold fX6_isRow at h
  rw [show ((0 : Int32), (0 : Int32), M) = (0, nI 0, M) from rfl, g1, obs] at h
  change (fX5_insert 8 (nI ts.length) (nI (rK x.1)) (P6 M x.2)).bind (fun r6 => some ((1 : Int32), r6)) = some r at h
  rw [e6, obs] at h
  obtain rfl := Option.some.inj h
  suffices hh : C8 r6 w n x.2 ∧ CTs r6 (ts ++ [(ls, rs ++ [x.1])]) from ⟨rfl, hh.1, g2, hh.2⟩
  refine ⟨(hT.at g3).cong (fun j => by rw [i1 1 (by decide) (by decide)]) (fun j => by rw [i1 2 (by decide) (by decide)]), ?_⟩
  have kk := insK_ok k1 (kOK_rK g2 h1) k3
  refine hP.alt (fun j _ => by rw [i1 8 (by decide) (by decide)]) (fun a _ => by rw [i1 9 (by decide) (by decide)]) (fun a _ => by rw [i1 11 (by decide) (by decide)]) i3 i4 ⟨⟨h3, ?_⟩, ?_, fun c hc => ?_, ?_⟩
  · show (ksOf (rs ++ [x.1])).length ≤ 12
    rw [ksOf_app]
    have := kk.2.1
    omega
  · rw [i1 9 (by decide) (by decide)]; exact d9
  · rw [i1 11 (by decide) (by decide)]; exact d11 c hc
  · show CTt r6 8 ts.length (ksOf (rs ++ [x.1]))
    rw [ksOf_app]; exact i2
theorem g_rowsGo {w : Nat → Int32} {n : Nat} {ts : List (List Nat × List (List Nat))} {ls : List Nat} (h4 : ts.length < 4) (h1 : 1 ≤ ls.length) (h3 : ls.length ≤ 3) : ∀ (k : Nat) (rs : List (List Nat)) (p : Nat) (M : gM) (r : Int32 × gM) (y : List (List Nat) × Nat), 1 ≤ k → rs.length + k = 12 → C8 M w n p → CTs M (ts ++ [(ls, rs)]) → (∀ r, r ∈ rs → okRow ls.length r) →
    (lX6_isClause_114 8 (nI ts.length) (nI (13 - k), M)).bind (kCl ts.length) = some r → pRows w n ls.length k rs p = some y → r.1 = 1 ∧ CTs r.2 (ts ++ [(ls, y.1)]) ∧ ∃ p', C8 r.2 w n p' ∧ sk w n p' = sk w n y.2 := by
  intro k
  induction k with
  | zero => intro rs p M r y h; omega
  | succ k ih =>
    intro rs p M r y _ hk hT hC hrs h hy
    unfold pRows at hy
    obtain ⟨x, ex, hy⟩ := ob hy
    by_cases k0 : k = 0
    · subst k0
      unfold lX6_isClause_114 at h
      rw [itO_eq] at h; dsimp only at h
      rw [if_pos (by decide), obs] at h
      change ((fX6_isRow 8 (nI ts.length) M).bind fun r15 => (bO r15.1).bind fun u16 => some (u16, r15.2)) = some r at h
      obtain ⟨r1, e1, h⟩ := ob h
      obtain ⟨s1, s2, s3, s4⟩ := g_isRow h4 hT hC h1 h3 hrs (by omega) ex e1
      rw [s1, bO_1, obs] at h
      obtain rfl := Option.some.inj h
      rw [if_neg (fun z => z.2 rfl)] at hy
      obtain rfl := Option.some.inj hy
      exact ⟨rfl, s4, x.2, s2, (sk_sk s2.2.2.2.1).symm⟩
    · unfold lX6_isClause_114 at h
      rw [itO_eq] at h; dsimp only at h
      rw [L12, if_neg (mt (nI_leI (by omega) (by omega)).mp (by omega))] at h
      obtain ⟨yy, ey, h⟩ := ob h
      obtain ⟨z, ez, ey⟩ := ob ey
      obtain ⟨r1, e1, ez⟩ := ob ez
      obtain ⟨s1, s2, s3, s4⟩ := g_isRow h4 hT hC h1 h3 hrs (by omega) ex e1
      rw [if_neg (show ¬ r1.1 = 0 by rw [s1]; exact n10), c_peek s2, obs] at ez
      dsimp only at ez
      have hs := sk_le (w := w) s2.2.2.2.1
      by_cases c : hr w n (sk w n x.2) = 47
      · have l1 := hr_lt (w := w) (n := n) (p := sk w n x.2) (by rw [c]; decide)
        rw [if_pos c, pU_n, obs, P6_2, nI_1, nI_1, P6_pU] at ez
        obtain rfl := Option.some.inj ez
        rw [if_pos ⟨c, k0⟩] at hy
        refine ih (rs ++ [x.1]) (sk w n x.2 + 1) (P6 r1.2 (sk w n x.2 + 1)) r y (by omega) (by rw [lenA]; omega) (s2.at (by omega)) (s4.P _) (fun r hr => ?_) ?_ hy
        · rcases List.mem_append.mp hr with z | z
          · exact hrs r z
          · rw [List.mem_singleton.mp z]; exact s3
        · change itO _ (nI (13 - (k + 1) + 1), _) = some yy at ey
          rw [show 13 - (k + 1) + 1 = 13 - k by omega] at ey
          exact (congrArg (fun o => Option.bind o (kCl ts.length)) ey).trans h
      · rw [if_neg c] at ez
        obtain rfl := Option.some.inj ez
        obtain rfl := Option.some.inj ey
        change some ((1 : Int32), P6 r1.2 (sk w n x.2)) = some r at h
        obtain rfl := Option.some.inj h
        rw [if_neg (fun z => c z.1)] at hy
        obtain rfl := Option.some.inj hy
        exact ⟨rfl, s4.P _, sk w n x.2, s2.at hs.2, rfl⟩
theorem g_tail {w : Nat → Int32} {n p : Nat} {ts : List (List Nat × List (List Nat))} {ls : List Nat} {M : gM} {r : Int32 × gM} {y : (List Nat × List (List Nat)) × Nat} (h4 : ts.length < 4) (h3 : ls.length ≤ 3) (hT : C8 M w n p) (hC : CTs M (ts ++ [(ls, [])])) (c1 : ls ≠ []) (c2 : hr w n (sk w n p) = 58) (h : bX6_isClause_66 8 (nI ts.length) M = some r)
    (hy : pTail w n (ls, sk w n p + 1) = some y) : r.1 = 1 ∧ CTs r.2 (ts ++ [y.1]) ∧ ∃ p', C8 r.2 w n p' ∧ sk w n p' = sk w n y.2 := by
  have hs := sk_le (w := w) hT.2.2.2.1
  have e9 : M 9 ts.length = nI ls.length := hC.last.2.1
  unfold bX6_isClause_66 at h
  rw [if_neg (show ¬ nI ts.length < 0 by rw [L0]; exact mt (nI_ltI (by omega) (by omega)).mp (by omega)), rI_n (by omega) (by omega), obs, e9] at h
  have l1 : 1 ≤ ls.length := by
    rcases Nat.eq_zero_or_pos ls.length with z | z
    · exact absurd (List.eq_nil_of_length_eq_zero z) c1
    · exact z
  rw [if_neg (show ¬ nI ls.length = 0 from fun z => by have := nI_inj (b := 0) z (by omega) (by omega); omega), c_peek hT, obs] at h
  dsimp only at h
  have l2 := hr_lt (w := w) (n := n) (p := sk w n p) (by rw [c2]; decide)
  have hT2 := hT.at (q := sk w n p + 1) (by omega)
  have hs2 := sk_le (w := w) hT2.2.2.2.1
  rw [if_pos c2, pU_n, obs, P6_2, nI_1, P6_pU, c_peek hT2, obs] at h
  dsimp only at h
  rw [n_isDigit6, obs, P6_P6] at h
  unfold pTail at hy
  dsimp only at hy
  by_cases c3 : dg (hr w n (sk w n (sk w n p + 1)))
  · rw [if_pos c3, if_neg n10] at h
    rw [if_pos c3] at hy
    obtain ⟨z, ez, hy⟩ := ob hy
    obtain rfl := Option.some.inj hy
    exact g_rowsGo h4 l1 h3 12 [] _ (P6 M (sk w n (sk w n p + 1))) r z (by omega) rfl (hT.at hs2.2) (hC.P _) (fun r hr => by cases hr) h ez
  · rw [if_neg c3, if_pos rfl] at h
    obtain rfl := Option.some.inj h
    rw [if_neg c3] at hy
    obtain rfl := Option.some.inj hy
    exact ⟨rfl, hC.P _, _, hT.at hs2.2, rfl⟩
theorem g_lettersGo {w : Nat → Int32} {n : Nat} {ts : List (List Nat × List (List Nat))} (h4 : ts.length < 4) : ∀ (k : Nat) (ls : List Nat) (p : Nat) (M : gM) (r : Int32 × gM) (y : (List Nat × List (List Nat)) × Nat), ls.length ≤ 3 → ls.length + k = 4 → C8 M w n p → CTs M (ts ++ [(ls, [])]) → (∀ x, x ∈ ls → x ≤ 3) →
    (lX6_isClause_13 8 (nI ls.length, M)).bind (kLe ts.length) = some r → (pHead w n k ls p).bind (pTail w n) = some y → r.1 = 1 ∧ CTs r.2 (ts ++ [y.1]) ∧ ∃ p', C8 r.2 w n p' ∧ sk w n p' = sk w n y.2 := by
  intro k
  induction k with
  | zero => intro ls p M r y h1 h2; omega
  | succ k ih =>
    intro ls p M r y h3 hk hT hC hls h hy
    have hs := sk_le (w := w) hT.2.2.2.1
    have hn := hT.2.1
    have a1 := hC.1
    rw [lenA] at a1
    have hL : LsC M ts.length ls := ⟨hC.last.2.1, a1, hC.last.2.2.1⟩
    unfold lX6_isClause_13 at h
    rw [itO_eq] at h; dsimp only at h
    unfold pHead at hy
    -- behind the letters, as the grammar goes on
    have out : ∀ {N : gM} {p' : Nat}, C8 N w n p' → sk w n p' = sk w n p → CTs N (ts ++ [(ls, [])]) → bX6_isClause_66 8 (nI ts.length) N = some r → ¬ lt_ (hr w n (sk w n p)) → r.1 = 1 ∧ CTs r.2 (ts ++ [y.1]) ∧ ∃ p', C8 r.2 w n p' ∧ sk w n p' = sk w n y.2 := by
      intro N p' hN ep hCN hb c1
      rw [if_neg c1] at hy
      by_cases c2 : ls = []
      · rw [if_pos c2] at hy; cases hy
      · rw [if_neg c2] at hy
        by_cases c3 : hr w n (sk w n p) = 58
        · rw [if_pos c3, obs] at hy
          exact g_tail h4 h3 hN hCN c2 (by rw [ep]; exact c3) hb (by rw [ep]; exact hy)
        · rw [if_neg c3] at hy; cases hy
    by_cases c0 : ls.length = 3
    · rw [L3, if_pos ((nI_leI (by omega) (by omega)).mpr (by omega)), obs] at h
      change bX6_isClause_66 8 (nI ts.length) M = some r at h
      by_cases c1 : lt_ (hr w n (sk w n p))
      · rw [if_pos c1, if_pos (Or.inl c0)] at hy; cases hy
      · exact out hT rfl hC h c1
    · rw [L3, if_neg (mt (nI_leI (by omega) (by omega)).mp (by omega)), c_peek hT, obs] at h
      dsimp only at h
      have hT1 := hT.at (q := sk w n p) hs.2
      have hC1 := hC.P (sk w n p)
      have hL1 : LsC (P6 M (sk w n p)) ts.length ls := ⟨by rw [P6_k (by decide)]; exact hL.1, by rw [P6_k (by decide)]; exact hL.2.1, fun c hc => by rw [P6_k (by decide)]; exact hL.2.2 c hc⟩
      by_cases c1 : lt_ (hr w n (sk w n p))
      · have v1 := lt_v c1
        have l1 := hr_lt (lt_ne c1)
        have ec : hr w n (sk w n p) - 97 = nI (lv (hr w n (sk w n p))) := by
          conv => lhs; rw [v1.2]
          rw [show (97 : Int32) = nI 97 from rfl, nI_sub (by omega)]
          congr 1; omega
        rw [if_pos c1] at hy
        rw [ec, L0, if_neg (mt (nI_ltI (by omega) (by omega)).mp (by omega)), L4, if_neg (mt (nI_leI (by omega) (by omega)).mp (by omega))] at h
        rcases c_addLetter h4 h3 hL1 v1.1 hls with ⟨m1, e⟩ | ⟨m1, N, e, hN⟩
        · rw [if_pos m1] at hy; cases hy
        · have f := xfX5_addLetter _ _ _ e
          have hTN : C8 N w n (sk w n p) := hT1.cong (fun j => f 1 j (by decide) (by decide)) (fun j => f 2 j (by decide) (by decide))
          have hCN := g_letter hC1 h4 (by omega) e
          rw [e, obs] at h
          dsimp only at h
          rw [if_neg (show ¬ (1 : Int32) = nI 0 from n10), pU_n, obs, obs, hTN.2.2.1, nI_1] at h
          rw [if_neg m1] at hy
          refine ih (ls ++ [lv (hr w n (sk w n p))]) (sk w n p + 1) (P6 N (sk w n p + 1)) r y (by rw [lenA]; omega) (by rw [lenA]; omega) (hTN.at (by omega)) (hCN.P _) (fun x hx => ?_) ?_ hy
          · rcases List.mem_append.mp hx with z | z
            · exact hls x z
            · rw [List.mem_singleton.mp z]; exact v1.1
          · rw [lenA]
            rw [nI_1] at h
            exact h
      · have h : bX6_isClause_66 8 (nI ts.length) (P6 M (sk w n p)) = some r := by
          rcases lt_n hT c1 with z | ⟨z1, z2⟩
          · rw [if_pos z, obs] at h; exact h
          · rw [if_neg z1, if_pos z2, obs] at h; exact h
        exact out hT1 (sk_sk hT.2.2.2.1) hC1 h c1
theorem g_isClause {M : gM} {w : Nat → Int32} {n p : Nat} {ts : List (List Nat × List (List Nat))} {y : (List Nat × List (List Nat)) × Nat} (h4 : ts.length < 4) (hT : C8 M w n p) (hC : CTs M ts) {r : Int32 × gM} (h : fX6_isClause 8 M = some r) (hy : pTable w n p = some y) : r.1 = 1 ∧ CTs r.2 (ts ++ [y.1]) ∧ ∃ p', C8 r.2 w n p' ∧ sk w n p' = sk w n y.2 := by
  unfold fX6_isClause at h
  obtain ⟨r1, e1, h⟩ := ob h
  have f := xfX5_open _ _ e1
  have hC1 := g_open hC h4 e1
  have hT1 : C8 r1 w n p := hT.cong (fun j => f 1 j (by decide) (by decide) (Or.inl (by decide)) (Or.inl (by decide))) (fun j => f 2 j (by decide) (by decide) (Or.inl (by decide)) (Or.inl (by decide)))
  have e8 := hC1.1
  rw [lenA] at e8
  rw [e8, nI_s1 (by omega), Nat.add_sub_cancel] at h
  exact g_lettersGo h4 4 [] p r1 r y (by decide) rfl hT1 hC1 (fun x hx => by cases hx) h hy
theorem g_tabsGo {w : Nat → Int32} {n : Nat} : ∀ (k : Nat) (ts : List (List Nat × List (List Nat))) (p : Nat) (M : gM) (r : Int32 × gM) (x : List (List Nat × List (List Nat))), k ≤ 3 → ts.length + k = 4 → C8 M w n p → CTs M ts →
    (lX6_readTables_17 8 (1, nI ts.length, M)).bind kTs = some r → pNext w n k ts (sk w n p) = some x → CTs r.2 x := by
  intro k
  induction k with
  | zero =>
    intro ts p M r x hk hl hT hC h hx
    unfold lX6_readTables_17 at h
    rw [itO_eq] at h; dsimp only at h
    rw [if_neg n10, L4, if_pos ((nI_leI (by omega) (by omega)).mpr (by omega)), obs] at h
    change bX6_readTables_57 1 M = some r at h
    unfold bX6_readTables_57 at h
    rw [if_neg n10, c_peek hT, obs] at h
    dsimp only at h
    unfold pNext at hx
    rw [if_neg (fun z => z.2 rfl)] at hx
    by_cases c : hr w n (sk w n p) = -1
    · rw [if_pos c] at h hx
      obtain rfl := Option.some.inj h
      obtain rfl := Option.some.inj hx
      exact hC.P _
    · rw [if_neg c] at hx; cases hx
  | succ k ih =>
    intro ts p M r x hk hl hT hC h hx
    have hs := sk_le (w := w) hT.2.2.2.1
    have hn := hT.2.1
    have hT1 := hT.at (q := sk w n p) hs.2
    unfold lX6_readTables_17 at h
    rw [itO_eq] at h; dsimp only at h
    rw [if_neg n10, L4, if_neg (mt (nI_leI (by omega) (by omega)).mp (by omega)), c_peek hT, obs] at h
    dsimp only at h
    unfold pNext at hx
    by_cases c1 : hr w n (sk w n p) = 59
    · have l1 := hr_lt (w := w) (n := n) (p := sk w n p) (by rw [c1]; decide)
      rw [if_pos c1, pU_n, obs, P6_2, nI_1, P6_pU] at h
      rw [if_pos ⟨c1, by omega⟩] at hx
      unfold pTabs at hx
      obtain ⟨t, et, hx⟩ := ob hx
      obtain ⟨y, ey, h⟩ := ob h
      obtain ⟨z, ez, ey⟩ := ob ey
      obtain ⟨r6, e6, ez⟩ := ob ez
      obtain rfl := Option.some.inj ez
      change lX6_readTables_17 8 (r6.1, nI ts.length + 1, r6.2) = some y at ey
      rw [nI_1] at ey
      have h : (lX6_readTables_17 8 (r6.1, nI (ts.length + 1), r6.2)).bind kTs = some r := (congrArg (fun o => Option.bind o kTs) ey).trans h
      obtain ⟨s1, s2, p', s3, s4⟩ := g_isClause (by omega) (hT.at (q := sk w n p + 1) (by omega)) (hC.P _) e6 et
      rw [s1] at h
      refine ih (ts ++ [t.1]) p' r6.2 r x (by omega) (by rw [lenA]; omega) s3 s2 (by rw [lenA]; exact h) ?_
      rw [s4]; exact hx
    · rw [if_neg c1, obs] at h
      change bX6_readTables_57 1 (P6 M (sk w n p)) = some r at h
      unfold bX6_readTables_57 at h
      rw [if_neg n10, c_peek hT1, obs, sk_sk hT.2.2.2.1] at h
      dsimp only at h
      rw [if_neg (fun z => c1 z.1)] at hx
      by_cases c : hr w n (sk w n p) = -1
      · rw [if_pos c] at h hx
        obtain rfl := Option.some.inj h
        obtain rfl := Option.some.inj hx
        exact (hC.P _).P _
      · rw [if_neg c] at hx; cases hx
theorem g_readTables {M : gM} {w : Nat → Int32} {n : Nat} {x : List (List Nat × List (List Nat))} (hB : B8 M w n) {r : Int32 × gM} (h : fX6_readTables 8 M = some r) (hx : pTabs w n 4 [] 0 = some x) : CTs r.2 x := by
  unfold fX6_readTables at h
  rw [pU_n, obs] at h
  change (fX5_clear 8 (P6 M 0)).bind _ = some r at h
  obtain ⟨r2, e2, h⟩ := ob h
  have f := xfX5_clear _ _ e2
  have e8 : CTs r2 [] := by
    unfold fX5_clear at e2
    rw [pU_n, obs, pU_n, obs, pU_n, obs] at e2
    obtain ⟨r4, e4, e2⟩ := ob e2
    obtain ⟨r5, e5, e2⟩ := ob e2
    obtain rfl := Option.some.inj e2
    refine ⟨?_, ?_, ?_, fun i hi => absurd hi (Nat.not_lt_zero _)⟩
    · rw [zfJ7_fill_53178 _ _ _ _ e5 8 (by decide), zfJ7_fill_53178 _ _ _ _ e4 8 (by decide), g_up_ne (Or.inr (by decide)), g_up_ne (Or.inr (by decide)), g_up_self]; rfl
    · rw [zfJ7_fill_53178 _ _ _ _ e5 8 (by decide), zfJ7_fill_53178 _ _ _ _ e4 8 (by decide), g_up_ne (Or.inr (by decide)), g_up_self]; rfl
    · rw [zfJ7_fill_53178 _ _ _ _ e5 8 (by decide), zfJ7_fill_53178 _ _ _ _ e4 8 (by decide), g_up_self]
  have hT := hB.c.cong (fun j => f 1 j (Or.inl (by decide)) (Or.inl (by decide)) (Or.inl (by decide)) (by decide) (by decide)) (fun j => f 2 j (Or.inl (by decide)) (Or.inl (by decide)) (Or.inl (by decide)) (by decide) (by decide))
  obtain ⟨r3, e3, h⟩ := ob h
  have h : (lX6_readTables_17 8 (r3.1, nI 1, r3.2)).bind kTs = some r := h
  unfold pTabs at hx
  obtain ⟨t, et, hx⟩ := ob hx
  obtain ⟨s1, s2, p', s3, s4⟩ := g_isClause (ts := []) (by decide) hT e8 e3 et
  rw [s1] at h
  refine g_tabsGo 3 [t.1] p' r3.2 r x (by omega) rfl s3 s2 h ?_
  rw [s4]; exact hx
