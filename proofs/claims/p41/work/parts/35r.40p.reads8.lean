section P_35r_40p_reads8
/-! the class reads tables: just these -/
theorem shl0 (x : Int32) : x <<< (0 : Int32) = x := by
  apply Int32.toBitVec_inj.1
  show x.toBitVec <<< (0 : Int32).toBitVec.smod 32 = x.toBitVec
  rw [show (0 : Int32).toBitVec.smod 32 = 0#32 by decide]
  simp
theorem sh_0 : (((14 : Int32) - ((7 : Int32) * nI 0)) &&& 31) = 14 := by decide +kernel
theorem sh_1 : (((14 : Int32) - ((7 : Int32) * nI 1)) &&& 31) = 7 := by decide +kernel
theorem sh_2 : (((14 : Int32) - ((7 : Int32) * nI 2)) &&& 31) = 0 := by decide +kernel
theorem rv_1 {a : Nat} (ha : a < 128) : (0 : Int32) ||| (nI a <<< 14) = nI (pk3 a 0 0) := by
  rw [pk_shlN 14 14 (by decide) (by omega), show (0 : Int32) = nI 0 from rfl, fa_or, Nat.zero_or]
  congr 1
  unfold pk3
  omega
theorem rv_2 {a b : Nat} (ha : a < 128) (hb : b < 128) : nI (pk3 a 0 0) ||| (nI b <<< 7) = nI (pk3 a b 0) := by
  rw [pk_shlN 7 7 (by decide) (by omega), show pk3 a 0 0 = 2 ^ 14 * a by unfold pk3; omega, fa_or_sum (k := 14) a (by omega)]
  congr 1
  unfold pk3
  omega
theorem rv_3 {a b c : Nat} (ha : a < 128) (hb : b < 128) (hc : c < 128) : nI (pk3 a b 0) ||| (nI c <<< 0) = nI (pk3 a b c) := by
  rw [shl0, show pk3 a b 0 = 2 ^ 7 * (2 ^ 7 * a + b) by unfold pk3; omega, fa_or_sum (k := 7) _ (by omega)]
  congr 1
  unfold pk3
  omega
theorem g_col {M : gM} {w : Nat → Int32} {n p t k : Nat} {ρ : Int32} {a : Nat × Nat} (hT : C8 M w n p) (h : pNum w n 99 p = some a) : (bX6_isRow_42 ρ (nI k) M).bind (kRw t) = lX6_isRow_5 8 (nI t) (ρ ||| (nI a.1 <<< (((14 : Int32) - ((7 : Int32) * nI k)) &&& 31)), nI (k + 1), P6 M a.2) ∧ a.1 ≤ 99 ∧ a.2 ≤ n := by
  have l := pNum_le (v := a.1) (q := a.2) h
  unfold bX6_isRow_42
  rcases c_number hT with ⟨x, e1, e2⟩ | ⟨e1, e2⟩
  · rcases cNum_p (w := w) (n := n) (p := p) (hi := 99) with ⟨y, f1, f2, _⟩ | ⟨f1, _⟩
    · rw [h] at f1
      obtain rfl := Option.some.inj f1
      rw [e1] at f2
      obtain rfl := Option.some.inj f2
      refine ⟨?_, l.1, l.2.2⟩
      rw [e2, obs, if_neg (nI_m1 (by omega)), obs, nI_1]; rfl
    · rw [h] at f1; cases f1
  · rcases cNum_p (w := w) (n := n) (p := p) (hi := 99) with ⟨y, f1, f2, _⟩ | ⟨f1, _⟩
    · rw [e1] at f2; cases f2
    · rw [h] at f1; cases f1
theorem g_must {M : gM} {w : Nat → Int32} {n p t wd k q : Nat} {ρ : Int32} (hT : C8 M w n p) (ht : t < 4) (e : M 9 t = nI wd) (hw : wd ≤ 3) (h1 : 1 ≤ k) (h : k < wd) (hm : pMust w n 44 p = some q) : lX6_isRow_5 8 (nI t) (ρ, nI k, M) = (bX6_isRow_42 ρ (nI k) (P6 M q)).bind (kRw t) ∧ q ≤ n := by
  rcases cr_k (ρ := ρ) hT ht e hw h1 h with ⟨q', e1, l, e2⟩ | ⟨e1, _⟩
  · rw [hm] at e1
    obtain rfl := Option.some.inj e1
    exact ⟨e2, l⟩
  · rw [hm] at e1; cases e1
theorem g_row5 {M : gM} {w : Nat → Int32} {n p t wd : Nat} {x : List Nat × Nat} (hT : C8 M w n p) (ht : t < 4) (e : M 9 t = nI wd) (h1 : 1 ≤ wd) (hw : wd ≤ 3) (h : pRow w n wd p = some x) : lX6_isRow_5 8 (nI t) (0, nI 0, M) = some (.inr (.inr (nI (rK x.1), P6 M x.2))) ∧ okRow wd x.1 ∧ x.2 ≤ n := by
  have eP : ∀ q, P6 M q 9 t = nI wd := fun q => by rw [P6_k (by decide)]; exact e
  unfold pRow at h
  obtain ⟨a, ea, h⟩ := ob h
  obtain ⟨g1, l1, q1⟩ := g_col (ρ := 0) (k := 0) (t := t) hT ea
  rw [cr_0 ht e hw h1, g1, sh_0, rv_1 (by omega)]
  by_cases c1 : wd ≤ 1
  · rw [if_pos c1] at h
    obtain rfl := Option.some.inj h
    have : wd = 1 := by omega
    subst this
    rw [cr_end ht (eP _) hw (by omega) (Nat.le_refl _)]
    exact ⟨rfl, ⟨rfl, fun c hc => by obtain rfl : c = 0 := by omega
                                     exact l1⟩, q1⟩
  rw [if_neg c1] at h
  obtain ⟨p2, em, h⟩ := ob h
  obtain ⟨g2, q2⟩ := g_must (ρ := nI (pk3 a.1 0 0)) (k := 1) (hT.at q1) ht (eP _) hw (by omega) (by omega) em
  obtain ⟨b, eb, h⟩ := ob h
  obtain ⟨g3, l3, q3⟩ := g_col (ρ := nI (pk3 a.1 0 0)) (k := 1) (t := t) ((hT.at q1).at q2) eb
  rw [g2, g3, sh_1, rv_2 (by omega) (by omega), P6_P6, P6_P6]
  by_cases c2 : wd ≤ 2
  · rw [if_pos c2] at h
    obtain rfl := Option.some.inj h
    have : wd = 2 := by omega
    subst this
    rw [cr_end ht (eP _) hw (by omega) (Nat.le_refl _)]
    exact ⟨rfl, ⟨rfl, fun c hc => by
      rcases (by omega : c = 0 ∨ c = 1) with rfl | rfl
      · exact l1
      · exact l3⟩, q3⟩
  rw [if_neg c2] at h
  obtain ⟨p3, em3, h⟩ := ob h
  obtain ⟨g4, q4⟩ := g_must (ρ := nI (pk3 a.1 b.1 0)) (k := 2) (hT.at q3) ht (eP _) hw (by omega) (by omega) em3
  obtain ⟨d, ed, h⟩ := ob h
  obtain ⟨g5, l5, q5⟩ := g_col (ρ := nI (pk3 a.1 b.1 0)) (k := 2) (t := t) ((hT.at q3).at q4) ed
  rw [g4, g5, sh_2, rv_3 (by omega) (by omega) (by omega), P6_P6, P6_P6, cr_end ht (eP _) hw (by omega) (by omega)]
  obtain rfl := Option.some.inj h
  have : wd = 3 := by omega
  subst this
  exact ⟨rfl, ⟨rfl, fun c hc => by
    rcases (by omega : c = 0 ∨ c = 1 ∨ c = 2) with rfl | rfl | rfl
    · exact l1
    · exact l3
    · exact l5⟩, q5⟩
/-- a table told, in the class's cells from 8 on -/
def CTe (M : gM) (i : Nat) (tb : List Nat × List (List Nat)) : Prop := (tb.1.length ≤ 3 ∧ (ksOf tb.2).length ≤ 12) ∧ M 9 i = nI tb.1.length ∧ (∀ c, c < tb.1.length → M 11 (3 * i + c) = nI (tb.1.getD c 0)) ∧ CTt M 8 i (ksOf tb.2)
def CTs (M : gM) (ts : List (List Nat × List (List Nat))) : Prop := M 8 0 = nI ts.length ∧ M 8 1 = nI (2 ^ ts.length - 1) ∧ M 8 2 = 0 ∧ ∀ i, i < ts.length → CTe M i (ts.getD i ([], []))
theorem CTe.cong {M r : gM} {i : Nat} {tb : List Nat × List (List Nat)} (h : CTe M i tb) (h9 : r 9 i = M 9 i) (h11 : ∀ c, c < 3 → r 11 (3 * i + c) = M 11 (3 * i + c)) (h10 : r 10 i = M 10 i) (h12 : ∀ j, j < 12 → r 12 (12 * i + j) = M 12 (12 * i + j)) : CTe r i tb := by
  obtain ⟨⟨a1, a2⟩, b, c, d⟩ := h
  exact ⟨⟨a1, a2⟩, h9.trans b, fun k hk => (h11 k (by omega)).trans (c k hk), d.cong h10 (fun j hj => h12 j (by omega))⟩
theorem CTs.P {M : gM} {ts : List (List Nat × List (List Nat))} (h : CTs M ts) (q : Nat) : CTs (P6 M q) ts := by
  have e : ∀ k, k ≠ 1 → P6 M q k = M k := fun k hk => P6_k hk
  exact ⟨by rw [e 8 (by decide)]; exact h.1, by rw [e 8 (by decide)]; exact h.2.1, by rw [e 8 (by decide)]; exact h.2.2.1, fun i hi => (h.2.2.2 i hi).cong (by rw [e 9 (by decide)]) (fun _ _ => by rw [e 11 (by decide)]) (by rw [e 10 (by decide)]) (fun _ _ => by rw [e 12 (by decide)])⟩
theorem gdA {ts : List (List Nat × List (List Nat))} {x : List Nat × List (List Nat)} {i : Nat} (hi : i < (ts ++ [x]).length) : (i < ts.length ∧ (ts ++ [x]).getD i ([], []) = ts.getD i ([], [])) ∨ (i = ts.length ∧ (ts ++ [x]).getD i ([], []) = x) := by
  rw [List.length_append] at hi
  have hi : i < ts.length + 1 := hi
  by_cases d : i < ts.length
  · exact Or.inl ⟨d, gd_lt d⟩
  · have : i = ts.length := by omega
    subst this
    exact Or.inr ⟨rfl, gd_eq⟩
theorem lenA {α : Type} {ts : List α} {x : α} : (ts ++ [x]).length = ts.length + 1 := by rw [List.length_append]; rfl
theorem CTs.last {M : gM} {ts : List (List Nat × List (List Nat))} {x : List Nat × List (List Nat)} (h : CTs M (ts ++ [x])) : CTe M ts.length x := by
  have q := h.2.2.2 ts.length (by rw [lenA]; omega)
  rw [gd_eq] at q; exact q
/-- the last table is another one then -/
theorem CTs.alt {M r : gM} {ts : List (List Nat × List (List Nat))} {x x' : List Nat × List (List Nat)} (h : CTs M (ts ++ [x])) (h8 : ∀ j, j < 3 → r 8 j = M 8 j) (h9 : ∀ a, a < ts.length → r 9 a = M 9 a) (h11 : ∀ a, a < 3 * ts.length → r 11 a = M 11 a) (h10 : ∀ a, a < ts.length → r 10 a = M 10 a) (h12 : ∀ a, a < 12 * ts.length → r 12 a = M 12 a) (hx : CTe r ts.length x') : CTs r (ts ++ [x']) := by
  obtain ⟨a1, a2, a3, a4⟩ := h
  rw [lenA] at a1 a2 a4
  refine ⟨by rw [lenA, h8 0 (by omega)]; exact a1, by rw [lenA, h8 1 (by omega)]; exact a2, by rw [h8 2 (by omega)]; exact a3, fun i hi => ?_⟩
  rcases gdA hi with ⟨d, e⟩ | ⟨d, e⟩
  · rw [e]
    have q := a4 i (by omega)
    rw [gd_lt d] at q
    exact q.cong (h9 i d) (fun c hc => h11 _ (by omega)) (h10 i d) (fun j hj => h12 _ (by omega))
  · rw [e, d]; exact hx
theorem CTs.ct {M : gM} {ts : List (List Nat × List (List Nat))} (h : CTs M ts) : CT M 8 (tOf ts) := by
  refine ⟨by rw [tOf_n]; exact h.1, h.2.1, h.2.2.1, fun t ht => ?_⟩
  rw [tOf_n] at ht
  rw [tOf_L, tOf_K]
  exact (h.2.2.2 t ht).2
theorem or_used : ∀ n, n < 4 → nI (2 ^ n - 1) ||| ((1 : Int32) <<< (nI n &&& 31)) = nI (2 ^ (n + 1) - 1) := by decide +kernel
theorem g_open {M r : gM} {ts : List (List Nat × List (List Nat))} (h : CTs M ts) (h4 : ts.length < 4) (e : fX5_open 8 M = some r) : CTs r (ts ++ [([], [])]) := by
  obtain ⟨a1, a2, a3, a4⟩ := h
  unfold fX5_open at e
  rw [a1, L4, if_neg (mt (nI_leI (by omega) (by omega)).mp (by omega)), L0, wI_n (by omega) (by omega), obs, g_up_row (show 8 ≠ 8 + 1 by decide), a1, wI_n (by omega) (by omega), obs, pU_n, obs, pU_n, obs] at e
  obtain rfl := Option.some.inj e
  have k8 : ∀ {N : gM} {v u : Int32} {j : Nat}, g_up (g_up N 9 ts.length v) 10 ts.length u 8 j = N 8 j := by
    intro N v u j
    rw [g_up_row (by decide), g_up_row (by decide)]
  refine ⟨?_, ?_, ?_, fun i hi => ?_⟩
  · rw [g_up_self, g_up_ne (Or.inr (by decide)), k8, a1, nI_1, lenA]
  · rw [g_up_ne (Or.inr (by decide)), g_up_self, k8, k8, a2, a1, or_used _ h4, lenA]
  · rw [g_up_ne (Or.inr (by decide)), g_up_ne (Or.inr (by decide)), k8]; exact a3
  · rcases gdA hi with ⟨d, e⟩ | ⟨d, e⟩
    · rw [e]
      refine (a4 i d).cong ?_ (fun c hc => ?_) ?_ (fun c hc => ?_)
      · rw [g_up_row (by decide), g_up_row (by decide), g_up_row (by decide), g_up_ne (Or.inr (by omega))]
      · rw [g_up_row (by decide), g_up_row (by decide), g_up_row (by decide), g_up_row (by decide)]
      · rw [g_up_row (by decide), g_up_row (by decide), g_up_ne (Or.inr (by omega)), g_up_row (by decide)]
      · rw [g_up_row (by decide), g_up_row (by decide), g_up_row (by decide), g_up_row (by decide)]
    · rw [e, d]
      refine ⟨⟨by decide, by decide⟩, ?_, fun c hc => absurd hc (Nat.not_lt_zero _), ?_, fun j hj => absurd hj (Nat.not_lt_zero _)⟩
      · rw [g_up_row (by decide), g_up_row (by decide), g_up_row (by decide), g_up_self]; rfl
      · show g_up _ 8 0 _ 10 ts.length = _
        rw [g_up_row (by decide), g_up_row (by decide), g_up_self]; rfl
theorem g_letter {M N : gM} {l : Nat} {ts : List (List Nat × List (List Nat))} {ls : List Nat} (h : CTs M (ts ++ [(ls, [])])) (h4 : ts.length < 4) (hn : ls.length < 3) (e : fX5_addLetter 8 (nI l) M = some (1, N)) : CTs N (ts ++ [(ls ++ [l], [])]) := by
  obtain ⟨⟨b1, b2⟩, b9, b11, b12⟩ := h.last
  have b9 : M 9 ts.length = nI ls.length := b9
  have a1 := h.1
  rw [lenA] at a1
  have em : M 8 0 - 1 = nI ts.length := by rw [a1, nI_s1 (by omega), Nat.add_sub_cancel]
  unfold fX5_addLetter fX5_isTable at e
  rw [em, if_neg (show ¬ nI ts.length < 0 by rw [L0]; exact mt (nI_ltI (by omega) (by omega)).mp (by omega)), a1, if_neg (mt (nI_leI (by omega) (by omega)).mp (by omega)), obs, if_neg n10, rI_n (by omega) (by omega), obs, b9, L3, if_neg (mt (nI_leI (by omega) (by omega)).mp (by omega))] at e
  obtain ⟨c, ec, e⟩ := ob e
  rcases oi e with ⟨_, e⟩ | ⟨_, e⟩
  · rw [obs, nI_mul, nI_add, wI_n (by omega) (by omega), obs, g_up_row (show 8 + 1 ≠ 8 + 3 by decide), rI_n (by omega) (by omega), obs, b9, nI_1, wI_n (by omega) (by omega), obs] at e
    have hN := (congrArg Prod.snd (Option.some.inj e)).symm
    have hN : N = g_up (g_up M 11 (ts.length * 3 + ls.length) (nI l)) 9 ts.length (nI (ls.length + 1)) := hN
    subst hN
    refine h.alt (fun j _ => by rw [g_up_row (by decide), g_up_row (by decide)]) (fun a ha => by rw [g_up_ne (Or.inr (by omega)), g_up_row (by decide)]) (fun a ha => by rw [g_up_row (by decide), g_up_ne (Or.inr (by omega))]) (fun a ha => by rw [g_up_row (by decide), g_up_row (by decide)]) (fun a ha => by rw [g_up_row (by decide), g_up_row (by decide)]) ⟨⟨?_, show (ksOf []).length ≤ 12 by decide⟩, ?_, fun c hc => ?_, ?_, fun j hj => absurd hj (Nat.not_lt_zero _)⟩
    · show (ls ++ [l]).length ≤ 3
      rw [lenA]; omega
    · show _ = nI (ls ++ [l]).length
      rw [g_up_self, lenA]
    · have hc : c < (ls ++ [l]).length := hc
      rw [lenA] at hc
      show _ = nI ((ls ++ [l]).getD c 0)
      rw [g_up_row (by decide), gu_in]
      by_cases d : c = ls.length
      · rw [if_pos (by omega), d, gd_eq]
      · rw [if_neg (by omega), gd_lt (by omega)]; exact b11 c (by show c < ls.length; omega)
    · show g_up _ 9 _ _ 10 ts.length = _
      rw [g_up_row (by decide), g_up_row (by decide)]; exact b12.1
  · cases e
theorem g_insert {M : gM} {n t q : Nat} {ks : List Nat} (hn : n ≤ 4) (e : M 8 0 = nI n) (ht : t < n) (hl : ks.length ≤ 11) (h : CTt M 8 t ks) (hq : q < 2097152) (hk : ∀ i, i < ks.length → ks.getD i 0 < 2097152) (hs : srt ks) : ∃ r, fX5_insert 8 (nI t) (nI q) M = some r ∧ CTt r 8 t (insK q ks) ∧ (∀ x, x ≠ 10 → x ≠ 12 → r x = M x) ∧ (∀ a, a < t → r 10 a = M 10 a) ∧ ∀ a, a < 12 * t → r 12 a = M 12 a := by
  rcases insK_or (k := q) hs with ⟨⟨i, hi, ei⟩, eK⟩ | ⟨hno, i, hp, hne, eK⟩
  · have h1 : fX5_isTable 8 (nI t) M = some 1 := by
      rcases c_isTable hn e (nI t) with ⟨_, _, _, z⟩ | ⟨z, _⟩
      · exact z
      · exact absurd rfl (z t ht)
    rcases c_placeOf (by omega) (by omega) h hq hk with ⟨i', a, b, c⟩ | ⟨a, _⟩
    · refine ⟨M, ?_, by rw [eK]; exact h, fun _ _ _ => rfl, fun _ _ => rfl, fun _ _ => rfl⟩
      unfold fX5_insert
      rw [h1, obs, if_neg n10, rI_n (by omega) (by omega), obs, h.1, L12, if_neg (mt (nI_leI (by omega) (by omega)).mp (by omega)), c, obs, if_neg (nI_m1 (by omega))]
    · exact absurd ei (a i hi)
  · obtain ⟨i', r, er, hp', r1, r2, r3⟩ := c_insert hn e ht hl h hq hk hs (fun j hj z => hno ⟨j, hj, z⟩)
    have := hp'.eq hp
    subst this
    have hi := hp.1
    refine ⟨r, er, ?_, r1, fun a ha => ?_, fun a ha => ?_⟩
    · rw [eK]
      refine ⟨?_, fun j hj => ?_⟩
      · show r (8 + 2) t = _
        rw [r2, if_pos rfl, insA_len]
      · rw [insA_len] at hj
        show r (8 + 4) (12 * t + j) = _
        rw [r3, insA_get j hp.1]
        unfold iw
        by_cases c1 : j = i'
        · rw [if_pos (by omega), if_neg (by omega), if_pos c1]
        · rw [if_neg (by omega)]
          by_cases c2 : j < i'
          · rw [if_neg (by omega), if_pos c2]; exact h.2 j (by omega)
          · rw [if_pos (by omega), if_neg c2, if_neg c1, show 12 * t + j - 1 = 12 * t + (j - 1) by omega]; exact h.2 (j - 1) (by omega)
    · show r (8 + 2) a = _
      rw [r2, if_neg (by omega)]
    · show r (8 + 4) a = _
      rw [r3]
      unfold iw
      rw [if_neg (by omega), if_neg (by omega)]
theorem g_isRow {M : gM} {w : Nat → Int32} {n p : Nat} {ts : List (List Nat × List (List Nat))} {ls : List Nat} {rs : List (List Nat)} {x : List Nat × Nat} (h4 : ts.length < 4) (hT : C8 M w n p) (hC : CTs M (ts ++ [(ls, rs)])) (h1 : 1 ≤ ls.length) (h3 : ls.length ≤ 3) (hrs : ∀ r, r ∈ rs → okRow ls.length r) (hl : rs.length ≤ 11) (hx : pRow w n ls.length p = some x) {r : Int32 × gM} (h : fX6_isRow 8 (nI ts.length) M = some r) :
    r.1 = 1 ∧ C8 r.2 w n x.2 ∧ okRow ls.length x.1 ∧ CTs r.2 (ts ++ [(ls, rs ++ [x.1])]) := by
  obtain ⟨b0, b9, b11, b12⟩ := hC.last
  obtain ⟨g1, g2, g3⟩ := g_row5 hT h4 b9 h1 h3 hx
  have hP := hC.P x.2
  obtain ⟨d0, d9, d11, d12⟩ := hP.last
  have d8 := hP.1
  rw [lenA] at d8
  obtain ⟨k1, k2, k3⟩ := ksOf_ok h1 rs hrs
  obtain ⟨r6, e6, i2, i1, i3, i4⟩ := g_insert (q := rK x.1) (by omega) d8 (show ts.length < ts.length + 1 by omega) (show (ksOf rs).length ≤ 11 by omega) d12 (kOK_rK g2 h1).lt (fun i hi => (k3 i hi).lt) k1
  unfold fX6_isRow at h
  rw [show ((0 : Int32), (0 : Int32), M) = (0, nI 0, M) from rfl, g1, obs] at h
  change (fX5_insert 8 (nI ts.length) (nI (rK x.1)) (P6 M x.2)).bind (fun r6 => some ((1 : Int32), r6)) = some r at h
  rw [e6, obs] at h
  obtain rfl := Option.some.inj h
  suffices hh : C8 r6 w n x.2 ∧ CTs r6 (ts ++ [(ls, rs ++ [x.1])]) from ⟨rfl, hh.1, g2, hh.2⟩
  refine ⟨(hT.at g3).cong (fun j => by rw [i1 1 (by decide) (by decide)]) (fun j => by rw [i1 2 (by decide) (by decide)]), ?_⟩
  have kk := insK_ok k1 (kOK_rK g2 h1) k3
  refine hP.alt (fun j _ => by rw [i1 8 (by decide) (by decide)]) (fun a _ => by rw [i1 9 (by decide) (by decide)]) (fun a _ => by rw [i1 11 (by decide) (by decide)]) i3 i4 ⟨⟨h3, ?_⟩, ?_, fun c hc => ?_, ?_⟩
  · show (ksOf (rs ++ [x.1])).length ≤ 12
    rw [ksOf_app]
    have := kk.2.1
    omega
  · rw [i1 9 (by decide) (by decide)]; exact d9
  · rw [i1 11 (by decide) (by decide)]; exact d11 c hc
  · show CTt r6 8 ts.length (ksOf (rs ++ [x.1]))
    rw [ksOf_app]; exact i2
theorem g_rowsGo {w : Nat → Int32} {n : Nat} {ts : List (List Nat × List (List Nat))} {ls : List Nat} (h4 : ts.length < 4) (h1 : 1 ≤ ls.length) (h3 : ls.length ≤ 3) : ∀ (k : Nat) (rs : List (List Nat)) (p : Nat) (M : gM) (r : Int32 × gM) (y : List (List Nat) × Nat), 1 ≤ k → rs.length + k = 12 → C8 M w n p → CTs M (ts ++ [(ls, rs)]) → (∀ r, r ∈ rs → okRow ls.length r) →
    (lX6_isClause_114 8 (nI ts.length) (nI (13 - k), M)).bind (kCl ts.length) = some r → pRows w n ls.length k rs p = some y → r.1 = 1 ∧ CTs r.2 (ts ++ [(ls, y.1)]) ∧ ∃ p', C8 r.2 w n p' ∧ sk w n p' = sk w n y.2 := by
  intro k
  induction k with
  | zero => intro rs p M r y h; omega
  | succ k ih =>
    intro rs p M r y _ hk hT hC hrs h hy
    unfold pRows at hy
    obtain ⟨x, ex, hy⟩ := ob hy
    by_cases k0 : k = 0
    · subst k0
      unfold lX6_isClause_114 at h
      rw [itO_eq] at h; dsimp only at h
      rw [if_pos (by decide), obs] at h
      change ((fX6_isRow 8 (nI ts.length) M).bind fun r15 => (bO r15.1).bind fun u16 => some (u16, r15.2)) = some r at h
      obtain ⟨r1, e1, h⟩ := ob h
      obtain ⟨s1, s2, s3, s4⟩ := g_isRow h4 hT hC h1 h3 hrs (by omega) ex e1
      rw [s1, bO_1, obs] at h
      obtain rfl := Option.some.inj h
      rw [if_neg (fun z => z.2 rfl)] at hy
      obtain rfl := Option.some.inj hy
      exact ⟨rfl, s4, x.2, s2, (sk_sk s2.2.2.2.1).symm⟩
    · unfold lX6_isClause_114 at h
      rw [itO_eq] at h; dsimp only at h
      rw [L12, if_neg (mt (nI_leI (by omega) (by omega)).mp (by omega))] at h
      obtain ⟨yy, ey, h⟩ := ob h
      obtain ⟨z, ez, ey⟩ := ob ey
      obtain ⟨r1, e1, ez⟩ := ob ez
      obtain ⟨s1, s2, s3, s4⟩ := g_isRow h4 hT hC h1 h3 hrs (by omega) ex e1
      rw [if_neg (show ¬ r1.1 = 0 by rw [s1]; exact n10), c_peek s2, obs] at ez
      dsimp only at ez
      have hs := sk_le (w := w) s2.2.2.2.1
      by_cases c : hr w n (sk w n x.2) = 47
      · have l1 := hr_lt (w := w) (n := n) (p := sk w n x.2) (by rw [c]; decide)
        rw [if_pos c, pU_n, obs, P6_2, nI_1, nI_1, P6_pU] at ez
        obtain rfl := Option.some.inj ez
        rw [if_pos ⟨c, k0⟩] at hy
        refine ih (rs ++ [x.1]) (sk w n x.2 + 1) (P6 r1.2 (sk w n x.2 + 1)) r y (by omega) (by rw [lenA]; omega) (s2.at (by omega)) (s4.P _) (fun r hr => ?_) ?_ hy
        · rcases List.mem_append.mp hr with z | z
          · exact hrs r z
          · rw [List.mem_singleton.mp z]; exact s3
        · change itO _ (nI (13 - (k + 1) + 1), _) = some yy at ey
          rw [show 13 - (k + 1) + 1 = 13 - k by omega] at ey
          exact (congrArg (fun o => Option.bind o (kCl ts.length)) ey).trans h
      · rw [if_neg c] at ez
        obtain rfl := Option.some.inj ez
        obtain rfl := Option.some.inj ey
        change some ((1 : Int32), P6 r1.2 (sk w n x.2)) = some r at h
        obtain rfl := Option.some.inj h
        rw [if_neg (fun z => c z.1)] at hy
        obtain rfl := Option.some.inj hy
        exact ⟨rfl, s4.P _, sk w n x.2, s2.at hs.2, rfl⟩
theorem g_tail {w : Nat → Int32} {n p : Nat} {ts : List (List Nat × List (List Nat))} {ls : List Nat} {M : gM} {r : Int32 × gM} {y : (List Nat × List (List Nat)) × Nat} (h4 : ts.length < 4) (h3 : ls.length ≤ 3) (hT : C8 M w n p) (hC : CTs M (ts ++ [(ls, [])])) (c1 : ls ≠ []) (c2 : hr w n (sk w n p) = 58) (h : bX6_isClause_66 8 (nI ts.length) M = some r)
    (hy : pTail w n (ls, sk w n p + 1) = some y) : r.1 = 1 ∧ CTs r.2 (ts ++ [y.1]) ∧ ∃ p', C8 r.2 w n p' ∧ sk w n p' = sk w n y.2 := by
  have hs := sk_le (w := w) hT.2.2.2.1
  have e9 : M 9 ts.length = nI ls.length := hC.last.2.1
  unfold bX6_isClause_66 at h
  rw [if_neg (show ¬ nI ts.length < 0 by rw [L0]; exact mt (nI_ltI (by omega) (by omega)).mp (by omega)), rI_n (by omega) (by omega), obs, e9] at h
  have l1 : 1 ≤ ls.length := by
    rcases Nat.eq_zero_or_pos ls.length with z | z
    · exact absurd (List.eq_nil_of_length_eq_zero z) c1
    · exact z
  rw [if_neg (show ¬ nI ls.length = 0 from fun z => by have := nI_inj (b := 0) z (by omega) (by omega); omega), c_peek hT, obs] at h
  dsimp only at h
  have l2 := hr_lt (w := w) (n := n) (p := sk w n p) (by rw [c2]; decide)
  have hT2 := hT.at (q := sk w n p + 1) (by omega)
  have hs2 := sk_le (w := w) hT2.2.2.2.1
  rw [if_pos c2, pU_n, obs, P6_2, nI_1, P6_pU, c_peek hT2, obs] at h
  dsimp only at h
  rw [n_isDigit6, obs, P6_P6] at h
  unfold pTail at hy
  dsimp only at hy
  by_cases c3 : dg (hr w n (sk w n (sk w n p + 1)))
  · rw [if_pos c3, if_neg n10] at h
    rw [if_pos c3] at hy
    obtain ⟨z, ez, hy⟩ := ob hy
    obtain rfl := Option.some.inj hy
    exact g_rowsGo h4 l1 h3 12 [] _ (P6 M (sk w n (sk w n p + 1))) r z (by omega) rfl (hT.at hs2.2) (hC.P _) (fun r hr => by cases hr) h ez
  · rw [if_neg c3, if_pos rfl] at h
    obtain rfl := Option.some.inj h
    rw [if_neg c3] at hy
    obtain rfl := Option.some.inj hy
    exact ⟨rfl, hC.P _, _, hT.at hs2.2, rfl⟩
theorem g_lettersGo {w : Nat → Int32} {n : Nat} {ts : List (List Nat × List (List Nat))} (h4 : ts.length < 4) : ∀ (k : Nat) (ls : List Nat) (p : Nat) (M : gM) (r : Int32 × gM) (y : (List Nat × List (List Nat)) × Nat), ls.length ≤ 3 → ls.length + k = 4 → C8 M w n p → CTs M (ts ++ [(ls, [])]) → (∀ x, x ∈ ls → x ≤ 3) →
    (lX6_isClause_13 8 (nI ls.length, M)).bind (kLe ts.length) = some r → (pHead w n k ls p).bind (pTail w n) = some y → r.1 = 1 ∧ CTs r.2 (ts ++ [y.1]) ∧ ∃ p', C8 r.2 w n p' ∧ sk w n p' = sk w n y.2 := by
  intro k
  induction k with
  | zero => intro ls p M r y h1 h2; omega
  | succ k ih =>
    intro ls p M r y h3 hk hT hC hls h hy
    have hs := sk_le (w := w) hT.2.2.2.1
    have hn := hT.2.1
    have a1 := hC.1
    rw [lenA] at a1
    have hL : LsC M ts.length ls := ⟨hC.last.2.1, a1, hC.last.2.2.1⟩
    unfold lX6_isClause_13 at h
    rw [itO_eq] at h; dsimp only at h
    unfold pHead at hy
    -- behind the letters, as the grammar goes on
    have out : ∀ {N : gM} {p' : Nat}, C8 N w n p' → sk w n p' = sk w n p → CTs N (ts ++ [(ls, [])]) → bX6_isClause_66 8 (nI ts.length) N = some r → ¬ lt_ (hr w n (sk w n p)) → r.1 = 1 ∧ CTs r.2 (ts ++ [y.1]) ∧ ∃ p', C8 r.2 w n p' ∧ sk w n p' = sk w n y.2 := by
      intro N p' hN ep hCN hb c1
      rw [if_neg c1] at hy
      by_cases c2 : ls = []
      · rw [if_pos c2] at hy; cases hy
      · rw [if_neg c2] at hy
        by_cases c3 : hr w n (sk w n p) = 58
        · rw [if_pos c3, obs] at hy
          exact g_tail h4 h3 hN hCN c2 (by rw [ep]; exact c3) hb (by rw [ep]; exact hy)
        · rw [if_neg c3] at hy; cases hy
    by_cases c0 : ls.length = 3
    · rw [L3, if_pos ((nI_leI (by omega) (by omega)).mpr (by omega)), obs] at h
      change bX6_isClause_66 8 (nI ts.length) M = some r at h
      by_cases c1 : lt_ (hr w n (sk w n p))
      · rw [if_pos c1, if_pos (Or.inl c0)] at hy; cases hy
      · exact out hT rfl hC h c1
    · rw [L3, if_neg (mt (nI_leI (by omega) (by omega)).mp (by omega)), c_peek hT, obs] at h
      dsimp only at h
      have hT1 := hT.at (q := sk w n p) hs.2
      have hC1 := hC.P (sk w n p)
      have hL1 : LsC (P6 M (sk w n p)) ts.length ls := ⟨by rw [P6_k (by decide)]; exact hL.1, by rw [P6_k (by decide)]; exact hL.2.1, fun c hc => by rw [P6_k (by decide)]; exact hL.2.2 c hc⟩
      by_cases c1 : lt_ (hr w n (sk w n p))
      · have v1 := lt_v c1
        have l1 := hr_lt (lt_ne c1)
        have ec : hr w n (sk w n p) - 97 = nI (lv (hr w n (sk w n p))) := by
          conv => lhs; rw [v1.2]
          rw [show (97 : Int32) = nI 97 from rfl, nI_sub (by omega)]
          congr 1; omega
        rw [if_pos c1] at hy
        rw [ec, L0, if_neg (mt (nI_ltI (by omega) (by omega)).mp (by omega)), L4, if_neg (mt (nI_leI (by omega) (by omega)).mp (by omega))] at h
        rcases c_addLetter h4 h3 hL1 v1.1 hls with ⟨m1, e⟩ | ⟨m1, N, e, hN⟩
        · rw [if_pos m1] at hy; cases hy
        · have f := xfX5_addLetter _ _ _ e
          have hTN : C8 N w n (sk w n p) := hT1.cong (fun j => f 1 j (by decide) (by decide)) (fun j => f 2 j (by decide) (by decide))
          have hCN := g_letter hC1 h4 (by omega) e
          rw [e, obs] at h
          dsimp only at h
          rw [if_neg (show ¬ (1 : Int32) = nI 0 from n10), pU_n, obs, obs, hTN.2.2.1, nI_1] at h
          rw [if_neg m1] at hy
          refine ih (ls ++ [lv (hr w n (sk w n p))]) (sk w n p + 1) (P6 N (sk w n p + 1)) r y (by rw [lenA]; omega) (by rw [lenA]; omega) (hTN.at (by omega)) (hCN.P _) (fun x hx => ?_) ?_ hy
          · rcases List.mem_append.mp hx with z | z
            · exact hls x z
            · rw [List.mem_singleton.mp z]; exact v1.1
          · rw [lenA]
            rw [nI_1] at h
            exact h
      · have h : bX6_isClause_66 8 (nI ts.length) (P6 M (sk w n p)) = some r := by
          rcases lt_n hT c1 with z | ⟨z1, z2⟩
          · rw [if_pos z, obs] at h; exact h
          · rw [if_neg z1, if_pos z2, obs] at h; exact h
        exact out hT1 (sk_sk hT.2.2.2.1) hC1 h c1
theorem g_isClause {M : gM} {w : Nat → Int32} {n p : Nat} {ts : List (List Nat × List (List Nat))} {y : (List Nat × List (List Nat)) × Nat} (h4 : ts.length < 4) (hT : C8 M w n p) (hC : CTs M ts) {r : Int32 × gM} (h : fX6_isClause 8 M = some r) (hy : pTable w n p = some y) : r.1 = 1 ∧ CTs r.2 (ts ++ [y.1]) ∧ ∃ p', C8 r.2 w n p' ∧ sk w n p' = sk w n y.2 := by
  unfold fX6_isClause at h
  obtain ⟨r1, e1, h⟩ := ob h
  have f := xfX5_open _ _ e1
  have hC1 := g_open hC h4 e1
  have hT1 : C8 r1 w n p := hT.cong (fun j => f 1 j (by decide) (by decide) (Or.inl (by decide)) (Or.inl (by decide))) (fun j => f 2 j (by decide) (by decide) (Or.inl (by decide)) (Or.inl (by decide)))
  have e8 := hC1.1
  rw [lenA] at e8
  rw [e8, nI_s1 (by omega), Nat.add_sub_cancel] at h
  exact g_lettersGo h4 4 [] p r1 r y (by decide) rfl hT1 hC1 (fun x hx => by cases hx) h hy
theorem g_tabsGo {w : Nat → Int32} {n : Nat} : ∀ (k : Nat) (ts : List (List Nat × List (List Nat))) (p : Nat) (M : gM) (r : Int32 × gM) (x : List (List Nat × List (List Nat))), k ≤ 3 → ts.length + k = 4 → C8 M w n p → CTs M ts →
    (lX6_readTables_17 8 (1, nI ts.length, M)).bind kTs = some r → pNext w n k ts (sk w n p) = some x → CTs r.2 x := by
  intro k
  induction k with
  | zero =>
    intro ts p M r x hk hl hT hC h hx
    unfold lX6_readTables_17 at h
    rw [itO_eq] at h; dsimp only at h
    rw [if_neg n10, L4, if_pos ((nI_leI (by omega) (by omega)).mpr (by omega)), obs] at h
    change bX6_readTables_57 1 M = some r at h
    unfold bX6_readTables_57 at h
    rw [if_neg n10, c_peek hT, obs] at h
    dsimp only at h
    unfold pNext at hx
    rw [if_neg (fun z => z.2 rfl)] at hx
    by_cases c : hr w n (sk w n p) = -1
    · rw [if_pos c] at h hx
      obtain rfl := Option.some.inj h
      obtain rfl := Option.some.inj hx
      exact hC.P _
    · rw [if_neg c] at hx; cases hx
  | succ k ih =>
    intro ts p M r x hk hl hT hC h hx
    have hs := sk_le (w := w) hT.2.2.2.1
    have hn := hT.2.1
    have hT1 := hT.at (q := sk w n p) hs.2
    unfold lX6_readTables_17 at h
    rw [itO_eq] at h; dsimp only at h
    rw [if_neg n10, L4, if_neg (mt (nI_leI (by omega) (by omega)).mp (by omega)), c_peek hT, obs] at h
    dsimp only at h
    unfold pNext at hx
    by_cases c1 : hr w n (sk w n p) = 59
    · have l1 := hr_lt (w := w) (n := n) (p := sk w n p) (by rw [c1]; decide)
      rw [if_pos c1, pU_n, obs, P6_2, nI_1, P6_pU] at h
      rw [if_pos ⟨c1, by omega⟩] at hx
      unfold pTabs at hx
      obtain ⟨t, et, hx⟩ := ob hx
      obtain ⟨y, ey, h⟩ := ob h
      obtain ⟨z, ez, ey⟩ := ob ey
      obtain ⟨r6, e6, ez⟩ := ob ez
      obtain rfl := Option.some.inj ez
      change lX6_readTables_17 8 (r6.1, nI ts.length + 1, r6.2) = some y at ey
      rw [nI_1] at ey
      have h : (lX6_readTables_17 8 (r6.1, nI (ts.length + 1), r6.2)).bind kTs = some r := (congrArg (fun o => Option.bind o kTs) ey).trans h
      obtain ⟨s1, s2, p', s3, s4⟩ := g_isClause (by omega) (hT.at (q := sk w n p + 1) (by omega)) (hC.P _) e6 et
      rw [s1] at h
      refine ih (ts ++ [t.1]) p' r6.2 r x (by omega) (by rw [lenA]; omega) s3 s2 (by rw [lenA]; exact h) ?_
      rw [s4]; exact hx
    · rw [if_neg c1, obs] at h
      change bX6_readTables_57 1 (P6 M (sk w n p)) = some r at h
      unfold bX6_readTables_57 at h
      rw [if_neg n10, c_peek hT1, obs, sk_sk hT.2.2.2.1] at h
      dsimp only at h
      rw [if_neg (fun z => c1 z.1)] at hx
      by_cases c : hr w n (sk w n p) = -1
      · rw [if_pos c] at h hx
        obtain rfl := Option.some.inj h
        obtain rfl := Option.some.inj hx
        exact (hC.P _).P _
      · rw [if_neg c] at hx; cases hx
theorem g_readTables {M : gM} {w : Nat → Int32} {n : Nat} {x : List (List Nat × List (List Nat))} (hB : B8 M w n) {r : Int32 × gM} (h : fX6_readTables 8 M = some r) (hx : pTabs w n 4 [] 0 = some x) : CTs r.2 x := by
  unfold fX6_readTables at h
  rw [pU_n, obs] at h
  change (fX5_clear 8 (P6 M 0)).bind _ = some r at h
  obtain ⟨r2, e2, h⟩ := ob h
  have f := xfX5_clear _ _ e2
  have e8 : CTs r2 [] := by
    unfold fX5_clear at e2
    rw [pU_n, obs, pU_n, obs, pU_n, obs] at e2
    obtain ⟨r4, e4, e2⟩ := ob e2
    obtain ⟨r5, e5, e2⟩ := ob e2
    obtain rfl := Option.some.inj e2
    refine ⟨?_, ?_, ?_, fun i hi => absurd hi (Nat.not_lt_zero _)⟩
    · rw [zfJ7_fill_53178 _ _ _ _ e5 8 (by decide), zfJ7_fill_53178 _ _ _ _ e4 8 (by decide), g_up_ne (Or.inr (by decide)), g_up_ne (Or.inr (by decide)), g_up_self]; rfl
    · rw [zfJ7_fill_53178 _ _ _ _ e5 8 (by decide), zfJ7_fill_53178 _ _ _ _ e4 8 (by decide), g_up_ne (Or.inr (by decide)), g_up_self]; rfl
    · rw [zfJ7_fill_53178 _ _ _ _ e5 8 (by decide), zfJ7_fill_53178 _ _ _ _ e4 8 (by decide), g_up_self]
  have hT := hB.c.cong (fun j => f 1 j (Or.inl (by decide)) (Or.inl (by decide)) (Or.inl (by decide)) (by decide) (by decide)) (fun j => f 2 j (Or.inl (by decide)) (Or.inl (by decide)) (Or.inl (by decide)) (by decide) (by decide))
  obtain ⟨r3, e3, h⟩ := ob h
  have h : (lX6_readTables_17 8 (r3.1, nI 1, r3.2)).bind kTs = some r := h
  unfold pTabs at hx
  obtain ⟨t, et, hx⟩ := ob hx
  obtain ⟨s1, s2, p', s3, s4⟩ := g_isClause (ts := []) (by decide) hT e8 e3 et
  rw [s1] at h
  refine g_tabsGo 3 [t.1] p' r3.2 r x (by omega) rfl s3 s2 h ?_
  rw [s4]; exact hx
end P_35r_40p_reads8
section P_35r_40q_texts
/-! texts: the tables told are the same, the scripts told are the same -/
theorem lo_157 {b : Nat} (hb : b ≤ 295) {w : gM} : ∀ s, lX9_readStep_157 (nI b) s = some w → ∀ k, s.2.1 = nI k → k ≤ 3 → ∀ a, a < b → w 68 a = s.2.2 68 a := by
  unfold lX9_readStep_157
  refine itO_ind (P := fun s : Int32 × Int32 × gM => ∀ k, s.2.1 = nI k → k ≤ 3 → ∀ a, a < b → w 68 a = s.2.2 68 a) (fun s y h hl hr k hk hk3 a ha => ?_)
  obtain ⟨s0, s1, M⟩ := s
  dsimp only at h hk
  subst hk
  rcases oi h with ⟨_, h⟩ | ⟨c, h⟩
  · obtain rfl := Option.some.inj h
    have hh := hr _ rfl
    subst hh; rfl
  · have c := mt (nI_leI (a := 3) (b := k) (by omega) (by omega)).mpr c
    rcases oi h with ⟨_, h⟩ | ⟨_, h⟩
    · obtain rfl := Option.some.inj h
      have hh := hr _ rfl
      subst hh; rfl
    · obtain ⟨r10, e10, h⟩ := ob h
      have f10 := xfX9_number _ _ e10 68 a (Or.inl (by decide)) (Or.inl (by decide))
      rw [L2, nI_add, nI_add, wI_n (by omega) (by omega), obs] at h
      generalize hN : g_up r10.2 68 (b + 2 + k) r10.1 = N at h
      have N68 : N 68 a = M 68 a := by rw [← hN, g_up_ne (Or.inr (by omega))]; exact f10
      have fin : ∀ {t0 : Int32} {K : gM}, bX9_readStep_213 (nI k) t0 K = some y → K 68 a = M 68 a → w 68 a = M 68 a := by
        intro t0 K h e
        unfold bX9_readStep_213 bX9_readStep_230 at h
        rcases oi h with ⟨_, h⟩ | ⟨_, h⟩
        · rw [pU_n, obs] at h
          obtain rfl := Option.some.inj h
          rw [hl _ rfl (k + 1) (nI_1 k) (by omega) a ha]
          dsimp only
          rw [g_up_row (by decide)]; exact e
        · rw [pU_n, obs] at h
          obtain rfl := Option.some.inj h
          rw [hl _ rfl (k + 1) (nI_1 k) (by omega) a ha]
          dsimp only
          rw [g_up_row (by decide)]; exact e
      rcases oi h with ⟨_, h⟩ | ⟨_, h⟩
      · rcases oi h with ⟨_, h⟩ | ⟨_, h⟩
        · exact fin h N68
        · obtain ⟨r13, e13, h⟩ := ob h
          have f13 := (xfX9_ahead _ e13 68 a (Or.inl (by decide))).trans N68
          rcases oi h with ⟨_, h⟩ | ⟨_, h⟩
          · exact fin h f13
          · exact fin h f13
      · exact fin h N68
theorem lo_99 {b : Nat} (hb : b ≤ 295) {I r : gM} {so x : Int32} (h : bX9_readStep_99 (nI b) so x (nI b + 1) I = some r) : ∀ a, a < b → r 68 a = I 68 a := by
  intro a ha
  unfold bX9_readStep_99 at h
  rw [nI_1, wI_n (by omega) (by omega), obs] at h
  obtain ⟨w, e, h⟩ := ob h
  obtain ⟨w', e', _, g⟩ := n_fill103 (M := g_up I 68 (b + 1) x) hb
  rw [show ((0 : Int32), g_up I 68 (b + 1) x) = (nI 0, g_up I 68 (b + 1) x) from rfl, e'] at e
  obtain rfl := Option.some.inj e
  have g1 : w' 68 a = I 68 a := by rw [g, if_neg (by omega), g_up_ne (Or.inr (by omega))]
  have fin : ∀ {t0 : Int32} {K : gM}, bX9_readStep_152 (nI b) t0 K = some r → K 68 a = I 68 a → r 68 a = I 68 a := by
    intro t0 K h e
    unfold bX9_readStep_152 at h
    obtain ⟨z, ez, h⟩ := ob h
    obtain rfl := Option.some.inj h
    exact (lo_157 hb _ ez 0 rfl (by omega) a ha).trans e
  rcases oi h with ⟨_, h⟩ | ⟨_, h⟩
  · obtain ⟨r9, e9, h⟩ := ob h
    have f9 := (xfX9_must _ _ e9 68 a (Or.inl (by decide)) (Or.inl (by decide))).trans g1
    rcases oi h with ⟨_, h⟩ | ⟨_, h⟩
    · exact fin h f9
    · exact fin h f9
  · obtain rfl := Option.some.inj h
    exact g1
theorem lo_46 {b : Nat} (hb : b ≤ 295) {I r : gM} {so : Int32} (h : bX9_readStep_46 (nI b) so I = some r) : ∀ a, a < b → r 68 a = I 68 a := by
  intro a ha
  unfold bX9_readStep_46 at h
  rcases oi h with ⟨_, h⟩ | ⟨_, h⟩
  · obtain ⟨r2, e2, h⟩ := ob h
    obtain rfl := Option.some.inj h
    exact xfX9_bad _ e2 68 a (Or.inl (by decide))
  · rw [pU_n, obs, wI_n (by omega) (by omega), obs] at h
    rcases oi h with ⟨_, h⟩ | ⟨_, h⟩
    · obtain ⟨r5, e5, h⟩ := ob h
      rw [lo_99 hb h a ha, xfX9_number _ _ e5 68 a (Or.inl (by decide)) (Or.inl (by decide)), g_up_ne (Or.inr (by omega)), g_up_row (by decide)]
    · obtain ⟨r5, e5, h⟩ := ob h
      rw [lo_99 hb h a ha, xfX9_digit _ e5 68 a (Or.inl (by decide)) (Or.inl (by decide)), g_up_ne (Or.inr (by omega)), g_up_row (by decide)]
theorem lo_readStep {b : Nat} (hb : b ≤ 295) {I r : gM} (h : fX9_readStep (nI b) I = some r) : ∀ a, a < b → r 68 a = I 68 a := by
  intro a ha
  unfold fX9_readStep at h
  obtain ⟨r1, e1, h⟩ := ob h
  have f1 := xfX9_ahead _ e1 68 a (Or.inl (by decide))
  rcases oi h with ⟨_, h⟩ | ⟨_, h⟩
  · exact (lo_46 hb h a ha).trans f1
  · rcases oi h with ⟨_, h⟩ | ⟨_, h⟩
    · exact (lo_46 hb h a ha).trans f1
    · rcases oi h with ⟨_, h⟩ | ⟨_, h⟩
      · exact (lo_46 hb h a ha).trans f1
      · rcases oi h with ⟨_, h⟩ | ⟨_, h⟩
        · exact (lo_46 hb h a ha).trans f1
        · exact (lo_46 hb h a ha).trans f1
theorem lo_readScript {s : Nat} (hs : s ≤ 4) {I : gM} {r : Int32 × gM} (h : fX9_readScript (nI s) I = some r) : (∀ a, a < 60 * s → r.2 68 a = I 68 a) ∧ ∀ a, a ≠ s → r.2 69 a = I 69 a := by
  unfold fX9_readScript at h
  obtain ⟨r1, e1, h⟩ := ob h
  rw [wI_n (by omega) (by omega), obs] at h
  obtain ⟨w, e10, h⟩ := ob h
  obtain ⟨r11, e11, h⟩ := ob h
  obtain rfl := Option.some.inj h
  have f1 := xfX9_begins _ e1
  have f11 := xfX9_ends _ e11
  have key : ∀ q, lX9_readScript_13 (nI s) q = some w → (q.1 = 0 ∨ ∃ c, c ≤ 11 ∧ q.2 69 s = nI c) → (∀ a, a < 60 * s → w 68 a = q.2 68 a) ∧ ∀ a, a ≠ s → w 69 a = q.2 69 a := by
    unfold lX9_readScript_13
    refine itO_ind (P := fun q : Int32 × gM => (q.1 = 0 ∨ ∃ c, c ≤ 11 ∧ q.2 69 s = nI c) → (∀ a, a < 60 * s → w 68 a = q.2 68 a) ∧ ∀ a, a ≠ s → w 69 a = q.2 69 a) (fun q y h hl hr hq => ?_)
    obtain ⟨q0, M⟩ := q
    dsimp only at h hq ⊢
    rcases oi h with ⟨_, h⟩ | ⟨c0, h⟩
    · obtain rfl := Option.some.inj h
      have hh := hr _ rfl
      subst hh
      exact ⟨fun _ _ => rfl, fun _ _ => rfl⟩
    · obtain ⟨c, hc, e69⟩ : ∃ c, c ≤ 11 ∧ M 69 s = nI c := by
        rcases hq with z | z
        · exact absurd z c0
        · exact z
      rw [rI_n (by omega) (by omega), obs, e69, a12, L5, nI_mul] at h
      obtain ⟨r4, e4, h⟩ := ob h
      have g4 := lo_readStep (by omega) e4
      have f4 := xfX9_readStep _ _ e4
      have r69 : ∀ a, r4 69 a = M 69 a := fun a => f4 69 a (Or.inl (by decide)) (Or.inl (by decide)) (by decide)
      rw [rI_n (by omega) (by omega), obs, r69, e69, nI_1, wI_n (by omega) (by omega), obs] at h
      generalize hN : g_up r4 69 s (nI (c + 1)) = N at h
      have N68 : ∀ a, a < 60 * s → N 68 a = M 68 a := fun a ha => by rw [← hN, g_up_row (by decide)]; exact g4 a (by omega)
      have N69 : ∀ a, a ≠ s → N 69 a = M 69 a := fun a ha => by rw [← hN, g_up_ne (Or.inr ha)]; exact r69 a
      have Ns : N 69 s = nI (c + 1) := by rw [← hN, g_up_self]
      have fin : ∀ {t0 : Int32} {K : gM}, bX9_readScript_77 t0 K = some y → (∀ a, a < 60 * s → K 68 a = M 68 a) → (∀ a, a ≠ s → K 69 a = M 69 a) → (t0 = 0 ∨ ∃ c, c ≤ 11 ∧ K 69 s = nI c) → (∀ a, a < 60 * s → w 68 a = M 68 a) ∧ ∀ a, a ≠ s → w 69 a = M 69 a := by
        intro t0 K h a1 a2 a3
        unfold bX9_readScript_77 bX9_readScript_92 at h
        rcases oi h with ⟨z, h⟩ | ⟨z, h⟩
        · rw [pU_n, obs] at h
          obtain rfl := Option.some.inj h
          obtain ⟨b1, b2⟩ := hl _ rfl (Or.inl z)
          dsimp only at b1 b2
          exact ⟨fun a ha => by rw [b1 a ha, g_up_row (by decide)]; exact a1 a ha, fun a ha => by rw [b2 a ha, g_up_row (by decide)]; exact a2 a ha⟩
        · rw [pU_n, obs] at h
          obtain rfl := Option.some.inj h
          obtain ⟨b1, b2⟩ := hl _ rfl (Or.inr (by
            rcases a3 with z' | ⟨c, hc, e⟩
            · exact absurd z' z
            · exact ⟨c, hc, by dsimp only; rw [g_up_row (by decide)]; exact e⟩))
          dsimp only at b1 b2
          exact ⟨fun a ha => by rw [b1 a ha, g_up_row (by decide)]; exact a1 a ha, fun a ha => by rw [b2 a ha, g_up_row (by decide)]; exact a2 a ha⟩
      rcases oi h with ⟨_, h⟩ | ⟨_, h⟩
      · obtain ⟨r7, e7, h⟩ := ob h
        have f7 := xfX9_ahead _ e7
        have g68 : ∀ a, a < 60 * s → r7.2 68 a = M 68 a := fun a ha => (f7 68 a (Or.inl (by decide))).trans (N68 a ha)
        have g69 : ∀ a, a ≠ s → r7.2 69 a = M 69 a := fun a ha => (f7 69 a (Or.inl (by decide))).trans (N69 a ha)
        have gs : r7.2 69 s = nI (c + 1) := (f7 69 s (Or.inl (by decide))).trans Ns
        rcases oi h with ⟨_, h⟩ | ⟨_, h⟩
        · rw [rI_n (by omega) (by omega), obs, gs] at h
          rcases oi h with ⟨_, h⟩ | ⟨z, h⟩
          · exact fin (t0 := 0) h g68 g69 (Or.inl rfl)
          · have z := mt (nI_leI (a := 12) (b := c + 1) (by omega) (by omega)).mpr z
            exact fin h g68 g69 (Or.inr ⟨c + 1, by omega, gs⟩)
        · exact fin (t0 := 0) h g68 g69 (Or.inl rfl)
      · exact fin (t0 := 0) h N68 N69 (Or.inl rfl)
  obtain ⟨b1, b2⟩ := key _ e10 (Or.inr ⟨0, by omega, by dsimp only; rw [g_up_self]; rfl⟩)
  dsimp only at b1 b2
  refine ⟨fun a ha => ?_, fun a ha => ?_⟩
  · dsimp only
    rw [f11 68 a (Or.inl (by decide)) (Or.inl (by decide)), b1 a ha, g_up_row (by decide)]
    exact f1 68 a (Or.inl (by decide)) (Or.inl (by decide))
  · dsimp only
    rw [f11 69 a (Or.inl (by decide)) (Or.inl (by decide)), b2 a ha, g_up_ne (Or.inr ha)]
    exact f1 69 a (Or.inl (by decide)) (Or.inl (by decide))
theorem c_clearLog {I : gM} {k : Nat} : ∃ r, fX2_clear k I = some r ∧ r k 1 = 0 ∧ r k 2 = 0 ∧ ∀ q, q ≠ k → r q = I q := by
  unfold fX2_clear
  rw [pU_n, obs, pU_n, obs]
  exact ⟨_, rfl, by rw [g_up_ne (Or.inr (by decide)), g_up_self], g_up_self, fun q h => by rw [g_up_row h, g_up_row h]⟩
theorem all_text0 {C : Nat} {I : gM} (h : InvA C I) (hC : C ≤ 3) : ∃ a b, fX8_text 0 I = some a ∧ fX9_text 0 a.2 = some b ∧ InvA C b.2 ∧ a.1 = b.1 := by
  obtain ⟨hM, hA9, hT, hS, S, m, nx, hR⟩ := id h
  obtain ⟨a, b, ea, eb, Ma, Mb, hAb, hTb, b14, b12⟩ := text0_both hT hM hA9
  obtain ⟨n, hn, t1, t2, t3⟩ := hT
  have hi : ∀ k, 62 ≤ k → a.2 k = I k := fun k hk => Ma.hi hk
  have lo : ∀ k, k < 62 → b.2 k = a.2 k := fun k hk => Mb.lo hk
  obtain ⟨b', eb', _, _, _, _, hb⟩ := n_text0K (I0 := a.2) (I := a.2) Ma.re (A9.hi Ma hA9) hn (by rw [hi 62 (by omega)]; exact t2)
  rw [eb] at eb'
  obtain rfl := Option.some.inj eb'
  rw [hi 63 (by omega)] at hb
  have es : fX8_textOfTables I = some a := by
    have h := ea
    unfold fX8_text at h
    rw [if_pos rfl] at h
    obtain ⟨s, es, h⟩ := ob h
    obtain rfl := Option.some.inj h
    exact es
  unfold fX8_textOfTables at es
  obtain ⟨r1, e1, es⟩ := ob es
  have f1 := xfX6_readTables _ _ e1
  have f1k : ∀ q, q ≠ 1 → (q < 8 ∨ 12 < q) → r1.2 q = I q := fun q h1 h2 => funext fun j => f1 q j (Or.inl h1) (Or.inl (by omega)) (Or.inl (by omega)) (Or.inl (by omega)) (by omega) (by omega) (by omega) (by omega)
  rcases c_readTables ⟨t1, hn, t3⟩ hM e1 with ⟨x, s1, s2⟩ | ⟨s1, s2⟩
  · rcases hb with ⟨z, _⟩ | ⟨x', z, q1, q2, q3, q4, q5, q6, q7, q8, q9, q10⟩
    · rw [s1] at z; cases z
    · rw [s1] at z
      obtain rfl := Option.some.inj z
      have hCT := (g_readTables ⟨t1, hn, t3⟩ e1 s1).ct
      obtain ⟨r2, e2, C2, k2, _⟩ := c_copyT (k := 3) (k1 := 8) (by omega) q3 hCT
      obtain ⟨r4, e4, p1, p2, k4⟩ := c_clearLog (I := g_up r2 1 0 0) (k := 44)
      obtain ⟨r5, e5, p3, p4, k5⟩ := c_clearPast (I := r4)
      rw [if_pos s2, e2, obs, pU_n, obs, e4, obs, e5, obs, pU_n, obs] at es
      obtain ⟨r7, e7, es⟩ := ob es
      obtain rfl := Option.some.inj es
      have g7 := c_renewK e7
      dsimp only at lo hi q8 q9 q10 ⊢
      have k37 : ∀ q, 3 ≤ q → q ≤ 7 → r7 q = r2 q := fun q h1 h2 => by rw [g7 q (by omega), g_up_row (by omega), k5 q (by omega), k4 q (by omega), g_up_row (by omega)]
      have kk : ∀ q, q ≠ 0 → q ≠ 1 → q ≠ 44 → q ≠ 48 → (q < 3 ∨ 12 < q) → (q ≤ 17 ∨ 29 ≤ q ∧ q ≠ 43) → r7 q = I q := fun q h0 h1 h2 h3 h4 h5 => by rw [g7 q h5, g_up_row h0, k5 q h3, k4 q h2, g_up_row h1, k2 q (by omega), f1k q h1 (by omega)]
      have k0 : ∀ j, j ≠ 15 → r7 0 j = I 0 j := fun j hj => by rw [g7 0 (by omega), g_up_ne (Or.inr hj), k5 0 (by omega), k4 0 (by omega), g_up_row (by omega), k2 0 (by omega), f1k 0 (by omega) (by omega)]
      have k15 : r7 0 15 = 0 := by rw [g7 0 (by omega), g_up_self]
      have k44 : ∀ j, r7 44 j = r4 44 j := fun j => by rw [g7 44 (by omega), g_up_row (by omega), k5 44 (by omega)]
      have k48 : ∀ j, r7 48 j = r5 48 j := fun j => by rw [g7 48 (by omega), g_up_row (by omega)]
      refine ⟨_, b, ea, eb, ⟨Ma.both Mb, hAb, hTb, ?_, fun _ => tOf x, 0, 0, ⟨by omega, by omega, ?_, ?_, q6⟩, fun _ _ => q3, ⟨?_, q4, ⟨0, 0, by omega, by omega, by omega, ?_, ?_, q5, fun i hi => absurd hi (by omega)⟩⟩, fun a ha => absurd ha (Nat.not_lt_zero a), ⟨?_, fun z => absurd q7 z⟩, fun j hj => ?_⟩, ?_⟩
      · exact hS.keep b14 b12 (fun k h1 h2 => by rw [lo k (by omega), kk k (by omega) (by omega) (by omega) (by omega) (by omega) (by omega)]) (fun _ _ => by rw [q8, hi 68 (by omega)]) (fun _ _ => by rw [q9, hi 69 (by omega)])
      · rw [lo 48 (by omega), k48]; exact p3
      · rw [lo 48 (by omega), k48]; exact p4
      · exact C2.cong (fun j _ => by rw [lo 3 (by omega), k37 3 (by omega) (by omega)]) (by rw [lo 4 (by omega), k37 4 (by omega) (by omega)]) (by rw [lo 5 (by omega), k37 5 (by omega) (by omega)]) (by rw [lo 6 (by omega), k37 6 (by omega) (by omega)]) (by rw [lo 7 (by omega), k37 7 (by omega) (by omega)])
      · rw [lo 44 (by omega), k44]; exact p1
      · rw [lo 44 (by omega), k44]; exact p2
      · rw [lo 0 (by omega), k15, q7]
      · rw [lo 53 (by omega), kk 53 (by omega) (by omega) (by omega) (by omega) (by omega) (by omega), q10, hi 71 (by omega)]; exact hR.refs j hj
      · rw [q1, k37 3 (by omega) (by omega), C2.1, tOf_n]
  · rcases hb with ⟨_, q1, q2, q3, q4⟩ | ⟨x', z, _⟩
    · rw [if_neg s2] at es
      obtain rfl := Option.some.inj es
      dsimp only at lo hi q3 q4 ⊢
      refine ⟨_, b, ea, eb, ⟨Ma.both Mb, hAb, hTb, ?_, S, m, nx, ?_⟩, q1.symm⟩
      · exact hS.keep b14 b12 (fun k h1 h2 => by rw [lo k (by omega), f1k k (by omega) (by omega)]) (fun _ _ => by rw [q4 68 (by omega), hi 68 (by omega)]) (fun _ _ => by rw [q4 69 (by omega), hi 69 (by omega)])
      · exact hR.keep hC (by rw [lo 0 (by omega), f1k 0 (by omega) (by omega)]) (fun k hk => by rw [lo k (by omega), f1k k (by omega) (by omega)]) (fun j hj => by rw [q3 j hj, hi 62 (by omega)]) (fun k hk => by rw [q4 k (by omega), hi k (by omega)])
    · rw [s1] at z; cases z
/-- a step told is one that can be -/
theorem pNums_ok {w : Nat → Int32} {n : Nat} {so q : Nat} {x : (Nat × Nat × List Nat) × Nat} (hs : so ≤ 2) (h : pRowed w n so q = some x) : stepOK x.1 := by
  unfold pRowed at h
  rcases oi h with ⟨_, h⟩ | ⟨_, h⟩
  · rcases oi h with ⟨c, h⟩ | ⟨c, h⟩
    · obtain ⟨p3, _, h⟩ := ob h
      obtain ⟨y, _, h⟩ := ob h
      obtain rfl := Option.some.inj h
      exact ⟨by show so < 4; omega, fun z => by have z : 2 ≤ so := z; omega⟩
    · obtain rfl := Option.some.inj h
      exact ⟨by show so < 4; omega, fun _ => rfl⟩
  · cases h
theorem pStep_ok {w : Nat → Int32} {n p : Nat} {x : (Nat × Nat × List Nat) × Nat} (h : pStep w n p = some x) : stepOK x.1 := by
  unfold pStep at h
  rcases oi h with ⟨_, h⟩ | ⟨_, h⟩
  · exact pNums_ok (by omega) h
  · rcases oi h with ⟨_, h⟩ | ⟨_, h⟩
    · exact pNums_ok (by omega) h
    · rcases oi h with ⟨_, h⟩ | ⟨_, h⟩
      · exact pNums_ok (by omega) h
      · rcases oi h with ⟨_, h⟩ | ⟨_, h⟩
        · obtain ⟨y, _, h⟩ := ob h
          obtain rfl := Option.some.inj h
          exact ⟨by show 3 < 4; omega, fun _ => rfl⟩
        · cases h
theorem pScr_ok {w : Nat → Int32} {n : Nat} : ∀ {k : Nat} {ss : List (Nat × Nat × List Nat)} {p : Nat} {x : List (Nat × Nat × List Nat)}, (∀ s, s ∈ ss → stepOK s) → pScr w n k ss p = some x → ∀ s, s ∈ x → stepOK s
  | 0, ss, p, x, _, h => by cases h
  | k + 1, ss, p, x, hs, h => by
    unfold pScr at h
    obtain ⟨y, e1, h⟩ := ob h
    have q : ∀ s, s ∈ ss ++ [y.1] → stepOK s := fun s hb => by
      rcases List.mem_append.mp hb with z | z
      · exact hs s z
      · rw [List.mem_singleton.mp z]; exact pStep_ok e1
    rcases oi h with ⟨_, h⟩ | ⟨_, h⟩
    · exact pScr_ok q h
    · rcases oi h with ⟨_, h⟩ | ⟨_, h⟩
      · obtain rfl := Option.some.inj h; exact q
      · cases h
theorem L60' : (60 : Int32) = nI 60 := rfl
theorem all_text1 {C : Nat} {I : gM} (h : InvA C I) (hC : C ≤ 3) : ∃ a b, fX8_text 1 I = some a ∧ fX9_text 1 a.2 = some b ∧ InvA C b.2 ∧ a.1 = b.1 := by
  obtain ⟨hM, hA9, hT, hS, S, m, nx, hR⟩ := id h
  obtain ⟨a, b, ea, eb, eab, Ma, Mb, hAb, hTb, b14⟩ := text1_both hT hM hA9 hS.1
  obtain ⟨n, hn, t1, t2, t3⟩ := hT
  have hi : ∀ k, 62 ≤ k → a.2 k = I k := fun k hk => Ma.hi hk
  have lo : ∀ k, k < 62 → b.2 k = a.2 k := fun k hk => Mb.lo hk
  obtain ⟨b', eb', _, _, _, hb⟩ := n_text1 (I0 := a.2) (I := a.2) Ma.re (A9.hi Ma hA9)
  rw [eb] at eb'
  obtain rfl := Option.some.inj eb'
  obtain ⟨sc, hsc, esc⟩ := hM.n (k := 62) (j := 12) (hi := 4) rfl
  rw [hi 62 (by omega)] at hb
  have es : fX8_textOfScript I = some a := by
    have h := ea
    unfold fX8_text at h
    rw [if_neg (by decide), if_pos rfl] at h
    obtain ⟨s, es, h⟩ := ob h
    obtain rfl := Option.some.inj h
    exact es
  unfold fX8_textOfScript at es
  rw [hS.1] at es
  -- the reference's frames
  have h9 : fX9_text 1 a.2 = bX9_text_22 1 a.2 := by
    unfold fX9_text
    rw [if_neg (by decide)]
  have eb0 := eb
  rw [h9] at eb
  unfold bX9_text_22 at eb
  rw [if_pos rfl, hi 62 (by omega)] at eb
  have keepR : (∀ k, k ≠ 1 → (k < 51 ∨ 61 < k) → k ≠ 0 → k ≠ 62 → k ≠ 68 → k ≠ 69 → b.2 k = I k) → b.2 0 15 = I 0 15 → b.2 53 = I 53 → (∀ j, j ≠ 2 → j ≠ 3 → j ≠ 4 → j ≠ 12 → b.2 62 j = I 62 j) → InvR C b.2 := by
    intro g1 g2 g3 g4
    exact ⟨S, m, nx, hR.keep hC g2 (fun k hk => by
      by_cases c : k = 53
      · rw [c]; exact g3
      · exact g1 k (by omega) (by omega) (by omega) (by omega) (by omega) (by omega)) (fun j hj => g4 j (by omega) (by omega) (by omega) (by omega)) (fun k hk => g1 k (by omega) (by omega) (by omega) (by omega) (by omega) (by omega))⟩
  by_cases c4 : (4 : Int32) ≤ I 62 12
  · rw [if_pos c4] at es eb
    obtain rfl := Option.some.inj es
    obtain rfl := Option.some.inj eb
    exact ⟨_, _, ea, by rw [h9]; unfold bX9_text_22; rw [if_pos rfl, hi 62 (by omega), if_pos c4], h, rfl⟩
  · have l4 : sc < 4 := by
      rw [esc] at c4
      have := mt (nI_leI (a := 4) (b := sc) (by omega) (by omega)).mpr c4
      omega
    rw [if_neg c4] at es eb
    obtain ⟨r1, e1, es⟩ := ob es
    have f1 := xfX6_readScript _ _ e1
    have f1k : ∀ q, q ≠ 1 → q ≠ 51 → q ≠ 52 → r1.2 q = I q := fun q h1 h2 h3 => funext fun j => f1 q j (Or.inl h1) (Or.inl h2) h3
    obtain ⟨q, eq, hq⟩ := n_readScript (I := a.2) (s := sc) (by omega) hn (by rw [hi 62 (by omega)]; exact t2)
    have lq := lo_readScript (by omega) eq
    have fq := xfX9_readScript _ _ eq
    have fqk : ∀ k, k ≠ 62 → k ≠ 68 → k ≠ 69 → q.2 k = a.2 k := fun k h1 h2 h3 => funext fun j => fq k j (Or.inl h1) (Or.inl h1) h3 h2
    rw [hi 63 (by omega)] at hq
    rw [esc, eq, obs] at eb
    rcases c_readScript ⟨t1, hn, t3⟩ hM e1 with ⟨x, s1, s2, s3⟩ | ⟨s1, s2⟩
    · rcases hq with ⟨z, _⟩ | ⟨x', z, q1, q2, q3, q4⟩
      · rw [s1] at z; cases z
      · rw [s1] at z
        obtain rfl := Option.some.inj z
        rw [if_pos s2, f1k 0 (by decide) (by decide) (by decide), hS.1, esc, rA_n l4, obs] at es
        obtain ⟨r3, e3, es⟩ := ob es
        have f3 := xfX4_copyFrom _ _ _ e3
        have f3k : ∀ k, k ≠ 54 + 2 * sc → k ≠ 54 + 2 * sc + 1 → r3 k = r1.2 k := fun k h1 h2 => funext fun j => f3 k j (Or.inl h1) h2
        have hc : ScK r3 (54 + 2 * sc) x := by
          unfold fX4_copyFrom at e3
          rw [pU_n, obs, L0, L60'] at e3
          obtain ⟨r', e', g1, g2⟩ := cp_n (I := g_up r1.2 (54 + 2 * sc) 0 (r1.2 51 0)) (k0 := 51 + 1) (n0 := 60) (k1 := 54 + 2 * sc + 1) (n1 := 60) (m := 60) (by omega) (by omega) (by omega)
          rw [e', obs] at e3
          obtain rfl := Option.some.inj e3
          obtain ⟨y1, y2, y3⟩ := s3
          refine ⟨by rw [g1 _ (by omega), g_up_self]; exact y1, y2, fun a ha => ?_⟩
          rw [g2, if_pos (by omega), g_up_row (by omega)]; exact y3 a ha
        rw [pU_n, obs, pU_n, obs] at es
        have haE := (congrArg Prod.snd (Option.some.inj es)).symm
        rw [if_pos q1, pU_n, obs, pU_n, obs] at eb
        have hbE := (congrArg Prod.snd (Option.some.inj eb)).symm
        dsimp only at haE hbE
        have eq12 : g_up q.2 62 2 0 62 12 = nI sc := by
          rw [g_up_ne (Or.inr (by decide)), fq 62 12 (Or.inr (by decide)) (Or.inr (by decide)) (by decide) (by decide), hi 62 (by omega), esc]
        have Bk : ∀ k, k ≠ 62 → b.2 k = q.2 k := fun k hk => by rw [hbE, g_up_row hk, g_up_row hk]
        have B12 : b.2 62 12 = nI (sc + 1) := by rw [hbE, g_up_self, eq12, nI_1]
        have Ak : ∀ k, k ≠ 0 → k ≠ 1 → a.2 k = r3 k := fun k h0 h1 => by rw [haE, g_up_row h0, g_up_row h1]
        have A0 : ∀ j, j ≠ 14 → a.2 0 j = r3 0 j := fun j hj => by rw [haE, g_up_ne (Or.inr hj), g_up_row (by decide)]
        refine ⟨a, b, ea, eb0, ⟨Ma.both Mb, hAb, hTb, ⟨b14, fun s hs hs2 => ?_⟩, keepR (fun k h1 h2 h3 h4 h5 h6 => ?_) ?_ ?_ (fun j h1 h2 h3 h4 => ?_)⟩, eab⟩
        · rw [B12, nIt (by omega)] at hs2
          by_cases d : s = sc
          · subst d
            refine ⟨x, ?_, ?_, fun a ha => ?_, fun i hi => ?_⟩
            · obtain ⟨y1, y2, y3⟩ := hc
              exact ⟨by rw [lo _ (by omega), Ak _ (by omega) (by omega)]; exact y1, y2, fun a ha => by rw [lo _ (by omega), Ak _ (by omega) (by omega)]; exact y3 a ha⟩
            · rw [Bk 69 (by decide)]; exact q2
            · have hx := s3.2.1
              rw [Bk 68 (by decide), q4, if_pos (by omega), Nat.add_sub_cancel_left]
            · exact pScr_ok (fun s hs => by cases hs) s1 _ (by rw [List.getD_eq_getElem?_getD, List.getElem?_eq_getElem hi]; exact List.getElem_mem hi)
          · obtain ⟨ss, ⟨y1, y2, y3⟩, y4, y5, y6⟩ := hS.2 s hs (by rw [esc, nIt (by omega)]; omega)
            refine ⟨ss, ⟨?_, y2, fun a ha => ?_⟩, ?_, fun a ha => ?_, y6⟩
            · rw [lo _ (by omega), Ak _ (by omega) (by omega), f3k _ (by omega) (by omega), f1k _ (by omega) (by omega) (by omega)]; exact y1
            · rw [lo _ (by omega), Ak _ (by omega) (by omega), f3k _ (by omega) (by omega), f1k _ (by omega) (by omega) (by omega)]; exact y3 a ha
            · rw [Bk 69 (by decide), lq.2 s d, hi 69 (by omega)]; exact y4
            · rw [Bk 68 (by decide), lq.1 _ (by omega), hi 68 (by omega)]; exact y5 a ha
        · rw [Bk k h4, fqk k h4 h5 h6]
          by_cases d : k < 62
          · rw [Ak k h3 h1, f3k k (by omega) (by omega), f1k k h1 (by omega) (by omega)]
          · exact hi k (by omega)
        · rw [lo 0 (by omega), A0 15 (by decide), f3k 0 (by omega) (by omega), f1k 0 (by decide) (by decide) (by decide)]
        · rw [lo 53 (by omega), Ak 53 (by decide) (by decide), f3k 53 (by omega) (by omega), f1k 53 (by decide) (by decide) (by decide)]
        · rw [hbE, g_up_ne (Or.inr h4), g_up_ne (Or.inr h1), fq 62 j (Or.inr h2) (Or.inr h3) (by decide) (by decide), hi 62 (by omega)]
    · rcases hq with ⟨_, q1⟩ | ⟨x', z, _⟩
      · rw [if_neg s2] at es
        have haE := (congrArg Prod.snd (Option.some.inj es)).symm
        rw [if_neg q1] at eb
        have hbE := (congrArg Prod.snd (Option.some.inj eb)).symm
        dsimp only at haE hbE
        have g12 : b.2 62 12 = I 62 12 := by rw [hbE, fq 62 12 (Or.inr (by decide)) (Or.inr (by decide)) (by decide) (by decide), hi 62 (by omega)]
        refine ⟨a, b, ea, eb0, ⟨Ma.both Mb, hAb, hTb, ⟨b14, fun s hs hs2 => ?_⟩, keepR (fun k h1 h2 h3 h4 h5 h6 => ?_) ?_ ?_ (fun j h1 h2 h3 h4 => ?_)⟩, eab⟩
        · rw [g12, esc, nIt (by omega)] at hs2
          obtain ⟨ss, ⟨y1, y2, y3⟩, y4, y5, y6⟩ := hS.2 s hs (by rw [esc, nIt (by omega)]; omega)
          refine ⟨ss, ⟨?_, y2, fun a ha => ?_⟩, ?_, fun a ha => ?_, y6⟩
          · rw [lo _ (by omega), haE, f1k _ (by omega) (by omega) (by omega)]; exact y1
          · rw [lo _ (by omega), haE, f1k _ (by omega) (by omega) (by omega)]; exact y3 a ha
          · rw [hbE, lq.2 s (by omega), hi 69 (by omega)]; exact y4
          · rw [hbE, lq.1 _ (by omega), hi 68 (by omega)]; exact y5 a ha
        · rw [hbE, fqk k h4 h5 h6]
          by_cases d : k < 62
          · rw [haE]; exact f1k k h1 (by omega) (by omega)
          · exact hi k (by omega)
        · rw [lo 0 (by omega), haE, f1k 0 (by decide) (by decide) (by decide)]
        · rw [lo 53 (by omega), haE, f1k 53 (by decide) (by decide) (by decide)]
        · rw [hbE, fq 62 j (Or.inr h2) (Or.inr h3) (by decide) (by decide), hi 62 (by omega)]
      · rw [s1] at z; cases z
theorem all_text {C : Nat} {I : gM} (h : InvA C I) (hC : C ≤ 3) (v : Int32) : ∃ a b, fX8_text v I = some a ∧ fX9_text v a.2 = some b ∧ InvA C b.2 ∧ a.1 = b.1 := by
  by_cases c0 : v = 0
  · subst c0; exact all_text0 h hC
  · by_cases c1 : v = 1
    · subst c1; exact all_text1 h hC
    · have e : fX8_text v I = some (-1, I) := by
        unfold fX8_text
        rw [if_neg c0, if_neg c1]
      exact ⟨_, _, e, n_textN c0 c1, h, rfl⟩
end P_35r_40q_texts
section P_35r_40r_two
theorem fz_renew {I r : gM} (h : fX8_renew I = some r) : r 22 0 = I 22 0 := by
  unfold fX8_renew at h
  obtain ⟨r1, e1, h⟩ := ob h
  rw [pU_n, obs] at h
  obtain rfl := Option.some.inj h
  rw [g_up_row (by decide)]
  exact fz_findBy (k := 18) e1
/-! the same over two memories: M the class's, R the reference's -/
def InvS2 (C : Nat) (M R : gM) (S : Nat → aT) (m nx : Nat) : Prop := (m ≤ 40 ∧ nx < 40 ∧ M 48 0 = nI m ∧ M 48 2 = nI nx ∧ R 62 29 = nI m) ∧ (∀ a, a ≤ m → WF (S a)) ∧ (CT M 3 (S m) ∧ RT R (R 70) (S m) ∧ LG C M 44 0 (R 70)) ∧ (∀ a, a < m → RT R (kept9 R a) (S a) ∧ LG C M 44 (m - a) (kept9 R a) ∧ stepA M (S a) (S (a + 1)) (m - 1 - a) nx) ∧ (M 0 15 = R 62 42 ∧ (R 62 42 ≠ 0 → ∃ B, WF B ∧ CT M 13 B ∧ RT R (R 89) B ∧ LG C M 46 0 (R 89))) ∧ ∀ j, j < 4 → M 53 j = R 71 j
theorem InvS2.one {C : Nat} {I : gM} {S : Nat → aT} {m nx : Nat} (h : InvS C I S m nx) : InvS2 C I I S m nx := h
theorem InvS2.both {C : Nat} {I : gM} {S : Nat → aT} {m nx : Nat} (h : InvS2 C I I S m nx) : InvS C I S m nx := h
/-- other memories with the same in the cells that count -/
theorem InvS2.cong {C : Nat} {M R M' R' : gM} {S : Nat → aT} {m nx : Nat} (h : InvS2 C M R S m nx) (hC : C ≤ 3) (h0 : M' 0 15 = M 0 15) (h8 : ∀ k, (3 ≤ k ∧ k ≤ 7) ∨ (13 ≤ k ∧ k ≤ 17) ∨ (44 ≤ k ∧ k ≤ 49) ∨ k = 53 → M' k = M k) (h62 : ∀ j, j = 17 ∨ j = 29 ∨ j = 42 → R' 62 j = R 62 j) (h9 : ∀ k, k = 70 ∨ k = 71 ∨ k = 72 ∨ k = 73 ∨ k = 81 ∨ k = 89 → R' k = R k) : InvS2 C M' R' S m nx := by
  obtain ⟨⟨a1, a2, a3, a4, a5⟩, hW, ⟨b1, b2, b3⟩, hk, ⟨c1, c2⟩, c3⟩ := h
  have kC : ∀ {A : aT}, WF A → ∀ {w}, RT R w A → RT R' w A := fun hA _ q => q.cong (h62 17 (by omega)) (h9 72 (by omega)) (h9 73 (by omega)) hA.1 hA.k12 (fun _ _ => rfl)
  refine ⟨⟨a1, a2, by rw [h8 48 (by omega)]; exact a3, by rw [h8 48 (by omega)]; exact a4, by rw [h62 29 (by omega)]; exact a5⟩, hW, ⟨?_, ?_, ?_⟩, fun a ha => ⟨?_, ?_, ?_⟩, ⟨by rw [h0, h62 42 (by omega)]; exact c1, fun q => ?_⟩, fun j hj => by rw [h8 53 (by omega), h9 71 (by omega)]; exact c3 j hj⟩
  · exact b1.cong (fun j _ => by rw [h8 3 (by omega)]) (h8 4 (by omega)) (h8 5 (by omega)) (h8 6 (by omega)) (h8 7 (by omega))
  · rw [h9 70 (by omega)]; exact kC (hW m (Nat.le_refl _)) b2
  · rw [h9 70 (by omega)]; exact b3.cong hC (h8 44 (by omega)) (h8 45 (by omega)) (fun _ _ _ => rfl)
  · have e : kept9 R' a = kept9 R a := by unfold kept9; rw [h9 81 (by omega)]
    rw [e]; exact kC (hW a (by omega)) (hk a ha).1
  · have e : kept9 R' a = kept9 R a := by unfold kept9; rw [h9 81 (by omega)]
    rw [e]; exact (hk a ha).2.1.cong hC (h8 44 (by omega)) (h8 45 (by omega)) (fun _ _ _ => rfl)
  · exact (hk a ha).2.2.cong (h8 49 (by omega))
  · rw [h62 42 (by omega)] at q
    obtain ⟨B, d1, d2, d3, d4⟩ := c2 q
    refine ⟨B, d1, d2.cong (fun j _ => by rw [h8 13 (by omega)]) (h8 14 (by omega)) (h8 15 (by omega)) (h8 16 (by omega)) (h8 17 (by omega)), by rw [h9 89 (by omega)]; exact kC d1 d3, by rw [h9 89 (by omega)]; exact d4.cong hC (h8 46 (by omega)) (h8 47 (by omega)) (fun _ _ _ => rfl)⟩
def mix (M R : gM) : gM := fun q => if q < 62 then M q else R q
theorem mix_lo {M R : gM} {q : Nat} (h : q < 62) : mix M R q = M q := if_pos h
theorem mix_hi {M R : gM} {q : Nat} (h : 62 ≤ q) : mix M R q = R q := if_neg (by omega)
theorem mix_MI {b b' b2 : Bool} {I0 M R0 R : gM} (hM : MI b I0 M) (hR : MI b' R0 R) : MI b2 (mix M R) (mix M R) := by
  refine ⟨fun k j => ?_, fun _ _ => rfl⟩
  by_cases c : k < 62
  · rw [mix_lo c]; exact hM.1 k j
  · rw [mix_hi (by omega)]; exact hR.1 k j
theorem ref_cong {k : Nat} {M I : gM} (h0 : M k = I k) (h1 : M (k + 1) = I (k + 1)) (h2 : M (k + 2) = I (k + 2)) (h4 : M (k + 4) = I (k + 4)) (s a x y z : Int32) : fX5_refusal k s a x y z M = fX5_refusal k s a x y z I := by
  simp only [fX5_refusal, fX5_isTable, fX5_isFitting, bX5_isFitting_24, fX5_placeOf, lX5_placeOf_2, fX5_rowAt, bX5_refusal_127, bX5_refusal_141, h0, h1, h2, h4]
/-- both refuse for the same reason, each over its own memory -/
theorem why_two {I0 M R0 R : gM} {k : Nat} (hk : k + 4 < 62) {A : aT} (hM : MI true I0 M) (hM9 : MI false R0 R) (hW : WF A) (hC : CT M k A) (hR : RT R (R 70) A) {s : Nat} (hs : s < 4) (a x y z : Int32) : ∃ r, fX5_refusal k (nI s) a x y z M = some r ∧ fX9_whyNot (nI s) a x y z R = some r ∧ (r = 0 ∨ r = 1 ∨ r = 2 ∨ r = 3 ∨ r = -1) ∧ (r = -1 → ∃ w', Act9 A.1.length (R 72) (R 70) (nI s) a x y z w') := by
  have l : ∀ q, q < 62 → mix M R q = M q := fun q h => mix_lo h
  have h : ∀ q, 62 ≤ q → mix M R q = R q := fun q h => mix_hi h
  have hC' : CT (mix M R) k A := hC.cong (fun j _ => by rw [l k (by omega)]) (l _ (by omega)) (l _ (by omega)) (l _ (by omega)) (l _ (by omega))
  have hR' : RT (mix M R) (mix M R 70) A := by
    rw [h 70 (by omega)]
    exact hR.cong (by rw [h 62 (by omega)]) (h 72 (by omega)) (h 73 (by omega)) hW.1 hW.k12 (fun _ _ => rfl)
  obtain ⟨r, e1, e2, e3, e4⟩ := why_both (mix_MI (b2 := false) hM hM9) hW hC' hR' hs a x y z
  refine ⟨r, ?_, ?_, e3, ?_⟩
  · rw [← e1]; exact (ref_cong (l _ (by omega)) (l _ (by omega)) (l _ (by omega)) (l _ (by omega)) _ _ _ _ _).symm
  · rw [← e2]; exact (why_cong (by rw [h 62 (by omega)]) (h 70 (by omega)) (h 72 (by omega)) _ _ _ _ _).symm
  · rw [h 72 (by omega), h 70 (by omega)] at e4; exact e4
theorem act_two {C : Nat} {I0 M R0 R : gM} (hM : MI true I0 M) (hM9 : MI false R0 R) (hA9 : A9 R) {S : Nat → aT} {m nx : Nat} (h : InvS2 C M R S m nx) (hC : C ≤ 3) (hJ : C = 3 → JE ∧ M 22 0 = 0) {s : Nat} (hs : s < 4) {num x y z x' y' z' : Int32} {A' : aT} {w' : Nat → Int32} (hk : kn x < 128 ∧ kn y < 128 ∧ kn z < 128) (hact : ActA (S m) (nI s) num x y z A') (hact9 : Act9 (S m).1.length (R 72) (R 70) (nI s) num x' y' z' w') (hR' : RT R w' A') (hw' : ∀ j, 150 ≤ j → w' j = R 70 j) (hr : fX5_refusal 3 (nI s) num x y z M = some (-1)) :
    ∃ a v b S', fX8_attempt (nI s) num x y z M = some (-1, a) ∧ fX9_act (nI s) num x' y' z' R = some (v, b) ∧ MI true I0 a ∧ MI false R0 b ∧ A9 b ∧ InvS2 C a b S' (min (m + 1) 40) ((nx + 1) % 40) ∧ S' (min (m + 1) 40) = A' ∧ WF A' ∧ (∀ q, q = 0 ∨ q = 1 ∨ q = 2 ∨ 50 ≤ q ∧ q < 62 → a q = M q) ∧ (∀ j, j ≠ 19 → j ≠ 26 → j ≠ 27 → j ≠ 29 → b 62 j = R 62 j) ∧ (∀ k, k ≠ 62 → k ≠ 70 → k ≠ 74 → k ≠ 75 → k ≠ 76 → k ≠ 77 → k ≠ 78 → k ≠ 79 → k ≠ 80 → k ≠ 81 → b k = R k) ∧
      (∃ r4 r5 I9 rj, MI true I0 r4 ∧ CT r4 3 A' ∧ fX8_renew r4 = some r5 ∧ MI false R0 I9 ∧ RT I9 (I9 70) A' ∧ fX9_joinsNow I9 = some rj ∧ (∀ q, q ≠ 44 → q ≠ 45 → a q = r5 q) ∧ ∀ k, k ≠ 70 → b k = rj k) ∧ a 22 0 = M 22 0 := by
  obtain ⟨⟨a1, a2, a3, a4, a5⟩, hW, ⟨b1, b2, b3⟩, hk9, ⟨c1, c2⟩, c3⟩ := h
  have hWm := hW m (Nat.le_refl _)
  have hWA := hWm.act hact
  have hn : A'.1.length = (S m).1.length := nI_inj (hR'.1.symm.trans b2.1) (by have := hWA.1; omega) (by have := hWm.1; omega)
  obtain ⟨nl, H, l1, l2, _, l4, l5, l6, _⟩ := id b3
  rw [Nat.sub_zero] at l6
  obtain ⟨r4, r5, a, e1, M4, C4, e5, Ma, Ca, p1, p2, p3, q1, q2, q3, fr, fj, f3, f22⟩ := c_attempt hM hs hk hWm b1 hact hr a2 a4 a1 a3 l1 l4 l2 l5
  obtain ⟨I9, rj, v, b, j1, j2, j3, j4, j5, j6, j7, j8, j9, j10, j11, j12, j13, j14, v1, v2, v3⟩ := n_act (I0 := R0) (I := R) hM9 hA9 (n := (S m).1.length) (A := m) (L := min H 60) hWm.1 b2.1 a1 a5 (by omega) l6 (s := nI s) (a := num) (x := x') (y := y') (z := z') (w' := w') hact9
  let W : Nat → Nat → Int32 := fun j => if j < m then kept9 R j else R 70
  have hWj : ∀ j, j ≤ m → RT R (W j) (S j) ∧ LG C M 44 (m - j) (W j) := fun j hj => by
    rcases Nat.lt_or_ge j m with c | c
    · show RT R (if j < m then kept9 R j else R 70) _ ∧ LG C M 44 _ (if j < m then kept9 R j else R 70)
      rw [if_pos c]; exact ⟨(hk9 j c).1, (hk9 j c).2.1⟩
    · have : j = m := by omega
      subst this
      show RT R (if j < j then kept9 R j else R 70) _ ∧ LG C M 44 _ (if j < j then kept9 R j else R 70)
      rw [if_neg (by omega), Nat.sub_self]; exact ⟨b2, b3⟩
  let δ : Nat := if m = 40 then 1 else 0
  have hδ : (m = 40 ∧ δ = 1) ∨ (m < 40 ∧ δ = 0) := by
    by_cases c : m = 40
    · exact Or.inl ⟨c, if_pos c⟩
    · exact Or.inr ⟨by omega, if_neg c⟩
  have hkb : ∀ j, j < min (m + 1) 40 → ∀ x, x < 331 → kept9 b j x = W (j + δ) x := by
    intro j hj x hx
    show b 81 (331 * j + x) = (if j + δ < m then kept9 R (j + δ) else R 70) x
    rw [j11]
    unfold kp9
    rcases hδ with ⟨c, d⟩ | ⟨c, d⟩
    · rw [if_pos c, d]
      by_cases f : j + 1 < m
      · rw [if_pos f, if_neg (by omega), if_pos (by omega)]
        exact congrArg (R 81) (by omega)
      · rw [if_neg f, if_pos (by omega)]
        exact congrArg (R 70) (by omega)
    · rw [if_neg (by omega), d]
      by_cases f : j + 0 < m
      · rw [if_pos f, if_neg (by omega)]; rfl
      · rw [if_neg f, if_pos (by omega)]
        exact congrArg (R 70) (by omega)
  generalize hδ' : δ = dl at *
  let S' : Nat → aT := fun j => if j + dl = m + 1 then A' else S (j + dl)
  have hS1 : ∀ j, j + dl = m + 1 → S' j = A' := fun j e => if_pos e
  have hS2 : ∀ j, j + dl ≠ m + 1 → S' j = S (j + dl) := fun j e => if_neg e
  have hmm : min (m + 1) 40 + dl = m + 1 := by omega
  have bR : ∀ k, k = 71 ∨ k = 72 ∨ k = 73 ∨ k = 89 → b k = R k := fun k hk => j14 k (by omega) (by omega) (by omega) (by omega) (by omega) (by omega) (by omega) (by omega) (by omega) (by omega)
  have RTb : ∀ {A : aT} {w u : Nat → Int32}, WF A → RT R w A → (∀ x, x < 150 → u x = w x) → RT b u A := fun hA q e => q.cong (j13 17 (by omega) (by omega) (by omega) (by omega)) (bR 72 (by omega)) (bR 73 (by omega)) hA.1 hA.k12 e
  have hR9 : RT I9 (I9 70) A' := hR'.cong (by rw [j7 17 (by omega)]) (j6 72 (by omega) (by omega) (by omega)) (j6 73 (by omega) (by omega) (by omega)) hWA.1 hWA.k12 j8
  have hv : C = 3 → r5 18 0 = rj 62 26 := fun c => (hJ c).1 A' I0 R0 r4 r5 I9 rj hWA (by rw [hn]; exact hact.pos) M4 C4 (by rw [f22]; exact (hJ c).2) e5 j2 hR9 j1
  refine ⟨a, v, b, S', e1, j3, Ma, j4, j5, ⟨⟨by omega, by omega, p2, p1, by rw [j12]; congr 1; split <;> omega⟩, fun j hj => ?_, ⟨?_, ?_, ?_⟩, fun j hj => ⟨?_, ?_, ?_⟩, ⟨?_, fun q => ?_⟩, fun j hj => ?_⟩, hS1 _ hmm, hWA, fun q hq => fr q (by omega), j13, j14, ⟨r4, r5, I9, rj, M4, C4, e5, j2, hR9, j1, fj, j9⟩, by rw [fj 22 (by decide) (by decide), fz_renew e5, f22]⟩
  · by_cases c : j + dl = m + 1
    · rw [hS1 j c]; exact hWA
    · rw [hS2 j c]; exact hW _ (by omega)
  · rw [hS1 _ hmm]; exact Ca
  · rw [hS1 _ hmm]
    refine RTb hWA hR' (fun x hx => ?_)
    rw [j10]
    unfold lg9
    rw [if_neg (by omega), if_neg (by omega), if_neg (by omega), if_neg (by omega), if_neg (by omega)]
  · rw [j10]
    exact b3.new hC hv l4 l1 l5 l2 q1 q2 q3 hw'
  · rw [hS2 j (by omega)]
    exact RTb (hW _ (by omega)) (hWj (j + dl) (by omega)).1 (fun x hx => hkb j hj x (by omega))
  · have q := ((hWj (j + dl) (by omega)).2.old hC (by omega) l4 l1 l5 l2 q1 q2 q3).cong (r := a) (w' := kept9 b j) hC rfl rfl (fun x _ hx => hkb j hj x hx)
    rw [show m - (j + dl) + 1 = min (m + 1) 40 - j by omega] at q
    exact q
  · rw [hS2 j (by omega)]
    by_cases c : j + 1 + dl = m + 1
    · rw [hS1 (j + 1) c, show j + dl = m by omega, show min (m + 1) 40 - 1 - j = 0 by omega]
      exact stepA.new hs hact a2 p3
    · rw [hS2 (j + 1) c, show j + 1 + dl = j + dl + 1 by omega, show min (m + 1) 40 - 1 - j = m - 1 - (j + dl) + 1 by omega]
      exact (hk9 (j + dl) (by omega)).2.2.old (by omega) a2 p3
  · rw [fr 0 (by omega), j13 42 (by omega) (by omega) (by omega) (by omega)]; exact c1
  · rw [j13 42 (by omega) (by omega) (by omega) (by omega)] at q
    obtain ⟨B, d1, d2, d3, d4⟩ := c2 q
    have l13 : ∀ k, 13 ≤ k → k ≤ 17 → a k = M k := fun k h1 h2 => fr k (by omega)
    have l46 : ∀ k, 46 ≤ k → k ≤ 47 → a k = M k := fun k h1 h2 => fr k (by omega)
    exact ⟨B, d1, d2.cong (fun j _ => by rw [l13 13 (by omega) (by omega)]) (l13 14 (by omega) (by omega)) (l13 15 (by omega) (by omega)) (l13 16 (by omega) (by omega)) (l13 17 (by omega) (by omega)), RTb d1 d3 (fun x _ => by rw [bR 89 (by omega)]), by rw [bR 89 (by omega)]; exact d4.cong hC (l46 46 (by omega) (by omega)) (l46 47 (by omega) (by omega)) (fun _ _ _ => rfl)⟩
  · rw [fr 53 (by omega), bR 71 (by omega)]; exact c3 j hj
/-- an act is tried by both, each over its own memory -/
theorem try_two {C : Nat} {I0 M R0 R : gM} (hM : MI true I0 M) (hM9 : MI false R0 R) (hA9 : A9 R) {S : Nat → aT} {m nx : Nat} (h : InvS2 C M R S m nx) (hC : C ≤ 3) (hJ : C = 3 → JE ∧ M 22 0 = 0) {s : Nat} (hs : s < 4) (num x y z x' y' z' : Int32) (h2 : 2 ≤ s → x = -1 ∧ y = -1 ∧ z = -1) (h1 : s < 2 → x' = x ∧ y' = y ∧ z' = z) :
    (∃ r, r < 4 ∧ fX8_attempt (nI s) num x y z M = some (nI r, M) ∧ fX9_whyNot (nI s) num x' y' z' R = some (nI r)) ∨
    (∃ a v b S' m' nx', fX9_whyNot (nI s) num x' y' z' R = some (-1) ∧ fX8_attempt (nI s) num x y z M = some (-1, a) ∧ fX9_act (nI s) num x' y' z' R = some (v, b) ∧ MI true I0 a ∧ MI false R0 b ∧ A9 b ∧ InvS2 C a b S' m' nx' ∧ (S' m').1.length = (S m).1.length ∧ (∀ q, q = 0 ∨ q = 1 ∨ q = 2 ∨ 50 ≤ q ∧ q < 62 → a q = M q) ∧ (∀ j, j ≠ 19 → j ≠ 26 → j ≠ 27 → j ≠ 29 → b 62 j = R 62 j) ∧ (∀ k, k ≠ 62 → k ≠ 70 → k ≠ 74 → k ≠ 75 → k ≠ 76 → k ≠ 77 → k ≠ 78 → k ≠ 79 → k ≠ 80 → k ≠ 81 → b k = R k) ∧
      (∃ r4 r5 I9 rj, MI true I0 r4 ∧ CT r4 3 (S' m') ∧ fX8_renew r4 = some r5 ∧ MI false R0 I9 ∧ RT I9 (I9 70) (S' m') ∧ fX9_joinsNow I9 = some rj ∧ (∀ q, q ≠ 44 → q ≠ 45 → a q = r5 q) ∧ ∀ k, k ≠ 70 → b k = rj k) ∧ a 22 0 = M 22 0) := by
  have hWm := h.2.1 m (Nat.le_refl _)
  have hCm := h.2.2.1.1
  have hRm := h.2.2.1.2.1
  obtain ⟨r, e1, e2, e3, _⟩ := why_two (k := 3) (by omega) hM hM9 hWm hCm hRm hs num x y z
  have e2' : fX9_whyNot (nI s) num x' y' z' R = some r := by
    rcases Nat.lt_or_ge s 2 with c | c
    · obtain ⟨f1, f2, f3⟩ := h1 c
      rw [f1, f2, f3]; exact e2
    · rw [← e2]; exact why_any (by omega) _ _ _ _ _ _ _
  by_cases hr : r = -1
  · subst hr
    refine Or.inr ?_
    obtain ⟨w', hact9⟩ := n_can hM9.re hWm.1 hRm.1 e2'
    obtain ⟨A', hact', hR', hw'⟩ := act_abs hWm hRm hact9
    have hact : ActA (S m) (nI s) num x y z A' := by
      rcases Nat.lt_or_ge s 2 with c | c
      · obtain ⟨f1, f2, f3⟩ := h1 c
        rw [f1, f2, f3] at hact'; exact hact'
      · exact hact'.any (by omega) x y z
    have hk : kn x < 128 ∧ kn y < 128 ∧ kn z < 128 := by
      rcases Nat.lt_or_ge s 2 with c | c
      · rcases hact with ⟨_, _, _, _, _, _, q, _⟩ | ⟨_, _, _, _, _, q, _⟩ | ⟨q, _⟩ | ⟨q, _, _⟩
        · exact (row_k q).2.1
        · exact (row_k q).2.1
        · have := nI_inj (b := 2) q (by omega) (by omega)
          omega
        · rename_i q2 _ _
          rcases (by omega : s = 0 ∨ s = 1) with rfl | rfl
          · exact absurd rfl q
          · exact absurd rfl (by assumption)
      · obtain ⟨f1, f2, f3⟩ := h2 c
        rw [f1, f2, f3]; decide
    obtain ⟨a, v, b, S', g1, g2, g3, g4, g5, g6, g7, g8, g9, g10, g11, g12⟩ := act_two hM hM9 hA9 h hC hJ hs hk hact hact9 hR' hw' e1
    refine ⟨a, v, b, S', _, _, e2', g1, g2, g3, g4, g5, g6, ?_, g9, g10, g11, by rw [g7]; exact g12⟩
    have q1 := g6.2.2.1.2.1.1
    rw [g7, g10 17 (by omega) (by omega) (by omega) (by omega), hRm.1] at q1
    rw [g7]
    exact (nI_inj q1 (by have := hWm.1; omega) (by have := g8.1; omega)).symm
  · refine Or.inl ?_
    have e4 : ∃ n, n < 4 ∧ r = nI n := by
      rcases e3 with q | q | q | q | q
      · exact ⟨0, by omega, q⟩
      · exact ⟨1, by omega, q⟩
      · exact ⟨2, by omega, q⟩
      · exact ⟨3, by omega, q⟩
      · exact absurd q hr
    obtain ⟨n, hn, rfl⟩ := e4
    refine ⟨n, hn, ?_, e2'⟩
    unfold fX8_attempt
    rw [e1, obs, if_neg hr]
end P_35r_40r_two
section P_35r_40s_scripts
/-! scripts and ways: acts of both one after the other -/
theorem partOf_n {k i c : Nat} {M : gM} (h : 5 * i + c < 60) : fX4_partOf k (nI i) (nI c) M = some (M (k + 1) (5 * i + c)) := by
  unfold fX4_partOf
  rw [L5, nI_mul, nI_add, show i * 5 + c = 5 * i + c by omega, rI_n h (by omega), obs]
theorem pc_end {k i n : Nat} {M : gM} (e : M k 0 = nI n) (h : n ≤ i) (hn : n ≤ 12) (hi : i ≤ 12) : lX8_perform_29 k (nI i, M) = some (.inr M) := by
  unfold lX8_perform_29
  rw [itO_eq]; dsimp only
  rw [if_pos (show M k 0 ≤ nI i by rw [e]; exact (nI_leI (by omega) (by omega)).mpr h), obs]; rfl
theorem pc_step {k i n : Nat} {M : gM} (e : M k 0 = nI n) (h : i < n) (hn : n ≤ 12) : lX8_perform_29 k (nI i, M) = (fX8_attempt (M (k + 1) (5 * i)) (M (k + 1) (5 * i + 1)) (M (k + 1) (5 * i + 2)) (M (k + 1) (5 * i + 3)) (M (k + 1) (5 * i + 4)) M).bind fun r8 => if r8.1 = -1 then lX8_perform_29 k (nI (i + 1), r8.2) else some (.inl (nI i, r8.2)) := by
  conv => lhs; unfold lX8_perform_29
  rw [itO_eq]; dsimp only
  have p0 : fX4_partOf k (nI i) 0 M = some (M (k + 1) (5 * i)) := partOf_n (k := k) (i := i) (c := 0) (M := M) (by omega)
  have p1 : fX4_partOf k (nI i) 1 M = some (M (k + 1) (5 * i + 1)) := partOf_n (k := k) (i := i) (c := 1) (M := M) (by omega)
  have p2 : fX4_partOf k (nI i) 2 M = some (M (k + 1) (5 * i + 2)) := partOf_n (k := k) (i := i) (c := 2) (M := M) (by omega)
  have p3 : fX4_partOf k (nI i) 3 M = some (M (k + 1) (5 * i + 3)) := partOf_n (k := k) (i := i) (c := 3) (M := M) (by omega)
  have p4 : fX4_partOf k (nI i) 4 M = some (M (k + 1) (5 * i + 4)) := partOf_n (k := k) (i := i) (c := 4) (M := M) (by omega)
  rw [if_neg (show ¬ M k 0 ≤ nI i by rw [e]; exact mt (nI_leI (by omega) (by omega)).mp (by omega)), p0, obs, p1, obs, p2, obs, p3, obs, p4, obs, nI_1]
  generalize fX8_attempt _ _ _ _ _ M = o
  cases o with
  | none => rfl
  | some r8 =>
    rw [obs, obs]
    by_cases c : r8.1 = -1
    · rw [if_pos c, if_pos c, obs]; rfl
    · rw [if_neg c, if_neg c, obs]; rfl
theorem rs_end {s i n : Nat} {R : gM} (hs : s < 4) (e : R 69 s = nI n) (h : n ≤ i) (hn : n ≤ 12) (hi : i ≤ 12) (b : Int32) : lX9_goSteps_2 (nI s) b (nI i, R) = some (.inr R) := by
  unfold lX9_goSteps_2
  rw [itO_eq]; dsimp only
  rw [rI_n (by omega) (by omega), obs, e, if_pos ((nI_leI (by omega) (by omega)).mpr h), obs]; rfl
theorem rs_step {s i n : Nat} {R : gM} (hs : s < 4) (e : R 69 s = nI n) (h : i < n) (hn : n ≤ 12) : lX9_goSteps_2 (nI s) (nI 1) (nI i, R) = (fX9_whyNot (R 68 (60 * s + 5 * i)) (R 68 (60 * s + 5 * i + 1)) (R 68 (60 * s + 5 * i + 2)) (R 68 (60 * s + 5 * i + 3)) (R 68 (60 * s + 5 * i + 4)) R).bind fun r7 => if r7 = -1 then (fX9_act (R 68 (60 * s + 5 * i)) (R 68 (60 * s + 5 * i + 1)) (R 68 (60 * s + 5 * i + 2)) (R 68 (60 * s + 5 * i + 3)) (R 68 (60 * s + 5 * i + 4)) R).bind (fun r19 => lX9_goSteps_2 (nI s) (nI 1) (nI (i + 1), r19.2)) else some (.inl (nI i, R)) := by
  conv => lhs; unfold lX9_goSteps_2
  rw [itO_eq]; dsimp only
  have b0 : (5 : Int32) * ((12 : Int32) * nI s + nI i) = nI (60 * s + 5 * i) := by rw [a12, L5, nI_mul]; congr 1; omega
  rw [rI_n (by omega) (by omega), obs, e, if_neg (mt (nI_leI (by omega) (by omega)).mp (by omega)), b0, rI_n (by omega) (by omega), obs, show nI (60 * s + 5 * i) + 1 = nI (60 * s + 5 * i + 1) from nI_1 _, rI_n (by omega) (by omega), obs, show nI (60 * s + 5 * i) + 2 = nI (60 * s + 5 * i + 2) by rw [L2, nI_add], rI_n (by omega) (by omega), obs, show nI (60 * s + 5 * i) + 3 = nI (60 * s + 5 * i + 3) by rw [L3, nI_add], rI_n (by omega) (by omega), obs, show nI (60 * s + 5 * i) + 4 = nI (60 * s + 5 * i + 4) by rw [L4, nI_add], rI_n (by omega) (by omega), obs]
  generalize fX9_whyNot _ _ _ _ _ R = o
  cases o with
  | none => rfl
  | some r7 =>
    simp only [obs]
    by_cases c : r7 = -1
    · rw [if_pos c, if_pos c, if_neg (show ¬ nI 1 = 0 from n10)]
      generalize fX9_act _ _ _ _ _ R = o
      cases o with
      | none => rfl
      | some r19 =>
        simp only [obs]
        unfold bX9_goSteps_178
        rw [obs, nI_1]; rfl
    · rw [if_neg c, if_neg c, obs]; rfl
theorem perf_go {C : Nat} (hC : C ≤ 3) (hJ : C = 3 → JE) {I0 R0 : gM} {s : Nat} (hs : s < 4) {ss : List (Nat × Nat × List Nat)} (h12 : ss.length ≤ 12) (hok : ∀ i, i < ss.length → stepOK (ss.getD i (0, 0, []))) : ∀ (d i : Nat) (M R : gM) (S : Nat → aT) (m nx : Nat), i + d = ss.length → MI true I0 M → MI false R0 R → A9 R → InvS2 C M R S m nx → (C = 3 → M 22 0 = 0) → ScK M (54 + 2 * s) ss → R 69 s = nI ss.length → (∀ a, a < 5 * ss.length → R 68 (60 * s + a) = se (ss.getD (a / 5) (0, 0, [])) (a % 5)) →
    ∃ M' R' S' m' nx', ((lX8_perform_29 (54 + 2 * s) (nI i, M) = some (.inr M') ∧ lX9_goSteps_2 (nI s) (nI 1) (nI i, R) = some (.inr R')) ∨ ∃ j, j < 12 ∧ lX8_perform_29 (54 + 2 * s) (nI i, M) = some (.inl (nI j, M')) ∧ lX9_goSteps_2 (nI s) (nI 1) (nI i, R) = some (.inl (nI j, R'))) ∧ MI true I0 M' ∧ MI false R0 R' ∧ A9 R' ∧ InvS2 C M' R' S' m' nx' ∧ (∀ q, q = 0 ∨ q = 1 ∨ q = 2 ∨ 50 ≤ q ∧ q < 62 → M' q = M q) ∧ (∀ j, j ≠ 19 → j ≠ 26 → j ≠ 27 → j ≠ 29 → R' 62 j = R 62 j) ∧ (∀ k, k ≠ 62 → k ≠ 70 → k ≠ 74 → k ≠ 75 → k ≠ 76 → k ≠ 77 → k ≠ 78 → k ≠ 79 → k ≠ 80 → k ≠ 81 → R' k = R k) := by
  intro d
  induction d with
  | zero =>
    intro i M R S m nx hi hM hM9 hA9 h hz hk e69 e68
    exact ⟨M, R, S, m, nx, Or.inl ⟨pc_end hk.1 (by omega) h12 (by omega), rs_end hs e69 (by omega) h12 (by omega) _⟩, hM, hM9, hA9, h, fun _ _ => rfl, fun _ _ _ _ _ => rfl, fun _ _ _ _ _ _ _ _ _ _ _ => rfl⟩
  | succ d ih =>
    intro i M R S m nx hi hM hM9 hA9 h hz hk e69 e68
    rw [pc_step hk.1 (by omega) h12, rs_step hs e69 (by omega) h12]
    have hst := hok i (by omega)
    generalize hg : ss.getD i (0, 0, []) = st at *
    have g8 : ∀ c, c < 5 → M (54 + 2 * s + 1) (5 * i + c) = se st c := fun c hc => by
      rw [hk.2.2 _ (by omega), show (5 * i + c) / 5 = i by omega, show (5 * i + c) % 5 = c by omega, hg]
    have g9 : ∀ c, c < 5 → R 68 (60 * s + 5 * i + c) = se st c := fun c hc => by
      rw [show 60 * s + 5 * i + c = 60 * s + (5 * i + c) by omega, e68 _ (by omega), show (5 * i + c) / 5 = i by omega, show (5 * i + c) % 5 = c by omega, hg]
    have z8 : M (54 + 2 * s + 1) (5 * i) = se st 0 := g8 0 (by omega)
    have z9 : R 68 (60 * s + 5 * i) = se st 0 := g9 0 (by omega)
    rw [z8, g8 1 (by omega), g8 2 (by omega), g8 3 (by omega), g8 4 (by omega), z9, g9 1 (by omega), g9 2 (by omega), g9 3 (by omega), g9 4 (by omega)]
    have q0 : se st 0 = nI st.1 := rfl
    rw [q0]
    have hx : 2 ≤ st.1 → se st 2 = -1 ∧ se st 3 = -1 ∧ se st 4 = -1 := fun c => by
      have e := hst.2 c
      unfold se ce
      rw [e]
      exact ⟨rfl, rfl, rfl⟩
    rcases try_two hM hM9 hA9 h hC (fun c => ⟨hJ c, hz c⟩) (s := st.1) hst.1 (se st 1) (se st 2) (se st 3) (se st 4) (se st 2) (se st 3) (se st 4) hx (fun _ => ⟨rfl, rfl, rfl⟩) with ⟨r, hr, e1, e2⟩ | ⟨a, v, b, S', m', nx', e1, e2, e3, Ma, Mb, Ab, hS, _, f8, f62, f9, _, f22⟩
    · rw [e1, obs, e2, obs]
      dsimp only
      rw [if_neg (nI_m1 (by omega)), if_neg (nI_m1 (by omega))]
      exact ⟨M, R, S, m, nx, Or.inr ⟨i, by omega, rfl, rfl⟩, hM, hM9, hA9, h, fun _ _ => rfl, fun _ _ _ _ _ => rfl, fun _ _ _ _ _ _ _ _ _ _ _ => rfl⟩
    · rw [e2, obs, e1, obs, e3]
      dsimp only
      rw [if_pos rfl, if_pos rfl, obs]
      have hk' : ScK a (54 + 2 * s) ss := ⟨by rw [f8 _ (by omega)]; exact hk.1, hk.2.1, fun x hx => by rw [f8 _ (by omega)]; exact hk.2.2 x hx⟩
      have b68 : b 68 = R 68 := f9 68 (by omega) (by omega) (by omega) (by omega) (by omega) (by omega) (by omega) (by omega) (by omega) (by omega)
      have b69 : b 69 = R 69 := f9 69 (by omega) (by omega) (by omega) (by omega) (by omega) (by omega) (by omega) (by omega) (by omega) (by omega)
      obtain ⟨M', R', S2, m2, nx2, hc, k1, k2, k3, k4, k5, k6, k7⟩ := ih (i + 1) a b S' m' nx' (by omega) Ma Mb Ab hS (fun c => by rw [f22]; exact hz c) hk' (by rw [b69]; exact e69) (fun x hx => by rw [b68]; exact e68 x hx)
      exact ⟨M', R', S2, m2, nx2, hc, k1, k2, k3, k4, fun q hq => (k5 q hq).trans (f8 q hq), fun j h1 h2 h3 h4 => (k6 j h1 h2 h3 h4).trans (f62 j h1 h2 h3 h4), fun k h1 h2 h3 h4 h5 h6 h7 h8 h9 h10 => (k7 k h1 h2 h3 h4 h5 h6 h7 h8 h9 h10).trans (f9 k h1 h2 h3 h4 h5 h6 h7 h8 h9 h10)⟩
/-- the state of both objects at the end of a call, the class's memory and the reference's one -/
theorem InvA.mk2 {C : Nat} {I a b : gM} (h : InvA C I) (hC : C ≤ 3) (Ma : MI true I a) (Mb : MI false a b) (Ab : A9 b) {S : Nat → aT} {m nx : Nat} (hS : InvS2 C a b S m nx) (k1 : a 1 0 = I 1 0) (k2 : a 2 = I 2) (k14 : a 0 14 = I 0 14) (k54 : ∀ k, 54 ≤ k → k ≤ 61 → a k = I k) (j2 : b 62 2 = I 62 2) (j12 : b 62 12 = I 62 12) (b63 : b 63 = I 63) (b68 : b 68 = I 68) (b69 : b 69 = I 69) : InvA C b := by
  obtain ⟨_, _, hT, hSc, _⟩ := h
  have lo : ∀ k, k < 62 → b k = a k := fun k hk => Mb.lo hk
  refine ⟨Ma.both Mb, Ab, hT.keep (by rw [lo 1 (by omega), k1]) (by rw [lo 2 (by omega), k2]) j2 b63, hSc.keep (by rw [lo 0 (by omega), k14]) j12 (fun k h1 h2 => by rw [lo k (by omega), k54 k h1 h2]) (fun _ _ => by rw [b68]) (fun _ _ => by rw [b69]), S, m, nx, ?_⟩
  exact (hS.cong hC (by rw [lo 0 (by omega)]) (fun k hk => lo k (by omega)) (fun _ _ => rfl) (fun _ _ => rfl)).both
theorem scr_n {I : gM} (h : SCR I) {n : Nat} (hn : n ≤ 4) (e : I 62 12 = nI n) (v : Int32) : (∃ s, s < n ∧ v = nI s ∧ fX8_isScript v I = some 1) ∨ ((∀ s, s < n → v ≠ nI s) ∧ fX8_isScript v I = some 0) := by
  unfold fX8_isScript
  rw [h.1, e]
  by_cases c : v < 0
  · have c' := (iLT (a := v) (b := 0) rfl t0i).mp c
    rw [if_pos c]
    exact Or.inr ⟨fun t ht z => by rw [z, tnI (by omega)] at c'; omega, rfl⟩
  · have c' := mt (iLT (a := v) (b := 0) rfl t0i).mpr c
    rw [if_neg c]
    have ev := nI_self (x := v) (by omega)
    by_cases d : nI n ≤ v
    · rw [if_pos d]
      refine Or.inr ⟨fun t ht z => ?_, rfl⟩
      rw [z] at d
      have := (nI_leI (by omega) (by omega)).mp d
      omega
    · rw [if_neg d]
      have h2 := mt (iLE (a := nI n) (b := v) (tnI (by omega)) rfl).mpr d
      rw [if_neg (fun q => by have q := (iLE (a := (4 : Int32)) (b := v) (by decide : (4 : Int32).toInt = 4) rfl).mp q; omega)]
      exact Or.inl ⟨v.toInt.toNat, by omega, ev, rfl⟩
theorem all_perform {C : Nat} {I : gM} (h : InvA C I) (hC : C ≤ 3) (hJ : C = 3 → JE ∧ I 22 0 = 0) (v : Int32) : ∃ a b, fX8_perform v I = some a ∧ fX9_perform v a.2 = some b ∧ InvA C b.2 ∧ a.1 = b.1 := by
  obtain ⟨hM, hA9, hT, hS, S, m, nx, hR⟩ := id h
  obtain ⟨n, hn, en⟩ := hM.n (k := 62) (j := 12) (hi := 4) rfl
  have hWm := hR.2.1 m (Nat.le_refl _)
  have b1 := hR.2.2.1.1
  have b2 := hR.2.2.1.2.1
  rcases scr_n hS hn en v with ⟨s, hs, rfl, e1⟩ | ⟨hno, e1⟩
  · have e2 : ∀ {r : gM}, r 62 12 = nI n → fX9_isScript (nI s) r = some 1 := fun er => by
      rcases n_isScript hn er (nI s) with ⟨_, _, _, z⟩ | ⟨z, _⟩
      · exact z
      · exact absurd rfl (z s hs)
    by_cases n0 : (S m).1.length = 0
    · refine ⟨(-1, I), (-1, I), ?_, ?_, h, rfl⟩
      · unfold fX8_perform
        rw [e1, obs, if_neg n10, b1.1, n0, if_pos (show nI 0 = 0 from rfl)]
      · unfold fX9_perform
        rw [e2 en, obs, if_neg n10, n_areTables hWm.1 b2.1, obs, if_pos n0, if_pos rfl]
    · obtain ⟨p, ep, hp⟩ := tfX8_perform (nI s) I hM
      obtain ⟨ss, k1, k2, k3, k4⟩ := hS.2 s (by omega) (by rw [en, nIt (by omega)]; omega)
      have hi : ∀ k, 62 ≤ k → p.2 k = I k := fun k hk => hp.hi hk
      have hS2 : InvS2 C I p.2 S m nx := (InvS2.one hR).cong hC rfl (fun _ _ => rfl) (fun j _ => by rw [hi 62 (by omega)]) (fun k hk => hi k (by omega))
      obtain ⟨M', R', S', m', nx', hc, g1, g2, g3, g4, g5, g6, g7⟩ := perf_go hC (fun c => (hJ c).1) (by omega) k1.2.1 k4 ss.length 0 I p.2 S m nx (by omega) hM (hp.re (b' := false)) (A9.hi hp hA9) hS2 (fun c => (hJ c).2) k1 (by rw [hi 69 (by omega)]; exact k2) (fun a ha => by rw [hi 68 (by omega)]; exact k3 a ha)
      have ho := hWm.1
      have e8 : fX8_perform (nI s) I = ((lX8_perform_29 (54 + 2 * s) (nI 0, I)).bind fun w9 => Sum.elim (fun w9_0 => some (w9_0.1, w9_0.2)) (fun w9_1 => some (w9_1 (54 + 2 * s) 0, w9_1)) w9) := by
        unfold fX8_perform
        rw [e1, obs, if_neg n10, b1.1, if_neg (show ¬ nI (S m).1.length = 0 from fun q => n0 (nI_inj (b := 0) q (by omega) (by omega))), rA_n (by omega), obs]; rfl
      have e9 : fX9_perform (nI s) p.2 = ((lX9_goSteps_2 (nI s) (nI 1) (nI 0, p.2)).bind fun w20 => Sum.elim (fun w20_0 => some (w20_0.1, w20_0.2)) (fun w20_1 => (rI 5 (w20_1 69) (nI s)).bind fun u21 => some (u21, w20_1)) w20) := by
        unfold fX9_perform fX9_goSteps
        rw [e2 (by rw [hi 62 (by omega)]; exact en), obs, if_neg n10, n_areTables hWm.1 (by rw [hi 62 (by omega)]; exact b2.1), obs, if_neg n0, if_neg n10]
        change ((lX9_goSteps_2 (nI s) (nI 1) (nI 0, p.2)).bind _).bind _ = _
        cases lX9_goSteps_2 (nI s) (nI 1) (nI 0, p.2) with
        | none => rfl
        | some w =>
          cases w with
          | inl w => rfl
          | inr w =>
            show ((rI 5 (w 69) (nI s)).bind _).bind _ = (rI 5 (w 69) (nI s)).bind _
            cases rI 5 (w 69) (nI s) with
            | none => rfl
            | some u => rfl
      rw [ep] at e8
      have b69 : R' 69 = p.2 69 := g7 69 (by omega) (by omega) (by omega) (by omega) (by omega) (by omega) (by omega) (by omega) (by omega) (by omega)
      have fin : p.2 = M' → ∀ x : Int32, fX9_perform (nI s) p.2 = some (x, R') → p.1 = x → ∃ a b, fX8_perform (nI s) I = some a ∧ fX9_perform (nI s) a.2 = some b ∧ InvA C b.2 ∧ a.1 = b.1 := by
        intro eM x ex ea
        refine ⟨p, (x, R'), ep, ex, ?_, ea⟩
        have g4' : InvS2 C p.2 R' S' m' nx' := by rw [eM]; exact g4
        show InvA C R'
        refine h.mk2 hC hp g2 g3 g4' ?_ ?_ ?_ (fun k h1 h2 => ?_) ?_ ?_ ?_ ?_ ?_
        · rw [eM, g5 1 (by omega)]
        · rw [eM, g5 2 (by omega)]
        · rw [eM, g5 0 (by omega)]
        · rw [eM, g5 k (by omega)]
        · rw [g6 2 (by omega) (by omega) (by omega) (by omega), hi 62 (by omega)]
        · rw [g6 12 (by omega) (by omega) (by omega) (by omega), hi 62 (by omega)]
        · rw [g7 63 (by omega) (by omega) (by omega) (by omega) (by omega) (by omega) (by omega) (by omega) (by omega) (by omega), hi 63 (by omega)]
        · rw [g7 68 (by omega) (by omega) (by omega) (by omega) (by omega) (by omega) (by omega) (by omega) (by omega) (by omega), hi 68 (by omega)]
        · rw [b69, hi 69 (by omega)]
      rcases hc with ⟨c1, c2⟩ | ⟨j, hj, c1, c2⟩
      · rw [c1, obs] at e8
        rw [c2, obs] at e9
        have e8 : some p = some (M' (54 + 2 * s) 0, M') := e8
        have e9 : fX9_perform (nI s) p.2 = (rI 5 (R' 69) (nI s)).bind fun u21 => some (u21, R') := e9
        obtain hpe := Option.some.inj e8
        rw [rI_n (by omega) (by omega), obs] at e9
        refine fin (by rw [hpe]) _ e9 ?_
        rw [hpe]
        dsimp only
        rw [g5 _ (by omega), k1.1, b69, hi 69 (by omega), k2]
      · rw [c1, obs] at e8
        rw [c2, obs] at e9
        have e8 : some p = some (nI j, M') := e8
        have e9 : fX9_perform (nI s) p.2 = some (nI j, R') := e9
        obtain hpe := Option.some.inj e8
        exact fin (by rw [hpe]) _ e9 (by rw [hpe])
  · refine ⟨(-1, I), (-1, I), ?_, ?_, h, rfl⟩
    · unfold fX8_perform
      rw [e1, obs, if_pos rfl]
    · have e2 : fX9_isScript v I = some 0 := by
        rcases n_isScript hn en v with ⟨t, z1, z2, _⟩ | ⟨_, z⟩
        · exact absurd z2 (hno t z1)
        · exact z
      unfold fX9_perform
      rw [e2, obs, if_pos rfl]
/-! ways -/
theorem draw_two (J K : gN) (h : J 0 16 = K 62 30) {m : Nat} (hm : 0 < m) (hm2 : m < 2 ^ 31) : ∃ k J' K', k < m ∧ fX8_draw (nI m) J = some (nI k, J') ∧ fX9_draw (nI m) K = some (nI k, K') ∧ J' 0 16 = K' 62 30 := by
  obtain ⟨q, q1, q2⟩ := lU_33 (dr9 (K 62 30))
  obtain ⟨u, u1, u2⟩ := n_lM q2 q1 hm hm2
  refine ⟨q % m, g_up J 0 16 (dr9 (J 0 16)), g_up K 62 30 (dr9 (K 62 30)), Nat.mod_lt _ hm, ?_, ?_, by rw [g_up_self, g_up_self, h]⟩
  · unfold fX8_draw
    rw [pU_n, obs, g_up_self, if_neg (show ¬ nI m ≤ 0 from fun z => by have := (nI_leI (b := 0) (by omega) (by omega)).mp z; omega), show (J 0 16 * 6364136223846793005 + 1442695040888963407) = dr9 (K 62 30) by rw [h]; rfl, u1, obs, u2, h]
  · unfold fX9_draw
    rw [pU_n, obs, g_up_self, show (K 62 30 * 6364136223846793005 + 1442695040888963407) = dr9 (K 62 30) from rfl, u1, obs, u2]
theorem cell_v {k c : Nat} (hk : k < 2097152) (hc : c < 3) : (nI k >>> (((14 : Int32) - ((7 : Int32) * nI c)) &&& 31)) &&& 127 = nI (dgt c k) := by
  rcases (by omega : c = 0 ∨ c = 1 ∨ c = 2) with rfl | rfl | rfl
  · rw [sh_0, pk_shrN (by omega) 14 14 (by decide), pk_andN (by omega) 7 (by decide), dgt_0]
    congr 1; omega
  · rw [sh_1, pk_shrN (by omega) 7 7 (by decide), pk_andN (by omega) 7 (by decide), dgt_1]
  · rw [sh_2, pk_shrN (by omega) 0 0 (by decide), pk_andN (by omega) 7 (by decide), dgt_2]
    congr 1; omega
/-- a cell of the class's tables -/
theorem c_cellK {I : gM} {A : aT} {t i c : Nat} (hW : WF A) (hC : CT I 3 A) (ht : t < A.1.length) (hi : i < 12) (hc : c < 3) : fX8_cell (nI t) (nI i) (nI c) I = some (if i < (aK A t).length ∧ c < (aL A t).length then nI (dgt c ((aK A t).getD i 0)) else -1) := by
  have hn4 := hW.1
  have w := hW.2.2.2.2 t ht
  have w4 := w.2.2.2.1
  have w1 := w.1
  have hCt := (hC.2.2.2 t ht).2.2
  have h1 : fX5_isTable 3 (nI t) I = some 1 := by
    rcases c_isTable hn4 hC.1 (nI t) with ⟨_, _, _, z⟩ | ⟨z, _⟩
    · exact z
    · exact absurd rfl (z t ht)
  unfold fX8_cell
  rw [h1, obs, if_neg n10, L0, if_neg (mt (nI_ltI (by omega) (by omega)).mp (by omega)), rI_n (by omega) (by omega), obs, show I 5 t = nI (aK A t).length from hCt.1]
  by_cases c1 : i < (aK A t).length
  · rw [if_neg (mt (nI_leI (by omega) (by omega)).mp (by omega)), if_neg (mt (nI_ltI (by omega) (by omega)).mp (by omega)), rI_n (by omega) (by omega), obs, show I 4 t = nI (aL A t).length from (hC.2.2.2 t ht).1]
    by_cases c2 : c < (aL A t).length
    · rw [if_pos ((nI_ltI (by omega) (by omega)).mpr c2), c_rowAt (by omega) w4 hCt c1, obs, cell_v (k_lt w i c1) hc, if_pos ⟨c1, c2⟩]
    · rw [if_neg (mt (nI_ltI (by omega) (by omega)).mp c2), if_neg (fun z => c2 z.2)]
  · rw [if_pos ((nI_leI (by omega) (by omega)).mpr (by omega)), if_neg (fun z => c1 z.1)]
/-- what one way leaves -/
def WO (C n : Nat) (I0 R0 M R : gM) (x : Option (gM × gN)) (y : Option (gM × gN)) : Prop := ∃ a b J K S m nx, x = some (a, J) ∧ y = some (b, K) ∧ J 0 16 = K 62 30 ∧ MI true I0 a ∧ MI false R0 b ∧ A9 b ∧ InvS2 C a b S m nx ∧ (S m).1.length = n ∧ (∀ q, q = 0 ∨ q = 1 ∨ q = 2 ∨ 50 ≤ q ∧ q < 62 → a q = M q) ∧ (∀ j, j ≠ 19 → j ≠ 26 → j ≠ 27 → j ≠ 29 → b 62 j = R 62 j) ∧ (∀ k, k ≠ 62 → k ≠ 70 → k ≠ 74 → k ≠ 75 → k ≠ 76 → k ≠ 77 → k ≠ 78 → k ≠ 79 → k ≠ 80 → k ≠ 81 → b k = R k) ∧ a 22 0 = M 22 0
theorem way_try {C : Nat} (hC : C ≤ 3) {I0 M R0 R : gM} (hJ : C = 3 → JE ∧ M 22 0 = 0) (hM : MI true I0 M) (hM9 : MI false R0 R) (hA9 : A9 R) {S : Nat → aT} {m nx : Nat} (h : InvS2 C M R S m nx) {s : Nat} (hs : s < 4) (num x y z x' y' z' : Int32) (h2 : 2 ≤ s → x = -1 ∧ y = -1 ∧ z = -1) (h1 : s < 2 → x' = x ∧ y' = y ∧ z' = z) {J K : gN} (hJK : J 0 16 = K 62 30) :
    WO C (S m).1.length I0 R0 M R ((fX8_attempt (nI s) num x y z M).bind fun r3 => some (r3.2, J)) ((fX9_tryOne (nI s) num x' y' z' R).bind fun r => some (r, K)) := by
  unfold fX9_tryOne
  rcases try_two hM hM9 hA9 h hC hJ hs num x y z x' y' z' h2 h1 with ⟨r, hr, e1, e2⟩ | ⟨a, v, b, S', m', nx', e1, e2, e3, Ma, Mb, Ab, hS, hn, f8, f62, f9, _, f22⟩
  · rw [e1, obs, e2, obs, if_neg (nI_m1 (by omega)), obs]
    exact ⟨M, R, J, K, S, m, nx, rfl, rfl, hJK, hM, hM9, hA9, h, rfl, fun _ _ => rfl, fun _ _ _ _ _ => rfl, fun _ _ _ _ _ _ _ _ _ _ _ => rfl, rfl⟩
  · rw [e2, obs, e1, obs, if_pos rfl, e3, obs, obs]
    exact ⟨a, b, J, K, S', m', nx', rfl, rfl, hJK, Ma, Mb, Ab, hS, hn, f8, f62, f9, f22⟩
theorem way_two {C : Nat} (hC : C ≤ 3) {I0 M R0 R : gM} (hJ : C = 3 → JE ∧ M 22 0 = 0) (hM : MI true I0 M) (hM9 : MI false R0 R) (hA9 : A9 R) {S : Nat → aT} {m nx : Nat} (h : InvS2 C M R S m nx) (h0 : 0 < (S m).1.length) {J K : gN} (hJK : J 0 16 = K 62 30) : WO C (S m).1.length I0 R0 M R (fX8_goOneWay M J) (fX9_drawWay R K) := by
  have hWm := h.2.1 m (Nat.le_refl _)
  have b1 := h.2.2.1.1
  have b2 := h.2.2.1.2.1
  have hn4 := hWm.1
  unfold fX8_goOneWay fX9_drawWay
  obtain ⟨k1, J1, K1, l1, e1, e1', hJ1⟩ := draw_two J K hJK (m := 8) (by omega) (by omega)
  rw [show (8 : Int32) = nI 8 from rfl, e1, obs, e1', obs]
  dsimp only
  by_cases c7 : k1 = 7
  · subst c7
    obtain ⟨k2, J2, K2, l2, e2, e2', hJ2⟩ := draw_two J1 K1 hJ1 (m := 24) (by omega) (by omega)
    rw [if_pos (show nI 7 = 7 from rfl), if_pos (show nI 7 = 7 from rfl), show (24 : Int32) = nI 24 from rfl, e2, obs, e2', obs]
    exact way_try hC hJ hM hM9 hA9 h (s := 3) (by omega) (nI k2) (-1) (-1) (-1) 0 0 0 (fun _ => ⟨rfl, rfl, rfl⟩) (fun q => absurd q (by omega)) hJ2
  · have n7 : ¬ nI k1 = (7 : Int32) := fun q => c7 (nI_inj (b := 7) q (by omega) (by omega))
    obtain ⟨t, J2, K2, l2, e2, e2', hJ2⟩ := draw_two J1 K1 hJ1 (m := (S m).1.length) h0 (by omega)
    rw [if_neg n7, if_neg n7, b1.1, e2, obs, b2.1, e2', obs]
    dsimp only
    have w := hWm.2.2.2.2 t l2
    have w1 := w.1
    have w4 := w.2.2.2.1
    have eW8 : M 4 t = nI (aL (S m) t).length := (b1.2.2.2 t l2).1
    have eW9 : R 72 t = nI (aL (S m) t).length := (b2.2.2.2 t l2).1
    by_cases c6 : k1 = 6
    · subst c6
      rw [if_pos (show nI 6 = 6 from rfl), if_pos (show (4 : Int32) ≤ nI 6 by decide), if_pos (show nI 6 = 6 from rfl)]
      exact way_try hC hJ hM hM9 hA9 h (s := 2) (by omega) (nI t) (-1) (-1) (-1) 0 0 0 (fun _ => ⟨rfl, rfl, rfl⟩) (fun q => absurd q (by omega)) hJ2
    · have n6 : ¬ nI k1 = (6 : Int32) := fun q => c6 (nI_inj (b := 6) q (by omega) (by omega))
      rw [if_neg n6]
      by_cases c4 : k1 < 4
      · rw [if_pos (show nI k1 < (4 : Int32) from (nI_ltI (b := 4) (by omega) (by omega)).mpr c4), if_neg (show ¬ (4 : Int32) ≤ nI k1 from mt (nI_leI (a := 4) (by omega) (by omega)).mp (by omega))]
        have h1 : fX5_isTable 3 (nI t) M = some 1 := by
          rcases c_isTable hn4 b1.1 (nI t) with ⟨_, _, _, z⟩ | ⟨z, _⟩
          · exact z
          · exact absurd rfl (z t l2)
        obtain ⟨x, J3, K3, l3, e3, e3', hJ3⟩ := draw_two J2 K2 hJ2 (m := 6) (by omega) (by omega)
        rw [h1, obs, if_neg n10, rI_n (by omega) (by omega), obs, eW8, if_neg (show ¬ nI (aL (S m) t).length ≤ 0 from fun z => by have := (nI_leI (b := 0) (by omega) (by omega)).mp z; omega), show (6 : Int32) = nI 6 from rfl, e3, obs, e3', obs, rI_n (by omega) (by omega), obs, eW9]
        dsimp only
        have last : ∀ (y : Int32) {J4 K4 : gN}, J4 0 16 = K4 62 30 → WO C (S m).1.length I0 R0 M R (bX8_goOneWay_155 (nI t) (nI (aL (S m) t).length) (nI x) y M J4) (bX9_drawWay_69 (nI t) (nI x) y R K4) := by
          intro y J4 K4 hJ4
          unfold bX8_goOneWay_155 bX9_drawWay_69
          rw [rI_n (by omega) (by omega), obs, eW9]
          by_cases c2 : (aL (S m) t).length ≤ 2
          · have z2 : nI (aL (S m) t).length ≤ (2 : Int32) := (nI_leI (b := 2) (by omega) (by omega)).mpr c2
            rw [if_pos z2, if_pos z2]
            unfold bX8_goOneWay_172 bX9_drawWay_97
            exact way_try hC hJ hM hM9 hA9 h (s := 0) (by omega) (nI t) (nI x) y (-1) (nI x) y (-1) (fun q => absurd q (by omega)) (fun _ => ⟨rfl, rfl, rfl⟩) hJ4
          · have z2 : ¬ nI (aL (S m) t).length ≤ (2 : Int32) := mt (nI_leI (b := 2) (by omega) (by omega)).mp c2
            obtain ⟨z, J5, K5, l5, e5, e5', hJ5⟩ := draw_two J4 K4 hJ4 (m := 6) (by omega) (by omega)
            rw [if_neg z2, if_neg z2, show (6 : Int32) = nI 6 from rfl, e5, obs, e5', obs]
            unfold bX8_goOneWay_172 bX9_drawWay_97
            exact way_try hC hJ hM hM9 hA9 h (s := 0) (by omega) (nI t) (nI x) y (nI z) (nI x) y (nI z) (fun q => absurd q (by omega)) (fun _ => ⟨rfl, rfl, rfl⟩) hJ5
        unfold bX8_goOneWay_138
        by_cases c1 : (aL (S m) t).length ≤ 1
        · have z1 : nI (aL (S m) t).length ≤ (1 : Int32) := (nI_leI (b := 1) (by omega) (by omega)).mpr c1
          rw [if_pos z1, if_pos z1]
          exact last _ hJ3
        · have z1 : ¬ nI (aL (S m) t).length ≤ (1 : Int32) := mt (nI_leI (b := 1) (by omega) (by omega)).mp c1
          obtain ⟨y, J4, K4, l4, e4, e4', hJ4⟩ := draw_two J3 K3 hJ3 (m := 6) (by omega) (by omega)
          rw [if_neg z1, if_neg z1, show (6 : Int32) = nI 6 from rfl, e4, obs, e4', obs]
          exact last _ hJ4
      · rw [if_neg (show ¬ nI k1 < (4 : Int32) from mt (nI_ltI (b := 4) (by omega) (by omega)).mp c4), if_pos (show (4 : Int32) ≤ nI k1 from (nI_leI (a := 4) (by omega) (by omega)).mpr (by omega)), if_neg n6]
        obtain ⟨i, J3, K3, l3, e3, e3', hJ3⟩ := draw_two J2 K2 hJ2 (m := 12) (by omega) (by omega)
        have hRt := (b2.2.2.2 t l2).2.2
        have x0 : fX8_cell (nI t) (nI i) 0 M = _ := c_cellK (c := 0) hWm b1 l2 l3 (by omega)
        have x1 : fX8_cell (nI t) (nI i) 1 M = _ := c_cellK (c := 1) hWm b1 l2 l3 (by omega)
        have x2 : fX8_cell (nI t) (nI i) 2 M = _ := c_cellK (c := 2) hWm b1 l2 l3 (by omega)
        rw [show (12 : Int32) = nI 12 from rfl, e3, obs, e3', obs]
        dsimp only
        rw [x0, obs, x1, obs, x2, obs, n_many (by omega), obs, hRt.1]
        by_cases ci : i < (aK (S m) t).length
        · rw [if_neg (mt (nI_leI (by omega) (by omega)).mp (by omega)), n_rowAt, obs, nI_1, L2, nI_add, rI_n (by omega) (by omega), obs, rI_n (by omega) (by omega), obs, rI_n (by omega) (by omega), obs]
          have y0 := hRt.2 i ci 0 (by omega)
          have y1 := hRt.2 i ci 1 (by omega)
          have y2 := hRt.2 i ci 2 (by omega)
          rw [Nat.add_zero] at y0
          rw [y0, y1, y2]
          have ee : ∀ c, (if i < (aK (S m) t).length ∧ c < (aL (S m) t).length then nI (dgt c ((aK (S m) t).getD i 0)) else -1) = if c < (aL (S m) t).length then nI (dgt c ((aK (S m) t).getD i 0)) else -1 := fun c => by
            by_cases d : c < (aL (S m) t).length
            · rw [if_pos ⟨ci, d⟩, if_pos d]
            · rw [if_neg (fun z => d z.2), if_neg d]
          rw [ee 0, ee 1, ee 2]
          exact way_try hC hJ hM hM9 hA9 h (s := 1) (by omega) (nI t) _ _ _ _ _ _ (fun q => absurd q (by omega)) (fun _ => ⟨rfl, rfl, rfl⟩) hJ3
        · rw [if_pos ((nI_leI (by omega) (by omega)).mpr (by omega)), if_neg (fun z => ci z.1), if_neg (fun z => ci z.1), if_neg (fun z => ci z.1)]
          obtain ⟨r, er, hr⟩ := c_refPT (s := 1) hWm b1 (by omega) l2 (-1) (-1) (-1)
          have hr1 : r = 1 := by
            rcases hr with ⟨_, q⟩ | ⟨q, _⟩ | ⟨q, _⟩
            · exact q
            · exact absurd q.1.1 (by decide)
            · exact absurd q.1.1 (by decide)
          subst hr1
          have ea : fX8_attempt 1 (nI t) (-1) (-1) (-1) M = some (1, M) := by
            have er : fX5_refusal 3 1 (nI t) (-1) (-1) (-1) M = some 1 := er
            unfold fX8_attempt
            rw [er, obs, if_neg (by decide)]
          rw [ea, obs]
          exact ⟨M, R, J3, K3, S, m, nx, rfl, rfl, hJ3, hM, hM9, hA9, h, rfl, fun _ _ => rfl, fun _ _ _ _ _ => rfl, fun _ _ _ _ _ _ _ _ _ _ _ => rfl, rfl⟩
theorem ways_go {C : Nat} (hC : C ≤ 3) (hJ : C = 3 → JE) {I0 R0 : gM} {n : Nat} (h0 : 0 < n) {v : Nat} (hv : v ≤ 40) : ∀ (d i : Nat) (M R : gM) (J K : gN) (S : Nat → aT) (m nx : Nat), i + d = v → J 0 16 = K 62 30 → MI true I0 M → MI false R0 R → A9 R → InvS2 C M R S m nx → (C = 3 → M 22 0 = 0) → (S m).1.length = n → WO C n I0 R0 M R (lX8_ways_31 (nI v) (nI i, M, J)) (lX9_ways_27 (nI v) (nI i, R, K)) := by
  intro d
  induction d with
  | zero =>
    intro i M R J K S m nx hi hJK hM hM9 hA9 h hz hn
    have : i = v := by omega
    subst this
    unfold lX8_ways_31 lX9_ways_27
    rw [itO_eq, itO_eq]; dsimp only
    rw [if_pos ((nI_leI (by omega) (by omega)).mpr (Nat.le_refl _)), if_pos ((nI_leI (by omega) (by omega)).mpr (Nat.le_refl _)), obs, obs]
    exact ⟨M, R, J, K, S, m, nx, rfl, rfl, hJK, hM, hM9, hA9, h, hn, fun _ _ => rfl, fun _ _ _ _ _ => rfl, fun _ _ _ _ _ _ _ _ _ _ _ => rfl, rfl⟩
  | succ d ih =>
    intro i M R J K S m nx hi hJK hM hM9 hA9 h hz hn
    obtain ⟨a, b, J', K', S', m', nx', e1, e2, hJK', Ma, Mb, Ab, hS, hn', f8, f62, f9, f22⟩ := way_two hC (fun c => ⟨hJ c, hz c⟩) hM hM9 hA9 h (by omega) hJK
    unfold lX8_ways_31 lX9_ways_27
    rw [itO_eq, itO_eq]; dsimp only
    rw [if_neg (mt (nI_leI (by omega) (by omega)).mp (by omega)), if_neg (mt (nI_leI (by omega) (by omega)).mp (by omega)), e1, obs, obs, e2, obs, obs, nI_1]
    obtain ⟨a2, b2, J2, K2, S2, m2, nx2, g1, g2, g3, g4, g5, g6, g7, g8, g9, g10, g11, g12⟩ := ih (i + 1) a b J' K' S' m' nx' (by omega) hJK' Ma Mb Ab hS (fun c => by rw [f22]; exact hz c) (hn'.trans hn)
    exact ⟨a2, b2, J2, K2, S2, m2, nx2, g1, g2, g3, g4, g5, g6, g7, g8, fun q hq => (g9 q hq).trans (f8 q hq), fun j h1 h2 h3 h4 => (g10 j h1 h2 h3 h4).trans (f62 j h1 h2 h3 h4), fun k h1 h2 h3 h4 h5 h6 h7 h8 h9 h10 => (g11 k h1 h2 h3 h4 h5 h6 h7 h8 h9 h10).trans (f9 k h1 h2 h3 h4 h5 h6 h7 h8 h9 h10), g12.trans f22⟩
theorem all_ways {C : Nat} {I : gM} (h : InvA C I) (hC : C ≤ 3) (hJ : C = 3 → JE ∧ I 22 0 = 0) (v1 : Int32) (v2 : Int64) (J : gN) : ∃ a b, fX8_ways v1 v2 I J = some a ∧ fX9_ways v1 v2 a.2.1 a.2.2 = some b ∧ InvA C b.2.1 := by
  obtain ⟨hM, hA9, hT, hSc, S, m, nx, hR⟩ := id h
  have hWm := hR.2.1 m (Nat.le_refl _)
  have b1 := hR.2.2.1.1
  have b2 := hR.2.2.1.2.1
  have ho := hWm.1
  obtain ⟨p, ep, _, hp⟩ := tfX8_ways v1 v2 I J hM
  have hi : ∀ k, 62 ≤ k → p.2.1 k = I k := fun k hk => hp.hi hk
  have hpp := ep
  unfold fX8_ways at hpp
  rw [b1.1] at hpp
  by_cases n0 : (S m).1.length = 0
  · rw [n0, if_pos (show nI 0 = 0 from rfl)] at hpp
    obtain rfl := Option.some.inj hpp
    refine ⟨_, (-1, I, J), ep, ?_, h⟩
    unfold fX9_ways
    rw [n_areTables ho b2.1, obs, if_pos n0, if_pos rfl]
  · rw [if_neg (show ¬ nI (S m).1.length = 0 from fun q => n0 (nI_inj (b := 0) q (by omega) (by omega)))] at hpp
    have t40 : (40 : Int32).toInt = 40 := by decide
    have hin := n_in v1 1 40
    rw [t1i, t40] at hin
    have out : p = (-1, I, J) → ¬ (1 ≤ v1.toInt ∧ v1.toInt ≤ 40) → ∃ a b, fX8_ways v1 v2 I J = some a ∧ fX9_ways v1 v2 a.2.1 a.2.2 = some b ∧ InvA C b.2.1 := by
      intro e hno
      subst e
      refine ⟨_, (-1, I, J), ep, ?_, h⟩
      rcases hin with ⟨z1, z2, _⟩ | ⟨_, z⟩
      · exact absurd ⟨z1, z2⟩ hno
      · unfold fX9_ways
        rw [n_areTables ho b2.1, obs, if_neg n0, if_neg n10, z, obs, if_pos rfl]
    rcases oi hpp with ⟨c, hpp⟩ | ⟨c, hpp⟩
    · have c := (iLT (a := v1) (b := 1) rfl t1i).mp c
      exact out (Option.some.inj hpp).symm (fun z => by omega)
    · have c := mt (iLT (a := v1) (b := 1) rfl t1i).mpr c
      rcases oi hpp with ⟨d, hpp⟩ | ⟨d, hpp⟩
      · have d := (iLE (a := v1) (b := 40) rfl t40).mp d
        have ev := nI_self (x := v1) (by omega)
        generalize hvn : v1.toInt.toNat = v at *
        have hv : v ≤ 40 := by omega
        subst ev
        rw [pU_n, obs] at hpp
        obtain ⟨w, ew, hpp⟩ := ob hpp
        have hpe := Option.some.inj hpp
        have hS2 : InvS2 C I p.2.1 S m nx := (InvS2.one hR).cong hC rfl (fun _ _ => rfl) (fun j _ => by rw [hi 62 (by omega)]) (fun k hk => hi k (by omega))
        obtain ⟨a, b, J2, K2, S', m', nx', e1, e2, _, Ma, Mb, Ab, hS', _, f8, f62, f9, _⟩ := ways_go hC (fun c => (hJ c).1) (I0 := I) (R0 := p.2.1) (n := (S m).1.length) (by omega) hv v 0 I p.2.1 (g_up J 0 16 v2) (g_up p.2.2 62 30 v2) S m nx (by omega) (by rw [g_up_self, g_up_self]) hM (hp.re (b' := false)) (A9.hi hp hA9) hS2 (fun c => (hJ c).2) rfl
        rw [show ((0 : Int32), I, g_up J 0 16 v2) = (nI 0, I, g_up J 0 16 v2) from rfl, e1] at ew
        obtain rfl := Option.some.inj ew
        have ep1 : p.2.1 = a := by rw [← hpe]
        obtain ⟨r, er, er2, M5, _, r3, r4⟩ := n_rowsNow Mb
        have e9 : fX9_ways (nI v) v2 p.2.1 p.2.2 = some (r 62 26, r, K2) := by
          rcases hin with ⟨_, _, z⟩ | ⟨z, _⟩
          · unfold fX9_ways
            rw [n_areTables (n := (S m).1.length) ho (by rw [hi 62 (by omega)]; exact b2.1), obs, if_neg n0, if_neg n10, z, obs, if_neg n10, pU_n, obs, show ((0 : Int32), p.2.1, g_up p.2.2 62 30 v2) = (nI 0, p.2.1, g_up p.2.2 62 30 v2) from rfl, e2, obs, er2, obs]
          · exact absurd ⟨by omega, by omega⟩ z
        refine ⟨p, _, ep, e9, ?_⟩
        have hS3 : InvS2 C p.2.1 r S' m' nx' := by
          rw [ep1]
          exact hS'.cong hC rfl (fun _ _ => rfl) (fun j hj => r4 j (by omega) (by omega) (by omega)) (fun k hk => r3 k (by omega) (by omega) (by omega) (by omega) (by omega) (by omega) (by omega) (by omega))
        have rk : ∀ k, k = 63 ∨ k = 68 ∨ k = 69 → r k = I k := fun k hk => by
          rw [r3 k (by omega) (by omega) (by omega) (by omega) (by omega) (by omega) (by omega) (by omega), f9 k (by omega) (by omega) (by omega) (by omega) (by omega) (by omega) (by omega) (by omega) (by omega) (by omega), hi k (by omega)]
        show InvA C r
        refine h.mk2 hC hp M5 (Ab.join r3 r4) hS3 ?_ ?_ ?_ (fun k h1 h2 => ?_) ?_ ?_ (rk 63 (by omega)) (rk 68 (by omega)) (rk 69 (by omega))
        · rw [ep1, f8 1 (by omega)]
        · rw [ep1, f8 2 (by omega)]
        · rw [ep1, f8 0 (by omega)]
        · rw [ep1, f8 k (by omega)]
        · rw [r4 2 (by omega) (by omega) (by omega), f62 2 (by omega) (by omega) (by omega) (by omega), hi 62 (by omega)]
        · rw [r4 12 (by omega) (by omega) (by omega), f62 12 (by omega) (by omega) (by omega) (by omega), hi 62 (by omega)]
      · have d := mt (iLE (a := v1) (b := 40) rfl t40).mpr d
        exact out (Option.some.inj hpp).symm (fun z => by omega)
end P_35r_40s_scripts
