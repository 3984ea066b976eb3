/-! the reference takes what it read: just these tables -/
theorem n_takeR {I0 I : gM} {t : Nat} {tb : List Nat × List (List Nat)} (ht : t < 4) (hM : MI false I0 I) (hC : TbC I t tb) (hok : okTab tb) (e0 : I 70 (2 + t) = 0) :
    T (lX9_takeTables_101 (nI t) (nI 0, I)) (fun r => MI false I0 r ∧ (∀ q, q ≠ 70 → r q = I q) ∧ RTt (r 70) t tb.1.length (ksOf tb.2) ∧ ∀ a, a ≠ 2 + t → (a < 6 + 36 * t ∨ 42 + 36 * t ≤ a) → r 70 a = I 70 a) := by
  obtain ⟨r0, er0, g1, g2, _, g4⟩ := n_take101 ht hM hC hok e0
  obtain ⟨_, _, c66, c67⟩ := hC
  obtain ⟨o1, o3, o12, orow⟩ := hok
  have key : T (lX9_takeTables_101 (nI t) (nI 0, I)) (fun r => RTt (r 70) t tb.1.length (ksOf tb.2)) := by
    unfold lX9_takeTables_101
    refine t_it (P := fun s => ∃ i, s.1 = nI i ∧ i ≤ tb.2.length ∧ (∀ q, q ≠ 70 → s.2 q = I q) ∧ RTt (s.2 70) t tb.1.length (ksOf (tb.2.take i))) (μ := fun s => 20 - s.1.toInt.toNat) (fun s p => ?_) ⟨0, rfl, by omega, fun _ _ => rfl, by rw [List.take_zero]; exact ⟨e0, fun i hi => absurd hi (Nat.not_lt_zero _)⟩⟩
    obtain ⟨s1, s2⟩ := s
    obtain ⟨i, e1, hi, h2, hR⟩ := p
    dsimp only at e1 h2 hR
    subst e1
    dsimp only
    refine t_be (rI_n (by omega) (by omega)) ?_
    rw [h2 66 (by decide), c66]
    refine t_ite (fun c => ?_) (fun c => ?_)
    · have c := (nI_leI (by omega) (by omega)).mp c
      have : i = tb.2.length := by omega
      subst this
      rw [List.take_length] at hR
      exact t_ret hR
    · have c := mt (nI_leI (a := tb.2.length) (b := i) (by omega) (by omega)).mpr c
      have hil : i < tb.2.length := by omega
      have hrow : okRow tb.1.length (tb.2.getD i []) := orow _ (by rw [List.getD_eq_getElem?_getD, List.getElem?_eq_getElem hil]; exact List.getElem_mem _)
      have eT : tb.2.take (i + 1) = tb.2.take i ++ [tb.2.getD i []] := by
        rw [List.take_add_one, gd_get (d := []) hil]; rfl
      obtain ⟨ks1, ks2, ks3⟩ := ksOf_ok o1 (tb.2.take i) (fun r hr => orow r (List.mem_of_mem_take hr))
      rw [List.length_take] at ks2
      generalize hks : ksOf (tb.2.take i) = ks at *
      have eK : ksOf (tb.2.take (i + 1)) = insK (rK (tb.2.getD i [])) ks := by rw [eT, ksOf_app, hks]
      have hl12 : ks.length ≤ 11 := by omega
      have g : ∀ c, c < 3 → s2 67 (3 * (12 * t + i) + c) = ce (tb.2.getD i []) c := fun c hc => by
        rw [h2 67 (by decide), ← c67 i (by omega) c hc]
        congr 1; omega
      have b0 : (3 : Int32) * ((12 : Int32) * nI t + nI i) = nI (3 * (12 * t + i)) := by rw [a12, L3, nI_mul]
      rw [b0]
      have b1 : nI (3 * (12 * t + i)) + 1 = nI (3 * (12 * t + i) + 1) := nI_1 _
      have b2 : nI (3 * (12 * t + i)) + 2 = nI (3 * (12 * t + i) + 2) := by rw [L2, nI_add]
      rw [b1, b2]
      refine t_be (rI_n (by omega) (by omega)) ?_
      refine t_be (rI_n (by omega) (by omega)) ?_
      refine t_be (rI_n (by omega) (by omega)) ?_
      have g0 := g 0 (by omega)
      have g1 := g 1 (by omega)
      have g2 := g 2 (by omega)
      rw [Nat.add_zero] at g0
      rw [g0, g1, g2]
      have hro := rowOK_ce hrow o1
      have hky := kyz_ce hrow
      obtain ⟨i', hc', ei⟩ := n_hasRow ht (by omega) hR.1 (ce (tb.2.getD i []) 0) (ce (tb.2.getD i []) 1) (ce (tb.2.getD i []) 2)
      refine t_be ei ?_
      obtain ⟨p1, p2⟩ := cl_pos hR o1 ks3 ks1 hro hc'
      rw [hky] at p1 p2
      have mu : 20 - (nI (i + 1)).toInt.toNat < 20 - (nI i).toInt.toNat := by rw [nIt (by omega), nIt (by omega)]; omega
      by_cases c3 : i' < ks.length ∧ cm9 (s2 70) t i' (ce (tb.2.getD i []) 0) (ce (tb.2.getD i []) 1) (ce (tb.2.getD i []) 2) = 0
      · rw [if_pos c3, if_neg n10]
        unfold bX9_takeTables_178
        rw [nI_1]
        refine t_nx ?_ mu
        refine ⟨i + 1, rfl, by omega, h2, ?_⟩
        have z := p2.mp c3
        rw [eK, insK_in ks1 z.1 z.2]; exact hR
      · rw [if_neg c3, if_pos rfl]
        refine t_be (rI_n (by omega) (by omega)) ?_
        refine t_be (rI_n (by omega) (by omega)) ?_
        refine t_be (rI_n (by omega) (by omega)) ?_
        rw [g0, g1, g2]
        obtain ⟨i2, r, hcl, er, hk, h70⟩ := n_putsNow ht (by omega) hR.1 (ce (tb.2.getD i []) 0) (ce (tb.2.getD i []) 1) (ce (tb.2.getD i []) 2)
        refine t_be er ?_
        unfold bX9_takeTables_178
        rw [nI_1]
        refine t_nx ?_ mu
        obtain ⟨q1, q2⟩ := cl_pos hR o1 ks3 ks1 hro hcl
        rw [hky] at q1 q2
        have := p1.eq q1
        subst this
        refine ⟨i + 1, rfl, by omega, fun q hq => by dsimp only; rw [hk q hq]; exact h2 q hq, ?_⟩
        dsimp only
        rw [eK, insK_no q1 (fun z => c3 (p2.mpr z)), h70, ← hky]
        exact (insW_R ht hl12 hcl.1 hR o1 hro).1
  obtain ⟨r, er, hR⟩ := key
  rw [er0] at er
  obtain rfl := Option.some.inj er
  exact ⟨_, er0, g1, g2, hR, g4⟩
theorem used_nI : ∀ n, n < 5 → ((1 : Int32) <<< (nI n &&& 31)) - 1 = nI (2 ^ n - 1) := by decide +kernel
theorem n_takeTablesK {I0 I : gM} {ts : List (List Nat × List (List Nat))} (hM : MI false I0 I) (hC : TsC I ts) (hL : ∀ tb, tb ∈ ts → okL tb.1) : ∃ r, fX9_takeTables I = some (nI ts.length, r) ∧ MI false I0 r ∧ A9 r ∧ RT r (r 70) (tOf ts) ∧ r 70 150 = 0 ∧ r 62 29 = 0 ∧ r 62 42 = 0 := by
  obtain ⟨rr, err, M1, A1, _⟩ := n_takeTables hM hC
  have hh := err
  obtain ⟨h9, hl, hC⟩ := hC
  unfold fX9_takeTables at hh
  rw [pU_n, obs, h9] at hh
  have hM1 : MI false I0 (g_up I 62 17 (nI ts.length)) := hM.up (k := 62) rfl (lo := 0) (hi := 4) rfl (by rw [tnI (by omega)]; omega) (by rw [tnI (by omega)]; omega)
  obtain ⟨w3, e3, hM3, f3, z3⟩ := n_take10 hM1
  rw [show (((0 : Int32)), g_up I 62 17 (nI ts.length)) = (nI 0, g_up I 62 17 (nI ts.length)) from rfl, e3, obs] at hh
  rw [show wI w3 70 331 0 (((1 : Int32) <<< ((w3 62 17) &&& 31)) - 1) = some (g_up w3 70 0 (((1 : Int32) <<< ((w3 62 17) &&& 31)) - 1)) from wI_n (a := 0) (by omega) (by omega), obs] at hh
  have tp := tTop (((1 : Int32) <<< ((w3 62 17) &&& 31)) - 1)
  have hM4 : MI false I0 (g_up w3 70 0 (((1 : Int32) <<< ((w3 62 17) &&& 31)) - 1)) := hM3.up (k := 70) rfl (lo := top.1) (hi := top.2) rfl tp.1 tp.2
  have hv : ((1 : Int32) <<< ((w3 62 17) &&& 31)) - 1 = nI (2 ^ ts.length - 1) := by
    rw [f3 62 (by decide), g_up_self]; exact used_nI _ (by omega)
  rw [hv] at hM4 hh
  generalize hN : g_up w3 70 0 (nI (2 ^ ts.length - 1)) = N at *
  have Nk : ∀ q, q ≠ 70 → N q = g_up I 62 17 (nI ts.length) q := fun q hq => by rw [← hN, g_up_row hq]; exact f3 q hq
  have N70 : N 70 0 = nI (2 ^ ts.length - 1) := by rw [← hN, g_up_self]
  have N0 : ∀ a, 0 < a → a < 331 → N 70 a = 0 := fun a h1 h2 => by rw [← hN, g_up_ne (Or.inr (by omega))]; exact z3 a h2
  have N17 : N 62 17 = nI ts.length := by rw [Nk 62 (by decide), g_up_self]
  have NC : ∀ k, k ≠ 62 → k ≠ 70 → N k = I k := fun k h1 h2 => by rw [Nk k h2, g_up_row h1]
  have key : T (lX9_takeTables_46 (nI 0, N)) (fun r => r 62 = N 62 ∧ (∀ a, a < 2 ∨ 150 ≤ a → r 70 a = N 70 a) ∧ ∀ i, i < ts.length → r 72 i = nI (ts.getD i ([], [])).1.length ∧ (∀ c, c < (ts.getD i ([], [])).1.length → r 73 (3 * i + c) = nI ((ts.getD i ([], [])).1.getD c 0)) ∧ RTt (r 70) i (ts.getD i ([], [])).1.length (ksOf (ts.getD i ([], [])).2)) := by
    unfold lX9_takeTables_46
    refine t_it (P := fun s => ∃ t, s.1 = nI t ∧ t ≤ ts.length ∧ MI false I0 s.2 ∧ (∀ q, q ≠ 70 → q ≠ 72 → q ≠ 73 → s.2 q = N q) ∧ (∀ i, t ≤ i → i < 4 → s.2 70 (2 + i) = 0) ∧ (∀ a, a < 2 ∨ 150 ≤ a → s.2 70 a = N 70 a) ∧ ∀ i, i < t → s.2 72 i = nI (ts.getD i ([], [])).1.length ∧ (∀ c, c < (ts.getD i ([], [])).1.length → s.2 73 (3 * i + c) = nI ((ts.getD i ([], [])).1.getD c 0)) ∧ RTt (s.2 70) i (ts.getD i ([], [])).1.length (ksOf (ts.getD i ([], [])).2)) (μ := fun s => 20 - s.1.toInt.toNat) (fun s p => ?_) ⟨0, rfl, by omega, hM4, fun _ _ _ _ => rfl, fun i _ hi => N0 _ (by omega) (by omega), fun _ _ => rfl, fun t ht => absurd ht (by omega)⟩
    obtain ⟨s1, s2⟩ := s
    obtain ⟨t, e1, ht, h1, h2, h3, h4, h5⟩ := p
    dsimp only at e1 h1 h2 h3 h4 h5
    subst e1
    dsimp only
    have e17 : s2 62 17 = nI ts.length := by rw [h2 62 (by decide) (by decide) (by decide), N17]
    refine t_ite (fun c => ?_) (fun c => ?_)
    · rw [e17] at c
      have c := (nI_leI (by omega) (by omega)).mp c
      have : t = ts.length := by omega
      subst this
      exact t_ret (show s2 62 = N 62 ∧ _ from ⟨h2 62 (by decide) (by decide) (by decide), h4, h5⟩)
    · rw [e17] at c
      have c := mt (nI_leI (a := ts.length) (b := t) (by omega) (by omega)).mpr c
      have htl : t < ts.length := by omega
      obtain ⟨hok, c64, c65, c66, c67⟩ := hC t _ (gd_get (d := ([], [])) htl)
      generalize htb : ts.getD t ([], []) = tb at *
      have o3 := hok.2.1
      have o12 := hok.2.2.1
      refine t_be (rI_n (by omega) (by omega)) ?_
      refine t_be (wI_n (by omega) (by omega)) ?_
      have e64 : s2 64 t = nI tb.1.length := by rw [h2 64 (by decide) (by decide) (by decide), NC 64 (by decide) (by decide)]; exact c64
      have hM5 : MI false I0 (g_up s2 72 t (s2 64 t)) := h1.up (k := 72) rfl (lo := 0) (hi := 3) rfl (by rw [e64, tnI (by omega)]; omega) (by rw [e64, tnI (by omega)]; omega)
      rw [L0]
      refine t_bind (n_take68 (by omega) hM5) (fun w9 ⟨hM9, f9, f73⟩ => ?_)
      have hC9 : TbC w9 t tb := by
        refine ⟨?_, fun c hc => ?_, ?_, fun j hj c hc => ?_⟩
        · rw [f9 64 (by decide), g_up_row (by decide)]; exact e64
        · rw [f9 65 (by decide), g_up_row (by decide), h2 65 (by decide) (by decide) (by decide), NC 65 (by decide) (by decide)]; exact c65 c hc
        · rw [f9 66 (by decide), g_up_row (by decide), h2 66 (by decide) (by decide) (by decide), NC 66 (by decide) (by decide)]; exact c66
        · rw [f9 67 (by decide), g_up_row (by decide), h2 67 (by decide) (by decide) (by decide), NC 67 (by decide) (by decide)]; exact c67 j hj c hc
      have e70 : w9 70 = s2 70 := by rw [f9 70 (by decide), g_up_row (by decide)]
      refine t_bind (n_takeR (by omega) hM9 hC9 hok (by rw [e70]; exact h3 t (by omega) (by omega))) (fun w19 ⟨hM19, f19, r19, o19⟩ => ?_)
      rw [nI_1]
      refine t_nx ?_ (show 20 - (nI (t + 1)).toInt.toNat < 20 - (nI t).toInt.toNat by rw [nIt (by omega), nIt (by omega)]; omega)
      have e72 : ∀ a, w19 72 a = if a = t then nI tb.1.length else s2 72 a := fun a => by rw [f19 72 (by decide), f9 72 (by decide), gu_in, e64]
      have e65 : ∀ a, g_up s2 72 t (s2 64 t) 65 a = s2 65 a := fun a => by rw [g_up_row (by decide)]
      have e73 : ∀ a, w19 73 a = if 3 * t ≤ a ∧ a < 3 * t + 3 then s2 65 a else s2 73 a := fun a => by rw [f19 73 (by decide), f73, e65, g_up_row (show 73 ≠ 72 by decide)]
      refine ⟨t + 1, rfl, by omega, hM19, fun q h70 h72 h73 => ?_, fun i hi hi4 => ?_, fun a ha => ?_, fun i hi => ?_⟩
      · dsimp only
        rw [f19 q h70, f9 q h73, g_up_row h72]; exact h2 q h70 h72 h73
      · dsimp only
        rw [o19 _ (by omega) (by omega), e70]; exact h3 i (by omega) hi4
      · dsimp only
        rw [o19 _ (by omega) (by omega), e70]; exact h4 a ha
      · dsimp only
        by_cases d : i = t
        · subst d
          rw [htb]
          refine ⟨by rw [e72, if_pos rfl], fun c hc => ?_, r19⟩
          rw [e73, if_pos (by omega), h2 65 (by decide) (by decide) (by decide), NC 65 (by decide) (by decide)]; exact c65 c hc
        · have htt : ts.getD i ([], []) ∈ ts := by rw [List.getD_eq_getElem?_getD, List.getElem?_eq_getElem (by omega)]; exact List.getElem_mem _
          obtain ⟨⟨q1, q3, q12, qrow⟩, _⟩ := hC i _ (gd_get (d := ([], [])) (show i < ts.length by omega))
          obtain ⟨y1, y2, y3⟩ := h5 i (by omega)
          have kl := (ksOf_ok q1 _ qrow).2.1
          refine ⟨by rw [e72, if_neg d]; exact y1, fun c hc => ?_, y3.cong ?_ (fun j hj c hc => ?_)⟩
          · rw [e73, if_neg (by omega)]; exact y2 c hc
          · rw [o19 _ (by omega) (by omega), e70]
          · rw [o19 _ (by omega) (by omega), e70]
  obtain ⟨w20, e20, f20, o20, t20⟩ := key
  rw [show (((0 : Int32)), N) = (nI 0, N) from rfl, e20, obs, pU_n, obs, pU_n, obs] at hh
  have eL := err.symm.trans (show fX9_takeTables I = some (nI ts.length, rr) from err)
  have hr : rr = g_up (g_up w20 62 29 0) 62 42 0 := by
    unfold fX9_takeTables at err
    have := congrArg (Option.map Prod.snd) hh
    exact (Option.some.inj this).symm
  subst hr
  refine ⟨_, err, M1, A1, ⟨?_, ?_, ?_, fun t ht => ?_⟩, ?_, ?_, ?_⟩
  · rw [g_up_ne (Or.inr (by decide)), g_up_ne (Or.inr (by decide)), f20, N17, tOf_n]
  · rw [g_up_row (by decide), g_up_row (by decide), o20 0 (by omega), N70]; rfl
  · rw [g_up_row (by decide), g_up_row (by decide), o20 1 (by omega), N0 1 (by omega) (by omega)]; rfl
  · rw [tOf_n] at ht
    rw [tOf_L, tOf_K, g_up_row (by decide), g_up_row (by decide), g_up_row (by decide), g_up_row (by decide), g_up_row (by decide), g_up_row (by decide)]
    exact t20 t ht
  · rw [g_up_row (by decide), g_up_row (by decide), o20 150 (by omega), N0 150 (by omega) (by omega)]
  · rw [g_up_ne (Or.inr (by decide)), g_up_self]
  · rw [g_up_self]
/-- text(0) of the reference: these tables, or all as it was -/
theorem n_text0K {I0 I : gM} (hM : MI false I0 I) (hA : A9 I) {n : Nat} (hn : n ≤ 400) (e : I 62 2 = nI n) : ∃ r, fX9_text 0 I = some r ∧ MI false I0 r.2 ∧ A9 r.2 ∧ r.2 63 = I 63 ∧ r.2 62 12 = I 62 12 ∧
    ((pTabs (I 63) n 4 [] 0 = none ∧ r.1 = -1 ∧ r.2 62 2 = I 62 2 ∧ (∀ j, j = 17 ∨ j = 29 ∨ j = 42 → r.2 62 j = I 62 j) ∧ ∀ k, 68 ≤ k → r.2 k = I k) ∨ ∃ x, pTabs (I 63) n 4 [] 0 = some x ∧ r.1 = nI x.length ∧ r.2 62 2 = 0 ∧ WF (tOf x) ∧ RT r.2 (r.2 70) (tOf x) ∧ r.2 70 150 = 0 ∧ r.2 62 29 = 0 ∧ r.2 62 42 = 0 ∧ r.2 68 = I 68 ∧ r.2 69 = I 69 ∧ r.2 71 = I 71) := by
  obtain ⟨r0, er0, g1, g2, g3, g4, g5⟩ := n_text0 hM hA hn e
  refine ⟨r0, er0, g1, g2, g3, g4, ?_⟩
  obtain ⟨r, er, hMr, h⟩ := n_readAllM hM hn e
  have f := xfX9_readAll _ er
  have hh := er0
  unfold fX9_text at hh
  rw [if_pos rfl, er, obs] at hh
  rcases h with ⟨e1, h1⟩ | ⟨x, e1, h1, _, hC⟩
  · rcases g5 with ⟨_, q2, q3⟩ | ⟨y, q1, _⟩
    · rw [if_neg h1] at hh
      unfold bX9_text_22 at hh
      rw [if_neg (by decide)] at hh
      obtain rfl := Option.some.inj hh
      refine Or.inl ⟨e1, q2, q3, fun j hj => ?_, fun k hk => ?_⟩
      · exact f 62 j (Or.inr (by omega)) (Or.inr (by omega)) (Or.inr (by omega)) (by decide) (by decide) (by decide) (by decide)
      · exact funext fun j => f k j (Or.inl (by omega)) (Or.inl (by omega)) (Or.inl (by omega)) (by omega) (by omega) (by omega) (by omega)
    · rw [e1] at q1; cases q1
  · rcases g5 with ⟨q1, _⟩ | ⟨y, q1, q2, q3⟩
    · rw [e1] at q1; cases q1
    · rw [e1] at q1
      obtain rfl := Option.some.inj q1
      rw [if_pos h1, pU_n, obs] at hh
      have hL := pTabs_L (fun tb htb => by cases htb) e1
      have hM2 : MI false I0 (g_up r.2 62 2 0) := hMr.up (k := 62) rfl (lo := 0) (hi := 400) rfl (by decide) (by decide)
      have hC2 : TsC (g_up r.2 62 2 0) x := ⟨by rw [g_up_ne (Or.inr (by decide))]; exact hC.1, hC.2.1, fun i tb hi => by
        obtain ⟨o1, c1, c2, c3, c4⟩ := hC.2.2 i tb hi
        refine ⟨o1, ?_, fun c hc => ?_, ?_, fun j hj c hc => ?_⟩
        · rw [g_up_row (by decide)]; exact c1
        · rw [g_up_row (by decide)]; exact c2 c hc
        · rw [g_up_row (by decide)]; exact c3
        · rw [g_up_row (by decide)]; exact c4 j hj c hc⟩
      obtain ⟨s, es, hMs, hAs, s1, s2, s3, s4⟩ := n_takeTablesK hM2 hC2 hL
      have fs := xfX9_takeTables _ es
      rw [es, obs] at hh
      obtain rfl := Option.some.inj hh
      have hx : ∀ k, k = 68 ∨ k = 69 ∨ k = 71 → s k = I k := fun k hk => funext fun j => by
        have q := fs k j (Or.inl (by omega)) (by omega) (by omega) (by omega) (Or.inl (by omega)) (Or.inl (by omega))
        rw [g_up_row (by omega)] at q
        refine Eq.trans q ?_
        exact f k j (Or.inl (by omega)) (Or.inl (by omega)) (Or.inl (by omega)) (by omega) (by omega) (by omega) (by omega)
      refine Or.inr ⟨x, e1, q2, q3, WF_tOf hC.2.1 (fun tb htb => ?_), s1, s2, s3, s4, hx 68 (by omega), hx 69 (by omega), hx 71 (by omega)⟩
      obtain ⟨i, hi, ei⟩ := List.getElem_of_mem htb
      exact ⟨(hC.2.2 i tb (by rw [List.getElem?_eq_getElem hi, ei])).1, hL tb htb⟩
