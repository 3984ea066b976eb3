section P_32f_text8
theorem MI.re {b b' : Bool} {I0 I : gM} (h : MI b I0 I) : MI b' I I := ⟨h.1, fun _ _ => rfl⟩
theorem MI.hi {I0 I : gM} (h : MI true I0 I) {k : Nat} (hk : 62 ≤ k) : I k = I0 k := h.2 k (Nat.ble_eq_true_of_le hk)
theorem MI.lo {I0 I : gM} (h : MI false I0 I) {k : Nat} (hk : k < 62) : I k = I0 k := h.2 k (Bool.eq_false_iff.mpr (fun z => by have := Nat.le_of_ble_eq_true z; omega))
theorem A9.hi {I0 I : gM} (h : MI true I0 I) (hA : A9 I0) : A9 I := hA.same (by rw [h.hi (by decide)]) (by rw [h.hi (by decide)]) (by rw [h.hi (by decide)]) (fun k hk => h.hi (by omega))
/-- the class's tape beside the signs of w -/
def B8 (M : gM) (w : Nat → Int32) (n : Nat) : Prop := M 1 0 = nI n ∧ n ≤ 400 ∧ ∀ j, j < n → M 2 j = bc (w j) ∧ 1 ≤ (w j).toInt ∧ (w j).toInt ≤ 255
theorem B8.c {M : gM} {w : Nat → Int32} {n : Nat} (h : B8 M w n) : C8 (P6 M 0) w n 0 := ⟨by rw [P6_j (by decide)]; exact h.1, h.2.1, P6_2, by omega, fun j hj => by rw [P6_k (by decide)]; exact h.2.2 j hj⟩
theorem c_readTables {M : gM} {w : Nat → Int32} {n : Nat} {I0 : gM} (hB : B8 M w n) (hM : MI true I0 M) {r : Int32 × gM} (h : fX6_readTables 8 M = some r) : (∃ x, pTabs w n 4 [] 0 = some x ∧ r.1 = -1) ∨ (pTabs w n 4 [] 0 = none ∧ r.1 ≠ -1) := by
  unfold fX6_readTables at h
  rw [pU_n, obs] at h
  change (fX5_clear 8 (P6 M 0)).bind _ = some r at h
  have hMP : MI true I0 (P6 M 0) := hM.up (k := 1) rfl (lo := 0) (hi := 400) rfl (by decide) (by decide)
  obtain ⟨r2, e2, h⟩ := ob h
  obtain ⟨r2', e2', hM2⟩ := tfX5_clear 8 (P6 M 0) kX5_8 hMP
  rw [e2] at e2'
  cases e2'
  have f := xfX5_clear _ _ e2
  have e8 : r2 8 0 = nI 0 := by
    unfold fX5_clear at e2
    rw [pU_n, obs, pU_n, obs, pU_n, obs] at e2
    obtain ⟨r4, e4, e2⟩ := ob e2
    obtain ⟨r5, e5, e2⟩ := ob e2
    cases e2
    rw [zfJ7_fill_53178 _ _ _ _ e5 8 (by decide), zfJ7_fill_53178 _ _ _ _ e4 8 (by decide), g_up_ne (Or.inr (by decide)), g_up_ne (Or.inr (by decide)), g_up_self]; rfl
  have hT := hB.c.cong (fun j => f 1 j (Or.inl (by decide)) (Or.inl (by decide)) (Or.inl (by decide)) (by decide) (by decide)) (fun j => f 2 j (Or.inl (by decide)) (Or.inl (by decide)) (Or.inl (by decide)) (by decide) (by decide))
  obtain ⟨r3, e3, h⟩ := ob h
  obtain ⟨r3', e3', _, hM3⟩ := tfX6_isClause 8 r2 kX5_8 hM2
  rw [e3] at e3'
  cases e3'
  have h : (lX6_readTables_17 8 (r3.1, nI 1, r3.2)).bind kTs = some r := h
  unfold pTabs
  rcases c_isClause (t := 0) (by omega) hT e8 e3 with ⟨x, s1, s2, s3, p', s4, s5⟩ | ⟨s1, s2 | ⟨s2, s3⟩⟩
  · rw [s1, obs]
    rw [s2] at h
    have q := c_tabsGo 3 [x.1] p' r3.2 r (by omega) rfl s4 s3 hM3 h
    rw [s5] at q
    exact q
  · rw [s1]
    rw [s2] at h
    exact Or.inr ⟨rfl, c_bad0 hM3 h⟩
  · rw [s1]
    rw [s2] at h
    exact Or.inr ⟨rfl, c_badS s3 h⟩
/-- tables told to both -/
theorem text0_both {I : gM} (hR : TPR I) (h8 : MI true I I) (hA : A9 I) : ∃ a b, fX8_text 0 I = some a ∧ fX9_text 0 a.2 = some b ∧ MI true I a.2 ∧ MI false a.2 b.2 ∧ A9 b.2 ∧ TPR b.2 ∧ b.2 0 14 = I 0 14 ∧ b.2 62 12 = I 62 12 := by
  obtain ⟨n, hn, t1, t2, t3⟩ := hR
  obtain ⟨a, ea, _, hMa⟩ := tfX8_text 0 I h8
  have hMa9 : MI false a.2 a.2 := hMa.re
  have k62 := hMa.hi (k := 62) (by decide)
  have k63 := hMa.hi (k := 63) (by decide)
  obtain ⟨b, eb, hMb, hAb, b63, b12, hb⟩ := n_text0 hMa9 (A9.hi hMa hA) hn (by rw [k62]; exact t2)
  rw [k62] at b12 hb
  rw [k63] at b63 hb
  have c0 : ∀ k, k < 62 → b.2 k = a.2 k := fun k hk => hMb.lo hk
  refine ⟨a, b, ea, eb, hMa, hMb, hAb, ?_, ?_, b12⟩
  · unfold fX8_text fX8_textOfTables at ea
    rw [if_pos rfl] at ea
    obtain ⟨s, es, ea⟩ := ob ea
    cases ea
    obtain ⟨r1, e1, es⟩ := ob es
    have f1 := xfX6_readTables _ _ e1
    have g10 : r1.2 1 0 = I 1 0 := f1 1 0 (Or.inr (by decide)) (Or.inl (by decide)) (Or.inl (by decide)) (Or.inl (by decide)) (by decide) (by decide) (by decide) (by decide)
    have g2 : ∀ j, r1.2 2 j = I 2 j := fun j => f1 2 j (Or.inl (by decide)) (Or.inl (by decide)) (Or.inl (by decide)) (Or.inl (by decide)) (by decide) (by decide) (by decide) (by decide)
    rcases c_readTables ⟨t1, hn, t3⟩ h8 e1 with ⟨x, s1, s2⟩ | ⟨s1, s2⟩
    · rcases hb with ⟨z, _⟩ | ⟨y, _, _, b2⟩
      · rw [s1] at z; cases z
      · rw [if_pos s2] at es
        obtain ⟨r2, e2, es⟩ := ob es
        rw [pU_n, obs] at es
        obtain ⟨r4, e4, es⟩ := ob es
        obtain ⟨r5, e5, es⟩ := ob es
        rw [pU_n, obs] at es
        obtain ⟨r7, e7, es⟩ := ob es
        cases es
        refine ⟨0, by omega, ?_, b2, fun j hj => absurd hj (Nat.not_lt_zero j)⟩
        rw [c0 1 (by decide)]
        dsimp only
        rw [xfX8_renew _ e7 1 0 (Or.inl (by decide)) (by decide) (Or.inl (by decide)) (Or.inl (by decide)) (by decide) (by decide) (by decide) (by decide) (by decide) (by decide) (by decide) (by decide) (by decide) (Or.inl (by decide)), g_up_row (by decide), xfX3_clear _ e5 1 0 (Or.inl (by decide)) (Or.inl (by decide)), xfX2_clear _ _ e4 1 0 (Or.inl (by decide)) (Or.inl (by decide)), g_up_self]; rfl
    · rcases hb with ⟨_, _, b2⟩ | ⟨y, z, _⟩
      · rw [if_neg s2] at es
        cases es
        refine ⟨n, hn, ?_, by rw [b2]; exact t2, fun j hj => ?_⟩
        · rw [c0 1 (by decide)]; exact g10.trans t1
        · rw [c0 2 (by decide), b63]
          exact ⟨(g2 j).trans (t3 j hj).1, (t3 j hj).2⟩
      · rw [s1] at z; cases z
  · rw [c0 0 (by decide)]
    unfold fX8_text fX8_textOfTables at ea
    rw [if_pos rfl] at ea
    obtain ⟨s, es, ea⟩ := ob ea
    cases ea
    obtain ⟨r1, e1, es⟩ := ob es
    have f1 := xfX6_readTables _ _ e1 0 14 (Or.inl (by decide)) (Or.inl (by decide)) (Or.inl (by decide)) (Or.inl (by decide)) (by decide) (by decide) (by decide) (by decide)
    by_cases s2 : r1.1 = -1
    · rw [if_pos s2] at es
      obtain ⟨r2, e2, es⟩ := ob es
      rw [pU_n, obs] at es
      obtain ⟨r4, e4, es⟩ := ob es
      obtain ⟨r5, e5, es⟩ := ob es
      rw [pU_n, obs] at es
      obtain ⟨r7, e7, es⟩ := ob es
      cases es
      dsimp only
      rw [xfX8_renew _ e7 0 14 (Or.inl (by decide)) (by decide) (Or.inl (by decide)) (Or.inl (by decide)) (by decide) (by decide) (by decide) (by decide) (by decide) (by decide) (by decide) (by decide) (by decide) (Or.inl (by decide)), g_up_ne (Or.inr (by decide)), xfX3_clear _ e5 0 14 (Or.inl (by decide)) (Or.inl (by decide)), xfX2_clear _ _ e4 0 14 (Or.inl (by decide)) (Or.inl (by decide)), g_up_row (by decide), xfX5_copyFrom _ _ _ e2 0 14 (Or.inl (by decide)) (Or.inl (by decide)) (Or.inl (by decide)) (by decide) (by decide) (by decide) (by decide), f1]
    · rw [if_neg s2] at es
      cases es
      exact f1
end P_32f_text8
section P_33a_steps9
/-! the steps of a script: the grammar, and the reference -/
def pNums (w : Nat → Int32) (n : Nat) : Nat → List Nat → Nat → Option (List Nat × Nat)
  | 0, _, _ => none
  | k + 1, ns, p => (pNum w n 99 p).bind fun x => if k = 0 then some (ns ++ [x.1], x.2) else if hr w n (sk w n x.2) = 44 then pNums w n k (ns ++ [x.1]) (sk w n x.2 + 1) else some (ns ++ [x.1], sk w n x.2)
/-- a step: its sort, its number, its row -/
def pRowed (w : Nat → Int32) (n so q : Nat) : Option ((Nat × Nat × List Nat) × Nat) :=
  if dg (hr w n (sk w n q)) then
    if so ≤ 1 then (pMust w n 58 (sk w n q + 1)).bind fun p3 => (pNums w n 3 [] p3).bind fun y => some ((so, dv (hr w n (sk w n q)), y.1), y.2)
    else some ((so, dv (hr w n (sk w n q)), []), sk w n q + 1)
  else none
def pStep (w : Nat → Int32) (n p : Nat) : Option ((Nat × Nat × List Nat) × Nat) :=
  if hr w n (sk w n p) = 112 then pRowed w n 0 (sk w n p + 1)
  else if hr w n (sk w n p) = 116 then pRowed w n 1 (sk w n p + 1)
  else if hr w n (sk w n p) = 117 then pRowed w n 2 (sk w n p + 1)
  else if hr w n (sk w n p) = 111 then (pNum w n 23 (sk w n p + 1)).bind fun x => some ((3, x.1, []), x.2)
  else none
def se (st : Nat × Nat × List Nat) (c : Nat) : Int32 := if c = 0 then nI st.1 else if c = 1 then nI st.2.1 else ce st.2.2 (c - 2)
/-- the row of a step being read -/
def StS (I M : gM) (b q : Nat) (ns : List Nat) : Prop := M 62 4 = -1 ∧ M 62 3 = nI q ∧ (∀ j, j ≠ 3 → M 62 j = I 62 j) ∧ (∀ a, a ≠ 62 → a ≠ 68 → M a = I a) ∧ ∀ a, M 68 a = if b + 2 ≤ a ∧ a < b + 2 + ns.length then nI (ns.getD (a - (b + 2)) 0) else I 68 a
theorem StS.tp {I M : gM} {b q n p : Nat} {ns : List Nat} (h : StS I M b q ns) (hT : TP9 I n p) (hq : q ≤ n) : TP9 M n q := ⟨by rw [h.2.2.1 2 (by decide)]; exact hT.1, hT.2.1, h.2.1, hq⟩
theorem StS.mv {I M : gM} {b q : Nat} {ns : List Nat} (h : StS I M b q ns) (q' : Nat) : StS I (P9 M q') b q' ns :=
  ⟨by rw [P9_j (by decide)]; exact h.1, P9_3, fun j hj => by rw [P9_j hj]; exact h.2.2.1 j hj, fun a h1 h2 => by rw [P9_k h1]; exact h.2.2.2.1 a h1 h2, fun a => by rw [P9_k (by decide)]; exact h.2.2.2.2 a⟩
theorem StS.wr {I M : gM} {b q : Nat} {ns : List Nat} (h : StS I M b q ns) (v : Nat) : StS I (g_up M 68 (b + 2 + ns.length) (nI v)) b q (ns ++ [v]) := by
  refine ⟨by rw [g_up_row (by decide)]; exact h.1, by rw [g_up_row (by decide)]; exact h.2.1, fun j hj => by rw [g_up_row (by decide)]; exact h.2.2.1 j hj, fun a h1 h2 => by rw [g_up_row h2]; exact h.2.2.2.1 a h1 h2, fun a => ?_⟩
  rw [gu_in, h.2.2.2.2, show (ns ++ [v]).length = ns.length + 1 by rw [List.length_append]; rfl]
  by_cases d : a = b + 2 + ns.length
  · rw [if_pos d, if_pos (by omega), d, Nat.add_sub_cancel_left, List.getD_eq_getElem?_getD, List.getElem?_append_right (Nat.le_refl _), Nat.sub_self]; rfl
  · rw [if_neg d]
    by_cases d2 : b + 2 ≤ a ∧ a < b + 2 + ns.length
    · rw [if_pos d2, if_pos (by omega), List.getD_eq_getElem?_getD, List.getD_eq_getElem?_getD, List.getElem?_append_left (by omega)]
    · rw [if_neg d2, if_neg (by omega)]
theorem s157_0 {b j : Nat} {M : gM} : lX9_readStep_157 (nI b) (0, nI j, M) = some M := by
  unfold lX9_readStep_157
  rw [itO_eq]; dsimp only
  by_cases c : (3 : Int32) ≤ nI j
  · rw [if_pos c, obs]; rfl
  · rw [if_neg c, if_pos rfl, obs]; rfl
theorem s213_0 {j : Nat} {M : gM} : bX9_readStep_213 (nI j) 0 M = some (.inl (0, nI (j + 1), M)) := by
  unfold bX9_readStep_213 bX9_readStep_230
  rw [if_pos rfl, pU_n, obs, Int32.add_zero, g_up_same rfl, nI_1]
theorem s213_1 {j q : Nat} {M : gM} (h : M 62 3 = nI q) : bX9_readStep_213 (nI j) 1 M = some (.inl (1, nI (j + 1), P9 M (q + 1))) := by
  unfold bX9_readStep_213 bX9_readStep_230
  rw [if_neg n10, pU_n, obs, h, nI_1, nI_1]; rfl
noncomputable def k157 (b : Nat) : ((Int32 × Int32 × gM) ⊕ gM) → Option gM := fun y => Sum.elim (fun s' => lX9_readStep_157 (nI b) s') (fun r => some r) y
theorem s157_1 {b j : Nat} {M : gM} (h : j ≤ 2) : lX9_readStep_157 (nI b) (1, nI j, M) = ((fX9_number (99 : Int32) M).bind fun r10 => (wI r10.2 68 300 ((nI b + 2) + nI j) r10.1).bind fun I11 => if (I11 62 4) = (-1) then (if (2 : Int32) ≤ nI j then bX9_readStep_212 (nI j) I11 else (fX9_ahead I11).bind fun r13 => if r13.1 = 44 then bX9_readStep_213 (nI j) (1 : Int32) r13.2 else bX9_readStep_212 (nI j) r13.2) else bX9_readStep_212 (nI j) I11).bind (k157 b) := by
  conv => lhs; unfold lX9_readStep_157
  rw [itO_eq]; dsimp only
  rw [if_neg (show ¬ (3 : Int32) ≤ nI j from mt (nI_leI (a := 3) (by omega) (by omega)).mp (by omega)), if_neg n10]; rfl
theorem n_numsGo {I : gM} {n p b : Nat} (hb : b ≤ 295) (hT : TP9 I n p) : ∀ (k : Nat) (ns : List Nat) (q : Nat) (M : gM), 1 ≤ k → ns.length + k = 3 → StS I M b q ns → q ≤ n →
    ∃ r, lX9_readStep_157 (nI b) (1, nI ns.length, M) = some r ∧ ((pNums (I 63) n k ns q = none ∧ NE r) ∨ ∃ x, pNums (I 63) n k ns q = some x ∧ x.2 ≤ n ∧ x.1.length ≤ 3 ∧ StS I r b x.2 x.1) := by
  intro k
  induction k with
  | zero => intro ns q M h; omega
  | succ k ih =>
    intro ns q M _ hk hS hq
    have e63 : M 63 = I 63 := hS.2.2.2.1 63 (by decide) (by decide)
    have stop : ∀ {N : gM}, (bX9_readStep_212 (nI ns.length) N).bind (k157 b) = some N := by
      intro N
      unfold bX9_readStep_212
      rw [s213_0, obs]
      show lX9_readStep_157 (nI b) (0, nI (ns.length + 1), N) = some N
      exact s157_0
    unfold pNums
    rw [s157_1 (by omega), show (99 : Int32) = nI 99 from rfl, L2, nI_add, nI_add]
    rcases n_number (hS.tp hT hq) hS.1 (hi := 99) (by omega) with ⟨v, q', e1, e2⟩ | ⟨e1, r, e2, hr⟩
    · rw [e63] at e1
      rw [e2, obs, wI_n (by omega) (by omega), obs, e1, obs]
      dsimp only
      have l1 := (pNum_le e1).2.2
      have hS2 := (hS.mv q').wr v
      have el : (ns ++ [v]).length = ns.length + 1 := by rw [List.length_append]; rfl
      rw [if_pos hS2.1]
      by_cases c0 : k = 0
      · rw [if_pos ((nI_leI (by omega) (by omega)).mpr (by omega)), if_pos c0]
        exact ⟨_, stop, Or.inr ⟨_, rfl, l1, by rw [el]; omega, hS2⟩⟩
      · have hs := sk_le (w := I 63) l1
        have ea := n_ahead (hS2.tp hT l1)
        rw [hS2.2.2.2.1 63 (by decide) (by decide)] at ea
        rw [if_neg (mt (nI_leI (by omega) (by omega)).mp (by omega)), ea, obs, if_neg c0]
        dsimp only
        by_cases c1 : CLeapJoinLaw_law_r3781_b291ec.hr (I 63) n (sk (I 63) n q') = 44
        · have l2 := hr_lt (w := I 63) (n := n) (p := sk (I 63) n q') (by rw [c1]; decide)
          rw [if_pos c1, if_pos c1, s213_1 P9_3, obs, P9_P9, ← el]
          show ∃ r, lX9_readStep_157 (nI b) (1, nI (ns ++ [v]).length, _) = some r ∧ _
          exact ih (ns ++ [v]) (sk (I 63) n q' + 1) _ (by omega) (by rw [el]; omega) (hS2.mv _) (by omega)
        · rw [if_neg c1, if_neg c1]
          exact ⟨_, stop, Or.inr ⟨_, rfl, hs.2, by rw [el]; omega, hS2.mv _⟩⟩
    · rw [e63] at e1
      rw [e2, obs, wI_n (by omega) (by omega), obs, e1]
      have hN : NE (g_up r.2 68 (b + 2 + ns.length) r.1) := show g_up r.2 68 (b + 2 + ns.length) r.1 62 4 ≠ -1 by rw [g_up_row (by decide)]; exact hr
      rw [if_neg hN]
      exact ⟨_, stop, Or.inl ⟨rfl, hN⟩⟩
theorem n_fill103 {M : gM} {b : Nat} (hb : b ≤ 295) : T (lX9_readStep_103 (nI b) (nI 0, M)) (fun r => (∀ q, q ≠ 68 → r q = M q) ∧ ∀ a, r 68 a = if b + 2 ≤ a ∧ a < b + 5 then -1 else M 68 a) := by
  unfold lX9_readStep_103
  refine t_it (P := fun s => ∃ k, s.1 = nI k ∧ k ≤ 3 ∧ (∀ q, q ≠ 68 → s.2 q = M q) ∧ ∀ a, s.2 68 a = if b + 2 ≤ a ∧ a < b + 2 + k then -1 else M 68 a) (μ := fun s => 20 - s.1.toInt.toNat) (fun s p => ?_) ⟨0, rfl, by omega, fun _ _ => rfl, fun a => by rw [if_neg (by omega)]⟩
  obtain ⟨s1, s2⟩ := s
  obtain ⟨k, e1, hk, h2, h3⟩ := p
  dsimp only at e1 h2 h3
  subst e1
  dsimp only
  refine t_ite (fun c => ?_) (fun c => ?_)
  · have c := (nI_leI (a := 3) (b := k) (by omega) (by omega)).mp c
    have : k = 3 := by omega
    subst this
    exact t_ret (show _ ∧ _ from ⟨h2, h3⟩)
  · have c := mt (nI_leI (a := 3) (b := k) (by omega) (by omega)).mpr c
    rw [L2, nI_add, nI_add]
    refine t_be (wI_n (by omega) (by omega)) ?_
    rw [nI_1]
    refine t_nx ?_ (show 20 - (nI (k + 1)).toInt.toNat < 20 - (nI k).toInt.toNat by rw [nIt (by omega), nIt (by omega)]; omega)
    refine ⟨k + 1, rfl, by omega, fun q hq => ?_, fun a => ?_⟩
    · dsimp only; rw [g_up_row hq]; exact h2 q hq
    · dsimp only
      rw [gu_in, h3]
      by_cases d : a = b + 2 + k
      · rw [if_pos d, if_pos (by omega)]
      · rw [if_neg d]
        by_cases d2 : b + 2 ≤ a ∧ a < b + 2 + k
        · rw [if_pos d2, if_pos (by omega)]
        · rw [if_neg d2, if_neg (by omega)]
/-- a step is read at b -/
def SpS (I M : gM) (b q : Nat) (st : Nat × Nat × List Nat) : Prop := M 62 4 = -1 ∧ M 62 3 = nI q ∧ (∀ j, j ≠ 3 → M 62 j = I 62 j) ∧ (∀ a, a ≠ 62 → a ≠ 68 → M a = I a) ∧ ∀ a, M 68 a = if b ≤ a ∧ a < b + 5 then se st (a - b) else I 68 a
theorem n_99E {M : gM} {b so : Nat} {x : Int32} (hb : b ≤ 295) (hM : NE M) : ∃ r, bX9_readStep_99 (nI b) (nI so) x (nI (b + 1)) M = some r ∧ NE r := by
  unfold bX9_readStep_99
  rw [wI_n (by omega) (by omega), obs]
  obtain ⟨w8, e8, h1, _⟩ := n_fill103 (M := g_up M 68 (b + 1) x) hb
  rw [show ((0 : Int32), g_up M 68 (b + 1) x) = (nI 0, g_up M 68 (b + 1) x) from rfl, e8, obs]
  have hw : NE w8 := show w8 62 4 ≠ -1 by rw [h1 62 (by decide), g_up_row (by decide)]; exact hM
  by_cases c : nI so ≤ 1
  · rw [if_pos c, e_must hw, obs, if_neg hw]
    unfold bX9_readStep_152
    rw [show ((0 : Int32), (0 : Int32), w8) = (0, nI 0, w8) from rfl, s157_0, obs]
    exact ⟨w8, rfl, hw⟩
  · rw [if_neg c]
    exact ⟨w8, rfl, hw⟩
theorem n_99 {I M : gM} {n p b so a q : Nat} (hb : b ≤ 295) (hso : so ≤ 3) (hT : TP9 I n p) (hq : q ≤ n) (e4 : M 62 4 = -1) (e3 : M 62 3 = nI q) (ej : ∀ j, j ≠ 3 → M 62 j = I 62 j) (ek : ∀ x, x ≠ 62 → x ≠ 68 → M x = I x) (e68 : ∀ x, M 68 x = if x = b then nI so else I 68 x) :
    ∃ r, bX9_readStep_99 (nI b) (nI so) (nI a) (nI (b + 1)) M = some r ∧
      (((if so ≤ 1 then (pMust (I 63) n 58 q).bind fun p3 => (pNums (I 63) n 3 [] p3).bind fun y => some ((so, a, y.1), y.2) else some ((so, a, []), q)) = none ∧ NE r) ∨
       ∃ x, (if so ≤ 1 then (pMust (I 63) n 58 q).bind fun p3 => (pNums (I 63) n 3 [] p3).bind fun y => some ((so, a, y.1), y.2) else some ((so, a, []), q)) = some x ∧ x.2 ≤ n ∧ SpS I r b x.2 x.1) := by
  unfold bX9_readStep_99
  rw [wI_n (by omega) (by omega), obs]
  obtain ⟨N, e8, h1, h2⟩ := n_fill103 (M := g_up M 68 (b + 1) (nI a)) hb
  rw [show ((0 : Int32), g_up M 68 (b + 1) (nI a)) = (nI 0, g_up M 68 (b + 1) (nI a)) from rfl, e8, obs]
  have N62 : N 62 = M 62 := by rw [h1 62 (by decide), g_up_row (by decide)]
  have Nk : ∀ x, x ≠ 62 → x ≠ 68 → N x = I x := fun x y1 y2 => by rw [h1 x y2, g_up_row y2]; exact ek x y1 y2
  have N68 : ∀ x, N 68 x = if b ≤ x ∧ x < b + 5 then se (so, a, []) (x - b) else I 68 x := fun x => by
    rw [h2, gu_in, e68]
    unfold se ce
    by_cases d : b ≤ x ∧ x < b + 5
    · rw [if_pos d]
      by_cases d0 : x = b
      · rw [if_neg (by omega), if_neg (by omega), if_pos d0, if_pos (by omega)]
      · by_cases d1 : x = b + 1
        · rw [if_neg (by omega), if_pos d1, if_neg (by omega), if_pos (by omega)]
        · rw [if_pos (by omega), if_neg (by omega), if_neg (by omega), if_neg (by simp only [List.length_nil]; omega)]
    · rw [if_neg d, if_neg (by omega), if_neg (by omega), if_neg (by omega)]
  by_cases c : so ≤ 1
  · rw [if_pos (show nI so ≤ (1 : Int32) from (nI_leI (b := 1) (by omega) (by omega)).mpr c), if_pos c]
    have hTN : TP9 N n q := ⟨by rw [N62, ej 2 (by decide)]; exact hT.1, hT.2.1, by rw [N62]; exact e3, hq⟩
    have N4 : N 62 4 = -1 := by rw [N62]; exact e4
    have N63 : N 63 = I 63 := Nk 63 (by decide) (by decide)
    rcases n_must hTN N4 58 with ⟨p3, m1, m2⟩ | ⟨m1, r, m2, hr⟩
    · rw [N63] at m1
      have l3 := pMust_le (by decide) m1
      rw [m2, obs, m1, obs, if_pos (show P9 N p3 62 4 = -1 by rw [P9_j (by decide)]; exact N4)]
      unfold bX9_readStep_152
      have hS : StS N (P9 N p3) b p3 [] := ⟨by rw [P9_j (by decide)]; exact N4, P9_3, fun j hj => P9_j hj, fun a h1 _ => P9_k h1, fun a => by rw [P9_k (by decide), if_neg (by simp only [List.length_nil]; omega)]⟩
      obtain ⟨r, e5, h5⟩ := n_numsGo hb hTN 3 [] p3 (P9 N p3) (by omega) rfl hS l3
      rw [show ((1 : Int32), (0 : Int32), P9 N p3) = (1, nI ([] : List Nat).length, P9 N p3) from rfl, e5, obs]
      rw [N63] at h5
      refine ⟨r, rfl, ?_⟩
      rcases h5 with ⟨h6, h7⟩ | ⟨x, h6, h7, h8, g4, g3, gj, gk, g68⟩
      · rw [h6]; exact Or.inl ⟨rfl, h7⟩
      · rw [h6]
        refine Or.inr ⟨_, rfl, h7, g4, g3, fun j hj => ?_, fun y y1 y2 => (gk y y1 y2).trans (Nk y y1 y2), fun y => ?_⟩
        · rw [gj j hj, N62]; exact ej j hj
        · rw [g68, N68]
          unfold se ce
          dsimp only
          by_cases d : b ≤ y ∧ y < b + 5
          · rw [if_pos d, if_pos d]
            by_cases d2 : b + 2 ≤ y ∧ y < b + 2 + x.1.length
            · rw [if_pos d2, if_neg (by omega), if_neg (by omega), if_pos (by omega), show y - b - 2 = y - (b + 2) by omega]
            · rw [if_neg d2]
              by_cases d0 : y - b = 0
              · rw [if_pos d0, if_pos d0]
              · rw [if_neg d0, if_neg d0]
                by_cases d1 : y - b = 1
                · rw [if_pos d1, if_pos d1]
                · rw [if_neg d1, if_neg d1, if_neg (by simp only [List.length_nil]; omega), if_neg (by omega)]
          · rw [if_neg d, if_neg d, if_neg (by omega)]
    · rw [N63] at m1
      rw [m2, obs, m1, if_neg hr]
      unfold bX9_readStep_152
      rw [show ((0 : Int32), (0 : Int32), r) = (0, nI 0, r) from rfl, s157_0, obs]
      exact ⟨r, rfl, Or.inl ⟨rfl, hr⟩⟩
  · rw [if_neg (show ¬ nI so ≤ (1 : Int32) from mt (nI_leI (b := 1) (by omega) (by omega)).mp c), if_neg c]
    refine ⟨N, rfl, Or.inr ⟨_, rfl, hq, by rw [N62]; exact e4, by rw [N62]; exact e3, fun j hj => by rw [N62]; exact ej j hj, Nk, N68⟩⟩
end P_33a_steps9
section P_33b_scripts9
theorem n_46 {I : gM} {n p b so q : Nat} (hb : b ≤ 295) (hso : so ≤ 2) (hT : TP9 I n p) (hw : I 62 4 = -1) (hq : q < n) :
    ∃ r, bX9_readStep_46 (nI b) (nI so) (P9 I q) = some r ∧ ((pRowed (I 63) n so (q + 1) = none ∧ NE r) ∨ ∃ x, pRowed (I 63) n so (q + 1) = some x ∧ x.2 ≤ n ∧ SpS I r b x.2 x.1) := by
  unfold bX9_readStep_46 pRowed
  rw [if_neg (nI_m1 (by omega)), pU_n, obs, P9_3, nI_1, P9_pU, wI_n (by omega) (by omega), obs, if_neg (show ¬ nI so = (3 : Int32) from fun e => by have := nI_inj (b := 3) e (by omega) (by omega); omega)]
  generalize hM : g_up (P9 I (q + 1)) 68 b (nI so) = M
  have M62 : M 62 = P9 I (q + 1) 62 := by rw [← hM, g_up_row (by decide)]
  have Mk : ∀ x, x ≠ 62 → x ≠ 68 → M x = I x := fun x y1 y2 => by rw [← hM, g_up_row y2, P9_k y1]
  have M68 : ∀ x, M 68 x = if x = b then nI so else I 68 x := fun x => by rw [← hM, gu_in, P9_k (by decide)]
  have hTM : TP9 M n (q + 1) := ⟨by rw [M62, P9_j (by decide)]; exact hT.1, hT.2.1, by rw [M62, P9_3], by omega⟩
  have M63 : M 63 = I 63 := Mk 63 (by decide) (by decide)
  rcases n_digit hTM (by rw [M62, P9_j (by decide)]; exact hw) with ⟨d1, d2⟩ | ⟨d1, r, d2, hr⟩
  · rw [M63] at d1 d2
    have l1 := hr_lt (dg_ne d1)
    rw [d2, obs, if_pos d1, nI_1]
    dsimp only
    exact n_99 hb (by omega) hT (by omega) (by rw [P9_j (by decide), M62, P9_j (by decide)]; exact hw) P9_3 (fun j hj => by rw [P9_j hj, M62, P9_j hj]) (fun x y1 y2 => by rw [P9_k y1]; exact Mk x y1 y2) (fun x => by rw [P9_k (by decide)]; exact M68 x)
  · rw [M63] at d1
    rw [d2, obs, if_neg d1, nI_1]
    obtain ⟨r', e, h⟩ := n_99E (so := so) (x := r.1) hb hr
    exact ⟨r', e, Or.inl ⟨rfl, h⟩⟩
theorem n_46o {I : gM} {n p b q : Nat} (hb : b ≤ 295) (hT : TP9 I n p) (hw : I 62 4 = -1) (hq : q < n) :
    ∃ r, bX9_readStep_46 (nI b) (nI 3) (P9 I q) = some r ∧ ((((pNum (I 63) n 23 (q + 1)).bind fun x => some (((3, x.1, []), x.2) : (Nat × Nat × List Nat) × Nat)) = none ∧ NE r) ∨ ∃ x, ((pNum (I 63) n 23 (q + 1)).bind fun x => some (((3, x.1, []), x.2) : (Nat × Nat × List Nat) × Nat)) = some x ∧ x.2 ≤ n ∧ SpS I r b x.2 x.1) := by
  unfold bX9_readStep_46
  rw [if_neg (nI_m1 (by omega)), pU_n, obs, P9_3, nI_1, P9_pU, wI_n (by omega) (by omega), obs, if_pos (show nI 3 = (3 : Int32) from rfl)]
  generalize hM : g_up (P9 I (q + 1)) 68 b (nI 3) = M
  have M62 : M 62 = P9 I (q + 1) 62 := by rw [← hM, g_up_row (by decide)]
  have Mk : ∀ x, x ≠ 62 → x ≠ 68 → M x = I x := fun x y1 y2 => by rw [← hM, g_up_row y2, P9_k y1]
  have M68 : ∀ x, M 68 x = if x = b then nI 3 else I 68 x := fun x => by rw [← hM, gu_in, P9_k (by decide)]
  have hTM : TP9 M n (q + 1) := ⟨by rw [M62, P9_j (by decide)]; exact hT.1, hT.2.1, by rw [M62, P9_3], by omega⟩
  have M63 : M 63 = I 63 := Mk 63 (by decide) (by decide)
  rcases n_number hTM (by rw [M62, P9_j (by decide)]; exact hw) (hi := 23) (by omega) with ⟨v, q', d1, d2⟩ | ⟨d1, r, d2, hr⟩
  · rw [M63] at d1
    have l1 := (pNum_le d1).2.2
    rw [show (23 : Int32) = nI 23 from rfl, d2, obs, d1, obs, nI_1]
    dsimp only
    have h := n_99 (so := 3) (a := v) (q := q') (M := P9 M q') hb (by omega) hT l1 (by rw [P9_j (by decide), M62, P9_j (by decide)]; exact hw) P9_3 (fun j hj => by rw [P9_j hj, M62, P9_j hj]) (fun x y1 y2 => by rw [P9_k y1]; exact Mk x y1 y2) (fun x => by rw [P9_k (by decide)]; exact M68 x)
    rw [if_neg (show ¬ 3 ≤ 1 by decide)] at h
    exact h
  · rw [M63] at d1
    rw [show (23 : Int32) = nI 23 from rfl, d2, obs, d1, nI_1]
    obtain ⟨r', e, h⟩ := n_99E (so := 3) (x := r.1) hb hr
    exact ⟨r', e, Or.inl ⟨rfl, h⟩⟩
theorem n_readStep {I : gM} {n p b : Nat} (hb : b ≤ 295) (hT : TP9 I n p) (hw : I 62 4 = -1) :
    ∃ r, fX9_readStep (nI b) I = some r ∧ ((pStep (I 63) n p = none ∧ NE r) ∨ ∃ x, pStep (I 63) n p = some x ∧ x.2 ≤ n ∧ SpS I r b x.2 x.1) := by
  have hs := sk_le (w := I 63) hT.2.2.2
  unfold fX9_readStep pStep
  rw [n_ahead hT, obs]
  dsimp only
  have lt : ∀ {c : Int32}, c ≠ -1 → CLeapJoinLaw_law_r3781_b291ec.hr (I 63) n (sk (I 63) n p) = c → sk (I 63) n p < n := fun hc e => hr_lt (w := I 63) (by rw [e]; exact hc)
  by_cases c1 : CLeapJoinLaw_law_r3781_b291ec.hr (I 63) n (sk (I 63) n p) = 112
  · rw [if_pos c1, if_pos c1]
    exact n_46 (so := 0) hb (by omega) hT hw (lt (by decide) c1)
  rw [if_neg c1, if_neg c1]
  by_cases c2 : CLeapJoinLaw_law_r3781_b291ec.hr (I 63) n (sk (I 63) n p) = 116
  · rw [if_pos c2, if_pos c2]
    exact n_46 (so := 1) hb (by omega) hT hw (lt (by decide) c2)
  rw [if_neg c2, if_neg c2]
  by_cases c3 : CLeapJoinLaw_law_r3781_b291ec.hr (I 63) n (sk (I 63) n p) = 117
  · rw [if_pos c3, if_pos c3]
    exact n_46 (so := 2) hb (by omega) hT hw (lt (by decide) c3)
  rw [if_neg c3, if_neg c3]
  by_cases c4 : CLeapJoinLaw_law_r3781_b291ec.hr (I 63) n (sk (I 63) n p) = 111
  · rw [if_pos c4, if_pos c4]
    exact n_46o hb hT hw (lt (by decide) c4)
  rw [if_neg c4, if_neg c4]
  unfold bX9_readStep_46
  obtain ⟨r, er, hr⟩ := n_bad (hT.at hs.2)
  rw [if_pos rfl, er, obs]
  exact ⟨r, rfl, Or.inl ⟨rfl, hr⟩⟩
/-! a script -/
def pScr (w : Nat → Int32) (n : Nat) : Nat → List (Nat × Nat × List Nat) → Nat → Option (List (Nat × Nat × List Nat))
  | 0, _, _ => none
  | k + 1, ss, p => (pStep w n p).bind fun x =>
    if hr w n (sk w n x.2) = 59 ∧ k ≠ 0 then pScr w n k (ss ++ [x.1]) (sk w n x.2 + 1)
    else if hr w n (sk w n x.2) = -1 then some (ss ++ [x.1]) else none
/-- the steps ss of script s are read -/
def SsS (I M : gM) (s : Nat) (ss : List (Nat × Nat × List Nat)) : Prop := (∀ j, j ≠ 3 → M 62 j = I 62 j) ∧ (∀ a, a ≠ 62 → a ≠ 68 → a ≠ 69 → M a = I a) ∧ (∀ a, M 69 a = if a = s then nI ss.length else I 69 a) ∧
  ∀ a, M 68 a = if 60 * s ≤ a ∧ a < 60 * s + 5 * ss.length then se (ss.getD ((a - 60 * s) / 5) (0, 0, [])) ((a - 60 * s) % 5) else I 68 a
theorem SsS.mv {I M : gM} {s : Nat} {ss : List (Nat × Nat × List Nat)} (h : SsS I M s ss) (q : Nat) : SsS I (P9 M q) s ss :=
  ⟨fun j hj => by rw [P9_j hj]; exact h.1 j hj, fun a h1 h2 h3 => by rw [P9_k h1]; exact h.2.1 a h1 h2 h3, fun a => by rw [P9_k (by decide)]; exact h.2.2.1 a, fun a => by rw [P9_k (by decide)]; exact h.2.2.2 a⟩
theorem s77_0 {M : gM} : bX9_readScript_77 0 M = some (.inl (0, M)) := by
  unfold bX9_readScript_77 bX9_readScript_92
  rw [if_pos rfl, pU_n, obs, Int32.add_zero, g_up_same rfl]
theorem s77_1 {M : gM} {q : Nat} (h : M 62 3 = nI q) : bX9_readScript_77 1 M = some (.inl (1, P9 M (q + 1))) := by
  unfold bX9_readScript_77 bX9_readScript_92
  rw [if_neg n10, pU_n, obs, h, nI_1]; rfl
theorem s13_0 {s : Nat} {M : gM} : lX9_readScript_13 (nI s) (0, M) = some M := by
  unfold lX9_readScript_13
  rw [itO_eq]; dsimp only
  rw [if_pos rfl, obs]; rfl
noncomputable def k13 (s : Nat) : ((Int32 × gM) ⊕ gM) → Option gM := fun y => Sum.elim (fun s' => lX9_readScript_13 (nI s) s') (fun r => some r) y
theorem s13_1 {s : Nat} {M : gM} : lX9_readScript_13 (nI s) (1, M) = ((rI 5 (M 69) (nI s)).bind fun u3 => (fX9_readStep ((5 : Int32) * (((12 : Int32) * (nI s)) + u3)) M).bind fun r4 => (rI 5 (r4 69) (nI s)).bind fun u5 => (wI r4 69 5 (nI s) (u5 + 1)).bind fun I6 => if (I6 62 4) = (-1) then (fX9_ahead I6).bind fun r7 => if r7.1 = 59 then (rI 5 (r7.2 69) (nI s)).bind fun u8 => if (12 : Int32) ≤ u8 then bX9_readScript_76 r7.2 else bX9_readScript_77 (1 : Int32) r7.2 else bX9_readScript_76 r7.2 else bX9_readScript_76 I6).bind (k13 s) := by
  conv => lhs; unfold lX9_readScript_13
  rw [itO_eq]; dsimp only
  rw [if_neg n10]; rfl
theorem n_stepsGo {I : gM} {n p s : Nat} (hs4 : s ≤ 4) (hT : TP9 I n p) (hw : I 62 4 = -1) : ∀ (k : Nat) (ss : List (Nat × Nat × List Nat)) (q : Nat) (M : gM), 1 ≤ k → ss.length + k = 12 → SsS I M s ss → M 62 3 = nI q → q ≤ n →
    ∃ r, ((lX9_readScript_13 (nI s) (1, M)).bind fun w10 => fX9_ends w10) = some r ∧ ((pScr (I 63) n k ss q = none ∧ r.1 ≠ -1) ∨ ∃ x, pScr (I 63) n k ss q = some x ∧ r.1 = -1 ∧ SsS I r.2 s x) := by
  intro k
  induction k with
  | zero => intro ss q M h; omega
  | succ k ih =>
    intro ss q M _ hk hS e3 hq
    have M4 : M 62 4 = -1 := by rw [hS.1 4 (by decide)]; exact hw
    have M63 : M 63 = I 63 := hS.2.1 63 (by decide) (by decide) (by decide)
    have M69 : M 69 s = nI ss.length := by rw [hS.2.2.1, if_pos rfl]
    have hTM : TP9 M n q := ⟨by rw [hS.1 2 (by decide)]; exact hT.1, hT.2.1, e3, hq⟩
    obtain ⟨r, er, h⟩ := n_readStep (b := 5 * (12 * s + ss.length)) (by omega) hTM M4
    rw [M63] at h
    have f := xfX9_readStep _ _ er
    have r69 : r 69 = M 69 := funext fun j => f 69 j (Or.inl (by decide)) (Or.inl (by decide)) (by decide)
    unfold pScr
    rw [s13_1, rI_n (by omega) (by omega), obs, M69, a12, L5, nI_mul, er, obs, rI_n (by omega) (by omega), obs, r69, M69, nI_1, wI_n (by omega) (by omega), obs]
    generalize hN : g_up r 69 s (nI (ss.length + 1)) = N
    have Nk : ∀ a, a ≠ 69 → N a = r a := fun a ha => by rw [← hN, g_up_row ha]
    have N69 : ∀ a, N 69 a = if a = s then nI (ss.length + 1) else I 69 a := fun a => by
      rw [← hN, gu_in, r69, hS.2.2.1]
      by_cases d : a = s
      · rw [if_pos d, if_pos d]
      · rw [if_neg d, if_neg d, if_neg d]
    rcases h with ⟨e1, hr⟩ | ⟨x, e1, hx, g4, g3, gj, gk, g68⟩
    · have hN4 : NE N := by
        show N 62 4 ≠ -1
        rw [Nk 62 (by decide)]; exact hr
      rw [if_neg hN4, e1]
      unfold bX9_readScript_76
      rw [s77_0, obs]
      show ∃ r', ((lX9_readScript_13 (nI s) (0, N)).bind fun w => fX9_ends w) = some r' ∧ _
      rw [s13_0, obs, e_ends hN4]
      exact ⟨_, rfl, Or.inl ⟨rfl, hN4⟩⟩
    · have hTN : TP9 N n x.2 := ⟨by rw [Nk 62 (by decide), gj 2 (by decide)]; exact hTM.1, hT.2.1, by rw [Nk 62 (by decide)]; exact g3, hx⟩
      have N63 : N 63 = I 63 := by rw [Nk 63 (by decide), gk 63 (by decide) (by decide), M63]
      have N4 : N 62 4 = -1 := by rw [Nk 62 (by decide)]; exact g4
      have hs := sk_le (w := I 63) hx
      have ea := n_ahead hTN
      rw [N63] at ea
      have el : (ss ++ [x.1]).length = ss.length + 1 := by rw [List.length_append]; rfl
      have hSN : SsS I N s (ss ++ [x.1]) := by
        refine ⟨fun j hj => ?_, fun a h1 h2 h3 => ?_, fun a => ?_, fun a => ?_⟩
        · rw [Nk 62 (by decide), gj j hj]; exact hS.1 j hj
        · rw [Nk a h3, gk a h1 h2]; exact hS.2.1 a h1 h2 h3
        · rw [N69, el]
        · rw [Nk 68 (by decide), g68, hS.2.2.2, el]
          by_cases d1 : 5 * (12 * s + ss.length) ≤ a ∧ a < 5 * (12 * s + ss.length) + 5
          · rw [if_pos d1, if_pos (by omega), show (a - 60 * s) / 5 = ss.length by omega, show (a - 60 * s) % 5 = a - 5 * (12 * s + ss.length) by omega, List.getD_eq_getElem?_getD, List.getElem?_append_right (Nat.le_refl _), Nat.sub_self]; rfl
          · rw [if_neg d1]
            by_cases d2 : 60 * s ≤ a ∧ a < 60 * s + 5 * ss.length
            · rw [if_pos d2, if_pos (by omega), List.getD_eq_getElem?_getD, List.getD_eq_getElem?_getD, List.getElem?_append_left (by omega)]
            · rw [if_neg d2, if_neg (by omega)]
      rw [if_pos N4, ea, obs, e1, obs]
      dsimp only
      have hTS := hTN.at (q := sk (I 63) n x.2) hs.2
      have W2 : P9 N (sk (I 63) n x.2) 63 = I 63 := (P9_k (by decide)).trans N63
      have stop : ∃ r', (((bX9_readScript_76 (P9 N (sk (I 63) n x.2))).bind (k13 s)).bind fun w => fX9_ends w) = some r' ∧ (((if hr (I 63) n (sk (I 63) n x.2) = -1 then some (ss ++ [x.1]) else none) = none ∧ r'.1 ≠ -1) ∨ ∃ y, (if hr (I 63) n (sk (I 63) n x.2) = -1 then some (ss ++ [x.1]) else none) = some y ∧ r'.1 = -1 ∧ SsS I r'.2 s y) := by
        unfold bX9_readScript_76
        rw [s77_0, obs]
        show ∃ r', ((lX9_readScript_13 (nI s) (0, _)).bind fun w => fX9_ends w) = some r' ∧ _
        rw [s13_0, obs]
        rcases n_ends hTS (by rw [P9_j (by decide)]; exact N4) with ⟨z1, z2⟩ | ⟨z1, r', z2, z3, z4⟩
        · rw [W2, sk_sk hx] at z1 z2
          rw [z2, if_pos z1, P9_P9]
          exact ⟨_, rfl, Or.inr ⟨_, rfl, rfl, hSN.mv _⟩⟩
        · rw [W2, sk_sk hx] at z1
          rw [z2, if_neg z1]
          exact ⟨_, rfl, Or.inl ⟨rfl, z3⟩⟩
      by_cases c1 : hr (I 63) n (sk (I 63) n x.2) = 59
      · have l1 := hr_lt (w := I 63) (n := n) (p := sk (I 63) n x.2) (by rw [c1]; decide)
        have e9 : P9 N (sk (I 63) n x.2) 69 s = nI (ss.length + 1) := by rw [P9_k (by decide), N69, if_pos rfl]
        rw [if_pos c1, rI_n (by omega) (by omega), obs, e9]
        by_cases c2 : k = 0
        · rw [L12, if_pos ((nI_leI (by omega) (by omega)).mpr (by omega)), if_neg (fun z => z.2 c2)]
          exact stop
        · rw [L12, if_neg (mt (nI_leI (by omega) (by omega)).mp (by omega)), if_pos ⟨c1, c2⟩, s77_1 P9_3, obs, P9_P9]
          exact ih (ss ++ [x.1]) (sk (I 63) n x.2 + 1) (P9 N (sk (I 63) n x.2 + 1)) (by omega) (by rw [el]; omega) (hSN.mv _) P9_3 (by omega)
      · rw [if_neg c1, if_neg (fun z => c1 z.1)]
        exact stop
/-- the reference reads a script: told, or wrong -/
theorem n_readScript {I : gM} {n s : Nat} (hs : s ≤ 4) (hn : n ≤ 400) (e2 : I 62 2 = nI n) : ∃ r, fX9_readScript (nI s) I = some r ∧ ((pScr (I 63) n 12 [] 0 = none ∧ r.1 ≠ -1) ∨ ∃ x, pScr (I 63) n 12 [] 0 = some x ∧ r.1 = -1 ∧ r.2 69 s = nI x.length ∧ (∀ a, a ≠ s → r.2 69 a = I 69 a) ∧ ∀ a, r.2 68 a = if 60 * s ≤ a ∧ a < 60 * s + 5 * x.length then se (x.getD ((a - 60 * s) / 5) (0, 0, [])) ((a - 60 * s) % 5) else I 68 a) := by
  unfold fX9_readScript fX9_begins
  rw [pU_n, obs, pU_n, obs, obs, wI_n (by omega) (by omega), obs]
  generalize hN : g_up (g_up (g_up I 62 3 0) 62 4 (-1)) 69 s 0 = N
  have Nj : ∀ j, j ≠ 3 → j ≠ 4 → N 62 j = I 62 j := fun j h1 h2 => by rw [← hN, g_up_row (by decide), g_up_ne (Or.inr h2), g_up_ne (Or.inr h1)]
  have N3 : N 62 3 = nI 0 := by rw [← hN, g_up_row (by decide), g_up_ne (Or.inr (by decide)), g_up_self]; rfl
  have N4 : N 62 4 = -1 := by rw [← hN, g_up_row (by decide), g_up_self]
  have Nk : ∀ k, k ≠ 62 → k ≠ 69 → N k = I k := fun k h1 h2 => by rw [← hN, g_up_row h2, g_up_row h1, g_up_row h1]
  have N69 : ∀ a, N 69 a = if a = s then nI 0 else I 69 a := fun a => by rw [← hN, gu_in, g_up_row (by decide), g_up_row (by decide)]; rfl
  have hTN : TP9 N n 0 := ⟨by rw [Nj 2 (by decide) (by decide)]; exact e2, hn, N3, by omega⟩
  obtain ⟨r, er, h⟩ := n_stepsGo hs hTN N4 12 [] 0 N (by omega) rfl ⟨fun _ _ => rfl, fun _ _ _ _ => rfl, fun a => by
    by_cases d : a = s
    · rw [if_pos d, N69, if_pos d]; rfl
    · rw [if_neg d], fun a => by rw [if_neg (by simp only [List.length_nil]; omega)]⟩ N3 (by omega)
  rw [Nk 63 (by decide) (by decide)] at h
  obtain ⟨w7, e7, h7⟩ := ob er
  rw [e7, obs, h7, obs]
  refine ⟨_, rfl, ?_⟩
  rcases h with ⟨e1, h1⟩ | ⟨x, e1, h1, _, _, h3, h4⟩
  · exact Or.inl ⟨e1, h1⟩
  · refine Or.inr ⟨x, e1, h1, by rw [h3, if_pos rfl], fun a ha => by rw [h3, if_neg ha, N69, if_neg ha], fun a => by rw [h4, Nk 68 (by decide) (by decide)]⟩
end P_33b_scripts9
section P_33c_scripts8
/-! the class reads a script -/
/-- a script's cells hold these steps -/
def ScK (M : gM) (k : Nat) (ss : List (Nat × Nat × List Nat)) : Prop := M k 0 = nI ss.length ∧ ss.length ≤ 12 ∧ ∀ a, a < 5 * ss.length → M (k + 1) a = se (ss.getD (a / 5) (0, 0, [])) (a % 5)
theorem gd_lt {α : Type} {l : List α} {x d : α} {i : Nat} (h : i < l.length) : (l ++ [x]).getD i d = l.getD i d := by
  rw [List.getD_eq_getElem?_getD, List.getD_eq_getElem?_getD, List.getElem?_append_left h]
theorem gd_eq {α : Type} {l : List α} {x d : α} : (l ++ [x]).getD l.length d = x := by
  rw [List.getD_eq_getElem?_getD, List.getElem?_append_right (Nat.le_refl _), Nat.sub_self]; rfl
theorem ln1 {α : Type} {l : List α} {x : α} : (l ++ [x]).length = l.length + 1 := by rw [List.length_append]; rfl
theorem c_add4 {I0 M : gM} (hM : MI true I0 M) {ss : List (Nat × Nat × List Nat)} {so a : Nat} (hS : ScK M 51 ss) (hl : ss.length < 12) : ∃ r, fX4_add 51 (nI so) (nI a) M = some r ∧ ScK r 51 (ss ++ [(so, a, [])]) := by
  obtain ⟨s1, s2, s3⟩ := hS
  unfold fX4_add
  rw [s1, L12, if_neg (mt (nI_leI (by omega) (by omega)).mp (by omega)), L5, nI_mul, wI_n (by omega) (by omega), obs, nI_1, wI_n (by omega) (by omega), obs, L2, nI_add, nI_add]
  generalize hN : g_up (g_up M (51 + 1) (ss.length * 5) (nI so)) (51 + 1) (ss.length * 5 + 1) (nI a) = N
  have hMN : MI true I0 N := by
    rw [← hN]
    exact (hM.up (k := 52) rfl (lo := -2147483648) (hi := 2147483647) rfl (tTop _).1 (tTop _).2).up (k := 52) rfl (lo := -2147483648) (hi := 2147483647) rfl (tTop _).1 (tTop _).2
  obtain ⟨r3, e3, hM3, h1, h2⟩ := t_fill2 (51 + 1) 60 (nI (ss.length * 5 + 2)) (nI (ss.length * 5 + 5)) (-1) N hMN rfl (fun j _ => (rfl : rg 52 j = (-2147483648, 2147483647))) (by decide) ⟨by decide, by decide⟩ (tnI (by omega)) (tnI (by omega)) (by omega) (by omega) (by omega)
  rw [e3, obs, pU_n, obs]
  refine ⟨_, rfl, ?_, by rw [ln1]; omega, fun x hx => ?_⟩
  · rw [g_up_self, h1 51 (by decide), ← hN, g_up_row (by decide), g_up_row (by decide), s1, nI_1, ln1]
  · rw [ln1] at hx
    rw [g_up_row (by decide), h2, ← hN, gu_in, gu_in]
    by_cases c : x < 5 * ss.length
    · rw [if_neg (by omega), if_neg (by omega), if_neg (by omega), s3 x c, gd_lt (by omega)]
    · rw [show x / 5 = ss.length by omega, gd_eq]
      unfold se ce
      by_cases c0 : x = ss.length * 5
      · rw [if_neg (by omega), if_neg (by omega), if_pos c0, if_pos (by omega)]
      · by_cases c1 : x = ss.length * 5 + 1
        · rw [if_neg (by omega), if_pos c1, if_neg (by omega), if_pos (by omega)]
        · rw [if_pos (by omega), if_neg (by omega), if_neg (by omega), if_neg (by simp only [List.length_nil]; omega)]
theorem c_set4 {M : gM} {ss : List (Nat × Nat × List Nat)} {so a v : Nat} {ns : List Nat} (hS : ScK M 51 (ss ++ [(so, a, ns)])) (hn : ns.length < 3) : fX4_setNumber 51 (nI ns.length) (nI v) M = some (g_up M 52 (5 * ss.length + 2 + ns.length) (nI v)) ∧ ScK (g_up M 52 (5 * ss.length + 2 + ns.length) (nI v)) 51 (ss ++ [(so, a, ns ++ [v])]) := by
  obtain ⟨s1, s2, s3⟩ := hS
  rw [ln1] at s1 s2 s3
  refine ⟨?_, ?_, by rw [ln1]; omega, fun x hx => ?_⟩
  · unfold fX4_setNumber
    rw [s1, L0, if_neg (mt (nI_leI (by omega) (by omega)).mp (by omega)), if_neg (mt (nI_ltI (by omega) (by omega)).mp (by omega)), L3, if_neg (mt (nI_leI (by omega) (by omega)).mp (by omega)), nI_s1 (by omega), L5, nI_mul, L2, nI_add, nI_add, show (ss.length + 1 - 1) * 5 + 2 + ns.length = 5 * ss.length + 2 + ns.length by omega, wI_n (by omega) (by omega), obs]
  · rw [g_up_row (by decide), s1, ln1]
  · rw [ln1] at hx
    show g_up M 52 _ _ 52 x = _
    rw [gu_in, show M 52 x = M (51 + 1) x from rfl, s3 x hx]
    by_cases c : x < 5 * ss.length
    · rw [if_neg (by omega), gd_lt (by omega), gd_lt (by omega)]
    · rw [show x / 5 = ss.length by omega, gd_eq, gd_eq]
      unfold se ce
      dsimp only
      by_cases c0 : x % 5 = 0
      · rw [if_neg (by omega), if_pos c0, if_pos c0]
      · by_cases c1 : x % 5 = 1
        · rw [if_neg (by omega), if_neg c0, if_neg c0, if_pos c1, if_pos c1]
        · rw [if_neg c0, if_neg c0, if_neg c1, if_neg c1, ln1]
          by_cases c2 : x = 5 * ss.length + 2 + ns.length
          · rw [if_pos c2, if_pos (by omega), show x % 5 - 2 = ns.length by omega, gd_eq]
          · rw [if_neg c2]
            by_cases c3 : x % 5 - 2 < ns.length
            · rw [if_pos c3, if_pos (by omega), gd_lt c3]
            · rw [if_neg c3, if_neg (by omega)]
theorem ScK.mv {M : gM} {ss : List (Nat × Nat × List Nat)} (h : ScK M 51 ss) (q : Nat) : ScK (P6 M q) 51 ss := ⟨by rw [P6_k (by decide)]; exact h.1, h.2.1, fun a ha => by rw [P6_k (by decide)]; exact h.2.2 a ha⟩
/-- what reading a step ends in -/
def SR (w : Nat → Int32) (n : Nat) (ss : List (Nat × Nat × List Nat)) (sp : Option ((Nat × Nat × List Nat) × Nat)) (r : Int32 × gM) : Prop :=
  (∃ x, sp = some x ∧ r.1 = 1 ∧ ScK r.2 51 (ss ++ [x.1]) ∧ ∃ p', C8 r.2 w n p' ∧ sk w n p' = sk w n x.2) ∨ (sp = none ∧ (r.1 = 0 ∨ (r.1 = 1 ∧ BS r.2 w n)))
noncomputable def kRs : (gM ⊕ (gM ⊕ gM)) → Option (Int32 × gM) := fun w6 => Sum.elim (fun w6_0 => some ((0 : Int32), w6_0)) (Sum.elim (fun w6_1 => some ((1 : Int32), w6_1)) (fun w6_2 => some ((1 : Int32), w6_2))) w6
theorem hr_dg {w : Nat → Int32} {n q : Nat} {c : Int32} (h : dg (hr w n q)) (hc : ¬ dg c) : hr w n (sk w n q) ≠ c := by
  rw [sk_dg h]
  intro e
  rw [e] at h
  exact hc h
theorem c_numsGo {w : Nat → Int32} {n so a : Nat} {ss : List (Nat × Nat × List Nat)} : ∀ (k : Nat) (ns : List Nat) (p : Nat) (M : gM) (r : Int32 × gM), 1 ≤ k → ns.length + k = 3 → C8 M w n p → p < n → ScK M 51 (ss ++ [(so, a, ns)]) →
    (lX6_isRowOfStep_13 51 (nI ns.length, M)).bind kRs = some r → SR w n ss ((pNums w n k ns (p + 1)).bind fun y => some ((so, a, y.1), y.2)) r := by
  intro k
  induction k with
  | zero => intro ns p M r h; omega
  | succ k ih =>
    intro ns p M r _ hk hT hp hS h
    have hn := hT.2.1
    unfold lX6_isRowOfStep_13 at h
    rw [itO_eq] at h; dsimp only at h
    rw [L3, if_neg (mt (nI_leI (by omega) (by omega)).mp (by omega)), pU_n, obs, hT.2.2.1, nI_1, show g_up M 1 2 (nI (p + 1)) = P6 M (p + 1) from rfl] at h
    unfold pNums
    rcases c_number (hT.at (q := p + 1) (by omega)) with ⟨x, e1, e2⟩ | ⟨e1, e2⟩
    · have l1 := cNum_le e1
      obtain ⟨z1, z2⟩ := c_set4 (v := x.1) (hS.mv x.2) (by omega)
      have hTx : C8 (g_up (P6 M x.2) 52 (5 * ss.length + 2 + ns.length) (nI x.1)) w n x.2 := (hT.at (q := x.2) l1.2).cong (fun j => by rw [g_up_row (by decide)]) (fun j => by rw [g_up_row (by decide)])
      have hs := sk_le (w := w) l1.2
      rw [e2, obs, P6_P6] at h; dsimp only at h
      rw [if_neg (nI_m1 (by omega)), z1, obs, c_peek hTx, obs] at h
      dsimp only at h
      generalize g_up (P6 M x.2) 52 (5 * ss.length + 2 + ns.length) (nI x.1) = N at *
      have sksk := sk_sk (w := w) l1.2
      rcases cNum_p (w := w) (n := n) (p := p + 1) (hi := 99) with ⟨y, f1, f2, _⟩ | ⟨f1, f2⟩
      · rw [e1] at f2
        cases f2
        rw [f1, obs]
        by_cases k0 : k = 0
        · rw [if_pos k0, obs]
          refine Or.inl ⟨_, rfl, ?_⟩
          dsimp only
          by_cases c : hr w n (sk w n x.2) = 44
          · rw [if_pos c, obs] at h
            change (lX6_isRowOfStep_13 51 (nI ns.length + 1, P6 N (sk w n x.2))).bind kRs = some r at h
            unfold lX6_isRowOfStep_13 at h
            rw [itO_eq] at h; dsimp only at h
            rw [nI_1, L3, if_pos ((nI_leI (by omega) (by omega)).mpr (by omega)), obs] at h
            cases h
            exact ⟨rfl, z2.mv _, _, hTx.at hs.2, sksk⟩
          · rw [if_neg c, obs] at h
            cases h
            exact ⟨rfl, z2.mv _, _, hTx.at hs.2, sksk⟩
        · rw [if_neg k0]
          by_cases c : hr w n (sk w n x.2) = 44
          · have l2 := hr_lt (w := w) (n := n) (p := sk w n x.2) (by rw [c]; decide)
            rw [if_pos c, obs] at h
            change (lX6_isRowOfStep_13 51 (nI ns.length + 1, P6 N (sk w n x.2))).bind kRs = some r at h
            rw [nI_1, ← ln1 (x := x.1)] at h
            rw [if_pos c]
            exact ih (ns ++ [x.1]) (sk w n x.2) _ r (by omega) (by rw [ln1]; omega) (hTx.at hs.2) l2 (z2.mv _) h
          · rw [if_neg c, obs] at h
            cases h
            rw [if_neg c, obs]
            exact Or.inl ⟨_, rfl, rfl, z2.mv _, _, hTx.at hs.2, rfl⟩
      · rw [f1]
        refine Or.inr ⟨rfl, ?_⟩
        rw [e1] at f2
        rcases f2 with f2 | ⟨y, f2, f3⟩ | ⟨y, f2, f3⟩
        · cases f2
        · cases f2
          rw [if_neg (hr_dg f3 (by decide)), obs] at h
          cases h
          exact Or.inr ⟨rfl, sk w n x.2, hTx.at hs.2, by rw [sk_dg f3]; exact f3⟩
        · cases f2; omega
    · rw [e2, obs] at h; dsimp only at h
      rw [if_pos rfl, obs] at h
      cases h
      rcases cNum_p (w := w) (n := n) (p := p + 1) (hi := 99) with ⟨y, f1, f2, _⟩ | ⟨f1, _⟩
      · rw [e1] at f2; cases f2
      · rw [f1]; exact Or.inr ⟨rfl, Or.inl rfl⟩
theorem c_isRowOfStep {M : gM} {w : Nat → Int32} {n p so a : Nat} {ss : List (Nat × Nat × List Nat)} (hT : C8 M w n p) (hS : ScK M 51 (ss ++ [(so, a, [])])) {r : Int32 × gM} (h : fX6_isRowOfStep 51 M = some r) :
    SR w n ss ((pMust w n 58 p).bind fun p3 => (pNums w n 3 [] p3).bind fun y => some ((so, a, y.1), y.2)) r := by
  have hs := sk_le (w := w) hT.2.2.2.1
  unfold fX6_isRowOfStep at h
  unfold pMust
  rw [c_peek hT, obs] at h
  dsimp only at h
  by_cases c : hr w n (sk w n p) = 58
  · have l1 := hr_lt (w := w) (n := n) (p := sk w n p) (by rw [c]; decide)
    rw [if_pos c] at h
    rw [if_pos c, obs]
    exact c_numsGo 3 [] (sk w n p) _ r (by omega) rfl (hT.at hs.2) l1 (hS.mv _) h
  · rw [if_neg c] at h
    cases h
    rw [if_neg c]
    exact Or.inr ⟨rfl, Or.inl rfl⟩
theorem c_99 {I0 M : gM} {w : Nat → Int32} {n p so a : Nat} {ss : List (Nat × Nat × List Nat)} {sg dgt : Int32} (hT : C8 M w n p) (hM : MI true I0 M) (hS : ScK M 51 ss) (hl : ss.length < 12) (hso : so ≤ 2) (hsg : sg = 117 ↔ so = 2) (hd : dgt - 48 = nI a) {r : Int32 × gM} (h : bX6_isStep_99 51 sg dgt (nI so) M = some r) :
    SR w n ss (if so ≤ 1 then (pMust w n 58 p).bind fun p3 => (pNums w n 3 [] p3).bind fun y => some ((so, a, y.1), y.2) else some ((so, a, []), p)) r := by
  obtain ⟨N, e, hN⟩ := c_add4 (so := so) (a := a) hM hS hl
  have f := xfX4_add _ _ _ _ e
  have hTN : C8 N w n p := hT.cong (fun j => f 1 j (by decide) (Or.inl (by decide))) (fun j => f 2 j (by decide) (Or.inl (by decide)))
  unfold bX6_isStep_99 at h
  rw [hd, e, obs] at h
  by_cases c : sg = 117
  · rw [if_pos c] at h
    cases h
    rw [if_neg (by have := hsg.mp c; omega)]
    exact Or.inl ⟨_, rfl, rfl, hN, p, hTN, rfl⟩
  · rw [if_neg c] at h
    rw [if_pos (by have := mt hsg.mpr c; omega)]
    obtain ⟨r9, e9, h⟩ := ob h
    have q := c_isRowOfStep hTN hN e9
    rcases q with ⟨x, q1, q2, q3⟩ | ⟨q1, q2 | ⟨q2, q3⟩⟩
    · rw [if_neg (by rw [q2]; exact n10)] at h
      cases h
      exact Or.inl ⟨x, q1, rfl, q3⟩
    · rw [if_pos q2] at h
      cases h
      exact Or.inr ⟨q1, Or.inl rfl⟩
    · rw [if_neg (by rw [q2]; exact n10)] at h
      cases h
      exact Or.inr ⟨q1, Or.inr ⟨rfl, q3⟩⟩
theorem c_isOrder {I0 M : gM} {w : Nat → Int32} {n p : Nat} {ss : List (Nat × Nat × List Nat)} (hT : C8 M w n p) (hM : MI true I0 M) (hS : ScK M 51 ss) (hl : ss.length < 12) {r : Int32 × gM} (h : fX6_isOrder 51 M = some r) :
    SR w n ss ((pNum w n 23 p).bind fun x => some ((3, x.1, []), x.2)) r := by
  have hn := hT.2.1
  unfold fX6_isOrder at h
  rcases c_number hT with ⟨x, e1, e2⟩ | ⟨e1, e2⟩
  · have l1 := cNum_le e1
    have hTx := hT.at (q := x.2) l1.2
    rw [e2, obs] at h; dsimp only at h
    rw [if_neg (nI_m1 (by omega))] at h
    by_cases c : x.1 < 24
    · obtain ⟨N, e, hN⟩ := c_add4 (I0 := I0) (M := P6 M x.2) (so := 3) (a := x.1) (hM.up (k := 1) rfl (lo := 0) (hi := 400) rfl (by rw [tnI (by omega)]; omega) (by rw [tnI (by omega)]; omega)) (hS.mv _) hl
      have f := xfX4_add _ _ _ _ e
      have hTN : C8 N w n x.2 := hTx.cong (fun j => f 1 j (by decide) (Or.inl (by decide))) (fun j => f 2 j (by decide) (Or.inl (by decide)))
      rw [if_pos (show nI x.1 < (24 : Int32) from (nI_ltI (b := 24) (by omega) (by omega)).mpr c), L3, e, obs] at h
      cases h
      rcases cNum_p (w := w) (n := n) (p := p) (hi := 23) with ⟨y, f1, f2, _⟩ | ⟨f1, f2⟩
      · rw [e1] at f2
        cases f2
        rw [f1, obs]
        exact Or.inl ⟨_, rfl, rfl, hN, _, hTN, rfl⟩
      · rw [f1]
        refine Or.inr ⟨rfl, ?_⟩
        rw [e1] at f2
        rcases f2 with f2 | ⟨y, f2, f3⟩ | ⟨y, f2, f3⟩
        · cases f2
        · cases f2
          exact Or.inr ⟨rfl, x.2, hTN, f3⟩
        · cases f2; omega
    · rw [if_neg (show ¬ nI x.1 < (24 : Int32) from mt (nI_ltI (b := 24) (by omega) (by omega)).mp c), pU_n, obs] at h
      cases h
      rcases cNum_p (w := w) (n := n) (p := p) (hi := 23) with ⟨y, f1, f2, f3⟩ | ⟨f1, f2⟩
      · rw [e1] at f2
        cases f2
        omega
      · rw [f1]
        exact Or.inr ⟨rfl, Or.inl rfl⟩
  · rw [e2, obs] at h; dsimp only at h
    rw [if_pos rfl] at h
    cases h
    rcases cNum_p (w := w) (n := n) (p := p) (hi := 23) with ⟨y, f1, f2, _⟩ | ⟨f1, _⟩
    · rw [e1] at f2; cases f2
    · rw [f1]; exact Or.inr ⟨rfl, Or.inl rfl⟩
theorem SR.bo {w : Nat → Int32} {n : Nat} {ss : List (Nat × Nat × List Nat)} {sp : Option ((Nat × Nat × List Nat) × Nat)} {r r' : Int32 × gM} (h : SR w n ss sp r) (e : ((bO r.1).bind fun u4 => some (u4, r.2)) = some r') : SR w n ss sp r' := by
  have : r' = r := by
    rcases h with ⟨x, _, q, _⟩ | ⟨_, q | ⟨q, _⟩⟩ <;> (rw [q] at e; cases e; rw [← q])
  rw [this]; exact h
theorem c_31 {I0 M : gM} {w : Nat → Int32} {n q so : Nat} {ss : List (Nat × Nat × List Nat)} {sg : Int32} (hT : C8 M w n q) (hq : q < n) (hM : MI true I0 M) (hS : ScK M 51 ss) (hl : ss.length < 12) (h3 : sg = 112 ∧ so = 0 ∨ sg = 116 ∧ so = 1 ∨ sg = 117 ∧ so = 2) {r : Int32 × gM} (h : bX6_isStep_31 51 sg M = some r) : SR w n ss (pRowed w n so (q + 1)) r := by
  have hn := hT.2.1
  have hT1 := hT.at (q := q + 1) (by omega)
  have hs := sk_le (w := w) hT1.2.2.2.1
  have hP : ∀ x, x ≤ n → MI true I0 (P6 M x) := fun x hx => hM.up (k := 1) rfl (lo := 0) (hi := 400) rfl (by rw [tnI (by omega)]; omega) (by rw [tnI (by omega)]; omega)
  unfold bX6_isStep_31 at h
  rw [pU_n, obs, hT.2.2.1, nI_1, show g_up M 1 2 (nI (q + 1)) = P6 M (q + 1) from rfl, if_neg (show ¬ sg = 111 by rcases h3 with z | z | z <;> rw [z.1] <;> decide), c_peek hT1, obs] at h
  dsimp only at h
  rw [n_isDigit6, obs, P6_P6] at h
  unfold pRowed
  by_cases c : dg (hr w n (sk w n (q + 1)))
  · have v1 := dg_v c
    have l1 := hr_lt (dg_ne c)
    have e1 : hr w n (sk w n (q + 1)) - 48 = nI (dv (hr w n (sk w n (q + 1)))) := by
      conv => lhs; rw [v1.2]
      rw [show (48 : Int32) = nI 48 from rfl, nI_sub (by omega)]
      congr 1; omega
    rw [if_pos c, if_neg n10, pU_n, obs, P6_2, nI_1, P6_pU] at h
    rw [if_pos c]
    rcases h3 with ⟨z1, z2⟩ | ⟨z1, z2⟩ | ⟨z1, z2⟩
    · subst z1; subst z2
      rw [if_pos rfl] at h
      exact c_99 (so := 0) (hT.at (by omega)) (hP _ (by omega)) (hS.mv _) hl (by omega) (by decide) e1 h
    · subst z1; subst z2
      rw [if_neg (by decide), if_pos rfl] at h
      exact c_99 (so := 1) (hT.at (by omega)) (hP _ (by omega)) (hS.mv _) hl (by omega) (by decide) e1 h
    · subst z1; subst z2
      rw [if_neg (by decide), if_neg (by decide)] at h
      exact c_99 (so := 2) (hT.at (by omega)) (hP _ (by omega)) (hS.mv _) hl (by omega) (by decide) e1 h
  · rw [if_neg c, if_pos rfl] at h
    cases h
    rw [if_neg c]
    exact Or.inr ⟨rfl, Or.inl rfl⟩
theorem c_31o {I0 M : gM} {w : Nat → Int32} {n q : Nat} {ss : List (Nat × Nat × List Nat)} (hT : C8 M w n q) (hq : q < n) (hM : MI true I0 M) (hS : ScK M 51 ss) (hl : ss.length < 12) {r : Int32 × gM} (h : bX6_isStep_31 51 111 M = some r) : SR w n ss ((pNum w n 23 (q + 1)).bind fun x => some ((3, x.1, []), x.2)) r := by
  have hn := hT.2.1
  unfold bX6_isStep_31 at h
  rw [pU_n, obs, hT.2.2.1, nI_1, show g_up M 1 2 (nI (q + 1)) = P6 M (q + 1) from rfl, if_pos rfl] at h
  obtain ⟨r3, e3, h⟩ := ob h
  exact (c_isOrder (hT.at (q := q + 1) (by omega)) (hM.up (k := 1) rfl (lo := 0) (hi := 400) rfl (by rw [tnI (by omega)]; omega) (by rw [tnI (by omega)]; omega)) (hS.mv _) hl e3).bo h
theorem c_isStep {I0 M : gM} {w : Nat → Int32} {n p : Nat} {ss : List (Nat × Nat × List Nat)} (hT : C8 M w n p) (hM : MI true I0 M) (hS : ScK M 51 ss) (hl : ss.length < 12) {r : Int32 × gM} (h : fX6_isStep 51 M = some r) : SR w n ss (pStep w n p) r := by
  have hs := sk_le (w := w) hT.2.2.2.1
  have hn := hT.2.1
  have hT1 := hT.at (q := sk w n p) hs.2
  have hM1 : MI true I0 (P6 M (sk w n p)) := hM.up (k := 1) rfl (lo := 0) (hi := 400) rfl (by rw [tnI (by omega)]; omega) (by rw [tnI (by omega)]; omega)
  unfold fX6_isStep at h
  rw [c_peek hT, obs] at h
  dsimp only at h
  unfold pStep
  have lt : ∀ {c : Int32}, c ≠ -1 → hr w n (sk w n p) = c → sk w n p < n := fun hc e => hr_lt (w := w) (by rw [e]; exact hc)
  by_cases c1 : hr w n (sk w n p) = 112
  · rw [if_pos c1, c1] at h
    rw [if_pos c1]
    exact c_31 hT1 (lt (by decide) c1) hM1 (hS.mv _) hl (Or.inl ⟨rfl, rfl⟩) h
  rw [if_neg c1] at h ⊢
  by_cases c2 : hr w n (sk w n p) = 116
  · rw [if_pos c2, c2] at h
    rw [if_pos c2]
    exact c_31 hT1 (lt (by decide) c2) hM1 (hS.mv _) hl (Or.inr (Or.inl ⟨rfl, rfl⟩)) h
  rw [if_neg c2] at h ⊢
  by_cases c3 : hr w n (sk w n p) = 117
  · rw [if_pos c3, c3] at h
    rw [if_pos c3]
    exact c_31 hT1 (lt (by decide) c3) hM1 (hS.mv _) hl (Or.inr (Or.inr ⟨rfl, rfl⟩)) h
  rw [if_neg c3] at h ⊢
  by_cases c4 : hr w n (sk w n p) = 111
  · rw [if_pos c4, c4] at h
    rw [if_pos c4]
    exact c_31o hT1 (lt (by decide) c4) hM1 (hS.mv _) hl h
  rw [if_neg c4] at h ⊢
  cases h
  exact Or.inr ⟨rfl, Or.inl rfl⟩
end P_33c_scripts8
section P_33d_script8
noncomputable def kSs : (Int32 × gM) → Option (Int32 × gM) := fun w7 => bX6_readScript_58 w7.1 w7.2
/-- what follows a step, as the grammar has it -/
def pNextS (w : Nat → Int32) (n k : Nat) (ss : List (Nat × Nat × List Nat)) (q : Nat) : Option (List (Nat × Nat × List Nat)) :=
  if hr w n q = 59 ∧ k ≠ 0 then pScr w n k ss (q + 1) else if hr w n q = -1 then some ss else none
theorem cs_bad0 {M : gM} {m : Nat} {r : Int32 × gM} {I0 : gM} (hM : MI true I0 M) (h : (lX6_readScript_17 51 (0, nI m, M)).bind kSs = some r) : r.1 ≠ -1 := by
  unfold lX6_readScript_17 at h
  rw [itO_eq] at h; dsimp only at h
  rw [if_pos rfl, obs] at h
  change some (M 1 2, M) = some r at h
  cases h
  intro e
  have := (hM.at (k := 1) (j := 2) (lo := 0) (hi := 400) rfl).1
  dsimp only at e
  rw [e] at this
  exact absurd this (by decide)
theorem cs_badS {M : gM} {m : Nat} {r : Int32 × gM} {w : Nat → Int32} {n : Nat} (hB : BS M w n) (h : (lX6_readScript_17 51 (1, nI m, M)).bind kSs = some r) : r.1 ≠ -1 := by
  obtain ⟨q, b1, b2, b3⟩ := hB.mv
  have b4 : hr w n q ≠ -1 := dg_ne b2
  have b5 := b3.2.1
  have b6 := b3.2.2.2.1
  have fin : ∀ {r : Int32 × gM}, kSs (1, M) = some r → r.1 ≠ -1 := by
    intro r h
    unfold kSs bX6_readScript_58 at h
    rw [if_neg n10, b1, obs] at h
    dsimp only at h
    rw [if_neg b4, b3.2.2.1] at h
    cases h
    exact nI_m1 (by omega)
  unfold lX6_readScript_17 at h
  rw [itO_eq] at h; dsimp only at h
  rw [if_neg n10] at h
  by_cases c : (12 : Int32) ≤ nI m
  · rw [if_pos c, obs] at h
    exact fin h
  · rw [if_neg c, b1, obs] at h
    dsimp only at h
    rw [if_neg (fun z => by rw [z] at b2; exact absurd b2 (by decide)), obs] at h
    exact fin h
theorem c_stepsGo {w : Nat → Int32} {n : Nat} {I0 : gM} : ∀ (k : Nat) (ss : List (Nat × Nat × List Nat)) (p : Nat) (M : gM) (r : Int32 × gM), k ≤ 11 → ss.length + k = 12 → C8 M w n p → ScK M 51 ss → MI true I0 M →
    (lX6_readScript_17 51 (1, nI ss.length, M)).bind kSs = some r → (∃ x, pNextS w n k ss (sk w n p) = some x ∧ r.1 = -1 ∧ ScK r.2 51 x) ∨ (pNextS w n k ss (sk w n p) = none ∧ r.1 ≠ -1) := by
  intro k
  induction k with
  | zero =>
    intro ss p M r hk hl hT hS hM h
    have hs := sk_le (w := w) hT.2.2.2.1
    have hn := hT.2.1
    unfold lX6_readScript_17 at h
    rw [itO_eq] at h; dsimp only at h
    rw [if_neg n10, L12, if_pos ((nI_leI (by omega) (by omega)).mpr (by omega)), obs] at h
    change bX6_readScript_58 1 M = some r at h
    unfold bX6_readScript_58 at h
    rw [if_neg n10, c_peek hT, obs] at h
    dsimp only at h
    unfold pNextS
    rw [if_neg (fun z => z.2 rfl)]
    by_cases c : hr w n (sk w n p) = -1
    · rw [if_pos c] at h
      cases h
      rw [if_pos c]
      exact Or.inl ⟨_, rfl, rfl, hS.mv _⟩
    · rw [if_neg c, P6_2] at h
      cases h
      rw [if_neg c]
      exact Or.inr ⟨rfl, nI_m1 (by omega)⟩
  | succ k ih =>
    intro ss p M r hk hl hT hS hM h
    have hs := sk_le (w := w) hT.2.2.2.1
    have hn := hT.2.1
    have hT1 := hT.at (q := sk w n p) hs.2
    unfold lX6_readScript_17 at h
    rw [itO_eq] at h; dsimp only at h
    rw [if_neg n10, L12, if_neg (mt (nI_leI (by omega) (by omega)).mp (by omega)), c_peek hT, obs] at h
    dsimp only at h
    unfold pNextS
    by_cases c1 : hr w n (sk w n p) = 59
    · have l1 := hr_lt (w := w) (n := n) (p := sk w n p) (by rw [c1]; decide)
      rw [if_pos c1, pU_n, obs, P6_2, nI_1, P6_pU] at h
      rw [if_pos ⟨c1, by omega⟩]
      unfold pScr
      obtain ⟨y, ey, h⟩ := ob h
      obtain ⟨z, ez, ey⟩ := ob ey
      obtain ⟨r6, e6, ez⟩ := ob ez
      cases ez
      change lX6_readScript_17 51 (r6.1, nI ss.length + 1, r6.2) = some y at ey
      rw [nI_1] at ey
      have h : (lX6_readScript_17 51 (r6.1, nI (ss.length + 1), r6.2)).bind kSs = some r := (congrArg (fun o => Option.bind o kSs) ey).trans h
      have hMP : MI true I0 (P6 M (sk w n p + 1)) := hM.up (k := 1) rfl (lo := 0) (hi := 400) rfl (by rw [tnI (by omega)]; omega) (by rw [tnI (by omega)]; omega)
      obtain ⟨r6', e6', _, hM6⟩ := tfX6_isStep 51 (P6 M (sk w n p + 1)) kX4_51 hMP
      rw [e6] at e6'
      cases e6'
      rcases c_isStep (hT.at (q := sk w n p + 1) (by omega)) hMP (hS.mv _) (by omega) e6 with ⟨x, s1, s2, s3, p', s4, s5⟩ | ⟨s1, s2 | ⟨s2, s3⟩⟩
      · rw [s1, obs]
        rw [s2] at h
        have q := ih (ss ++ [x.1]) p' r6.2 r (by omega) (by rw [ln1]; omega) s4 s3 hM6 (by rw [ln1]; exact h)
        rw [s5] at q
        exact q
      · rw [s1]
        rw [s2] at h
        exact Or.inr ⟨rfl, cs_bad0 hM6 h⟩
      · rw [s1]
        rw [s2] at h
        exact Or.inr ⟨rfl, cs_badS s3 h⟩
    · rw [if_neg c1, obs] at h
      change bX6_readScript_58 1 (P6 M (sk w n p)) = some r at h
      unfold bX6_readScript_58 at h
      rw [if_neg n10, c_peek hT1, obs, sk_sk hT.2.2.2.1] at h
      dsimp only at h
      rw [if_neg (fun z => c1 z.1)]
      by_cases c : hr w n (sk w n p) = -1
      · rw [if_pos c] at h
        cases h
        rw [if_pos c]
        exact Or.inl ⟨_, rfl, rfl, (hS.mv _).mv _⟩
      · rw [if_neg c, P6_2] at h
        cases h
        rw [if_neg c]
        exact Or.inr ⟨rfl, nI_m1 (by omega)⟩
theorem c_readScript {M : gM} {w : Nat → Int32} {n : Nat} {I0 : gM} (hB : B8 M w n) (hM : MI true I0 M) {r : Int32 × gM} (h : fX6_readScript 51 M = some r) : (∃ x, pScr w n 12 [] 0 = some x ∧ r.1 = -1 ∧ ScK r.2 51 x) ∨ (pScr w n 12 [] 0 = none ∧ r.1 ≠ -1) := by
  unfold fX6_readScript fX4_clear at h
  rw [pU_n, obs, pU_n, obs, obs] at h
  change (fX6_isStep 51 (g_up (P6 M 0) 51 0 0)).bind _ = some r at h
  have hMP : MI true I0 (g_up (P6 M 0) 51 0 0) := (hM.up (k := 1) (j := 2) (v := nI 0) rfl (lo := 0) (hi := 400) rfl (by decide) (by decide)).up (k := 51) rfl (lo := 0) (hi := 12) rfl (by decide) (by decide)
  have hT : C8 (g_up (P6 M 0) 51 0 0) w n 0 := hB.c.cong (fun j => by rw [g_up_row (by decide)]) (fun j => by rw [g_up_row (by decide)])
  have hS : ScK (g_up (P6 M 0) 51 0 0) 51 [] := ⟨by rw [g_up_self]; rfl, by decide, fun a ha => absurd ha (Nat.not_lt_zero a)⟩
  obtain ⟨r3, e3, h⟩ := ob h
  obtain ⟨r3', e3', _, hM3⟩ := tfX6_isStep 51 (g_up (P6 M 0) 51 0 0) kX4_51 hMP
  rw [e3] at e3'
  cases e3'
  have h : (lX6_readScript_17 51 (r3.1, nI 1, r3.2)).bind kSs = some r := h
  unfold pScr
  rcases c_isStep hT hMP hS (by decide) e3 with ⟨x, s1, s2, s3, p', s4, s5⟩ | ⟨s1, s2 | ⟨s2, s3⟩⟩
  · rw [s1, obs]
    rw [s2] at h
    have q := c_stepsGo 11 [x.1] p' r3.2 r (by omega) rfl s4 s3 hM3 h
    rw [s5] at q
    exact q
  · rw [s1]
    rw [s2] at h
    exact Or.inr ⟨rfl, cs_bad0 hM3 h⟩
  · rw [s1]
    rw [s2] at h
    exact Or.inr ⟨rfl, cs_badS s3 h⟩
end P_33d_script8
section P_33e_text8
theorem rA_n {s : Nat} (h : s < 4) : rA 4 (nI s) = some (54 + 2 * s) := by
  have e := tnI (n := s) (by omega)
  unfold rA
  rw [if_pos (by omega), e]; rfl
/-- scripts told to both -/
theorem text1_both {I : gM} (hR : TPR I) (h8 : MI true I I) (hA : A9 I) (hc : I 0 14 = I 62 12) : ∃ a b, fX8_text 1 I = some a ∧ fX9_text 1 a.2 = some b ∧ a.1 = b.1 ∧ MI true I a.2 ∧ MI false a.2 b.2 ∧ A9 b.2 ∧ TPR b.2 ∧ b.2 0 14 = b.2 62 12 := by
  obtain ⟨n, hn, t1, t2, t3⟩ := hR
  obtain ⟨a, ea, _, hMa⟩ := tfX8_text 1 I h8
  have hMa9 : MI false a.2 a.2 := hMa.re
  have k62 := hMa.hi (k := 62) (by decide)
  have k63 := hMa.hi (k := 63) (by decide)
  obtain ⟨b, eb, hMb, hAb, b63, hb⟩ := n_text1 hMa9 (A9.hi hMa hA)
  obtain ⟨sc, hsc, esc⟩ := h8.n (k := 62) (j := 12) (hi := 4) rfl
  rw [k62] at hb
  rw [k63] at b63
  have c0 : ∀ k, k < 62 → b.2 k = a.2 k := fun k hk => hMb.lo hk
  have go : ∀ A : Int32 × gM, A = a → fX8_textOfScript I = some A → a.1 = b.1 ∧ TPR b.2 ∧ b.2 0 14 = b.2 62 12 := by
    intro A hA' es
    unfold fX8_textOfScript at es
    rw [hc] at es
    by_cases c4 : (4 : Int32) ≤ I 62 12
    · rw [if_pos c4] at es
      cases es
      subst hA'
      rcases hb with ⟨b1, b2, b3, _⟩ | ⟨z, _⟩
      · refine ⟨b1.symm, ⟨n, hn, ?_, by rw [b2]; exact t2, fun j hj => ?_⟩, ?_⟩
        · rw [c0 1 (by decide)]; exact t1
        · rw [c0 2 (by decide), b63]; exact t3 j hj
        · rw [c0 0 (by decide), b3]; exact hc
      · exact absurd c4 z
    · rw [if_neg c4] at es
      have l4 : sc < 4 := by
        rw [esc] at c4
        have := mt (nI_leI (a := 4) (b := sc) (by omega) (by omega)).mpr c4
        omega
      obtain ⟨r1, e1, es⟩ := ob es
      have f1 := xfX6_readScript _ _ e1
      obtain ⟨q, eq, hq⟩ := n_readScript (I := a.2) (s := sc) (by omega) hn (by rw [k62]; exact t2)
      rw [← esc] at eq
      rw [k63] at hq
      rcases c_readScript ⟨t1, hn, t3⟩ h8 e1 with ⟨x, s1, s2, s3⟩ | ⟨s1, s2⟩
      · rw [if_pos s2, f1 0 14 (Or.inl (by decide)) (Or.inl (by decide)) (by decide), hc, esc, rA_n l4, obs] at es
        obtain ⟨r3, e3, es⟩ := ob es
        have f3 := xfX4_copyFrom _ _ _ e3
        rw [pU_n, obs, pU_n, obs] at es
        have r014 : r3 0 14 = nI sc := by rw [f3 0 14 (Or.inl (by omega)) (by omega), f1 0 14 (Or.inl (by decide)) (Or.inl (by decide)) (by decide), hc, esc]
        rw [g_up_row (show 0 ≠ 1 by decide), r014, nI_1] at es
        cases es
        subst hA'
        rcases hb with ⟨_, _, _, b4⟩ | ⟨_, b2, b3, b4, _⟩
        · exfalso
          obtain ⟨s', z1, z2⟩ := b4 c4
          rw [eq] at z1
          cases z1
          rcases hq with ⟨y1, _⟩ | ⟨_, _, y2, _⟩
          · rw [s1] at y1; cases y1
          · exact z2 y2
        · refine ⟨?_, ⟨0, by omega, ?_, by rw [b2]; rfl, fun j hj => absurd hj (Nat.not_lt_zero j)⟩, ?_⟩
          · rw [b4, esc, g_up_self, nI_s1 (by omega)]; rfl
          · rw [c0 1 (by decide)]
            dsimp only
            rw [g_up_row (by decide), g_up_self]; rfl
          · rw [c0 0 (by decide), b3, esc, nI_1]
            dsimp only
            rw [g_up_self]
      · rw [if_neg s2] at es
        cases es
        subst hA'
        rcases hb with ⟨b1, b2, b3, _⟩ | ⟨_, _, _, _, s', z1, z2⟩
        · refine ⟨b1.symm, ⟨n, hn, ?_, by rw [b2]; exact t2, fun j hj => ?_⟩, ?_⟩
          · rw [c0 1 (by decide)]
            exact (f1 1 0 (Or.inr (by decide)) (Or.inl (by decide)) (by decide)).trans t1
          · rw [c0 2 (by decide), b63]
            exact ⟨(f1 2 j (Or.inl (by decide)) (Or.inl (by decide)) (by decide)).trans (t3 j hj).1, (t3 j hj).2⟩
          · rw [c0 0 (by decide), b3]
            exact (f1 0 14 (Or.inl (by decide)) (Or.inl (by decide)) (by decide)).trans hc
        · exfalso
          rw [eq] at z1
          cases z1
          rcases hq with ⟨_, y1⟩ | ⟨_, y1, _⟩
          · exact y1 z2
          · rw [s1] at y1; cases y1
  have ea' : ∃ A, A = a ∧ fX8_textOfScript I = some A := by
    unfold fX8_text at ea
    rw [if_neg (by decide), if_pos rfl] at ea
    obtain ⟨s, es, ea⟩ := ob ea
    cases ea
    exact ⟨s, rfl, es⟩
  obtain ⟨A, hA', es⟩ := ea'
  obtain ⟨g1, g2, g3⟩ := go A hA' es
  exact ⟨a, b, ea, eb, g1, hMa, hMb, hAb, g2, g3⟩
/-- what the two objects keep in common: the tapes, how many scripts -/
def Inv0 (I : gM) : Prop := MI true I I ∧ A9 I ∧ TPR I ∧ I 0 14 = I 62 12
theorem MI.both {I a b : gM} (h1 : MI true I a) (h2 : MI false a b) : MI true b b := ⟨h2.1, fun _ _ => rfl⟩
/-- nothing of that is touched -/
theorem Inv0.keep {I a b : gM} (h : Inv0 I) (h1 : MI true I a) (h2 : MI false a b) (hA : A9 b) (x1 : a 1 0 = I 1 0) (x2 : ∀ j, a 2 j = I 2 j) (x3 : a 0 14 = I 0 14) (y1 : b 62 2 = a 62 2) (y2 : b 62 12 = a 62 12) (y3 : ∀ j, b 63 j = a 63 j) : Inv0 b := by
  obtain ⟨_, _, ⟨n, hn, t1, t2, t3⟩, hc⟩ := h
  have k62 := h1.hi (k := 62) (by decide)
  have k63 := h1.hi (k := 63) (by decide)
  refine ⟨h1.both h2, hA, ⟨n, hn, ?_, ?_, fun j hj => ?_⟩, ?_⟩
  · rw [h2.lo (by decide), x1]; exact t1
  · rw [y1, k62]; exact t2
  · rw [h2.lo (k := 2) (by decide), x2, y3, k63]; exact t3 j hj
  · rw [h2.lo (k := 0) (by decide), x3, hc, y2, k62]
/-- the class's object alone was asked -/
theorem Inv0.id8 {I b : gM} (h : Inv0 I) (h2 : MI false I b) (hA : A9 b) (y1 : b 62 2 = I 62 2) (y2 : b 62 12 = I 62 12) (y3 : ∀ j, b 63 j = I 63 j) : Inv0 b := h.keep h.1 h2 hA rfl (fun _ => rfl) rfl y1 y2 y3
theorem mi_fe9 {I0 I : gM} (h : MI false I0 I) {n : Nat} {l : List Int32} (hn : n + l.length ≤ 400) (hl : ∀ b, b ∈ l → 1 ≤ b.toInt ∧ b.toInt ≤ 255) : MI false I0 (fe 62 2 63 I n l) := by
  refine ⟨fun k j => ?_, fun k hk => ?_⟩
  · by_cases c : k = 62 ∧ j = 2
    · rw [c.1, c.2, fe_len]
      show (0 : Int) ≤ (nI (n + l.length)).toInt ∧ (nI (n + l.length)).toInt ≤ 400
      rw [tnI (by omega)]; omega
    · by_cases d : k = 63
      · subst d
        rw [fe_y (show 63 ≠ 62 by decide)]
        unfold wt
        by_cases e : n ≤ j ∧ j < n + l.length
        · rw [if_pos e, List.getD_eq_getElem?_getD, List.getElem?_eq_getElem (show j - n < l.length by omega)]
          have := hl _ (List.getElem_mem (show j - n < l.length by omega))
          show (-1 : Int) ≤ _ ∧ _ ≤ (255 : Int)
          dsimp only [Option.getD_some]
          omega
        · rw [if_neg e]; exact h.1 63 j
      · have e : fe 62 2 63 I n l k j = I k j := by
          unfold fe
          rw [if_neg c, if_neg d]
        rw [e]; exact h.1 k j
  · rw [fe_k (fun z => by subst z; cases hk) (fun z => by subst z; cases hk)]; exact h.2 k hk
theorem t_feed9 {I0 I : gM} (hM : MI false I0 I) (hA : A9 I) (v1 v2 v3 v4 v5 : Int32) : T (fX9_feed v1 v2 v3 v4 v5 I) (fun r => MI false I0 r.2 ∧ A9 r.2) := by
  obtain ⟨n, hn, e⟩ := hM.tp
  have a := n_feed9 v1 v2 v3 v4 v5 hn e
  by_cases c : n + (nz (by5 v1 v2 v3 v4 v5)).length ≤ 400
  · rw [if_pos c] at a
    have hA2 : A9 (fe 62 2 63 I n (nz (by5 v1 v2 v3 v4 v5))) := hA.same (fe_j (by decide) (by decide)) (fe_j (by decide) (by decide)) (fe_j (by decide) (by decide)) (fun k hk => fe_k (by omega) (by omega))
    exact ⟨_, a, mi_fe9 hM c (fun b hb => by5_rg hb), hA2⟩
  · rw [if_neg c] at a
    exact ⟨_, a, hM, hA⟩
theorem both_feed {I : gM} (h : Inv0 I) (v1 v2 v3 v4 v5 : Int32) : ∃ a b, fX8_feed v1 v2 v3 v4 v5 I = some a ∧ fX9_feed v1 v2 v3 v4 v5 a.2 = some b ∧ Inv0 b.2 ∧ a.1 = b.1 := by
  obtain ⟨hM, hA, hT, hc⟩ := h
  obtain ⟨v, A, B, e1, e2, hT2, hk, hj1, hj2⟩ := feed_both v1 v2 v3 v4 v5 hT
  obtain ⟨a', e1', _, hMa⟩ := tfX8_feed v1 v2 v3 v4 v5 I hM
  rw [e1] at e1'
  cases e1'
  obtain ⟨b', e2', hMb, hAb⟩ := t_feed9 hMa.re (A9.hi hMa hA) v1 v2 v3 v4 v5
  rw [e2] at e2'
  cases e2'
  refine ⟨_, _, e1, e2, ⟨hMa.both hMb, hAb, hT2, ?_⟩, rfl⟩
  dsimp only
  rw [hk 0 (by decide) (by decide) (by decide) (by decide), hj2 12 (by decide)]; exact hc
theorem both_end {I : gM} (h : Inv0 I) (v : Int32) : ∃ a b, fX8_end v I = some a ∧ fX9_end v a.2 = some b ∧ Inv0 b.2 ∧ a.1 = b.1 := by
  obtain ⟨hM, hA, ⟨n, hn, t1, t2, t3⟩, hc⟩ := h
  obtain ⟨a, e1, _, hMa⟩ := tfX8_end v I hM
  obtain ⟨b, e2, _, hMb⟩ := tfX9_end v a.2 hMa.re
  have k62 := hMa.hi (k := 62) (by decide)
  have k63 := hMa.hi (k := 63) (by decide)
  have hAb : A9 b.2 := by
    have f := xfX9_end _ _ e2
    exact (A9.hi hMa hA).same (f _ _ (Or.inr (by decide))) (f _ _ (Or.inr (by decide))) (f _ _ (Or.inr (by decide))) (fun k hk => funext fun j => f k j (Or.inl (by omega)))
  refine ⟨a, b, e1, e2, ?_⟩
  have hin := n_in v 0 (I 62 2)
  unfold fX8_end at e1
  unfold fX9_end at e2
  rw [k62] at e2
  by_cases c : 0 ≤ v.toInt ∧ v.toInt ≤ (n : Int)
  · have hl : nI v.toInt.toNat = v := (nI_self c.1).symm
    rw [if_neg (mt (iLT (a := v) (b := 0) rfl (by decide : (0 : Int32).toInt = 0)).mp (by omega)), t1, if_pos ((iLE (a := v) (b := nI n) rfl (tnI (by omega))).mpr c.2), pU_n, obs] at e1
    cases e1
    have e5 : fX9_in v 0 (I 62 2) = some 1 := by
      rcases hin with ⟨_, _, q⟩ | ⟨q, _⟩
      · exact q
      · exact absurd ⟨c.1, by rw [t2, tnI (by omega)]; exact c.2⟩ q
    rw [e5, obs, if_neg n10, pU_n, obs] at e2
    cases e2
    refine ⟨⟨hMa.both hMb, hAb, ⟨v.toInt.toNat, by omega, ?_, ?_, fun j hj => ?_⟩, ?_⟩, rfl⟩
    · dsimp only
      rw [g_up_row (by decide), g_up_self]; exact hl.symm
    · dsimp only
      rw [g_up_self]; exact hl.symm
    · dsimp only
      rw [g_up_row (by decide), g_up_row (by decide), g_up_row (by decide), g_up_row (by decide)]
      exact t3 j (by omega)
    · dsimp only
      rw [g_up_row (by decide), g_up_row (by decide), g_up_ne (Or.inr (by decide)), g_up_row (by decide)]; exact hc
  · have e5 : fX9_in v 0 (I 62 2) = some 0 := by
      rcases hin with ⟨q1, q2, _⟩ | ⟨_, q⟩
      · rw [t2, tnI (by omega)] at q2
        exact absurd ⟨q1, q2⟩ c
      · exact q
    rw [e5, obs, if_pos rfl] at e2
    cases e2
    have ea : a = (0, I) := by
      by_cases c1 : v < 0
      · rw [if_pos c1] at e1
        exact (Option.some.inj e1).symm
      · have c1' := mt (iLT (a := v) (b := 0) rfl (by decide : (0 : Int32).toInt = 0)).mpr c1
        rw [if_neg c1, t1, if_neg (mt (iLE (a := v) (b := nI n) rfl (tnI (by omega))).mp (by omega))] at e1
        exact (Option.some.inj e1).symm
    subst ea
    exact ⟨⟨hM, hA, ⟨n, hn, t1, t2, t3⟩, hc⟩, rfl⟩
theorem both_text {I : gM} (h : Inv0 I) (v : Int32) : ∃ a b, fX8_text v I = some a ∧ fX9_text v a.2 = some b ∧ Inv0 b.2 := by
  obtain ⟨hM, hA, hT, hc⟩ := h
  by_cases c0 : v = 0
  · subst c0
    obtain ⟨a, b, e1, e2, h1, h2, h3, h4, h5, h6⟩ := text0_both hT hM hA
    exact ⟨a, b, e1, e2, h1.both h2, h3, h4, by rw [h5, h6]; exact hc⟩
  · by_cases c1 : v = 1
    · subst c1
      obtain ⟨a, b, e1, e2, _, h1, h2, h3, h4, h5⟩ := text1_both hT hM hA hc
      exact ⟨a, b, e1, e2, h1.both h2, h3, h4, h5⟩
    · have e : fX8_text v I = some (-1, I) := by
        unfold fX8_text
        rw [if_neg c0, if_neg c1]
      exact ⟨_, _, e, n_textN c0 c1, hM, hA, hT, hc⟩
end P_33e_text8
