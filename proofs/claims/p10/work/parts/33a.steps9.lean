/-! the steps of a script: the grammar, and the reference -/
def pNums (w : Nat → Int32) (n : Nat) : Nat → List Nat → Nat → Option (List Nat × Nat)
  | 0, _, _ => none
  | k + 1, ns, p => (pNum w n 99 p).bind fun x => if k = 0 then some (ns ++ [x.1], x.2) else if hr w n (sk w n x.2) = 44 then pNums w n k (ns ++ [x.1]) (sk w n x.2 + 1) else some (ns ++ [x.1], sk w n x.2)
/-- a step: its sort, its number, its row -/
def pRowed (w : Nat → Int32) (n so q : Nat) : Option ((Nat × Nat × List Nat) × Nat) :=
  if dg (hr w n (sk w n q)) then
    if so ≤ 1 then (pMust w n 58 (sk w n q + 1)).bind fun p3 => (pNums w n 3 [] p3).bind fun y => some ((so, dv (hr w n (sk w n q)), y.1), y.2)
    else some ((so, dv (hr w n (sk w n q)), []), sk w n q + 1)
  else none
def pStep (w : Nat → Int32) (n p : Nat) : Option ((Nat × Nat × List Nat) × Nat) :=
  if hr w n (sk w n p) = 112 then pRowed w n 0 (sk w n p + 1)
  else if hr w n (sk w n p) = 116 then pRowed w n 1 (sk w n p + 1)
  else if hr w n (sk w n p) = 117 then pRowed w n 2 (sk w n p + 1)
  else if hr w n (sk w n p) = 111 then (pNum w n 23 (sk w n p + 1)).bind fun x => some ((3, x.1, []), x.2)
  else none
def se (st : Nat × Nat × List Nat) (c : Nat) : Int32 := if c = 0 then nI st.1 else if c = 1 then nI st.2.1 else ce st.2.2 (c - 2)
/-- the row of a step being read -/
def StS (I M : gM) (b q : Nat) (ns : List Nat) : Prop := M 62 4 = -1 ∧ M 62 3 = nI q ∧ (∀ j, j ≠ 3 → M 62 j = I 62 j) ∧ (∀ a, a ≠ 62 → a ≠ 68 → M a = I a) ∧ ∀ a, M 68 a = if b + 2 ≤ a ∧ a < b + 2 + ns.length then nI (ns.getD (a - (b + 2)) 0) else I 68 a
theorem StS.tp {I M : gM} {b q n p : Nat} {ns : List Nat} (h : StS I M b q ns) (hT : TP9 I n p) (hq : q ≤ n) : TP9 M n q := ⟨by rw [h.2.2.1 2 (by decide)]; exact hT.1, hT.2.1, h.2.1, hq⟩
theorem StS.mv {I M : gM} {b q : Nat} {ns : List Nat} (h : StS I M b q ns) (q' : Nat) : StS I (P9 M q') b q' ns :=
  ⟨by rw [P9_j (by decide)]; exact h.1, P9_3, fun j hj => by rw [P9_j hj]; exact h.2.2.1 j hj, fun a h1 h2 => by rw [P9_k h1]; exact h.2.2.2.1 a h1 h2, fun a => by rw [P9_k (by decide)]; exact h.2.2.2.2 a⟩
theorem StS.wr {I M : gM} {b q : Nat} {ns : List Nat} (h : StS I M b q ns) (v : Nat) : StS I (g_up M 68 (b + 2 + ns.length) (nI v)) b q (ns ++ [v]) := by
  refine ⟨by rw [g_up_row (by decide)]; exact h.1, by rw [g_up_row (by decide)]; exact h.2.1, fun j hj => by rw [g_up_row (by decide)]; exact h.2.2.1 j hj, fun a h1 h2 => by rw [g_up_row h2]; exact h.2.2.2.1 a h1 h2, fun a => ?_⟩
  rw [gu_in, h.2.2.2.2, show (ns ++ [v]).length = ns.length + 1 by rw [List.length_append]; rfl]
  by_cases d : a = b + 2 + ns.length
  · rw [if_pos d, if_pos (by omega), d, Nat.add_sub_cancel_left, List.getD_eq_getElem?_getD, List.getElem?_append_right (Nat.le_refl _), Nat.sub_self]; rfl
  · rw [if_neg d]
    by_cases d2 : b + 2 ≤ a ∧ a < b + 2 + ns.length
    · rw [if_pos d2, if_pos (by omega), List.getD_eq_getElem?_getD, List.getD_eq_getElem?_getD, List.getElem?_append_left (by omega)]
    · rw [if_neg d2, if_neg (by omega)]
theorem s157_0 {b j : Nat} {M : gM} : lX9_readStep_157 (nI b) (0, nI j, M) = some M := by
  unfold lX9_readStep_157
  rw [itO_eq]; dsimp only
  by_cases c : (3 : Int32) ≤ nI j
  · rw [if_pos c, obs]; rfl
  · rw [if_neg c, if_pos rfl, obs]; rfl
theorem s213_0 {j : Nat} {M : gM} : bX9_readStep_213 (nI j) 0 M = some (.inl (0, nI (j + 1), M)) := by
  unfold bX9_readStep_213 bX9_readStep_230
  rw [if_pos rfl, pU_n, obs, Int32.add_zero, g_up_same rfl, nI_1]
theorem s213_1 {j q : Nat} {M : gM} (h : M 62 3 = nI q) : bX9_readStep_213 (nI j) 1 M = some (.inl (1, nI (j + 1), P9 M (q + 1))) := by
  unfold bX9_readStep_213 bX9_readStep_230
  rw [if_neg n10, pU_n, obs, h, nI_1, nI_1]; rfl
noncomputable def k157 (b : Nat) : ((Int32 × Int32 × gM) ⊕ gM) → Option gM := fun y => Sum.elim (fun s' => lX9_readStep_157 (nI b) s') (fun r => some r) y
theorem s157_1 {b j : Nat} {M : gM} (h : j ≤ 2) : lX9_readStep_157 (nI b) (1, nI j, M) = ((fX9_number (99 : Int32) M).bind fun r10 => (wI r10.2 68 300 ((nI b + 2) + nI j) r10.1).bind fun I11 => if (I11 62 4) = (-1) then (if (2 : Int32) ≤ nI j then bX9_readStep_212 (nI j) I11 else (fX9_ahead I11).bind fun r13 => if r13.1 = 44 then bX9_readStep_213 (nI j) (1 : Int32) r13.2 else bX9_readStep_212 (nI j) r13.2) else bX9_readStep_212 (nI j) I11).bind (k157 b) := by
  conv => lhs; unfold lX9_readStep_157
  rw [itO_eq]; dsimp only
  rw [if_neg (show ¬ (3 : Int32) ≤ nI j from mt (nI_leI (a := 3) (by omega) (by omega)).mp (by omega)), if_neg n10]; rfl
theorem n_numsGo {I : gM} {n p b : Nat} (hb : b ≤ 295) (hT : TP9 I n p) : ∀ (k : Nat) (ns : List Nat) (q : Nat) (M : gM), 1 ≤ k → ns.length + k = 3 → StS I M b q ns → q ≤ n →
    ∃ r, lX9_readStep_157 (nI b) (1, nI ns.length, M) = some r ∧ ((pNums (I 63) n k ns q = none ∧ NE r) ∨ ∃ x, pNums (I 63) n k ns q = some x ∧ x.2 ≤ n ∧ x.1.length ≤ 3 ∧ StS I r b x.2 x.1) := by
  intro k
  induction k with
  | zero => intro ns q M h; omega
  | succ k ih =>
    intro ns q M _ hk hS hq
    have e63 : M 63 = I 63 := hS.2.2.2.1 63 (by decide) (by decide)
    have stop : ∀ {N : gM}, (bX9_readStep_212 (nI ns.length) N).bind (k157 b) = some N := by
      intro N
      unfold bX9_readStep_212
      rw [s213_0, obs]
      show lX9_readStep_157 (nI b) (0, nI (ns.length + 1), N) = some N
      exact s157_0
    unfold pNums
    rw [s157_1 (by omega), show (99 : Int32) = nI 99 from rfl, L2, nI_add, nI_add]
    rcases n_number (hS.tp hT hq) hS.1 (hi := 99) (by omega) with ⟨v, q', e1, e2⟩ | ⟨e1, r, e2, hr⟩
    · rw [e63] at e1
      rw [e2, obs, wI_n (by omega) (by omega), obs, e1, obs]
      dsimp only
      have l1 := (pNum_le e1).2.2
      have hS2 := (hS.mv q').wr v
      have el : (ns ++ [v]).length = ns.length + 1 := by rw [List.length_append]; rfl
      rw [if_pos hS2.1]
      by_cases c0 : k = 0
      · rw [if_pos ((nI_leI (by omega) (by omega)).mpr (by omega)), if_pos c0]
        exact ⟨_, stop, Or.inr ⟨_, rfl, l1, by rw [el]; omega, hS2⟩⟩
      · have hs := sk_le (w := I 63) l1
        have ea := n_ahead (hS2.tp hT l1)
        rw [hS2.2.2.2.1 63 (by decide) (by decide)] at ea
        rw [if_neg (mt (nI_leI (by omega) (by omega)).mp (by omega)), ea, obs, if_neg c0]
        dsimp only
        by_cases c1 : CLeapJoinLaw_law_r3989_430068.hr (I 63) n (sk (I 63) n q') = 44
        · have l2 := hr_lt (w := I 63) (n := n) (p := sk (I 63) n q') (by rw [c1]; decide)
          rw [if_pos c1, if_pos c1, s213_1 P9_3, obs, P9_P9, ← el]
          show ∃ r, lX9_readStep_157 (nI b) (1, nI (ns ++ [v]).length, _) = some r ∧ _
          exact ih (ns ++ [v]) (sk (I 63) n q' + 1) _ (by omega) (by rw [el]; omega) (hS2.mv _) (by omega)
        · rw [if_neg c1, if_neg c1]
          exact ⟨_, stop, Or.inr ⟨_, rfl, hs.2, by rw [el]; omega, hS2.mv _⟩⟩
    · rw [e63] at e1
      rw [e2, obs, wI_n (by omega) (by omega), obs, e1]
      have hN : NE (g_up r.2 68 (b + 2 + ns.length) r.1) := show g_up r.2 68 (b + 2 + ns.length) r.1 62 4 ≠ -1 by rw [g_up_row (by decide)]; exact hr
      rw [if_neg hN]
      exact ⟨_, stop, Or.inl ⟨rfl, hN⟩⟩
theorem n_fill103 {M : gM} {b : Nat} (hb : b ≤ 295) : T (lX9_readStep_103 (nI b) (nI 0, M)) (fun r => (∀ q, q ≠ 68 → r q = M q) ∧ ∀ a, r 68 a = if b + 2 ≤ a ∧ a < b + 5 then -1 else M 68 a) := by
  unfold lX9_readStep_103
  refine t_it (P := fun s => ∃ k, s.1 = nI k ∧ k ≤ 3 ∧ (∀ q, q ≠ 68 → s.2 q = M q) ∧ ∀ a, s.2 68 a = if b + 2 ≤ a ∧ a < b + 2 + k then -1 else M 68 a) (μ := fun s => 20 - s.1.toInt.toNat) (fun s p => ?_) ⟨0, rfl, by omega, fun _ _ => rfl, fun a => by rw [if_neg (by omega)]⟩
  obtain ⟨s1, s2⟩ := s
  obtain ⟨k, e1, hk, h2, h3⟩ := p
  dsimp only at e1 h2 h3
  subst e1
  dsimp only
  refine t_ite (fun c => ?_) (fun c => ?_)
  · have c := (nI_leI (a := 3) (b := k) (by omega) (by omega)).mp c
    have : k = 3 := by omega
    subst this
    exact t_ret (show _ ∧ _ from ⟨h2, h3⟩)
  · have c := mt (nI_leI (a := 3) (b := k) (by omega) (by omega)).mpr c
    rw [L2, nI_add, nI_add]
    refine t_be (wI_n (by omega) (by omega)) ?_
    rw [nI_1]
    refine t_nx ?_ (show 20 - (nI (k + 1)).toInt.toNat < 20 - (nI k).toInt.toNat by rw [nIt (by omega), nIt (by omega)]; omega)
    refine ⟨k + 1, rfl, by omega, fun q hq => ?_, fun a => ?_⟩
    · dsimp only; rw [g_up_row hq]; exact h2 q hq
    · dsimp only
      rw [gu_in, h3]
      by_cases d : a = b + 2 + k
      · rw [if_pos d, if_pos (by omega)]
      · rw [if_neg d]
        by_cases d2 : b + 2 ≤ a ∧ a < b + 2 + k
        · rw [if_pos d2, if_pos (by omega)]
        · rw [if_neg d2, if_neg (by omega)]
/-- a step is read at b -/
def SpS (I M : gM) (b q : Nat) (st : Nat × Nat × List Nat) : Prop := M 62 4 = -1 ∧ M 62 3 = nI q ∧ (∀ j, j ≠ 3 → M 62 j = I 62 j) ∧ (∀ a, a ≠ 62 → a ≠ 68 → M a = I a) ∧ ∀ a, M 68 a = if b ≤ a ∧ a < b + 5 then se st (a - b) else I 68 a
theorem n_99E {M : gM} {b so : Nat} {x : Int32} (hb : b ≤ 295) (hM : NE M) : ∃ r, bX9_readStep_99 (nI b) (nI so) x (nI (b + 1)) M = some r ∧ NE r := by
  unfold bX9_readStep_99
  rw [wI_n (by omega) (by omega), obs]
  obtain ⟨w8, e8, h1, _⟩ := n_fill103 (M := g_up M 68 (b + 1) x) hb
  rw [show ((0 : Int32), g_up M 68 (b + 1) x) = (nI 0, g_up M 68 (b + 1) x) from rfl, e8, obs]
  have hw : NE w8 := show w8 62 4 ≠ -1 by rw [h1 62 (by decide), g_up_row (by decide)]; exact hM
  by_cases c : nI so ≤ 1
  · rw [if_pos c, e_must hw, obs, if_neg hw]
    unfold bX9_readStep_152
    rw [show ((0 : Int32), (0 : Int32), w8) = (0, nI 0, w8) from rfl, s157_0, obs]
    exact ⟨w8, rfl, hw⟩
  · rw [if_neg c]
    exact ⟨w8, rfl, hw⟩
theorem n_99 {I M : gM} {n p b so a q : Nat} (hb : b ≤ 295) (hso : so ≤ 3) (hT : TP9 I n p) (hq : q ≤ n) (e4 : M 62 4 = -1) (e3 : M 62 3 = nI q) (ej : ∀ j, j ≠ 3 → M 62 j = I 62 j) (ek : ∀ x, x ≠ 62 → x ≠ 68 → M x = I x) (e68 : ∀ x, M 68 x = if x = b then nI so else I 68 x) :
    ∃ r, bX9_readStep_99 (nI b) (nI so) (nI a) (nI (b + 1)) M = some r ∧
      (((if so ≤ 1 then (pMust (I 63) n 58 q).bind fun p3 => (pNums (I 63) n 3 [] p3).bind fun y => some ((so, a, y.1), y.2) else some ((so, a, []), q)) = none ∧ NE r) ∨
       ∃ x, (if so ≤ 1 then (pMust (I 63) n 58 q).bind fun p3 => (pNums (I 63) n 3 [] p3).bind fun y => some ((so, a, y.1), y.2) else some ((so, a, []), q)) = some x ∧ x.2 ≤ n ∧ SpS I r b x.2 x.1) := by
  unfold bX9_readStep_99
  rw [wI_n (by omega) (by omega), obs]
  obtain ⟨N, e8, h1, h2⟩ := n_fill103 (M := g_up M 68 (b + 1) (nI a)) hb
  rw [show ((0 : Int32), g_up M 68 (b + 1) (nI a)) = (nI 0, g_up M 68 (b + 1) (nI a)) from rfl, e8, obs]
  have N62 : N 62 = M 62 := by rw [h1 62 (by decide), g_up_row (by decide)]
  have Nk : ∀ x, x ≠ 62 → x ≠ 68 → N x = I x := fun x y1 y2 => by rw [h1 x y2, g_up_row y2]; exact ek x y1 y2
  have N68 : ∀ x, N 68 x = if b ≤ x ∧ x < b + 5 then se (so, a, []) (x - b) else I 68 x := fun x => by
    rw [h2, gu_in, e68]
    unfold se ce
    by_cases d : b ≤ x ∧ x < b + 5
    · rw [if_pos d]
      by_cases d0 : x = b
      · rw [if_neg (by omega), if_neg (by omega), if_pos d0, if_pos (by omega)]
      · by_cases d1 : x = b + 1
        · rw [if_neg (by omega), if_pos d1, if_neg (by omega), if_pos (by omega)]
        · rw [if_pos (by omega), if_neg (by omega), if_neg (by omega), if_neg (by simp only [List.length_nil]; omega)]
    · rw [if_neg d, if_neg (by omega), if_neg (by omega), if_neg (by omega)]
  by_cases c : so ≤ 1
  · rw [if_pos (show nI so ≤ (1 : Int32) from (nI_leI (b := 1) (by omega) (by omega)).mpr c), if_pos c]
    have hTN : TP9 N n q := ⟨by rw [N62, ej 2 (by decide)]; exact hT.1, hT.2.1, by rw [N62]; exact e3, hq⟩
    have N4 : N 62 4 = -1 := by rw [N62]; exact e4
    have N63 : N 63 = I 63 := Nk 63 (by decide) (by decide)
    rcases n_must hTN N4 58 with ⟨p3, m1, m2⟩ | ⟨m1, r, m2, hr⟩
    · rw [N63] at m1
      have l3 := pMust_le (by decide) m1
      rw [m2, obs, m1, obs, if_pos (show P9 N p3 62 4 = -1 by rw [P9_j (by decide)]; exact N4)]
      unfold bX9_readStep_152
      have hS : StS N (P9 N p3) b p3 [] := ⟨by rw [P9_j (by decide)]; exact N4, P9_3, fun j hj => P9_j hj, fun a h1 _ => P9_k h1, fun a => by rw [P9_k (by decide), if_neg (by simp only [List.length_nil]; omega)]⟩
      obtain ⟨r, e5, h5⟩ := n_numsGo hb hTN 3 [] p3 (P9 N p3) (by omega) rfl hS l3
      rw [show ((1 : Int32), (0 : Int32), P9 N p3) = (1, nI ([] : List Nat).length, P9 N p3) from rfl, e5, obs]
      rw [N63] at h5
      refine ⟨r, rfl, ?_⟩
      rcases h5 with ⟨h6, h7⟩ | ⟨x, h6, h7, h8, g4, g3, gj, gk, g68⟩
      · rw [h6]; exact Or.inl ⟨rfl, h7⟩
      · rw [h6]
        refine Or.inr ⟨_, rfl, h7, g4, g3, fun j hj => ?_, fun y y1 y2 => (gk y y1 y2).trans (Nk y y1 y2), fun y => ?_⟩
        · rw [gj j hj, N62]; exact ej j hj
        · rw [g68, N68]
          unfold se ce
          dsimp only
          by_cases d : b ≤ y ∧ y < b + 5
          · rw [if_pos d, if_pos d]
            by_cases d2 : b + 2 ≤ y ∧ y < b + 2 + x.1.length
            · rw [if_pos d2, if_neg (by omega), if_neg (by omega), if_pos (by omega), show y - b - 2 = y - (b + 2) by omega]
            · rw [if_neg d2]
              by_cases d0 : y - b = 0
              · rw [if_pos d0, if_pos d0]
              · rw [if_neg d0, if_neg d0]
                by_cases d1 : y - b = 1
                · rw [if_pos d1, if_pos d1]
                · rw [if_neg d1, if_neg d1, if_neg (by simp only [List.length_nil]; omega), if_neg (by omega)]
          · rw [if_neg d, if_neg d, if_neg (by omega)]
    · rw [N63] at m1
      rw [m2, obs, m1, if_neg hr]
      unfold bX9_readStep_152
      rw [show ((0 : Int32), (0 : Int32), r) = (0, nI 0, r) from rfl, s157_0, obs]
      exact ⟨r, rfl, Or.inl ⟨rfl, hr⟩⟩
  · rw [if_neg (show ¬ nI so ≤ (1 : Int32) from mt (nI_leI (b := 1) (by omega) (by omega)).mp c), if_neg c]
    refine ⟨N, rfl, Or.inr ⟨_, rfl, hq, by rw [N62]; exact e4, by rw [N62]; exact e3, fun j hj => by rw [N62]; exact ej j hj, Nk, N68⟩⟩
