theorem n_46 {I : gM} {n p b so q : Nat} (hb : b ≤ 295) (hso : so ≤ 2) (hT : TP9 I n p) (hw : I 62 4 = -1) (hq : q < n) :
    ∃ r, bX9_readStep_46 (nI b) (nI so) (P9 I q) = some r ∧ ((pRowed (I 63) n so (q + 1) = none ∧ NE r) ∨ ∃ x, pRowed (I 63) n so (q + 1) = some x ∧ x.2 ≤ n ∧ SpS I r b x.2 x.1) := by
  unfold bX9_readStep_46 pRowed
  rw [if_neg (nI_m1 (by omega)), pU_n, obs, P9_3, nI_1, P9_pU, wI_n (by omega) (by omega), obs, if_neg (show ¬ nI so = (3 : Int32) from fun e => by have := nI_inj (b := 3) e (by omega) (by omega); omega)]
  generalize hM : g_up (P9 I (q + 1)) 68 b (nI so) = M
  have M62 : M 62 = P9 I (q + 1) 62 := by rw [← hM, g_up_row (by decide)]
  have Mk : ∀ x, x ≠ 62 → x ≠ 68 → M x = I x := fun x y1 y2 => by rw [← hM, g_up_row y2, P9_k y1]
  have M68 : ∀ x, M 68 x = if x = b then nI so else I 68 x := fun x => by rw [← hM, gu_in, P9_k (by decide)]
  have hTM : TP9 M n (q + 1) := ⟨by rw [M62, P9_j (by decide)]; exact hT.1, hT.2.1, by rw [M62, P9_3], by omega⟩
  have M63 : M 63 = I 63 := Mk 63 (by decide) (by decide)
  rcases n_digit hTM (by rw [M62, P9_j (by decide)]; exact hw) with ⟨d1, d2⟩ | ⟨d1, r, d2, hr⟩
  · rw [M63] at d1 d2
    have l1 := hr_lt (dg_ne d1)
    rw [d2, obs, if_pos d1, nI_1]
    dsimp only
    exact n_99 hb (by omega) hT (by omega) (by rw [P9_j (by decide), M62, P9_j (by decide)]; exact hw) P9_3 (fun j hj => by rw [P9_j hj, M62, P9_j hj]) (fun x y1 y2 => by rw [P9_k y1]; exact Mk x y1 y2) (fun x => by rw [P9_k (by decide)]; exact M68 x)
  · rw [M63] at d1
    rw [d2, obs, if_neg d1, nI_1]
    obtain ⟨r', e, h⟩ := n_99E (so := so) (x := r.1) hb hr
    exact ⟨r', e, Or.inl ⟨rfl, h⟩⟩
theorem n_46o {I : gM} {n p b q : Nat} (hb : b ≤ 295) (hT : TP9 I n p) (hw : I 62 4 = -1) (hq : q < n) :
    ∃ r, bX9_readStep_46 (nI b) (nI 3) (P9 I q) = some r ∧ ((((pNum (I 63) n 23 (q + 1)).bind fun x => some (((3, x.1, []), x.2) : (Nat × Nat × List Nat) × Nat)) = none ∧ NE r) ∨ ∃ x, ((pNum (I 63) n 23 (q + 1)).bind fun x => some (((3, x.1, []), x.2) : (Nat × Nat × List Nat) × Nat)) = some x ∧ x.2 ≤ n ∧ SpS I r b x.2 x.1) := by
  unfold bX9_readStep_46
  rw [if_neg (nI_m1 (by omega)), pU_n, obs, P9_3, nI_1, P9_pU, wI_n (by omega) (by omega), obs, if_pos (show nI 3 = (3 : Int32) from rfl)]
  generalize hM : g_up (P9 I (q + 1)) 68 b (nI 3) = M
  have M62 : M 62 = P9 I (q + 1) 62 := by rw [← hM, g_up_row (by decide)]
  have Mk : ∀ x, x ≠ 62 → x ≠ 68 → M x = I x := fun x y1 y2 => by rw [← hM, g_up_row y2, P9_k y1]
  have M68 : ∀ x, M 68 x = if x = b then nI 3 else I 68 x := fun x => by rw [← hM, gu_in, P9_k (by decide)]
  have hTM : TP9 M n (q + 1) := ⟨by rw [M62, P9_j (by decide)]; exact hT.1, hT.2.1, by rw [M62, P9_3], by omega⟩
  have M63 : M 63 = I 63 := Mk 63 (by decide) (by decide)
  rcases n_number hTM (by rw [M62, P9_j (by decide)]; exact hw) (hi := 23) (by omega) with ⟨v, q', d1, d2⟩ | ⟨d1, r, d2, hr⟩
  · rw [M63] at d1
    have l1 := (pNum_le d1).2.2
    rw [show (23 : Int32) = nI 23 from rfl, d2, obs, d1, obs, nI_1]
    dsimp only
    have h := n_99 (so := 3) (a := v) (q := q') (M := P9 M q') hb (by omega) hT l1 (by rw [P9_j (by decide), M62, P9_j (by decide)]; exact hw) P9_3 (fun j hj => by rw [P9_j hj, M62, P9_j hj]) (fun x y1 y2 => by rw [P9_k y1]; exact Mk x y1 y2) (fun x => by rw [P9_k (by decide)]; exact M68 x)
    rw [if_neg (show ¬ 3 ≤ 1 by decide)] at h
    exact h
  · rw [M63] at d1
    rw [show (23 : Int32) = nI 23 from rfl, d2, obs, d1, nI_1]
    obtain ⟨r', e, h⟩ := n_99E (so := 3) (x := r.1) hb hr
    exact ⟨r', e, Or.inl ⟨rfl, h⟩⟩
theorem n_readStep {I : gM} {n p b : Nat} (hb : b ≤ 295) (hT : TP9 I n p) (hw : I 62 4 = -1) :
    ∃ r, fX9_readStep (nI b) I = some r ∧ ((pStep (I 63) n p = none ∧ NE r) ∨ ∃ x, pStep (I 63) n p = some x ∧ x.2 ≤ n ∧ SpS I r b x.2 x.1) := by
  have hs := sk_le (w := I 63) hT.2.2.2
  unfold fX9_readStep pStep
  rw [n_ahead hT, obs]
  dsimp only
  have lt : ∀ {c : Int32}, c ≠ -1 → CLeapJoinLaw_law_r3989_430068.hr (I 63) n (sk (I 63) n p) = c → sk (I 63) n p < n := fun hc e => hr_lt (w := I 63) (by rw [e]; exact hc)
  by_cases c1 : CLeapJoinLaw_law_r3989_430068.hr (I 63) n (sk (I 63) n p) = 112
  · rw [if_pos c1, if_pos c1]
    exact n_46 (so := 0) hb (by omega) hT hw (lt (by decide) c1)
  rw [if_neg c1, if_neg c1]
  by_cases c2 : CLeapJoinLaw_law_r3989_430068.hr (I 63) n (sk (I 63) n p) = 116
  · rw [if_pos c2, if_pos c2]
    exact n_46 (so := 1) hb (by omega) hT hw (lt (by decide) c2)
  rw [if_neg c2, if_neg c2]
  by_cases c3 : CLeapJoinLaw_law_r3989_430068.hr (I 63) n (sk (I 63) n p) = 117
  · rw [if_pos c3, if_pos c3]
    exact n_46 (so := 2) hb (by omega) hT hw (lt (by decide) c3)
  rw [if_neg c3, if_neg c3]
  by_cases c4 : CLeapJoinLaw_law_r3989_430068.hr (I 63) n (sk (I 63) n p) = 111
  · rw [if_pos c4, if_pos c4]
    exact n_46o hb hT hw (lt (by decide) c4)
  rw [if_neg c4, if_neg c4]
  unfold bX9_readStep_46
  obtain ⟨r, er, hr⟩ := n_bad (hT.at hs.2)
  rw [if_pos rfl, er, obs]
  exact ⟨r, rfl, Or.inl ⟨rfl, hr⟩⟩
/-! a script -/
def pScr (w : Nat → Int32) (n : Nat) : Nat → List (Nat × Nat × List Nat) → Nat → Option (List (Nat × Nat × List Nat))
  | 0, _, _ => none
  | k + 1, ss, p => (pStep w n p).bind fun x =>
    if hr w n (sk w n x.2) = 59 ∧ k ≠ 0 then pScr w n k (ss ++ [x.1]) (sk w n x.2 + 1)
    else if hr w n (sk w n x.2) = -1 then some (ss ++ [x.1]) else none
/-- the steps ss of script s are read -/
def SsS (I M : gM) (s : Nat) (ss : List (Nat × Nat × List Nat)) : Prop := (∀ j, j ≠ 3 → M 62 j = I 62 j) ∧ (∀ a, a ≠ 62 → a ≠ 68 → a ≠ 69 → M a = I a) ∧ (∀ a, M 69 a = if a = s then nI ss.length else I 69 a) ∧
  ∀ a, M 68 a = if 60 * s ≤ a ∧ a < 60 * s + 5 * ss.length then se (ss.getD ((a - 60 * s) / 5) (0, 0, [])) ((a - 60 * s) % 5) else I 68 a
theorem SsS.mv {I M : gM} {s : Nat} {ss : List (Nat × Nat × List Nat)} (h : SsS I M s ss) (q : Nat) : SsS I (P9 M q) s ss :=
  ⟨fun j hj => by rw [P9_j hj]; exact h.1 j hj, fun a h1 h2 h3 => by rw [P9_k h1]; exact h.2.1 a h1 h2 h3, fun a => by rw [P9_k (by decide)]; exact h.2.2.1 a, fun a => by rw [P9_k (by decide)]; exact h.2.2.2 a⟩
theorem s77_0 {M : gM} : bX9_readScript_77 0 M = some (.inl (0, M)) := by
  unfold bX9_readScript_77 bX9_readScript_92
  rw [if_pos rfl, pU_n, obs, Int32.add_zero, g_up_same rfl]
theorem s77_1 {M : gM} {q : Nat} (h : M 62 3 = nI q) : bX9_readScript_77 1 M = some (.inl (1, P9 M (q + 1))) := by
  unfold bX9_readScript_77 bX9_readScript_92
  rw [if_neg n10, pU_n, obs, h, nI_1]; rfl
theorem s13_0 {s : Nat} {M : gM} : lX9_readScript_13 (nI s) (0, M) = some M := by
  unfold lX9_readScript_13
  rw [itO_eq]; dsimp only
  rw [if_pos rfl, obs]; rfl
noncomputable def k13 (s : Nat) : ((Int32 × gM) ⊕ gM) → Option gM := fun y => Sum.elim (fun s' => lX9_readScript_13 (nI s) s') (fun r => some r) y
theorem s13_1 {s : Nat} {M : gM} : lX9_readScript_13 (nI s) (1, M) = ((rI 5 (M 69) (nI s)).bind fun u3 => (fX9_readStep ((5 : Int32) * (((12 : Int32) * (nI s)) + u3)) M).bind fun r4 => (rI 5 (r4 69) (nI s)).bind fun u5 => (wI r4 69 5 (nI s) (u5 + 1)).bind fun I6 => if (I6 62 4) = (-1) then (fX9_ahead I6).bind fun r7 => if r7.1 = 59 then (rI 5 (r7.2 69) (nI s)).bind fun u8 => if (12 : Int32) ≤ u8 then bX9_readScript_76 r7.2 else bX9_readScript_77 (1 : Int32) r7.2 else bX9_readScript_76 r7.2 else bX9_readScript_76 I6).bind (k13 s) := by
  conv => lhs; unfold lX9_readScript_13
  rw [itO_eq]; dsimp only
  rw [if_neg n10]; rfl
theorem n_stepsGo {I : gM} {n p s : Nat} (hs4 : s ≤ 4) (hT : TP9 I n p) (hw : I 62 4 = -1) : ∀ (k : Nat) (ss : List (Nat × Nat × List Nat)) (q : Nat) (M : gM), 1 ≤ k → ss.length + k = 12 → SsS I M s ss → M 62 3 = nI q → q ≤ n →
    ∃ r, ((lX9_readScript_13 (nI s) (1, M)).bind fun w10 => fX9_ends w10) = some r ∧ ((pScr (I 63) n k ss q = none ∧ r.1 ≠ -1) ∨ ∃ x, pScr (I 63) n k ss q = some x ∧ r.1 = -1 ∧ SsS I r.2 s x) := by
  intro k
  induction k with
  | zero => intro ss q M h; omega
  | succ k ih =>
    intro ss q M _ hk hS e3 hq
    have M4 : M 62 4 = -1 := by rw [hS.1 4 (by decide)]; exact hw
    have M63 : M 63 = I 63 := hS.2.1 63 (by decide) (by decide) (by decide)
    have M69 : M 69 s = nI ss.length := by rw [hS.2.2.1, if_pos rfl]
    have hTM : TP9 M n q := ⟨by rw [hS.1 2 (by decide)]; exact hT.1, hT.2.1, e3, hq⟩
    obtain ⟨r, er, h⟩ := n_readStep (b := 5 * (12 * s + ss.length)) (by omega) hTM M4
    rw [M63] at h
    have f := xfX9_readStep _ _ er
    have r69 : r 69 = M 69 := funext fun j => f 69 j (Or.inl (by decide)) (Or.inl (by decide)) (by decide)
    unfold pScr
    rw [s13_1, rI_n (by omega) (by omega), obs, M69, a12, L5, nI_mul, er, obs, rI_n (by omega) (by omega), obs, r69, M69, nI_1, wI_n (by omega) (by omega), obs]
    generalize hN : g_up r 69 s (nI (ss.length + 1)) = N
    have Nk : ∀ a, a ≠ 69 → N a = r a := fun a ha => by rw [← hN, g_up_row ha]
    have N69 : ∀ a, N 69 a = if a = s then nI (ss.length + 1) else I 69 a := fun a => by
      rw [← hN, gu_in, r69, hS.2.2.1]
      by_cases d : a = s
      · rw [if_pos d, if_pos d]
      · rw [if_neg d, if_neg d, if_neg d]
    rcases h with ⟨e1, hr⟩ | ⟨x, e1, hx, g4, g3, gj, gk, g68⟩
    · have hN4 : NE N := by
        show N 62 4 ≠ -1
        rw [Nk 62 (by decide)]; exact hr
      rw [if_neg hN4, e1]
      unfold bX9_readScript_76
      rw [s77_0, obs]
      show ∃ r', ((lX9_readScript_13 (nI s) (0, N)).bind fun w => fX9_ends w) = some r' ∧ _
      rw [s13_0, obs, e_ends hN4]
      exact ⟨_, rfl, Or.inl ⟨rfl, hN4⟩⟩
    · have hTN : TP9 N n x.2 := ⟨by rw [Nk 62 (by decide), gj 2 (by decide)]; exact hTM.1, hT.2.1, by rw [Nk 62 (by decide)]; exact g3, hx⟩
      have N63 : N 63 = I 63 := by rw [Nk 63 (by decide), gk 63 (by decide) (by decide), M63]
      have N4 : N 62 4 = -1 := by rw [Nk 62 (by decide)]; exact g4
      have hs := sk_le (w := I 63) hx
      have ea := n_ahead hTN
      rw [N63] at ea
      have el : (ss ++ [x.1]).length = ss.length + 1 := by rw [List.length_append]; rfl
      have hSN : SsS I N s (ss ++ [x.1]) := by
        refine ⟨fun j hj => ?_, fun a h1 h2 h3 => ?_, fun a => ?_, fun a => ?_⟩
        · rw [Nk 62 (by decide), gj j hj]; exact hS.1 j hj
        · rw [Nk a h3, gk a h1 h2]; exact hS.2.1 a h1 h2 h3
        · rw [N69, el]
        · rw [Nk 68 (by decide), g68, hS.2.2.2, el]
          by_cases d1 : 5 * (12 * s + ss.length) ≤ a ∧ a < 5 * (12 * s + ss.length) + 5
          · rw [if_pos d1, if_pos (by omega), show (a - 60 * s) / 5 = ss.length by omega, show (a - 60 * s) % 5 = a - 5 * (12 * s + ss.length) by omega, List.getD_eq_getElem?_getD, List.getElem?_append_right (Nat.le_refl _), Nat.sub_self]; rfl
          · rw [if_neg d1]
            by_cases d2 : 60 * s ≤ a ∧ a < 60 * s + 5 * ss.length
            · rw [if_pos d2, if_pos (by omega), List.getD_eq_getElem?_getD, List.getD_eq_getElem?_getD, List.getElem?_append_left (by omega)]
            · rw [if_neg d2, if_neg (by omega)]
      rw [if_pos N4, ea, obs, e1, obs]
      dsimp only
      have hTS := hTN.at (q := sk (I 63) n x.2) hs.2
      have W2 : P9 N (sk (I 63) n x.2) 63 = I 63 := (P9_k (by decide)).trans N63
      have stop : ∃ r', (((bX9_readScript_76 (P9 N (sk (I 63) n x.2))).bind (k13 s)).bind fun w => fX9_ends w) = some r' ∧ (((if hr (I 63) n (sk (I 63) n x.2) = -1 then some (ss ++ [x.1]) else none) = none ∧ r'.1 ≠ -1) ∨ ∃ y, (if hr (I 63) n (sk (I 63) n x.2) = -1 then some (ss ++ [x.1]) else none) = some y ∧ r'.1 = -1 ∧ SsS I r'.2 s y) := by
        unfold bX9_readScript_76
        rw [s77_0, obs]
        show ∃ r', ((lX9_readScript_13 (nI s) (0, _)).bind fun w => fX9_ends w) = some r' ∧ _
        rw [s13_0, obs]
        rcases n_ends hTS (by rw [P9_j (by decide)]; exact N4) with ⟨z1, z2⟩ | ⟨z1, r', z2, z3, z4⟩
        · rw [W2, sk_sk hx] at z1 z2
          rw [z2, if_pos z1, P9_P9]
          exact ⟨_, rfl, Or.inr ⟨_, rfl, rfl, hSN.mv _⟩⟩
        · rw [W2, sk_sk hx] at z1
          rw [z2, if_neg z1]
          exact ⟨_, rfl, Or.inl ⟨rfl, z3⟩⟩
      by_cases c1 : hr (I 63) n (sk (I 63) n x.2) = 59
      · have l1 := hr_lt (w := I 63) (n := n) (p := sk (I 63) n x.2) (by rw [c1]; decide)
        have e9 : P9 N (sk (I 63) n x.2) 69 s = nI (ss.length + 1) := by rw [P9_k (by decide), N69, if_pos rfl]
        rw [if_pos c1, rI_n (by omega) (by omega), obs, e9]
        by_cases c2 : k = 0
        · rw [L12, if_pos ((nI_leI (by omega) (by omega)).mpr (by omega)), if_neg (fun z => z.2 c2)]
          exact stop
        · rw [L12, if_neg (mt (nI_leI (by omega) (by omega)).mp (by omega)), if_pos ⟨c1, c2⟩, s77_1 P9_3, obs, P9_P9]
          exact ih (ss ++ [x.1]) (sk (I 63) n x.2 + 1) (P9 N (sk (I 63) n x.2 + 1)) (by omega) (by rw [el]; omega) (hSN.mv _) P9_3 (by omega)
      · rw [if_neg c1, if_neg (fun z => c1 z.1)]
        exact stop
/-- the reference reads a script: told, or wrong -/
theorem n_readScript {I : gM} {n s : Nat} (hs : s ≤ 4) (hn : n ≤ 400) (e2 : I 62 2 = nI n) : ∃ r, fX9_readScript (nI s) I = some r ∧ ((pScr (I 63) n 12 [] 0 = none ∧ r.1 ≠ -1) ∨ ∃ x, pScr (I 63) n 12 [] 0 = some x ∧ r.1 = -1 ∧ r.2 69 s = nI x.length ∧ (∀ a, a ≠ s → r.2 69 a = I 69 a) ∧ ∀ a, r.2 68 a = if 60 * s ≤ a ∧ a < 60 * s + 5 * x.length then se (x.getD ((a - 60 * s) / 5) (0, 0, [])) ((a - 60 * s) % 5) else I 68 a) := by
  unfold fX9_readScript fX9_begins
  rw [pU_n, obs, pU_n, obs, obs, wI_n (by omega) (by omega), obs]
  generalize hN : g_up (g_up (g_up I 62 3 0) 62 4 (-1)) 69 s 0 = N
  have Nj : ∀ j, j ≠ 3 → j ≠ 4 → N 62 j = I 62 j := fun j h1 h2 => by rw [← hN, g_up_row (by decide), g_up_ne (Or.inr h2), g_up_ne (Or.inr h1)]
  have N3 : N 62 3 = nI 0 := by rw [← hN, g_up_row (by decide), g_up_ne (Or.inr (by decide)), g_up_self]; rfl
  have N4 : N 62 4 = -1 := by rw [← hN, g_up_row (by decide), g_up_self]
  have Nk : ∀ k, k ≠ 62 → k ≠ 69 → N k = I k := fun k h1 h2 => by rw [← hN, g_up_row h2, g_up_row h1, g_up_row h1]
  have N69 : ∀ a, N 69 a = if a = s then nI 0 else I 69 a := fun a => by rw [← hN, gu_in, g_up_row (by decide), g_up_row (by decide)]; rfl
  have hTN : TP9 N n 0 := ⟨by rw [Nj 2 (by decide) (by decide)]; exact e2, hn, N3, by omega⟩
  obtain ⟨r, er, h⟩ := n_stepsGo hs hTN N4 12 [] 0 N (by omega) rfl ⟨fun _ _ => rfl, fun _ _ _ _ => rfl, fun a => by
    by_cases d : a = s
    · rw [if_pos d, N69, if_pos d]; rfl
    · rw [if_neg d], fun a => by rw [if_neg (by simp only [List.length_nil]; omega)]⟩ N3 (by omega)
  rw [Nk 63 (by decide) (by decide)] at h
  obtain ⟨w7, e7, h7⟩ := ob er
  rw [e7, obs, h7, obs]
  refine ⟨_, rfl, ?_⟩
  rcases h with ⟨e1, h1⟩ | ⟨x, e1, h1, _, _, h3, h4⟩
  · exact Or.inl ⟨e1, h1⟩
  · refine Or.inr ⟨x, e1, h1, by rw [h3, if_pos rfl], fun a ha => by rw [h3, if_neg ha, N69, if_neg ha], fun a => by rw [h4, Nk 68 (by decide) (by decide)]⟩
