/-! scripts and ways: acts of both one after the other -/
theorem partOf_n {k i c : Nat} {M : gM} (h : 5 * i + c < 60) : fX4_partOf k (nI i) (nI c) M = some (M (k + 1) (5 * i + c)) := by
  unfold fX4_partOf
  rw [L5, nI_mul, nI_add, show i * 5 + c = 5 * i + c by omega, rI_n h (by omega), obs]
theorem pc_end {k i n : Nat} {M : gM} (e : M k 0 = nI n) (h : n ≤ i) (hn : n ≤ 12) (hi : i ≤ 12) : lX8_perform_29 k (nI i, M) = some (.inr M) := by
  unfold lX8_perform_29
  rw [itO_eq]; dsimp only
  rw [if_pos (show M k 0 ≤ nI i by rw [e]; exact (nI_leI (by omega) (by omega)).mpr h), obs]; rfl
theorem pc_step {k i n : Nat} {M : gM} (e : M k 0 = nI n) (h : i < n) (hn : n ≤ 12) : lX8_perform_29 k (nI i, M) = (fX8_attempt (M (k + 1) (5 * i)) (M (k + 1) (5 * i + 1)) (M (k + 1) (5 * i + 2)) (M (k + 1) (5 * i + 3)) (M (k + 1) (5 * i + 4)) M).bind fun r8 => if r8.1 = -1 then lX8_perform_29 k (nI (i + 1), r8.2) else some (.inl (nI i, r8.2)) := by
  conv => lhs; unfold lX8_perform_29
  rw [itO_eq]; dsimp only
  have p0 : fX4_partOf k (nI i) 0 M = some (M (k + 1) (5 * i)) := partOf_n (k := k) (i := i) (c := 0) (M := M) (by omega)
  have p1 : fX4_partOf k (nI i) 1 M = some (M (k + 1) (5 * i + 1)) := partOf_n (k := k) (i := i) (c := 1) (M := M) (by omega)
  have p2 : fX4_partOf k (nI i) 2 M = some (M (k + 1) (5 * i + 2)) := partOf_n (k := k) (i := i) (c := 2) (M := M) (by omega)
  have p3 : fX4_partOf k (nI i) 3 M = some (M (k + 1) (5 * i + 3)) := partOf_n (k := k) (i := i) (c := 3) (M := M) (by omega)
  have p4 : fX4_partOf k (nI i) 4 M = some (M (k + 1) (5 * i + 4)) := partOf_n (k := k) (i := i) (c := 4) (M := M) (by omega)
  rw [if_neg (show ¬ M k 0 ≤ nI i by rw [e]; exact mt (nI_leI (by omega) (by omega)).mp (by omega)), p0, obs, p1, obs, p2, obs, p3, obs, p4, obs, nI_1]
  generalize fX8_attempt _ _ _ _ _ M = o
  cases o with
  | none => rfl
  | some r8 =>
    rw [obs, obs]
    by_cases c : r8.1 = -1
    · rw [if_pos c, if_pos c, obs]; rfl
    · rw [if_neg c, if_neg c, obs]; rfl
theorem rs_end {s i n : Nat} {R : gM} (hs : s < 4) (e : R 69 s = nI n) (h : n ≤ i) (hn : n ≤ 12) (hi : i ≤ 12) (b : Int32) : lX9_goSteps_2 (nI s) b (nI i, R) = some (.inr R) := by
  unfold lX9_goSteps_2
  rw [itO_eq]; dsimp only
  rw [rI_n (by omega) (by omega), obs, e, if_pos ((nI_leI (by omega) (by omega)).mpr h), obs]; rfl
theorem rs_step {s i n : Nat} {R : gM} (hs : s < 4) (e : R 69 s = nI n) (h : i < n) (hn : n ≤ 12) : lX9_goSteps_2 (nI s) (nI 1) (nI i, R) = (fX9_whyNot (R 68 (60 * s + 5 * i)) (R 68 (60 * s + 5 * i + 1)) (R 68 (60 * s + 5 * i + 2)) (R 68 (60 * s + 5 * i + 3)) (R 68 (60 * s + 5 * i + 4)) R).bind fun r7 => if r7 = -1 then (fX9_act (R 68 (60 * s + 5 * i)) (R 68 (60 * s + 5 * i + 1)) (R 68 (60 * s + 5 * i + 2)) (R 68 (60 * s + 5 * i + 3)) (R 68 (60 * s + 5 * i + 4)) R).bind (fun r19 => lX9_goSteps_2 (nI s) (nI 1) (nI (i + 1), r19.2)) else some (.inl (nI i, R)) := by
  conv => lhs; unfold lX9_goSteps_2
  rw [itO_eq]; dsimp only
  have b0 : (5 : Int32) * ((12 : Int32) * nI s + nI i) = nI (60 * s + 5 * i) := by rw [a12, L5, nI_mul]; congr 1; omega
  rw [rI_n (by omega) (by omega), obs, e, if_neg (mt (nI_leI (by omega) (by omega)).mp (by omega)), b0, rI_n (by omega) (by omega), obs, show nI (60 * s + 5 * i) + 1 = nI (60 * s + 5 * i + 1) from nI_1 _, rI_n (by omega) (by omega), obs, show nI (60 * s + 5 * i) + 2 = nI (60 * s + 5 * i + 2) by rw [L2, nI_add], rI_n (by omega) (by omega), obs, show nI (60 * s + 5 * i) + 3 = nI (60 * s + 5 * i + 3) by rw [L3, nI_add], rI_n (by omega) (by omega), obs, show nI (60 * s + 5 * i) + 4 = nI (60 * s + 5 * i + 4) by rw [L4, nI_add], rI_n (by omega) (by omega), obs]
  generalize fX9_whyNot _ _ _ _ _ R = o
  cases o with
  | none => rfl
  | some r7 =>
    simp only [obs]
    by_cases c : r7 = -1
    · rw [if_pos c, if_pos c, if_neg (show ¬ nI 1 = 0 from n10)]
      generalize fX9_act _ _ _ _ _ R = o
      cases o with
      | none => rfl
      | some r19 =>
        simp only [obs]
        unfold bX9_goSteps_178
        rw [obs, nI_1]; rfl
    · rw [if_neg c, if_neg c, obs]; rfl
theorem perf_go {C : Nat} (hC : C ≤ 3) (hJ : C = 3 → JE) {I0 R0 : gM} {s : Nat} (hs : s < 4) {ss : List (Nat × Nat × List Nat)} (h12 : ss.length ≤ 12) (hok : ∀ i, i < ss.length → stepOK (ss.getD i (0, 0, []))) : ∀ (d i : Nat) (M R : gM) (S : Nat → aT) (m nx : Nat), i + d = ss.length → MI true I0 M → MI false R0 R → A9 R → InvS2 C M R S m nx → (C = 3 → M 22 0 = 0) → ScK M (54 + 2 * s) ss → R 69 s = nI ss.length → (∀ a, a < 5 * ss.length → R 68 (60 * s + a) = se (ss.getD (a / 5) (0, 0, [])) (a % 5)) →
    ∃ M' R' S' m' nx', ((lX8_perform_29 (54 + 2 * s) (nI i, M) = some (.inr M') ∧ lX9_goSteps_2 (nI s) (nI 1) (nI i, R) = some (.inr R')) ∨ ∃ j, j < 12 ∧ lX8_perform_29 (54 + 2 * s) (nI i, M) = some (.inl (nI j, M')) ∧ lX9_goSteps_2 (nI s) (nI 1) (nI i, R) = some (.inl (nI j, R'))) ∧ MI true I0 M' ∧ MI false R0 R' ∧ A9 R' ∧ InvS2 C M' R' S' m' nx' ∧ (∀ q, q = 0 ∨ q = 1 ∨ q = 2 ∨ 50 ≤ q ∧ q < 62 → M' q = M q) ∧ (∀ j, j ≠ 19 → j ≠ 26 → j ≠ 27 → j ≠ 29 → R' 62 j = R 62 j) ∧ (∀ k, k ≠ 62 → k ≠ 70 → k ≠ 74 → k ≠ 75 → k ≠ 76 → k ≠ 77 → k ≠ 78 → k ≠ 79 → k ≠ 80 → k ≠ 81 → R' k = R k) := by
  intro d
  induction d with
  | zero =>
    intro i M R S m nx hi hM hM9 hA9 h hz hk e69 e68
    exact ⟨M, R, S, m, nx, Or.inl ⟨pc_end hk.1 (by omega) h12 (by omega), rs_end hs e69 (by omega) h12 (by omega) _⟩, hM, hM9, hA9, h, fun _ _ => rfl, fun _ _ _ _ _ => rfl, fun _ _ _ _ _ _ _ _ _ _ _ => rfl⟩
  | succ d ih =>
    intro i M R S m nx hi hM hM9 hA9 h hz hk e69 e68
    rw [pc_step hk.1 (by omega) h12, rs_step hs e69 (by omega) h12]
    have hst := hok i (by omega)
    generalize hg : ss.getD i (0, 0, []) = st at *
    have g8 : ∀ c, c < 5 → M (54 + 2 * s + 1) (5 * i + c) = se st c := fun c hc => by
      rw [hk.2.2 _ (by omega), show (5 * i + c) / 5 = i by omega, show (5 * i + c) % 5 = c by omega, hg]
    have g9 : ∀ c, c < 5 → R 68 (60 * s + 5 * i + c) = se st c := fun c hc => by
      rw [show 60 * s + 5 * i + c = 60 * s + (5 * i + c) by omega, e68 _ (by omega), show (5 * i + c) / 5 = i by omega, show (5 * i + c) % 5 = c by omega, hg]
    have z8 : M (54 + 2 * s + 1) (5 * i) = se st 0 := g8 0 (by omega)
    have z9 : R 68 (60 * s + 5 * i) = se st 0 := g9 0 (by omega)
    rw [z8, g8 1 (by omega), g8 2 (by omega), g8 3 (by omega), g8 4 (by omega), z9, g9 1 (by omega), g9 2 (by omega), g9 3 (by omega), g9 4 (by omega)]
    have q0 : se st 0 = nI st.1 := rfl
    rw [q0]
    have hx : 2 ≤ st.1 → se st 2 = -1 ∧ se st 3 = -1 ∧ se st 4 = -1 := fun c => by
      have e := hst.2 c
      unfold se ce
      rw [e]
      exact ⟨rfl, rfl, rfl⟩
    rcases try_two hM hM9 hA9 h hC (fun c => ⟨hJ c, hz c⟩) (s := st.1) hst.1 (se st 1) (se st 2) (se st 3) (se st 4) (se st 2) (se st 3) (se st 4) hx (fun _ => ⟨rfl, rfl, rfl⟩) with ⟨r, hr, e1, e2⟩ | ⟨a, v, b, S', m', nx', e1, e2, e3, Ma, Mb, Ab, hS, _, f8, f62, f9, _, f22⟩
    · rw [e1, obs, e2, obs]
      dsimp only
      rw [if_neg (nI_m1 (by omega)), if_neg (nI_m1 (by omega))]
      exact ⟨M, R, S, m, nx, Or.inr ⟨i, by omega, rfl, rfl⟩, hM, hM9, hA9, h, fun _ _ => rfl, fun _ _ _ _ _ => rfl, fun _ _ _ _ _ _ _ _ _ _ _ => rfl⟩
    · rw [e2, obs, e1, obs, e3]
      dsimp only
      rw [if_pos rfl, if_pos rfl, obs]
      have hk' : ScK a (54 + 2 * s) ss := ⟨by rw [f8 _ (by omega)]; exact hk.1, hk.2.1, fun x hx => by rw [f8 _ (by omega)]; exact hk.2.2 x hx⟩
      have b68 : b 68 = R 68 := f9 68 (by omega) (by omega) (by omega) (by omega) (by omega) (by omega) (by omega) (by omega) (by omega) (by omega)
      have b69 : b 69 = R 69 := f9 69 (by omega) (by omega) (by omega) (by omega) (by omega) (by omega) (by omega) (by omega) (by omega) (by omega)
      obtain ⟨M', R', S2, m2, nx2, hc, k1, k2, k3, k4, k5, k6, k7⟩ := ih (i + 1) a b S' m' nx' (by omega) Ma Mb Ab hS (fun c => by rw [f22]; exact hz c) hk' (by rw [b69]; exact e69) (fun x hx => by rw [b68]; exact e68 x hx)
      exact ⟨M', R', S2, m2, nx2, hc, k1, k2, k3, k4, fun q hq => (k5 q hq).trans (f8 q hq), fun j h1 h2 h3 h4 => (k6 j h1 h2 h3 h4).trans (f62 j h1 h2 h3 h4), fun k h1 h2 h3 h4 h5 h6 h7 h8 h9 h10 => (k7 k h1 h2 h3 h4 h5 h6 h7 h8 h9 h10).trans (f9 k h1 h2 h3 h4 h5 h6 h7 h8 h9 h10)⟩
/-- the state of both objects at the end of a call, the class's memory and the reference's one -/
theorem InvA.mk2 {C : Nat} {I a b : gM} (h : InvA C I) (hC : C ≤ 3) (Ma : MI true I a) (Mb : MI false a b) (Ab : A9 b) {S : Nat → aT} {m nx : Nat} (hS : InvS2 C a b S m nx) (k1 : a 1 0 = I 1 0) (k2 : a 2 = I 2) (k14 : a 0 14 = I 0 14) (k54 : ∀ k, 54 ≤ k → k ≤ 61 → a k = I k) (j2 : b 62 2 = I 62 2) (j12 : b 62 12 = I 62 12) (b63 : b 63 = I 63) (b68 : b 68 = I 68) (b69 : b 69 = I 69) : InvA C b := by
  obtain ⟨_, _, hT, hSc, _⟩ := h
  have lo : ∀ k, k < 62 → b k = a k := fun k hk => Mb.lo hk
  refine ⟨Ma.both Mb, Ab, hT.keep (by rw [lo 1 (by omega), k1]) (by rw [lo 2 (by omega), k2]) j2 b63, hSc.keep (by rw [lo 0 (by omega), k14]) j12 (fun k h1 h2 => by rw [lo k (by omega), k54 k h1 h2]) (fun _ _ => by rw [b68]) (fun _ _ => by rw [b69]), S, m, nx, ?_⟩
  exact (hS.cong hC (by rw [lo 0 (by omega)]) (fun k hk => lo k (by omega)) (fun _ _ => rfl) (fun _ _ => rfl)).both
theorem scr_n {I : gM} (h : SCR I) {n : Nat} (hn : n ≤ 4) (e : I 62 12 = nI n) (v : Int32) : (∃ s, s < n ∧ v = nI s ∧ fX8_isScript v I = some 1) ∨ ((∀ s, s < n → v ≠ nI s) ∧ fX8_isScript v I = some 0) := by
  unfold fX8_isScript
  rw [h.1, e]
  by_cases c : v < 0
  · have c' := (iLT (a := v) (b := 0) rfl t0i).mp c
    rw [if_pos c]
    exact Or.inr ⟨fun t ht z => by rw [z, tnI (by omega)] at c'; omega, rfl⟩
  · have c' := mt (iLT (a := v) (b := 0) rfl t0i).mpr c
    rw [if_neg c]
    have ev := nI_self (x := v) (by omega)
    by_cases d : nI n ≤ v
    · rw [if_pos d]
      refine Or.inr ⟨fun t ht z => ?_, rfl⟩
      rw [z] at d
      have := (nI_leI (by omega) (by omega)).mp d
      omega
    · rw [if_neg d]
      have h2 := mt (iLE (a := nI n) (b := v) (tnI (by omega)) rfl).mpr d
      rw [if_neg (fun q => by have q := (iLE (a := (4 : Int32)) (b := v) (by decide : (4 : Int32).toInt = 4) rfl).mp q; omega)]
      exact Or.inl ⟨v.toInt.toNat, by omega, ev, rfl⟩
theorem all_perform {C : Nat} {I : gM} (h : InvA C I) (hC : C ≤ 3) (hJ : C = 3 → JE ∧ I 22 0 = 0) (v : Int32) : ∃ a b, fX8_perform v I = some a ∧ fX9_perform v a.2 = some b ∧ InvA C b.2 ∧ a.1 = b.1 := by
  obtain ⟨hM, hA9, hT, hS, S, m, nx, hR⟩ := id h
  obtain ⟨n, hn, en⟩ := hM.n (k := 62) (j := 12) (hi := 4) rfl
  have hWm := hR.2.1 m (Nat.le_refl _)
  have b1 := hR.2.2.1.1
  have b2 := hR.2.2.1.2.1
  rcases scr_n hS hn en v with ⟨s, hs, rfl, e1⟩ | ⟨hno, e1⟩
  · have e2 : ∀ {r : gM}, r 62 12 = nI n → fX9_isScript (nI s) r = some 1 := fun er => by
      rcases n_isScript hn er (nI s) with ⟨_, _, _, z⟩ | ⟨z, _⟩
      · exact z
      · exact absurd rfl (z s hs)
    by_cases n0 : (S m).1.length = 0
    · refine ⟨(-1, I), (-1, I), ?_, ?_, h, rfl⟩
      · unfold fX8_perform
        rw [e1, obs, if_neg n10, b1.1, n0, if_pos (show nI 0 = 0 from rfl)]
      · unfold fX9_perform
        rw [e2 en, obs, if_neg n10, n_areTables hWm.1 b2.1, obs, if_pos n0, if_pos rfl]
    · obtain ⟨p, ep, hp⟩ := tfX8_perform (nI s) I hM
      obtain ⟨ss, k1, k2, k3, k4⟩ := hS.2 s (by omega) (by rw [en, nIt (by omega)]; omega)
      have hi : ∀ k, 62 ≤ k → p.2 k = I k := fun k hk => hp.hi hk
      have hS2 : InvS2 C I p.2 S m nx := (InvS2.one hR).cong hC rfl (fun _ _ => rfl) (fun j _ => by rw [hi 62 (by omega)]) (fun k hk => hi k (by omega))
      obtain ⟨M', R', S', m', nx', hc, g1, g2, g3, g4, g5, g6, g7⟩ := perf_go hC (fun c => (hJ c).1) (by omega) k1.2.1 k4 ss.length 0 I p.2 S m nx (by omega) hM (hp.re (b' := false)) (A9.hi hp hA9) hS2 (fun c => (hJ c).2) k1 (by rw [hi 69 (by omega)]; exact k2) (fun a ha => by rw [hi 68 (by omega)]; exact k3 a ha)
      have ho := hWm.1
      have e8 : fX8_perform (nI s) I = ((lX8_perform_29 (54 + 2 * s) (nI 0, I)).bind fun w9 => Sum.elim (fun w9_0 => some (w9_0.1, w9_0.2)) (fun w9_1 => some (w9_1 (54 + 2 * s) 0, w9_1)) w9) := by
        unfold fX8_perform
        rw [e1, obs, if_neg n10, b1.1, if_neg (show ¬ nI (S m).1.length = 0 from fun q => n0 (nI_inj (b := 0) q (by omega) (by omega))), rA_n (by omega), obs]; rfl
      have e9 : fX9_perform (nI s) p.2 = ((lX9_goSteps_2 (nI s) (nI 1) (nI 0, p.2)).bind fun w20 => Sum.elim (fun w20_0 => some (w20_0.1, w20_0.2)) (fun w20_1 => (rI 5 (w20_1 69) (nI s)).bind fun u21 => some (u21, w20_1)) w20) := by
        unfold fX9_perform fX9_goSteps
        rw [e2 (by rw [hi 62 (by omega)]; exact en), obs, if_neg n10, n_areTables hWm.1 (by rw [hi 62 (by omega)]; exact b2.1), obs, if_neg n0, if_neg n10]
        change ((lX9_goSteps_2 (nI s) (nI 1) (nI 0, p.2)).bind _).bind _ = _
        cases lX9_goSteps_2 (nI s) (nI 1) (nI 0, p.2) with
        | none => rfl
        | some w =>
          cases w with
          | inl w => rfl
          | inr w =>
            show ((rI 5 (w 69) (nI s)).bind _).bind _ = (rI 5 (w 69) (nI s)).bind _
            cases rI 5 (w 69) (nI s) with
            | none => rfl
            | some u => rfl
      rw [ep] at e8
      have b69 : R' 69 = p.2 69 := g7 69 (by omega) (by omega) (by omega) (by omega) (by omega) (by omega) (by omega) (by omega) (by omega) (by omega)
      have fin : p.2 = M' → ∀ x : Int32, fX9_perform (nI s) p.2 = some (x, R') → p.1 = x → ∃ a b, fX8_perform (nI s) I = some a ∧ fX9_perform (nI s) a.2 = some b ∧ InvA C b.2 ∧ a.1 = b.1 := by
        intro eM x ex ea
        refine ⟨p, (x, R'), ep, ex, ?_, ea⟩
        have g4' : InvS2 C p.2 R' S' m' nx' := by rw [eM]; exact g4
        show InvA C R'
        refine h.mk2 hC hp g2 g3 g4' ?_ ?_ ?_ (fun k h1 h2 => ?_) ?_ ?_ ?_ ?_ ?_
        · rw [eM, g5 1 (by omega)]
        · rw [eM, g5 2 (by omega)]
        · rw [eM, g5 0 (by omega)]
        · rw [eM, g5 k (by omega)]
        · rw [g6 2 (by omega) (by omega) (by omega) (by omega), hi 62 (by omega)]
        · rw [g6 12 (by omega) (by omega) (by omega) (by omega), hi 62 (by omega)]
        · rw [g7 63 (by omega) (by omega) (by omega) (by omega) (by omega) (by omega) (by omega) (by omega) (by omega) (by omega), hi 63 (by omega)]
        · rw [g7 68 (by omega) (by omega) (by omega) (by omega) (by omega) (by omega) (by omega) (by omega) (by omega) (by omega), hi 68 (by omega)]
        · rw [b69, hi 69 (by omega)]
      rcases hc with ⟨c1, c2⟩ | ⟨j, hj, c1, c2⟩
      · rw [c1, obs] at e8
        rw [c2, obs] at e9
        have e8 : some p = some (M' (54 + 2 * s) 0, M') := e8
        have e9 : fX9_perform (nI s) p.2 = (rI 5 (R' 69) (nI s)).bind fun u21 => some (u21, R') := e9
        obtain hpe := Option.some.inj e8
        rw [rI_n (by omega) (by omega), obs] at e9
        refine fin (by rw [hpe]) _ e9 ?_
        rw [hpe]
        dsimp only
        rw [g5 _ (by omega), k1.1, b69, hi 69 (by omega), k2]
      · rw [c1, obs] at e8
        rw [c2, obs] at e9
        have e8 : some p = some (nI j, M') := e8
        have e9 : fX9_perform (nI s) p.2 = some (nI j, R') := e9
        obtain hpe := Option.some.inj e8
        exact fin (by rw [hpe]) _ e9 (by rw [hpe])
  · refine ⟨(-1, I), (-1, I), ?_, ?_, h, rfl⟩
    · unfold fX8_perform
      rw [e1, obs, if_pos rfl]
    · have e2 : fX9_isScript v I = some 0 := by
        rcases n_isScript hn en v with ⟨t, z1, z2, _⟩ | ⟨_, z⟩
        · exact absurd z2 (hno t z1)
        · exact z
      unfold fX9_perform
      rw [e2, obs, if_pos rfl]
/-! ways -/
theorem draw_two (J K : gN) (h : J 0 16 = K 62 30) {m : Nat} (hm : 0 < m) (hm2 : m < 2 ^ 31) : ∃ k J' K', k < m ∧ fX8_draw (nI m) J = some (nI k, J') ∧ fX9_draw (nI m) K = some (nI k, K') ∧ J' 0 16 = K' 62 30 := by
  obtain ⟨q, q1, q2⟩ := lU_33 (dr9 (K 62 30))
  obtain ⟨u, u1, u2⟩ := n_lM q2 q1 hm hm2
  refine ⟨q % m, g_up J 0 16 (dr9 (J 0 16)), g_up K 62 30 (dr9 (K 62 30)), Nat.mod_lt _ hm, ?_, ?_, by rw [g_up_self, g_up_self, h]⟩
  · unfold fX8_draw
    rw [pU_n, obs, g_up_self, if_neg (show ¬ nI m ≤ 0 from fun z => by have := (nI_leI (b := 0) (by omega) (by omega)).mp z; omega), show (J 0 16 * 6364136223846793005 + 1442695040888963407) = dr9 (K 62 30) by rw [h]; rfl, u1, obs, u2, h]
  · unfold fX9_draw
    rw [pU_n, obs, g_up_self, show (K 62 30 * 6364136223846793005 + 1442695040888963407) = dr9 (K 62 30) from rfl, u1, obs, u2]
theorem cell_v {k c : Nat} (hk : k < 2097152) (hc : c < 3) : (nI k >>> (((14 : Int32) - ((7 : Int32) * nI c)) &&& 31)) &&& 127 = nI (dgt c k) := by
  rcases (by omega : c = 0 ∨ c = 1 ∨ c = 2) with rfl | rfl | rfl
  · rw [sh_0, pk_shrN (by omega) 14 14 (by decide), pk_andN (by omega) 7 (by decide), dgt_0]
    congr 1; omega
  · rw [sh_1, pk_shrN (by omega) 7 7 (by decide), pk_andN (by omega) 7 (by decide), dgt_1]
  · rw [sh_2, pk_shrN (by omega) 0 0 (by decide), pk_andN (by omega) 7 (by decide), dgt_2]
    congr 1; omega
/-- a cell of the class's tables -/
theorem c_cellK {I : gM} {A : aT} {t i c : Nat} (hW : WF A) (hC : CT I 3 A) (ht : t < A.1.length) (hi : i < 12) (hc : c < 3) : fX8_cell (nI t) (nI i) (nI c) I = some (if i < (aK A t).length ∧ c < (aL A t).length then nI (dgt c ((aK A t).getD i 0)) else -1) := by
  have hn4 := hW.1
  have w := hW.2.2.2.2 t ht
  have w4 := w.2.2.2.1
  have w1 := w.1
  have hCt := (hC.2.2.2 t ht).2.2
  have h1 : fX5_isTable 3 (nI t) I = some 1 := by
    rcases c_isTable hn4 hC.1 (nI t) with ⟨_, _, _, z⟩ | ⟨z, _⟩
    · exact z
    · exact absurd rfl (z t ht)
  unfold fX8_cell
  rw [h1, obs, if_neg n10, L0, if_neg (mt (nI_ltI (by omega) (by omega)).mp (by omega)), rI_n (by omega) (by omega), obs, show I 5 t = nI (aK A t).length from hCt.1]
  by_cases c1 : i < (aK A t).length
  · rw [if_neg (mt (nI_leI (by omega) (by omega)).mp (by omega)), if_neg (mt (nI_ltI (by omega) (by omega)).mp (by omega)), rI_n (by omega) (by omega), obs, show I 4 t = nI (aL A t).length from (hC.2.2.2 t ht).1]
    by_cases c2 : c < (aL A t).length
    · rw [if_pos ((nI_ltI (by omega) (by omega)).mpr c2), c_rowAt (by omega) w4 hCt c1, obs, cell_v (k_lt w i c1) hc, if_pos ⟨c1, c2⟩]
    · rw [if_neg (mt (nI_ltI (by omega) (by omega)).mp c2), if_neg (fun z => c2 z.2)]
  · rw [if_pos ((nI_leI (by omega) (by omega)).mpr (by omega)), if_neg (fun z => c1 z.1)]
/-- what one way leaves -/
def WO (C n : Nat) (I0 R0 M R : gM) (x : Option (gM × gN)) (y : Option (gM × gN)) : Prop := ∃ a b J K S m nx, x = some (a, J) ∧ y = some (b, K) ∧ J 0 16 = K 62 30 ∧ MI true I0 a ∧ MI false R0 b ∧ A9 b ∧ InvS2 C a b S m nx ∧ (S m).1.length = n ∧ (∀ q, q = 0 ∨ q = 1 ∨ q = 2 ∨ 50 ≤ q ∧ q < 62 → a q = M q) ∧ (∀ j, j ≠ 19 → j ≠ 26 → j ≠ 27 → j ≠ 29 → b 62 j = R 62 j) ∧ (∀ k, k ≠ 62 → k ≠ 70 → k ≠ 74 → k ≠ 75 → k ≠ 76 → k ≠ 77 → k ≠ 78 → k ≠ 79 → k ≠ 80 → k ≠ 81 → b k = R k) ∧ a 22 0 = M 22 0
theorem way_try {C : Nat} (hC : C ≤ 3) {I0 M R0 R : gM} (hJ : C = 3 → JE ∧ M 22 0 = 0) (hM : MI true I0 M) (hM9 : MI false R0 R) (hA9 : A9 R) {S : Nat → aT} {m nx : Nat} (h : InvS2 C M R S m nx) {s : Nat} (hs : s < 4) (num x y z x' y' z' : Int32) (h2 : 2 ≤ s → x = -1 ∧ y = -1 ∧ z = -1) (h1 : s < 2 → x' = x ∧ y' = y ∧ z' = z) {J K : gN} (hJK : J 0 16 = K 62 30) :
    WO C (S m).1.length I0 R0 M R ((fX8_attempt (nI s) num x y z M).bind fun r3 => some (r3.2, J)) ((fX9_tryOne (nI s) num x' y' z' R).bind fun r => some (r, K)) := by
  unfold fX9_tryOne
  rcases try_two hM hM9 hA9 h hC hJ hs num x y z x' y' z' h2 h1 with ⟨r, hr, e1, e2⟩ | ⟨a, v, b, S', m', nx', e1, e2, e3, Ma, Mb, Ab, hS, hn, f8, f62, f9, _, f22⟩
  · rw [e1, obs, e2, obs, if_neg (nI_m1 (by omega)), obs]
    exact ⟨M, R, J, K, S, m, nx, rfl, rfl, hJK, hM, hM9, hA9, h, rfl, fun _ _ => rfl, fun _ _ _ _ _ => rfl, fun _ _ _ _ _ _ _ _ _ _ _ => rfl, rfl⟩
  · rw [e2, obs, e1, obs, if_pos rfl, e3, obs, obs]
    exact ⟨a, b, J, K, S', m', nx', rfl, rfl, hJK, Ma, Mb, Ab, hS, hn, f8, f62, f9, f22⟩
theorem way_two {C : Nat} (hC : C ≤ 3) {I0 M R0 R : gM} (hJ : C = 3 → JE ∧ M 22 0 = 0) (hM : MI true I0 M) (hM9 : MI false R0 R) (hA9 : A9 R) {S : Nat → aT} {m nx : Nat} (h : InvS2 C M R S m nx) (h0 : 0 < (S m).1.length) {J K : gN} (hJK : J 0 16 = K 62 30) : WO C (S m).1.length I0 R0 M R (fX8_goOneWay M J) (fX9_drawWay R K) := by
  have hWm := h.2.1 m (Nat.le_refl _)
  have b1 := h.2.2.1.1
  have b2 := h.2.2.1.2.1
  have hn4 := hWm.1
  unfold fX8_goOneWay fX9_drawWay
  obtain ⟨k1, J1, K1, l1, e1, e1', hJ1⟩ := draw_two J K hJK (m := 8) (by omega) (by omega)
  rw [show (8 : Int32) = nI 8 from rfl, e1, obs, e1', obs]
  dsimp only
  by_cases c7 : k1 = 7
  · subst c7
    obtain ⟨k2, J2, K2, l2, e2, e2', hJ2⟩ := draw_two J1 K1 hJ1 (m := 24) (by omega) (by omega)
    rw [if_pos (show nI 7 = 7 from rfl), if_pos (show nI 7 = 7 from rfl), show (24 : Int32) = nI 24 from rfl, e2, obs, e2', obs]
    exact way_try hC hJ hM hM9 hA9 h (s := 3) (by omega) (nI k2) (-1) (-1) (-1) 0 0 0 (fun _ => ⟨rfl, rfl, rfl⟩) (fun q => absurd q (by omega)) hJ2
  · have n7 : ¬ nI k1 = (7 : Int32) := fun q => c7 (nI_inj (b := 7) q (by omega) (by omega))
    obtain ⟨t, J2, K2, l2, e2, e2', hJ2⟩ := draw_two J1 K1 hJ1 (m := (S m).1.length) h0 (by omega)
    rw [if_neg n7, if_neg n7, b1.1, e2, obs, b2.1, e2', obs]
    dsimp only
    have w := hWm.2.2.2.2 t l2
    have w1 := w.1
    have w4 := w.2.2.2.1
    have eW8 : M 4 t = nI (aL (S m) t).length := (b1.2.2.2 t l2).1
    have eW9 : R 72 t = nI (aL (S m) t).length := (b2.2.2.2 t l2).1
    by_cases c6 : k1 = 6
    · subst c6
      rw [if_pos (show nI 6 = 6 from rfl), if_pos (show (4 : Int32) ≤ nI 6 by decide), if_pos (show nI 6 = 6 from rfl)]
      exact way_try hC hJ hM hM9 hA9 h (s := 2) (by omega) (nI t) (-1) (-1) (-1) 0 0 0 (fun _ => ⟨rfl, rfl, rfl⟩) (fun q => absurd q (by omega)) hJ2
    · have n6 : ¬ nI k1 = (6 : Int32) := fun q => c6 (nI_inj (b := 6) q (by omega) (by omega))
      rw [if_neg n6]
      by_cases c4 : k1 < 4
      · rw [if_pos (show nI k1 < (4 : Int32) from (nI_ltI (b := 4) (by omega) (by omega)).mpr c4), if_neg (show ¬ (4 : Int32) ≤ nI k1 from mt (nI_leI (a := 4) (by omega) (by omega)).mp (by omega))]
        have h1 : fX5_isTable 3 (nI t) M = some 1 := by
          rcases c_isTable hn4 b1.1 (nI t) with ⟨_, _, _, z⟩ | ⟨z, _⟩
          · exact z
          · exact absurd rfl (z t l2)
        obtain ⟨x, J3, K3, l3, e3, e3', hJ3⟩ := draw_two J2 K2 hJ2 (m := 6) (by omega) (by omega)
        rw [h1, obs, if_neg n10, rI_n (by omega) (by omega), obs, eW8, if_neg (show ¬ nI (aL (S m) t).length ≤ 0 from fun z => by have := (nI_leI (b := 0) (by omega) (by omega)).mp z; omega), show (6 : Int32) = nI 6 from rfl, e3, obs, e3', obs, rI_n (by omega) (by omega), obs, eW9]
        dsimp only
        have last : ∀ (y : Int32) {J4 K4 : gN}, J4 0 16 = K4 62 30 → WO C (S m).1.length I0 R0 M R (bX8_goOneWay_155 (nI t) (nI (aL (S m) t).length) (nI x) y M J4) (bX9_drawWay_69 (nI t) (nI x) y R K4) := by
          intro y J4 K4 hJ4
          unfold bX8_goOneWay_155 bX9_drawWay_69
          rw [rI_n (by omega) (by omega), obs, eW9]
          by_cases c2 : (aL (S m) t).length ≤ 2
          · have z2 : nI (aL (S m) t).length ≤ (2 : Int32) := (nI_leI (b := 2) (by omega) (by omega)).mpr c2
            rw [if_pos z2, if_pos z2]
            unfold bX8_goOneWay_172 bX9_drawWay_97
            exact way_try hC hJ hM hM9 hA9 h (s := 0) (by omega) (nI t) (nI x) y (-1) (nI x) y (-1) (fun q => absurd q (by omega)) (fun _ => ⟨rfl, rfl, rfl⟩) hJ4
          · have z2 : ¬ nI (aL (S m) t).length ≤ (2 : Int32) := mt (nI_leI (b := 2) (by omega) (by omega)).mp c2
            obtain ⟨z, J5, K5, l5, e5, e5', hJ5⟩ := draw_two J4 K4 hJ4 (m := 6) (by omega) (by omega)
            rw [if_neg z2, if_neg z2, show (6 : Int32) = nI 6 from rfl, e5, obs, e5', obs]
            unfold bX8_goOneWay_172 bX9_drawWay_97
            exact way_try hC hJ hM hM9 hA9 h (s := 0) (by omega) (nI t) (nI x) y (nI z) (nI x) y (nI z) (fun q => absurd q (by omega)) (fun _ => ⟨rfl, rfl, rfl⟩) hJ5
        unfold bX8_goOneWay_138
        by_cases c1 : (aL (S m) t).length ≤ 1
        · have z1 : nI (aL (S m) t).length ≤ (1 : Int32) := (nI_leI (b := 1) (by omega) (by omega)).mpr c1
          rw [if_pos z1, if_pos z1]
          exact last _ hJ3
        · have z1 : ¬ nI (aL (S m) t).length ≤ (1 : Int32) := mt (nI_leI (b := 1) (by omega) (by omega)).mp c1
          obtain ⟨y, J4, K4, l4, e4, e4', hJ4⟩ := draw_two J3 K3 hJ3 (m := 6) (by omega) (by omega)
          rw [if_neg z1, if_neg z1, show (6 : Int32) = nI 6 from rfl, e4, obs, e4', obs]
          exact last _ hJ4
      · rw [if_neg (show ¬ nI k1 < (4 : Int32) from mt (nI_ltI (b := 4) (by omega) (by omega)).mp c4), if_pos (show (4 : Int32) ≤ nI k1 from (nI_leI (a := 4) (by omega) (by omega)).mpr (by omega)), if_neg n6]
        obtain ⟨i, J3, K3, l3, e3, e3', hJ3⟩ := draw_two J2 K2 hJ2 (m := 12) (by omega) (by omega)
        have hRt := (b2.2.2.2 t l2).2.2
        have x0 : fX8_cell (nI t) (nI i) 0 M = _ := c_cellK (c := 0) hWm b1 l2 l3 (by omega)
        have x1 : fX8_cell (nI t) (nI i) 1 M = _ := c_cellK (c := 1) hWm b1 l2 l3 (by omega)
        have x2 : fX8_cell (nI t) (nI i) 2 M = _ := c_cellK (c := 2) hWm b1 l2 l3 (by omega)
        rw [show (12 : Int32) = nI 12 from rfl, e3, obs, e3', obs]
        dsimp only
        rw [x0, obs, x1, obs, x2, obs, n_many (by omega), obs, hRt.1]
        by_cases ci : i < (aK (S m) t).length
        · rw [if_neg (mt (nI_leI (by omega) (by omega)).mp (by omega)), n_rowAt, obs, nI_1, L2, nI_add, rI_n (by omega) (by omega), obs, rI_n (by omega) (by omega), obs, rI_n (by omega) (by omega), obs]
          have y0 := hRt.2 i ci 0 (by omega)
          have y1 := hRt.2 i ci 1 (by omega)
          have y2 := hRt.2 i ci 2 (by omega)
          rw [Nat.add_zero] at y0
          rw [y0, y1, y2]
          have ee : ∀ c, (if i < (aK (S m) t).length ∧ c < (aL (S m) t).length then nI (dgt c ((aK (S m) t).getD i 0)) else -1) = if c < (aL (S m) t).length then nI (dgt c ((aK (S m) t).getD i 0)) else -1 := fun c => by
            by_cases d : c < (aL (S m) t).length
            · rw [if_pos ⟨ci, d⟩, if_pos d]
            · rw [if_neg (fun z => d z.2), if_neg d]
          rw [ee 0, ee 1, ee 2]
          exact way_try hC hJ hM hM9 hA9 h (s := 1) (by omega) (nI t) _ _ _ _ _ _ (fun q => absurd q (by omega)) (fun _ => ⟨rfl, rfl, rfl⟩) hJ3
        · rw [if_pos ((nI_leI (by omega) (by omega)).mpr (by omega)), if_neg (fun z => ci z.1), if_neg (fun z => ci z.1), if_neg (fun z => ci z.1)]
          obtain ⟨r, er, hr⟩ := c_refPT (s := 1) hWm b1 (by omega) l2 (-1) (-1) (-1)
          have hr1 : r = 1 := by
            rcases hr with ⟨_, q⟩ | ⟨q, _⟩ | ⟨q, _⟩
            · exact q
            · exact absurd q.1.1 (by decide)
            · exact absurd q.1.1 (by decide)
          subst hr1
          have ea : fX8_attempt 1 (nI t) (-1) (-1) (-1) M = some (1, M) := by
            have er : fX5_refusal 3 1 (nI t) (-1) (-1) (-1) M = some 1 := er
            unfold fX8_attempt
            rw [er, obs, if_neg (by decide)]
          rw [ea, obs]
          exact ⟨M, R, J3, K3, S, m, nx, rfl, rfl, hJ3, hM, hM9, hA9, h, rfl, fun _ _ => rfl, fun _ _ _ _ _ => rfl, fun _ _ _ _ _ _ _ _ _ _ _ => rfl, rfl⟩
theorem ways_go {C : Nat} (hC : C ≤ 3) (hJ : C = 3 → JE) {I0 R0 : gM} {n : Nat} (h0 : 0 < n) {v : Nat} (hv : v ≤ 40) : ∀ (d i : Nat) (M R : gM) (J K : gN) (S : Nat → aT) (m nx : Nat), i + d = v → J 0 16 = K 62 30 → MI true I0 M → MI false R0 R → A9 R → InvS2 C M R S m nx → (C = 3 → M 22 0 = 0) → (S m).1.length = n → WO C n I0 R0 M R (lX8_ways_31 (nI v) (nI i, M, J)) (lX9_ways_27 (nI v) (nI i, R, K)) := by
  intro d
  induction d with
  | zero =>
    intro i M R J K S m nx hi hJK hM hM9 hA9 h hz hn
    have : i = v := by omega
    subst this
    unfold lX8_ways_31 lX9_ways_27
    rw [itO_eq, itO_eq]; dsimp only
    rw [if_pos ((nI_leI (by omega) (by omega)).mpr (Nat.le_refl _)), if_pos ((nI_leI (by omega) (by omega)).mpr (Nat.le_refl _)), obs, obs]
    exact ⟨M, R, J, K, S, m, nx, rfl, rfl, hJK, hM, hM9, hA9, h, hn, fun _ _ => rfl, fun _ _ _ _ _ => rfl, fun _ _ _ _ _ _ _ _ _ _ _ => rfl, rfl⟩
  | succ d ih =>
    intro i M R J K S m nx hi hJK hM hM9 hA9 h hz hn
    obtain ⟨a, b, J', K', S', m', nx', e1, e2, hJK', Ma, Mb, Ab, hS, hn', f8, f62, f9, f22⟩ := way_two hC (fun c => ⟨hJ c, hz c⟩) hM hM9 hA9 h (by omega) hJK
    unfold lX8_ways_31 lX9_ways_27
    rw [itO_eq, itO_eq]; dsimp only
    rw [if_neg (mt (nI_leI (by omega) (by omega)).mp (by omega)), if_neg (mt (nI_leI (by omega) (by omega)).mp (by omega)), e1, obs, obs, e2, obs, obs, nI_1]
    obtain ⟨a2, b2, J2, K2, S2, m2, nx2, g1, g2, g3, g4, g5, g6, g7, g8, g9, g10, g11, g12⟩ := ih (i + 1) a b J' K' S' m' nx' (by omega) hJK' Ma Mb Ab hS (fun c => by rw [f22]; exact hz c) (hn'.trans hn)
    exact ⟨a2, b2, J2, K2, S2, m2, nx2, g1, g2, g3, g4, g5, g6, g7, g8, fun q hq => (g9 q hq).trans (f8 q hq), fun j h1 h2 h3 h4 => (g10 j h1 h2 h3 h4).trans (f62 j h1 h2 h3 h4), fun k h1 h2 h3 h4 h5 h6 h7 h8 h9 h10 => (g11 k h1 h2 h3 h4 h5 h6 h7 h8 h9 h10).trans (f9 k h1 h2 h3 h4 h5 h6 h7 h8 h9 h10), g12.trans f22⟩
theorem all_ways {C : Nat} {I : gM} (h : InvA C I) (hC : C ≤ 3) (hJ : C = 3 → JE ∧ I 22 0 = 0) (v1 : Int32) (v2 : Int64) (J : gN) : ∃ a b, fX8_ways v1 v2 I J = some a ∧ fX9_ways v1 v2 a.2.1 a.2.2 = some b ∧ InvA C b.2.1 := by
  obtain ⟨hM, hA9, hT, hSc, S, m, nx, hR⟩ := id h
  have hWm := hR.2.1 m (Nat.le_refl _)
  have b1 := hR.2.2.1.1
  have b2 := hR.2.2.1.2.1
  have ho := hWm.1
  obtain ⟨p, ep, _, hp⟩ := tfX8_ways v1 v2 I J hM
  have hi : ∀ k, 62 ≤ k → p.2.1 k = I k := fun k hk => hp.hi hk
  have hpp := ep
  unfold fX8_ways at hpp
  rw [b1.1] at hpp
  by_cases n0 : (S m).1.length = 0
  · rw [n0, if_pos (show nI 0 = 0 from rfl)] at hpp
    obtain rfl := Option.some.inj hpp
    refine ⟨_, (-1, I, J), ep, ?_, h⟩
    unfold fX9_ways
    rw [n_areTables ho b2.1, obs, if_pos n0, if_pos rfl]
  · rw [if_neg (show ¬ nI (S m).1.length = 0 from fun q => n0 (nI_inj (b := 0) q (by omega) (by omega)))] at hpp
    have t40 : (40 : Int32).toInt = 40 := by decide
    have hin := n_in v1 1 40
    rw [t1i, t40] at hin
    have out : p = (-1, I, J) → ¬ (1 ≤ v1.toInt ∧ v1.toInt ≤ 40) → ∃ a b, fX8_ways v1 v2 I J = some a ∧ fX9_ways v1 v2 a.2.1 a.2.2 = some b ∧ InvA C b.2.1 := by
      intro e hno
      subst e
      refine ⟨_, (-1, I, J), ep, ?_, h⟩
      rcases hin with ⟨z1, z2, _⟩ | ⟨_, z⟩
      · exact absurd ⟨z1, z2⟩ hno
      · unfold fX9_ways
        rw [n_areTables ho b2.1, obs, if_neg n0, if_neg n10, z, obs, if_pos rfl]
    rcases oi hpp with ⟨c, hpp⟩ | ⟨c, hpp⟩
    · have c := (iLT (a := v1) (b := 1) rfl t1i).mp c
      exact out (Option.some.inj hpp).symm (fun z => by omega)
    · have c := mt (iLT (a := v1) (b := 1) rfl t1i).mpr c
      rcases oi hpp with ⟨d, hpp⟩ | ⟨d, hpp⟩
      · have d := (iLE (a := v1) (b := 40) rfl t40).mp d
        have ev := nI_self (x := v1) (by omega)
        generalize hvn : v1.toInt.toNat = v at *
        have hv : v ≤ 40 := by omega
        subst ev
        rw [pU_n, obs] at hpp
        obtain ⟨w, ew, hpp⟩ := ob hpp
        have hpe := Option.some.inj hpp
        have hS2 : InvS2 C I p.2.1 S m nx := (InvS2.one hR).cong hC rfl (fun _ _ => rfl) (fun j _ => by rw [hi 62 (by omega)]) (fun k hk => hi k (by omega))
        obtain ⟨a, b, J2, K2, S', m', nx', e1, e2, _, Ma, Mb, Ab, hS', _, f8, f62, f9, _⟩ := ways_go hC (fun c => (hJ c).1) (I0 := I) (R0 := p.2.1) (n := (S m).1.length) (by omega) hv v 0 I p.2.1 (g_up J 0 16 v2) (g_up p.2.2 62 30 v2) S m nx (by omega) (by rw [g_up_self, g_up_self]) hM (hp.re (b' := false)) (A9.hi hp hA9) hS2 (fun c => (hJ c).2) rfl
        rw [show ((0 : Int32), I, g_up J 0 16 v2) = (nI 0, I, g_up J 0 16 v2) from rfl, e1] at ew
        obtain rfl := Option.some.inj ew
        have ep1 : p.2.1 = a := by rw [← hpe]
        obtain ⟨r, er, er2, M5, _, r3, r4⟩ := n_rowsNow Mb
        have e9 : fX9_ways (nI v) v2 p.2.1 p.2.2 = some (r 62 26, r, K2) := by
          rcases hin with ⟨_, _, z⟩ | ⟨z, _⟩
          · unfold fX9_ways
            rw [n_areTables (n := (S m).1.length) ho (by rw [hi 62 (by omega)]; exact b2.1), obs, if_neg n0, if_neg n10, z, obs, if_neg n10, pU_n, obs, show ((0 : Int32), p.2.1, g_up p.2.2 62 30 v2) = (nI 0, p.2.1, g_up p.2.2 62 30 v2) from rfl, e2, obs, er2, obs]
          · exact absurd ⟨by omega, by omega⟩ z
        refine ⟨p, _, ep, e9, ?_⟩
        have hS3 : InvS2 C p.2.1 r S' m' nx' := by
          rw [ep1]
          exact hS'.cong hC rfl (fun _ _ => rfl) (fun j hj => r4 j (by omega) (by omega) (by omega)) (fun k hk => r3 k (by omega) (by omega) (by omega) (by omega) (by omega) (by omega) (by omega) (by omega))
        have rk : ∀ k, k = 63 ∨ k = 68 ∨ k = 69 → r k = I k := fun k hk => by
          rw [r3 k (by omega) (by omega) (by omega) (by omega) (by omega) (by omega) (by omega) (by omega), f9 k (by omega) (by omega) (by omega) (by omega) (by omega) (by omega) (by omega) (by omega) (by omega) (by omega), hi k (by omega)]
        show InvA C r
        refine h.mk2 hC hp M5 (Ab.join r3 r4) hS3 ?_ ?_ ?_ (fun k h1 h2 => ?_) ?_ ?_ (rk 63 (by omega)) (rk 68 (by omega)) (rk 69 (by omega))
        · rw [ep1, f8 1 (by omega)]
        · rw [ep1, f8 2 (by omega)]
        · rw [ep1, f8 0 (by omega)]
        · rw [ep1, f8 k (by omega)]
        · rw [r4 2 (by omega) (by omega) (by omega), f62 2 (by omega) (by omega) (by omega) (by omega), hi 62 (by omega)]
        · rw [r4 12 (by omega) (by omega) (by omega), f62 12 (by omega) (by omega) (by omega) (by omega), hi 62 (by omega)]
      · have d := mt (iLE (a := v1) (b := 40) rfl t40).mpr d
        exact out (Option.some.inj hpp).symm (fun z => by omega)
