/-! undo -/
theorem LG.undo {C e nl H : Nat} {I r : gM} {w : Nat → Int32} (h : LG C I 44 (e + 1) w) (hC : C ≤ 3) (el : I 44 1 = nI nl) (hl : nl < 100) (eH : I 44 2 = nI H) (hH : H ≤ 100) (r1 : r 44 1 = nI ((nl + 99) % 100)) (r2 : r 44 2 = nI (H - 1)) (r3 : r 45 = I 45) : LG C r 44 e w := by
  obtain ⟨nl', H', a1, a2, a3, a4, a5, a6, a7⟩ := h
  have : nl' = nl := nI_inj (a4.symm.trans el) (by omega) (by omega)
  subst this
  have : H' = H := nI_inj (a5.symm.trans eH) (by omega) (by omega)
  subst this
  have hm : min (H' - 1 - e) 60 = min (H' - (e + 1)) 60 := by omega
  refine ⟨(nl' + 99) % 100, H' - 1, by omega, by omega, by omega, r1, r2, by rw [hm]; exact a6, fun i hi c hc => ?_⟩
  rw [hm] at hi ⊢
  rw [a7 i hi c hc]
  show I 45 _ = r 45 _
  rw [r3, show ((nl' + 99) % 100 + 99 - (i + e)) % 100 = (nl' + 99 - (i + (e + 1))) % 100 by omega]
theorem stepA.undo {I r : gM} {A A' : aT} {d nx : Nat} (h : stepA I A A' (d + 1) nx) (hd : d ≤ 38) (hx : nx < 40) (e : r 49 = I 49) : stepA r A A' d ((nx + 39) % 40) := by
  obtain ⟨s, num, x, y, z, hs, h1, h2, h3, h4⟩ := h
  have hp : ((nx + 39) % 40 + 39 - d) % 40 = (nx + 39 - (d + 1)) % 40 := by omega
  exact ⟨s, num, x, y, z, hs, h1, by rw [hp, e]; exact h2, by rw [hp, e]; exact h3, by rw [hp, e]; exact h4⟩
theorem c_dropPast {I : gM} {nx m : Nat} (hx : nx < 40) (ex : I 48 2 = nI nx) (hm : m ≤ 40) (h0 : 0 < m) (em : I 48 0 = nI m) : ∃ r, fX3_dropLatest I = some r ∧ r 48 2 = nI ((nx + 39) % 40) ∧ r 48 0 = nI (m - 1) ∧ ∀ q, q ≠ 48 → r q = I q := by
  unfold fX3_dropLatest
  rw [em, if_neg (show ¬ nI m ≤ 0 from fun q => by have := (nI_leI (b := 0) (by omega) (by omega)).mp q; omega), ex, L40, nI_add, nI_s1 (by omega), iR_n (by omega) (by omega) (by omega), pU_n, obs, g_up_ne (Or.inr (by decide)), em, nI_s1 (by omega), pU_n, obs]
  refine ⟨_, rfl, ?_, by rw [g_up_self], fun q h => by rw [g_up_row h, g_up_row h]⟩
  rw [g_up_ne (Or.inr (by decide)), g_up_self, show nx + 40 - 1 = nx + 39 by omega]
theorem c_dropLog {I : gM} {k nl H : Nat} (hx : nl < 100) (ex : I k 1 = nI nl) (hH : H ≤ 100) (h0 : 0 < H) (eH : I k 2 = nI H) : ∃ r, fX2_dropLatest k I = some r ∧ r k 1 = nI ((nl + 99) % 100) ∧ r k 2 = nI (H - 1) ∧ ∀ q, q ≠ k → r q = I q := by
  unfold fX2_dropLatest
  rw [eH, if_neg (show ¬ nI H ≤ 0 from fun q => by have := (nI_leI (b := 0) (by omega) (by omega)).mp q; omega), ex, L100, nI_add, nI_s1 (by omega), iR_n (by omega) (by omega) (by omega), pU_n, obs, g_up_ne (Or.inr (by decide)), eH, nI_s1 (by omega), pU_n, obs]
  refine ⟨_, rfl, ?_, by rw [g_up_self], fun q h => by rw [g_up_row h, g_up_row h]⟩
  rw [g_up_ne (Or.inr (by decide)), g_up_self, show nl + 100 - 1 = nl + 99 by omega]
/-- what the join of now touches is none of the tables -/
theorem c_renewK {I r : gM} (e : fX8_renew I = some r) : ∀ q, q ≤ 17 ∨ 29 ≤ q ∧ q ≠ 43 → r q = I q := fun q hq => zfX8_renew _ e q (by omega) (by omega) (by omega) (by omega) (by omega) (by omega) (by omega) (by omega) (by omega) (by omega) (by omega) (by omega)
theorem all_undo {C : Nat} {I : gM} (h : InvA C I) (hC : C ≤ 3) : ∃ a b, fX8_undo I = some a ∧ fX9_undo a.2 = some b ∧ InvA C b.2 ∧ a.1 = b.1 := by
  obtain ⟨hM, hA9, hT, hS, S, m, nx, hR⟩ := id h
  obtain ⟨⟨a1, a2, a3, a4, a5⟩, hW, ⟨b1, b2, b3⟩, hk9, ⟨c1, c2⟩, c3⟩ := hR
  by_cases hm : m = 0
  · subst hm
    refine ⟨(-1, I), (-1, I), ?_, ?_, h, rfl⟩
    · unfold fX8_undo
      rw [if_pos (show I 48 0 = (0 : Int32) from a3)]
    · unfold fX9_undo
      rw [if_pos (show I 62 29 = (0 : Int32) from a5)]
  obtain ⟨p, ep, hp⟩ := tfX8_undo I hM
  obtain ⟨s, num, x, y, z, hs, hact, g1, g2, g3⟩ := (hk9 (m - 1) (by omega)).2.2
  obtain ⟨nl, H, l1, l2, l3, l4, l5, _⟩ := id (hk9 (m - 1) (by omega)).2.1
  rw [show m - 1 + 1 = m by omega] at hact
  have hnx : (nx + 39 - (m - 1 - (m - 1))) % 40 = (nx + 39) % 40 := by omega
  rw [hnx] at g1 g2 g3
  generalize hnn : (nx + 39) % 40 = n' at *
  obtain ⟨r1, e1, f1, f2, f3⟩ := c_dropPast a2 a4 a1 (by omega) a3
  rw [hnn] at f1
  have C1 : CT r1 3 (S m) := b1.cong (fun j _ => by rw [f3 3 (by decide)]) (f3 4 (by decide)) (f3 5 (by decide)) (f3 6 (by decide)) (f3 7 (by decide))
  obtain ⟨r5, e5, C5, k5, k5'⟩ := c_changeBack (hW (m - 1) (by omega)) hact C1
  have k44 : r5 44 = I 44 := by rw [k5 44 (by omega), f3 44 (by decide)]
  have k45 : r5 45 = I 45 := by rw [k5 45 (by omega), f3 45 (by decide)]
  obtain ⟨r6, e6, d1, d2, d3⟩ := c_dropLog (I := r5) (k := 44) l1 (by rw [k44]; exact l4) l2 (by omega) (by rw [k44]; exact l5)
  have em3 : ∀ c, c < 3 → rI 120 (r1 49) (nI n' * 3 + nI c) = some (I 49 (3 * n' + c)) := fun c hc => by
    rw [L3, nI_mul, nI_add, rI_n (by omega) (by omega), f3 49 (by decide), Nat.mul_comm]
  have eE : ∃ r7, fX8_renew r6 = some r7 ∧ fX8_undo I = some (r7 48 0, r7) := by
    have hu : fX8_undo I = (fX8_renew r6).bind fun r7 => some (r7 48 0, r7) := by
      unfold fX8_undo fX3_sortDropped fX3_numberDropped fX3_rowDropped
      have z0 := em3 0 (by omega)
      rw [show nI n' * 3 + nI 0 = nI n' * 3 from by rw [L3, nI_mul, nI_add, Nat.add_zero]] at z0
      rw [a3, if_neg (show ¬ nI m = 0 from fun q => by have := nI_inj (b := 0) q (by omega) (by omega); omega), e1, obs, f1, z0, obs, obs, show (1 : Int32) = nI 1 from rfl, em3 1 (by omega), obs, obs, show (2 : Int32) = nI 2 from rfl, em3 2 (by omega), obs, obs, Nat.add_zero, g1, g2, g3, e5, obs, e6, obs]
    cases hz : fX8_renew r6 with
    | none => rw [hu, hz] at ep; cases ep
    | some r7 => exact ⟨r7, rfl, by rw [hu, hz, obs]⟩
  obtain ⟨r7, e7, eU⟩ := eE
  rw [ep] at eU
  obtain rfl := Option.some.inj eU
  have Ma : MI true I r7 := hp.2
  have g7 := c_renewK e7
  have k8 : ∀ q, q ≠ 3 → q ≠ 4 → q ≠ 5 → q ≠ 6 → q ≠ 7 → q ≠ 48 → q ≠ 44 → q ≤ 17 ∨ 29 ≤ q ∧ q ≠ 43 → r7 q = I q := fun q h3 h4 h5 h6 h7 h48 h44 hq => by rw [g7 q hq, d3 q h44, k5 q (by omega), f3 q h48]
  have hi : ∀ k, 62 ≤ k → r7 k = I k := fun k hk => Ma.hi hk
  have A9a : A9 r7 := A9.hi Ma hA9
  obtain ⟨b, eb, Mb, b29, b70, b62, bk⟩ := n_undo (I0 := r7) Ma.re (A := m) a1 (by rw [hi 62 (by omega)]; exact a5) (by omega)
  obtain ⟨b', eb', _, hAb⟩ := n_undoA (I0 := r7) Ma.re A9a
  rw [eb] at eb'
  obtain rfl := Option.some.inj eb'
  have lo : ∀ k, k < 62 → b k = r7 k := fun k hk => bk k (by omega) (by omega)
  have t7 : ∀ q, 3 ≤ q → q ≤ 7 → b q = r5 q := fun q h1 h2 => by rw [lo q (by omega), g7 q (by omega), d3 q (by omega)]
  have w70 : ∀ x, x < 331 → b 70 x = kept9 I (m - 1) x := fun x hx => by
    rw [b70, if_pos hx, hi 81 (by omega)]; rfl
  have b81 : ∀ a, kept9 b a = kept9 I a := fun a => by unfold kept9; rw [bk 81 (by omega) (by omega), hi 81 (by omega)]
  have RTb : ∀ {A : aT} {w u : Nat → Int32}, WF A → RT I w A → (∀ x, x < 150 → u x = w x) → RT b u A := fun hA q e => q.cong (by rw [b62 17 (by omega), hi 62 (by omega)]) (by rw [bk 72 (by omega) (by omega), hi 72 (by omega)]) (by rw [bk 73 (by omega) (by omega), hi 73 (by omega)]) hA.1 hA.k12 e
  have b44 : b 44 1 = nI ((nl + 99) % 100) := by rw [lo 44 (by omega), g7 44 (by omega)]; exact d1
  have b442 : b 44 2 = nI (H - 1) := by rw [lo 44 (by omega), g7 44 (by omega)]; exact d2
  have b45 : b 45 = I 45 := by rw [lo 45 (by omega), g7 45 (by omega), d3 45 (by omega), k45]
  have b49 : b 49 = I 49 := by rw [lo 49 (by omega), k8 49 (by omega) (by omega) (by omega) (by omega) (by omega) (by omega) (by omega) (by omega)]
  have e48 : ∀ j, b 48 j = r1 48 j := fun j => by rw [lo 48 (by omega), g7 48 (by omega), d3 48 (by omega), k5 48 (by omega)]
  have k0 : ∀ q, q ≤ 2 ∨ 13 ≤ q ∧ q ≤ 17 ∨ 46 ≤ q ∧ q ≤ 47 ∨ 53 ≤ q ∧ q < 62 → b q = I q := fun q hq => by rw [lo q (by omega), k8 q (by omega) (by omega) (by omega) (by omega) (by omega) (by omega) (by omega) (by omega)]
  have hM0 : ∀ q, 62 ≤ q → q ≠ 62 → q ≠ 70 → b q = I q := fun q h0 h1 h2 => by rw [bk q h1 h2, hi q h0]
  have key : b 48 0 = nI (m - 1) := by rw [e48]; exact f2
  refine ⟨_, (nI (m - 1), b), ep, eb, (?_ : InvA C b), by rw [← key]; exact (congrFun (lo 48 (by omega)) 0).symm⟩
  refine ⟨Ma.both Mb, hAb, ?_, ?_, S, m - 1, n', ⟨by omega, by omega, by rw [e48]; exact f2, by rw [e48]; exact f1, b29⟩, fun a ha => hW a (by omega), ⟨?_, ?_, ?_⟩, fun a ha => ⟨?_, ?_, ?_⟩, ⟨?_, fun q => ?_⟩, fun j hj => ?_⟩
  · exact hT.keep (by rw [k0 1 (by omega)]) (k0 2 (by omega)) (by rw [b62 2 (by omega), hi 62 (by omega)]) (hM0 63 (by omega) (by omega) (by omega))
  · exact hS.keep (by rw [k0 0 (by omega)]) (by rw [b62 12 (by omega), hi 62 (by omega)]) (fun k _ _ => k0 k (by omega)) (fun _ _ => by rw [hM0 68 (by omega) (by omega) (by omega)]) (fun _ _ => by rw [hM0 69 (by omega) (by omega) (by omega)])
  · exact C5.cong (fun j _ => by rw [t7 3 (by omega) (by omega)]) (t7 4 (by omega) (by omega)) (t7 5 (by omega) (by omega)) (t7 6 (by omega) (by omega)) (t7 7 (by omega) (by omega))
  · exact RTb (hW _ (by omega)) (hk9 (m - 1) (by omega)).1 (fun x hx => w70 x (by omega))
  · have q := (hk9 (m - 1) (by omega)).2.1
    rw [show m - (m - 1) = 0 + 1 by omega] at q
    obtain ⟨nl', H', q1, q2, q3, q4, q5, q6, q7⟩ := q.undo hC l4 l1 l5 l2 b44 b442 b45
    refine ⟨nl', H', q1, q2, q3, q4, q5, ?_, fun i hi c hc => ?_⟩
    · rw [w70 150 (by omega)]; exact q6
    · rw [w70 _ (by omega)]; exact q7 i hi c hc
  · rw [b81]
    exact RTb (hW _ (by omega)) (hk9 a (by omega)).1 (fun x hx => rfl)
  · rw [b81]
    have q := (hk9 a (by omega)).2.1
    rw [show m - a = m - 1 - a + 1 by omega] at q
    exact q.undo hC l4 l1 l5 l2 b44 b442 b45
  · have q := (hk9 a (by omega)).2.2
    rw [show m - 1 - a = m - 1 - 1 - a + 1 by omega] at q
    rw [← hnn]
    exact q.undo (by omega) a2 b49
  · rw [k0 0 (by omega), b62 42 (by omega), hi 62 (by omega)]; exact c1
  · rw [b62 42 (by omega), hi 62 (by omega)] at q
    obtain ⟨B, d1, d2, d3, d4⟩ := c2 q
    have l89 : b 89 = I 89 := hM0 89 (by omega) (by omega) (by omega)
    exact ⟨B, d1, d2.cong (fun j _ => by rw [k0 13 (by omega)]) (k0 14 (by omega)) (k0 15 (by omega)) (k0 16 (by omega)) (k0 17 (by omega)), RTb d1 d3 (fun x _ => by rw [l89]), by rw [l89]; exact d4.cong hC (k0 46 (by omega)) (k0 47 (by omega)) (fun _ _ _ => rfl)⟩
  · rw [k0 53 (by omega), hM0 71 (by omega) (by omega) (by omega)]; exact c3 j hj
