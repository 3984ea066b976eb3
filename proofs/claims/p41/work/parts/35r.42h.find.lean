section P_35r_42h_find
/-! both find their joins -/
theorem c_open {M : gM} {k k1 : Nat} {A : aT} {ls : List Nat} (hk : k1 + 4 < k) (hW : WF A) (hs : okS ls) (hC : CT M k1 A) (hS : Sc M k ls) :
    ∃ qs r, fX1_open k k1 M = some r ∧ SX r k A ls qs ∧ QS A ls qs ∧ (∀ f, RG r k A ls qs 0 f (fun _ => 0) (fun t => (qs t).length)) ∧ r k 0 = 0 ∧ r k 1 = 0 ∧ (∀ e, e < 4 → r (k + 1) e = 0) ∧ (∀ x, x ≠ k → x ≠ k + 1 → x ≠ k + 5 → x ≠ k + 6 → x ≠ k + 7 → x ≠ k + 8 → x ≠ k + 9 → r x = M x) ∧ ∀ j, 2 ≤ j → r k j = M k j := by
  have hn4 := hW.1
  have s4 := hs.1
  obtain ⟨r3, e3, a1, a2⟩ := c_fill (k0 := k + 1) (n0 := 4) (v := 0) (M := g_up (g_up M k 0 0) k 1 0) (by omega)
  obtain ⟨r4, e4, b1, b2⟩ := c_fill (k0 := k + 7) (n0 := 16) (v := -1) (M := r3) (by omega)
  have g4 : ∀ x, x ≠ k → x ≠ k + 1 → x ≠ k + 7 → r4 x = M x := fun x h0 h1 h7 => by rw [b1 x h7, a1 x h1, g_up_row h0, g_up_row h0]
  have hC4 : CT r4 k1 A := hC.cong (fun j _ => by rw [g4 k1 (by omega) (by omega) (by omega)]) (g4 _ (by omega) (by omega) (by omega)) (g4 _ (by omega) (by omega) (by omega)) (g4 _ (by omega) (by omega) (by omega)) (g4 _ (by omega) (by omega) (by omega))
  have k0 : ∀ j, r4 k j = g_up (g_up M k 0 0) k 1 0 k j := fun j => by rw [b1 k (by omega), a1 k (by omega)]
  have key : T (lX1_open_28 k k1 (nI 0, r4)) (fun r => ∃ qs : Nat → List Nat, (∀ t, t < 4 → A.2.1.testBit t = true → QT A ls t (aK A t).length (qs t) ∧ r (k + 8) t = nI (12 * t) ∧ r (k + 9) t = nI (12 * t + (qs t).length) ∧ ∀ j, j < (qs t).length → r (k + 5) (12 * t + j) = nI ((qs t).getD j 0)) ∧ (∀ t, t < 4 → ∀ d, d < ls.length → r (k + 7) (4 * d + t) = if inB A ls t d = true then nI (14 - 7 * pA A ls t d) else -1) ∧ ∀ x, x ≠ k + 5 → x ≠ k + 6 → x ≠ k + 7 → x ≠ k + 8 → x ≠ k + 9 → r x = r4 x) := by
    unfold lX1_open_28
    refine t_it (P := fun s => ∃ c, ∃ qs : Nat → List Nat, c ≤ 4 ∧ s.1 = nI c ∧ (∀ t, t < c → A.2.1.testBit t = true → QT A ls t (aK A t).length (qs t) ∧ s.2 (k + 8) t = nI (12 * t) ∧ s.2 (k + 9) t = nI (12 * t + (qs t).length) ∧ ∀ j, j < (qs t).length → s.2 (k + 5) (12 * t + j) = nI ((qs t).getD j 0)) ∧ (∀ t, t < 4 → ∀ d, d < ls.length → s.2 (k + 7) (4 * d + t) = if t < c ∧ inB A ls t d = true then nI (14 - 7 * pA A ls t d) else -1) ∧ ∀ x, x ≠ k + 5 → x ≠ k + 6 → x ≠ k + 7 → x ≠ k + 8 → x ≠ k + 9 → s.2 x = r4 x) (μ := fun s => 20 - s.1.toInt.toNat) (fun s p => ?_)
      ⟨0, fun _ => [], by omega, rfl, fun t ht => absurd ht (Nat.not_lt_zero t), fun t ht d hd => by rw [if_neg (fun z => absurd z.1 (Nat.not_lt_zero t))]; exact b2 _ (by omega), fun _ _ _ _ _ _ => rfl⟩
    obtain ⟨s1, N⟩ := s
    obtain ⟨c, qs, hc, e, p1, p2, p3⟩ := p
    dsimp only at e p1 p2 p3
    subst e
    dsimp only
    rw [L4]
    refine t_ite (fun q => ?_) (fun q => ?_)
    · have q := (nI_leI (by omega) (by omega)).mp q
      have : c = 4 := by omega
      subst this
      refine t_ret ⟨qs, p1, fun t ht d hd => ?_, p3⟩
      have := p2 t ht d hd
      by_cases b : inB A ls t d = true
      · rw [if_pos ⟨ht, b⟩] at this
        rw [if_pos b]; exact this
      · rw [if_neg (fun z => b z.2)] at this
        rw [if_neg b]; exact this
    · have q := mt (nI_leI (a := 4) (b := c) (by omega) (by omega)).mpr q
      have c4 : c < 4 := by omega
      have mu : 20 - (nI c + 1).toInt.toNat < 20 - (nI c).toInt.toNat := by rw [nI_1, nIt (by omega), nIt (by omega)]; omega
      rw [L12, nI_mul, Nat.mul_comm c 12]
      refine t_be (wI_n (by omega) (by omega)) ?_
      refine t_be (wI_n (by omega) (by omega)) ?_
      generalize hN : g_up (g_up N (k + 8) c (nI (12 * c))) (k + 9) c (nI (12 * c)) = N'
      have n1 : ∀ x, x ≠ k + 8 → x ≠ k + 9 → N' x = N x := fun x h1 h2 => by rw [← hN, g_up_row h2, g_up_row h1]
      have n8 : ∀ j, N' (k + 8) j = if j = c then nI (12 * c) else N (k + 8) j := fun j => by rw [← hN, g_up_row (by omega), gu_in]
      have n9 : ∀ j, N' (k + 9) j = if j = c then nI (12 * c) else N (k + 9) j := fun j => by rw [← hN, gu_in, g_up_row (by omega)]
      have nx : ∀ x, x ≠ k + 5 → x ≠ k + 6 → x ≠ k + 7 → x ≠ k + 8 → x ≠ k + 9 → N' x = r4 x := fun x h5 h6 h7 h8 h9 => (n1 x h8 h9).trans (p3 x h5 h6 h7 h8 h9)
      have hCN : CT N' k1 A := hC4.cong (fun j _ => by rw [nx k1 (by omega) (by omega) (by omega) (by omega) (by omega)]) (nx _ (by omega) (by omega) (by omega) (by omega) (by omega)) (nx _ (by omega) (by omega) (by omega) (by omega) (by omega)) (nx _ (by omega) (by omega) (by omega) (by omega) (by omega)) (nx _ (by omega) (by omega) (by omega) (by omega) (by omega))
      have hSN : Sc N' k ls := ⟨by rw [nx k (by omega) (by omega) (by omega) (by omega) (by omega), k0, g_up_ne (Or.inr (by decide)), g_up_ne (Or.inr (by decide))]; exact hS.1, fun e he => by rw [nx (k + 2) (by omega) (by omega) (by omega) (by omega) (by omega), g4 (k + 2) (by omega) (by omega) (by omega)]; exact hS.2 e he⟩
      have iu : T (fX5_isUsed k1 (nI c) N') (fun r => r = if A.2.1.testBit c = true then 1 else 0) := by
        by_cases ct : c < A.1.length
        · exact ⟨_, c_isUsed hW hCN ct, rfl⟩
        · refine ⟨0, ?_, ?_⟩
          · unfold fX5_isUsed
            rcases c_isTable hn4 hCN.1 (nI c) with ⟨t, z1, z2, _⟩ | ⟨_, z⟩
            · have := nI_inj z2 (by omega) (by omega)
              omega
            · rw [z, obs, if_pos rfl]
          · by_cases u : A.2.1.testBit c = true
            · exact absurd (used_t hW u) ct
            · rw [if_neg u]
      refine t_bind iu (fun v hv => ?_)
      subst hv
      unfold bX1_open_67
      by_cases u : A.2.1.testBit c = true
      · rw [if_pos u, if_neg n10]
        obtain ⟨l, r, er, l1, l2, l3, l4, l5, l6, l7, l8⟩ := c_load hk hW hs hCN hSN u (by rw [n8, if_pos rfl]) (by rw [n9, if_pos rfl])
        refine t_be er ?_
        refine t_nx ⟨c + 1, fun t => if t = c then l else qs t, by omega, nI_1 c, fun t ht hu => ?_, fun t ht d hd => ?_, fun x h5 h6 h7 h8 h9 => ?_⟩ mu
        · dsimp only
          rcases (by omega : t < c ∨ t = c) with z | z
          · obtain ⟨y1, y2, y3, y4⟩ := p1 t z hu
            have yl : (qs t).length ≤ 12 := by rw [y1.1]; exact hW.k12 t (used_t hW hu)
            rw [if_neg (by omega), l6 (k + 8) (by omega) (by omega) (by omega) (by omega), n8, if_neg (by omega), l7 t (by omega), n9, if_neg (by omega)]
            refine ⟨y1, y2, y3, fun j hj => ?_⟩
            rw [l8 _ (Or.inl (by omega)), n1 (k + 5) (by omega) (by omega)]; exact y4 j hj
          · subst z
            rw [if_pos rfl, l6 (k + 8) (by omega) (by omega) (by omega) (by omega), n8, if_pos rfl]
            exact ⟨l1, rfl, l2, l3⟩
        · dsimp only
          by_cases z : t = c
          · subst z
            rw [l4 d hd, n1 (k + 7) (by omega) (by omega), p2 t ht d hd, if_neg (show ¬ (t < t ∧ inB A ls t d = true) from fun y => Nat.lt_irrefl t y.1)]
            by_cases b : inB A ls t d = true
            · rw [if_pos b, if_pos ⟨by omega, b⟩]
            · rw [if_neg b, if_neg (fun y => b y.2)]
          · rw [l5 _ (by omega), n1 (k + 7) (by omega) (by omega), p2 t ht d hd]
            by_cases b : t < c ∧ inB A ls t d = true
            · rw [if_pos b, if_pos ⟨by omega, b.2⟩]
            · rw [if_neg b, if_neg (fun y => b ⟨by omega, y.2⟩)]
        · dsimp only
          rw [l6 x h5 h6 h7 h9]; exact nx x h5 h6 h7 h8 h9
      · rw [if_neg u, if_pos rfl]
        refine t_nx ⟨c + 1, qs, by omega, nI_1 c, fun t ht hu => ?_, fun t ht d hd => ?_, nx⟩ mu
        · rcases (by omega : t < c ∨ t = c) with z | z
          · obtain ⟨y1, y2, y3, y4⟩ := p1 t z hu
            dsimp only
            rw [n8, if_neg (by omega), n9, if_neg (by omega), n1 (k + 5) (by omega) (by omega)]
            exact ⟨y1, y2, y3, y4⟩
          · rw [z] at hu; exact absurd hu u
        · dsimp only
          rw [n1 (k + 7) (by omega) (by omega), p2 t ht d hd]
          by_cases b : t < c ∧ inB A ls t d = true
          · rw [if_pos b, if_pos ⟨by omega, b.2⟩]
          · rw [if_neg b]
            by_cases z : t = c
            · rw [if_neg (fun y => u (by rw [← z]; exact (inB_and.mp y.2).1))]
            · rw [if_neg (fun y => b ⟨by omega, y.2⟩)]
  obtain ⟨r, e, qs, h1, h2, h3⟩ := key
  have rk : ∀ x, x ≠ k → x ≠ k + 1 → x ≠ k + 5 → x ≠ k + 6 → x ≠ k + 7 → x ≠ k + 8 → x ≠ k + 9 → r x = M x := fun x h0 h1 h5 h6 h7 h8 h9 => by rw [h3 x h5 h6 h7 h8 h9, g4 x h0 h1 h7]
  have rk0 : ∀ j, r k j = g_up (g_up M k 0 0) k 1 0 k j := fun j => by rw [h3 k (by omega) (by omega) (by omega) (by omega) (by omega)]; exact k0 j
  refine ⟨qs, r, ?_, ⟨?_, fun e he => ?_, h2, fun t ht u j hj => (h1 t ht u).2.2.2 j hj⟩, fun t ht u => ?_, fun f t ht u => ?_, ?_, ?_, fun e he => ?_, rk, fun j hj => ?_⟩
  · unfold fX1_open
    rw [pU_n, obs, pU_n, obs, e3, obs, e4, obs, show ((0 : Int32), r4) = (nI 0, r4) from rfl, e, obs]
  · rw [rk0, g_up_ne (Or.inr (by decide)), g_up_ne (Or.inr (by decide))]; exact hS.1
  · rw [rk (k + 2) (by omega) (by omega) (by omega) (by omega) (by omega) (by omega) (by omega)]; exact hS.2 e he
  · obtain ⟨⟨q1, q2, q3, q4, q5⟩, _⟩ := h1 t ht u
    exact ⟨by rw [q1]; exact hW.k12 t (used_t hW u), q2, q3, by rw [← q1] at q4 ⊢; exact q4, q5⟩
  · obtain ⟨_, g1, g2, _⟩ := h1 t ht u
    exact ⟨by rw [Nat.mul_zero, Nat.zero_add]; exact g1, by rw [Nat.mul_zero, Nat.zero_add]; exact g2, Nat.zero_le _, Nat.le_refl _, fun j hj => ⟨fun _ e he => absurd he (Nat.not_lt_zero e), fun _ => ⟨Nat.zero_le _, hj⟩⟩⟩
  · rw [rk0, g_up_ne (Or.inr (by decide)), g_up_self]
  · rw [rk0, g_up_self]
  · rw [h3 (k + 1) (by omega) (by omega) (by omega) (by omega) (by omega), b1 (k + 1) (by omega)]; exact a2 e he
  · rw [rk0, g_up_ne (Or.inr (by omega)), g_up_ne (Or.inr (by omega))]
/-- the letters asked, as both have them -/
theorem am_asA {I0 I : gM} {A : aT} {n am : Nat} (hM : MI false I0 I) (hW : WF A) (hR : RT I (I 70) A) (hn : I 62 17 = nI n) (n4 : n ≤ 4) (ha : am < 16) (h : ∀ l, l < 4 → (am.testBit l = true ↔ ask9 I n l)) : am = asA A := by
  obtain ⟨am', z1, z2, z3⟩ := n_asked hM n4 hn
  rw [n_askedK hW hR] at z2
  have e := nI_inj (Option.some.inj z2) (by have := asA_lt hW; omega) (by omega)
  rw [e]
  exact Nat.eq_of_testBit_eq (fun l => by
    by_cases hl : l < 4
    · have a := z3 l hl
      rw [← h l hl] at a
      cases h1 : am'.testBit l <;> cases h2 : am.testBit l <;> simp_all
    · have p1 : (2 : Nat) ^ 4 ≤ 2 ^ l := Nat.pow_le_pow_right (by omega) (by omega)
      rw [Nat.testBit_lt_two_pow (Nat.lt_of_lt_of_le z1 p1), Nat.testBit_lt_two_pow (Nat.lt_of_lt_of_le ha p1)])
theorem okS_fl4 {o am : Nat} (ho : o < 24) (ha : am < 16) : okS (fl4 o am) := by
  have l4 : (fl4 o am).length ≤ 4 := flt_len o am 4
  refine ⟨l4, fun e he => (fl4_mem o ho am ha e (by omega) he).1, fun d e hd he hne => ?_⟩
  rcases (by omega : d < e ∨ e < d) with z | z
  · exact fl4_ne ho ha (by omega) he z
  · exact (fl4_ne ho ha (by omega) hd z).symm
/-- what a join of the class leaves of its memory -/
def FJc (k : Nat) (M r : gM) : Prop := (∀ q, q < k ∨ k + 10 < q → r q = M q) ∧ (∀ j, 3 ≤ j → r k j = M k j) ∧ r (k + 4) 0 = M (k + 4) 0
/-- both find by an order: the same rows in the same order, as many leaps, as many beginnings -/
theorem find_two {I0 R0 M R : gM} {k k1 o : Nat} {A : aT} (hk : k1 + 4 < k) (hM9 : MI false R0 R) (hW : WF A) (h0 : 0 < A.1.length) (hC : CT M k1 A) (hR : RT R (R 70) A) (hz : M (k + 4) 0 = 0) (ho : o < 24) :
    ∃ M' R' J, fX1_findBy k k1 (nI o) M = some M' ∧ fX9_joins (nI o) R = some R' ∧ OUT k (fl4 o (asA A)) M' R' J ∧ J ≤ 20736 ∧ Sc M' k (fl4 o (asA A)) ∧ Sq R' (fl4 o (asA A)) ∧ 0 < (fl4 o (asA A)).length ∧ FJc k M M' := by
  obtain ⟨am, B, n, ha, hask, eJ, MB, hB, hSq, hD, b26, b27, _, b79, bk, bj⟩ := n_joinsB hM9 ho
  have e17 : R 62 17 = nI n := by rw [← bj 17 (by omega) (by omega) (by omega)]; exact hB.2.2.1
  have := am_asA hM9 hW hR e17 hB.1 ha hask
  subst this
  generalize hls : fl4 o (asA A) = ls at *
  have hs : okS ls := by rw [← hls]; exact okS_fl4 ho ha
  have s4 := hs.1
  have hn : n = A.1.length := nI_inj (e17.symm.trans hR.1) (by have := hB.1; omega) (by have := hW.1; omega)
  have RB : RT B (B 70) A := by
    rw [bk 70 (by omega) (by omega) (by omega) (by omega)]
    exact hR.cong (bj 17 (by omega) (by omega) (by omega)) (bk 72 (by omega) (by omega) (by omega) (by omega)) (bk 73 (by omega) (by omega) (by omega) (by omega)) hW.1 hW.k12 (fun _ _ => rfl)
  -- at least one letter
  have lpos : 0 < ls.length := by
    have hu := hW.2.2.1 h0
    have hu16 := hW.u
    have ⟨t, tb⟩ : ∃ t, A.2.1.testBit t = true := by
      rcases Classical.em (∃ t, A.2.1.testBit t = true) with q | q
      · exact q
      · exfalso
        have : A.2.1 = 0 := Nat.eq_of_testBit_eq (fun i => by
          rw [Nat.zero_testBit]
          cases h : A.2.1.testBit i with
          | true => exact absurd ⟨i, h⟩ q
          | false => rfl)
        omega
    have ht := used_t hW tb
    have w := hW.2.2.2.2 t ht
    have w1 := w.1
    have l0 := w.2.1 0 (by omega)
    have hn4 := hW.1
    have bit : (asA A).testBit ((aL A t).getD 0 0) = true := (hask _ l0).mpr ⟨t, by omega, (br_hs hW hR (by omega)).mpr tb, 0, by rw [(hR.2.2.2 t ht).1, nIt (by omega)]; omega, (hR.2.2.2 t ht).2.1 0 (by omega)⟩
    have hc := fl4_has o ho _ ha _ l0 bit
    rw [hls] at hc
    rcases Nat.eq_zero_or_pos ls.length with q | q
    · rw [List.eq_nil_of_length_eq_zero q] at hc
      have hc : false = true := hc
      exact absurd hc (by decide)
    · exact q
  -- the class
  have e1 := c_asked hW hC
  obtain ⟨r9, e9, S9, f9, f9'⟩ := c_seq (k := k) (M := g_up M k 2 0) ho ha g_up_self
  rw [hls] at S9
  have g9 : ∀ q, q ≠ k → q ≠ k + 2 → r9 q = M q := fun q h1 h2 => by rw [f9 q h1 h2, g_up_row h1]
  have hC9 : CT r9 k1 A := hC.cong (fun j _ => by rw [g9 k1 (by omega) (by omega)]) (g9 _ (by omega) (by omega)) (g9 _ (by omega) (by omega)) (g9 _ (by omega) (by omega)) (g9 _ (by omega) (by omega))
  obtain ⟨qs, r10, e10, SX0, QS0, RG0, z0, z1, zm, f10, f10'⟩ := c_open hk hW hs hC9 S9
  have hp : r10 (k + 4) 0 = 0 := by rw [f10 (k + 4) (by omega) (by omega) (by omega) (by omega) (by omega) (by omega) (by omega), g9 (k + 4) (by omega) (by omega)]; exact hz
  have P0 : PR r10 k ls 0 (fun _ => 0) := ⟨0, by decide, hp, fun e he => absurd he (Nat.not_lt_zero e), fun l hl _ => by unfold d4; rw [Nat.zero_div]⟩
  have O0 : OUT k ls r10 B 0 := ⟨z0, b26, by rw [z1, b27]; rfl, fun e he => by rw [zm e he, b79 (e + 1) (by omega) (by omega)], fun j hj => absurd hj (Nat.not_lt_zero j)⟩
  have pw : 12 ^ (ls.length - 0) ≤ 20736 := Nat.le_trans (Nat.pow_le_pow_right (n := 12) (by decide) (show ls.length - 0 ≤ 4 by omega)) (by decide)
  obtain ⟨M', R', J, h1, h2, h3, h4, h5⟩ := jn_go (R0 := R0) hW RB hn hSq hs hB hD QS0 (ls.length - 1) 0 (by omega) 6 6 (by omega) (by omega) r10 B 0 (fun _ => 0) (fun _ => 0) (fun t => (qs t).length) SX0 (RG0 _) P0 O0 MB ⟨rfl, rfl, rfl, rfl, rfl, rfl⟩ (fun e he => absurd he (Nat.not_lt_zero e)) (fun e he => absurd he (Nat.not_lt_zero e)) (by omega)
  have hS' : SX M' k A ls qs := h4.sx SX0
  have hQ9 : Cx B R' := by
    have hD0 := n_goes (I0 := R0) hB hD 6 0 (by omega) (by omega) B 0 MB ⟨rfl, rfl, rfl, rfl, rfl, rfl⟩ b26 (by omega) (fun e he => absurd he (Nat.not_lt_zero e))
    obtain ⟨r, er, hr⟩ := hD0
    rw [h2] at er
    obtain rfl := Option.some.inj er
    exact hr.2.1
  refine ⟨M', R', J, ?_, ?_, h3, h5, ⟨hS'.1, hS'.2.1⟩, ⟨by rw [hQ9.2.1]; exact hSq.1, fun d hd => by rw [hQ9.2.2.2.2.2]; exact hSq.2 d hd⟩, lpos, fun q hq => ?_, fun j hj => ?_, ?_⟩
  · unfold fX1_findBy
    rw [e1, obs, pU_n, obs, e9, obs, e10, obs, show (0 : Int32) = nI 0 from rfl, h1, obs]
  · rw [eJ, h2, obs]
  · rw [h4.1 q (by omega) (by omega) (by omega) (by omega) (by omega) (by omega) (by omega), f10 q (by omega) (by omega) (by omega) (by omega) (by omega) (by omega) (by omega), g9 q (by omega) (by omega)]
  · rw [h4.2.1 j (by omega), f10' j (by omega), f9' j (by omega), g_up_ne (Or.inr (by omega))]
  · rw [h4.2.2.1 0 (Nat.le_refl 0), hp, hz]
end P_35r_42h_find
section P_35r_43a_joined
/-! the class's join is the join of its tables -/
theorem je : JE := by
  intro A I0 I0' I8 r8 I9 r9 hW hn _ hC hz e8 hM9 hR e9
  obtain ⟨M', R', J, f1, f2, o, _⟩ := find_two (I0 := I0) (k := 18) (k1 := 3) (by omega) hM9 hW hn hC hR hz hW.2.2.2.1
  unfold fX8_renew at e8
  rw [hC.2.2.1, f1, obs, pU_n, obs] at e8
  obtain rfl := Option.some.inj e8
  unfold fX9_joinsNow at e9
  rw [show (1 : Int32) = nI 1 from rfl, rI_n (by omega) (by omega), obs, hR.2.2.1, f2, obs] at e9
  obtain rfl := Option.some.inj e9
  rw [g_up_row (by decide), o.1, o.2.1]
def JCur (I : gM) : Prop := ∃ I8 M', (∀ q, 3 ≤ q ∧ q ≤ 7 → I8 q = I q) ∧ I8 22 0 = 0 ∧ fX1_findBy 18 3 (I 3 2) I8 = some M' ∧ ∀ q, 18 ≤ q ∧ q ≤ 28 → I q = M' q
def WCur (I : gM) : Prop := I 43 0 = 0 ∨ ∃ I8 M', (∀ q, 3 ≤ q ∧ q ≤ 7 → I8 q = I q) ∧ I8 33 0 = 0 ∧ I8 43 0 = 0 ∧ fX7_weigh 3 29 I8 = some M' ∧ ∀ j, I 43 j = M' 43 j
def JX (I : gM) : Prop := I 22 0 = 0 ∧ I 33 0 = 0 ∧ (I 3 0 ≠ 0 → JCur I ∧ WCur I)
theorem JX.congW {I r : gM} (h : JX I) (f : ∀ q, (3 ≤ q ∧ q ≤ 7) ∨ (18 ≤ q ∧ q ≤ 28) → r q = I q) (z : r 33 0 = 0) (g : WCur r) : JX r := by
  refine ⟨by rw [f 22 (by omega)]; exact h.1, z, fun n => ⟨?_, g⟩⟩
  rw [f 3 (by omega)] at n
  obtain ⟨I8, M', a1, a2, a3, a4⟩ := (h.2.2 n).1
  exact ⟨I8, M', fun q hq => (a1 q hq).trans (f q (by omega)).symm, a2, by rw [f 3 (by omega)]; exact a3, fun q hq => (f q (by omega)).trans (a4 q hq)⟩
theorem JX.cong {I r : gM} (h : JX I) (f : ∀ q, (3 ≤ q ∧ q ≤ 7) ∨ (18 ≤ q ∧ q ≤ 28) ∨ q = 43 → r q = I q) (z : r 33 0 = 0) : JX r := by
  refine ⟨by rw [f 22 (by omega)]; exact h.1, z, fun n => ?_⟩
  rw [f 3 (by omega)] at n
  obtain ⟨⟨I8, M', a1, a2, a3, a4⟩, g⟩ := h.2.2 n
  refine ⟨⟨I8, M', fun q hq => (a1 q hq).trans (f q (by omega)).symm, a2, by rw [f 3 (by omega)]; exact a3, fun q hq => (f q (by omega)).trans (a4 q hq)⟩, ?_⟩
  rcases g with g | ⟨I9, N, b1, b2, b3, b4, b5⟩
  · exact Or.inl (by rw [f 43 (by omega)]; exact g)
  · exact Or.inr ⟨I9, N, fun q hq => (b1 q hq).trans (f q (by omega)).symm, b2, b3, b4, fun j => by rw [f 43 (by omega)]; exact b5 j⟩
theorem JX.congA {I r : gM} (h : JX I) (f : ∀ q, (3 ≤ q ∧ q ≤ 7) ∨ (18 ≤ q ∧ q ≤ 28) ∨ q = 33 ∨ q = 43 → r q = I q) : JX r := h.cong (fun q hq => f q (by omega)) (by rw [f 33 (by omega)]; exact h.2.1)
theorem jX_renew {I r : gM} (h0 : I 22 0 = 0) (h1 : I 33 0 = 0) (e : fX8_renew I = some r) : JX r := by
  have e' := e
  unfold fX8_renew at e'
  obtain ⟨M', e1, e'⟩ := ob e'
  rw [pU_n, obs] at e'
  obtain rfl := Option.some.inj e'
  have z := fz_findBy e1
  have fr : ∀ q, q < 18 ∨ 28 < q → M' q = I q := fun q hq => zfX1_findBy _ _ _ _ e1 q (by omega) (by omega) (by omega) (by omega) (by omega) (by omega) (by omega) (by omega) (by omega) (by omega) (by omega)
  refine ⟨by rw [g_up_row (by decide)]; exact z.trans h0, by rw [g_up_row (by decide), fr 33 (by omega)]; exact h1, fun _ => ⟨⟨I, M', fun q hq => by rw [g_up_row (by omega), fr q (by omega)], h0, by rw [g_up_row (by decide), fr 3 (by omega)]; exact e1, fun q hq => g_up_row (by omega)⟩, Or.inl g_up_self⟩⟩
theorem jX_attempt {s a x y z : Int32} {I : gM} {r : Int32 × gM} (h : JX I) (e : fX8_attempt s a x y z I = some r) : JX r.2 := by
  have key : ∀ {v7 t0 t1}, bX8_attempt_56 s a v7 t0 t1 I = some r → JX r.2 := fun {v7 t0 t1} e => by
    unfold bX8_attempt_56 at e
    obtain ⟨r3, e3, e⟩ := ob e
    obtain ⟨r4, e4, e⟩ := ob e
    obtain ⟨r5, e5, e⟩ := ob e
    obtain ⟨r6, e6, e⟩ := ob e
    obtain rfl := Option.some.inj e
    have f3 : ∀ q, 18 ≤ q ∧ q ≤ 33 → r4 q = I q := fun q hq => (zfX5_change _ _ _ _ _ e4 q (by omega) (by omega) (by omega)).trans (zfX3_add _ _ _ _ e3 q (by omega) (by omega))
    have f6 : ∀ q, q < 44 → r6 q = r5 q := fun q hq => zfX2_add _ _ _ _ _ e6 q (by omega) (by omega)
    exact (jX_renew (by rw [f3 22 (by omega)]; exact h.1) (by rw [f3 33 (by omega)]; exact h.2.1) e5).congA (fun q hq => f6 q (by omega))
  unfold fX8_attempt at e
  obtain ⟨r1, _, e⟩ := ob e
  rcases oi e with ⟨_, e⟩ | ⟨_, e⟩
  · obtain ⟨r2, _, e⟩ := ob e
    rcases oi e with ⟨_, e⟩ | ⟨_, e⟩
    · exact key e
    · exact key e
  · obtain rfl := Option.some.inj e
    exact h
theorem jX_isDone {s a x y z : Int32} {I : gM} {r : Int32 × gM} (h : JX I) (e : fX8_isDone s a x y z I = some r) : JX r.2 := by
  unfold fX8_isDone at e
  obtain ⟨r1, e1, e⟩ := ob e
  have j1 := jX_attempt h e1
  have key : ∀ {v M}, bX8_isDone_35 v M = some r → r.2 = M := fun {v M} e => by
    unfold bX8_isDone_35 at e
    rcases oi e with ⟨_, e⟩ | ⟨_, e⟩
    · obtain rfl := Option.some.inj e; rfl
    · obtain rfl := Option.some.inj e; rfl
  rcases oi e with ⟨_, e⟩ | ⟨_, e⟩
  · rw [key e]; exact j1
  · rcases oi e with ⟨_, e⟩ | ⟨_, e⟩
    · rw [key e]; exact j1
    · obtain ⟨u, _, e⟩ := ob e
      obtain ⟨M, e2, e⟩ := ob e
      rw [key e]
      exact j1.congA (fun q hq => by rw [← (wI_some e2).2.2]; exact g_up_row (by omega))
theorem jX_put {I : gM} {v1 v2 v3 v4 : Int32} {r : Int32 × gM} (h : JX I) (e : fX8_put v1 v2 v3 v4 I = some r) : JX r.2 := by
  unfold fX8_put at e
  obtain ⟨r1, e1, e⟩ := ob e
  have j := jX_isDone h e1
  rcases oi e with ⟨_, e⟩ | ⟨_, e⟩
  · obtain rfl := Option.some.inj e; exact j
  · obtain ⟨u, _, e⟩ := ob e; obtain rfl := Option.some.inj e; exact j
theorem jX_take {I : gM} {v1 v2 v3 v4 : Int32} {r : Int32 × gM} (h : JX I) (e : fX8_take v1 v2 v3 v4 I = some r) : JX r.2 := by
  unfold fX8_take at e
  obtain ⟨r1, e1, e⟩ := ob e
  have j := jX_isDone h e1
  rcases oi e with ⟨_, e⟩ | ⟨_, e⟩
  · obtain rfl := Option.some.inj e; exact j
  · obtain ⟨u, _, e⟩ := ob e; obtain rfl := Option.some.inj e; exact j
theorem jX_use {I : gM} {v1 : Int32} {r : Int32 × gM} (h : JX I) (e : fX8_use v1 I = some r) : JX r.2 := by
  unfold fX8_use at e
  obtain ⟨r1, e1, e⟩ := ob e
  have j := jX_isDone h e1
  rcases oi e with ⟨_, e⟩ | ⟨_, e⟩
  · obtain rfl := Option.some.inj e; exact j
  · obtain ⟨u, _, e⟩ := ob e
    rcases oi e with ⟨_, e⟩ | ⟨_, e⟩
    · obtain rfl := Option.some.inj e; exact j
    · obtain rfl := Option.some.inj e; exact j
theorem jX_order {I : gM} {v1 : Int32} {r : Int32 × gM} (h : JX I) (e : fX8_order v1 I = some r) : JX r.2 := by
  unfold fX8_order at e
  obtain ⟨r1, e1, e⟩ := ob e
  have j := jX_isDone h e1
  rcases oi e with ⟨_, e⟩ | ⟨_, e⟩
  · obtain rfl := Option.some.inj e; exact j
  · obtain rfl := Option.some.inj e; exact j
theorem jX_undo {I : gM} {r : Int32 × gM} (h : JX I) (e : fX8_undo I = some r) : JX r.2 := by
  unfold fX8_undo at e
  rcases oi e with ⟨_, e⟩ | ⟨_, e⟩
  · obtain rfl := Option.some.inj e; exact h
  · obtain ⟨r1, e1, e⟩ := ob e
    obtain ⟨r2, e2, e⟩ := ob e
    obtain ⟨r3, e3, e⟩ := ob e
    obtain ⟨r4, e4, e⟩ := ob e
    obtain ⟨r5, e5, e⟩ := ob e
    obtain ⟨r6, e6, e⟩ := ob e
    obtain ⟨r7, e7, e⟩ := ob e
    obtain rfl := Option.some.inj e
    have f : ∀ q, 18 ≤ q ∧ q ≤ 33 → r6 q = I q := fun q hq => (zfX2_dropLatest _ _ e6 q (by omega)).trans ((zfX5_changeBack _ _ _ _ _ e5 q (by omega) (by omega) (by omega)).trans (zfX3_dropLatest _ e1 q (by omega)))
    exact jX_renew (by rw [f 22 (by omega)]; exact h.1) (by rw [f 33 (by omega)]; exact h.2.1) e7
theorem jX_back {I : gM} {r : Int32 × gM} (h : JX I) (e : fX8_back I = some r) : JX r.2 := by
  unfold fX8_back at e
  rcases oi e with ⟨_, e⟩ | ⟨_, e⟩
  · obtain rfl := Option.some.inj e; exact h
  · obtain ⟨r1, e1, e⟩ := ob e
    obtain ⟨r2, e2, e⟩ := ob e
    obtain ⟨r3, e3, e⟩ := ob e
    obtain ⟨r4, e4, e⟩ := ob e
    obtain rfl := Option.some.inj e
    have f : ∀ q, 18 ≤ q ∧ q ≤ 33 → r3 q = I q := fun q hq => (zfX3_clear _ e3 q (by omega)).trans ((zfX2_copyFrom _ _ _ e2 q (by omega) (by omega)).trans (zfX5_copyFrom _ _ _ e1 q (by omega) (by omega) (by omega) (by omega) (by omega)))
    exact jX_renew (by rw [f 22 (by omega)]; exact h.1) (by rw [f 33 (by omega)]; exact h.2.1) e4
theorem jX_text {I : gM} {v1 : Int32} {r : Int32 × gM} (h : JX I) (e : fX8_text v1 I = some r) : JX r.2 := by
  unfold fX8_text at e
  rcases oi e with ⟨_, e⟩ | ⟨_, e⟩
  · obtain ⟨p, ep, e⟩ := ob e
    obtain rfl := Option.some.inj e
    show JX p.2
    unfold fX8_textOfTables at ep
    obtain ⟨r1, e1, e⟩ := ob ep
    rcases oi e with ⟨_, e⟩ | ⟨_, e⟩
    · obtain ⟨r2, e2, e⟩ := ob e
      obtain ⟨r3, e3, e⟩ := ob e
      obtain ⟨r4, e4, e⟩ := ob e
      obtain ⟨r5, e5, e⟩ := ob e
      obtain ⟨r6, e6, e⟩ := ob e
      obtain ⟨r7, e7, e⟩ := ob e
      obtain rfl := Option.some.inj e
      have f : ∀ q, 18 ≤ q ∧ q ≤ 33 → r6 q = I q := fun q hq => by
        rw [pU_n] at e3 e6
        obtain rfl := Option.some.inj e3
        obtain rfl := Option.some.inj e6
        rw [g_up_row (by omega), zfX3_clear _ e5 q (by omega), zfX2_clear _ _ e4 q (by omega), g_up_row (by omega), zfX5_copyFrom _ _ _ e2 q (by omega) (by omega) (by omega) (by omega) (by omega), zfX6_readTables _ _ e1 q (by omega) (by omega) (by omega) (by omega) (by omega) (by omega)]
      exact jX_renew (by rw [f 22 (by omega)]; exact h.1) (by rw [f 33 (by omega)]; exact h.2.1) e7
    · obtain rfl := Option.some.inj e
      exact h.congA (fun q hq => zfX6_readTables _ _ e1 q (by omega) (by omega) (by omega) (by omega) (by omega) (by omega))
  · rcases oi e with ⟨_, e⟩ | ⟨_, e⟩
    · obtain ⟨p, ep, e⟩ := ob e
      obtain rfl := Option.some.inj e
      exact h.congA (fun q hq => zfX8_textOfScript _ ep q (by omega) (by omega) (by omega) (by omega) (by omega) (by omega) (by omega) (by omega) (by omega) (by omega) (by omega) (by omega))
    · obtain rfl := Option.some.inj e
      exact h
theorem jX_goOneWay {I : gM} {J : gN} {r : gM × gN} (h : JX I) (e : fX8_goOneWay I J = some r) : JX r.1 := by
  have k172 : ∀ {v2 v4 v5 t0 K}, bX8_goOneWay_172 v2 v4 v5 t0 I K = some r → JX r.1 := fun e => by
    unfold bX8_goOneWay_172 at e
    obtain ⟨a, ea, e⟩ := ob e
    obtain rfl := Option.some.inj e
    exact jX_attempt h ea
  have k155 : ∀ {v2 v3 v4 t0 K}, bX8_goOneWay_155 v2 v3 v4 t0 I K = some r → JX r.1 := fun e => by
    unfold bX8_goOneWay_155 at e
    rcases oi e with ⟨_, e⟩ | ⟨_, e⟩
    · exact k172 e
    · obtain ⟨a, _, e⟩ := ob e
      exact k172 e
  have k138 : ∀ {v2 v3 t0 K}, bX8_goOneWay_138 v2 v3 t0 I K = some r → JX r.1 := fun e => by
    unfold bX8_goOneWay_138 at e
    rcases oi e with ⟨_, e⟩ | ⟨_, e⟩
    · exact k155 e
    · obtain ⟨a, _, e⟩ := ob e
      exact k155 e
  unfold fX8_goOneWay at e
  obtain ⟨r1, _, e⟩ := ob e
  rcases oi e with ⟨_, e⟩ | ⟨_, e⟩
  · obtain ⟨r2, _, e⟩ := ob e
    obtain ⟨r3, e3, e⟩ := ob e
    obtain rfl := Option.some.inj e
    exact jX_attempt h e3
  · obtain ⟨r4, _, e⟩ := ob e
    rcases oi e with ⟨_, e⟩ | ⟨_, e⟩
    · obtain ⟨r5, e5, e⟩ := ob e
      obtain rfl := Option.some.inj e
      exact jX_attempt h e5
    · rcases oi e with ⟨_, e⟩ | ⟨_, e⟩
      · obtain ⟨r6, _, e⟩ := ob e
        rcases oi e with ⟨_, e⟩ | ⟨_, e⟩
        · obtain rfl := Option.some.inj e
          exact h
        · obtain ⟨u, _, e⟩ := ob e
          rcases oi e with ⟨_, e⟩ | ⟨_, e⟩
          · exact k138 e
          · obtain ⟨a, _, e⟩ := ob e
            exact k138 e
      · obtain ⟨_, _, e⟩ := ob e
        obtain ⟨_, _, e⟩ := ob e
        obtain ⟨_, _, e⟩ := ob e
        obtain ⟨_, _, e⟩ := ob e
        obtain ⟨r16, e16, e⟩ := ob e
        obtain rfl := Option.some.inj e
        exact jX_attempt h e16
theorem jX_ways {I : gM} {J : gN} {v1 : Int32} {v2 : Int64} {r : Int32 × gM × gN} (h : JX I) (e : fX8_ways v1 v2 I J = some r) : JX r.2.1 := by
  unfold fX8_ways at e
  rcases oi e with ⟨_, e⟩ | ⟨_, e⟩
  · obtain rfl := Option.some.inj e; exact h
  · rcases oi e with ⟨_, e⟩ | ⟨_, e⟩
    · obtain rfl := Option.some.inj e; exact h
    · rcases oi e with ⟨_, e⟩ | ⟨_, e⟩
      · obtain ⟨J1, _, e⟩ := ob e
        obtain ⟨w3, ew, e⟩ := ob e
        obtain rfl := Option.some.inj e
        have key : ∀ s, lX8_ways_31 v1 s = some w3 → JX s.2.1 → JX w3.1 := by
          unfold lX8_ways_31
          refine itO_ind (P := fun s : Int32 × gM × gN => JX s.2.1 → JX w3.1) (fun s y e hl hr => ?_)
          intro hs
          rcases oi e with ⟨_, e⟩ | ⟨_, e⟩
          · obtain rfl := Option.some.inj e
            have hh := hr _ rfl
            subst hh; exact hs
          · obtain ⟨r2, e2, e⟩ := ob e
            obtain rfl := Option.some.inj e
            exact hl _ rfl (jX_goOneWay hs e2)
        exact key _ ew h
      · obtain rfl := Option.some.inj e; exact h
theorem jX_perform {I : gM} {v1 : Int32} {r : Int32 × gM} (h : JX I) (e : fX8_perform v1 I = some r) : JX r.2 := by
  unfold fX8_perform at e
  obtain ⟨r1, _, e⟩ := ob e
  rcases oi e with ⟨_, e⟩ | ⟨_, e⟩
  · obtain rfl := Option.some.inj e; exact h
  · rcases oi e with ⟨_, e⟩ | ⟨_, e⟩
    · obtain rfl := Option.some.inj e; exact h
    · obtain ⟨k2, _, e⟩ := ob e
      obtain ⟨w9, ew, e⟩ := ob e
      have key : ∀ s, lX8_perform_29 k2 s = some w9 → JX s.2 → JX (Sum.elim (fun p : Int32 × gM => p.2) (fun q => q) w9) := by
        unfold lX8_perform_29
        refine itO_ind (P := fun s : Int32 × gM => JX s.2 → JX (Sum.elim (fun p : Int32 × gM => p.2) (fun q => q) w9)) (fun s y e hl hr => ?_)
        intro hs
        rcases oi e with ⟨_, e⟩ | ⟨_, e⟩
        · obtain rfl := Option.some.inj e
          have hh := hr _ rfl
          subst hh; exact hs
        · obtain ⟨_, _, e⟩ := ob e
          obtain ⟨_, _, e⟩ := ob e
          obtain ⟨_, _, e⟩ := ob e
          obtain ⟨_, _, e⟩ := ob e
          obtain ⟨_, _, e⟩ := ob e
          obtain ⟨r8, e8, e⟩ := ob e
          have j := jX_attempt hs e8
          rcases oi e with ⟨_, e⟩ | ⟨_, e⟩
          · obtain rfl := Option.some.inj e
            exact hl _ rfl j
          · obtain rfl := Option.some.inj e
            have hh := hr _ rfl
            subst hh; exact j
      have q := key _ ew h
      cases w9 with
      | inl p =>
        obtain rfl := Option.some.inj e
        exact q
      | inr p =>
        obtain rfl := Option.some.inj e
        exact q
theorem z_weigh {I r : gM} (h : I 33 0 = 0) (e : fX7_weigh 3 29 I = some r) : r 33 0 = 0 := by
  unfold fX7_weigh at e
  rcases oi e with ⟨_, e⟩ | ⟨_, e⟩
  · obtain ⟨w5, ew, e⟩ := ob e
    rw [pU_n] at e
    obtain rfl := Option.some.inj e
    rw [g_up_row (by decide)]
    have key : ∀ s, lX7_weigh_10 3 29 s = some w5 → s.2 33 0 = 0 → w5 33 0 = 0 := by
      unfold lX7_weigh_10
      refine itO_ind (P := fun s : Int32 × gM => s.2 33 0 = 0 → w5 33 0 = 0) (fun s y e hl hr => ?_)
      intro hs
      have k73 : ∀ {v M}, bX7_weigh_73 v M = some y → M 33 0 = 0 → w5 33 0 = 0 := fun e hm => by
        unfold bX7_weigh_73 at e
        obtain rfl := Option.some.inj e
        exact hl _ rfl hm
      have k65 : ∀ {v M}, bX7_weigh_65 29 v M = some y → M 33 0 = 0 → w5 33 0 = 0 := fun e hm => by
        unfold bX7_weigh_65 at e
        rw [pU_n] at e
        obtain ⟨_, e1, e⟩ := ob e
        obtain rfl := Option.some.inj e1
        exact k73 e (by rw [g_up_row (by decide)]; exact hm)
      have k50 : ∀ {v M}, bX7_weigh_50 29 v M = some y → M 33 0 = 0 → w5 33 0 = 0 := fun e hm => by
        unfold bX7_weigh_50 at e
        rcases oi e with ⟨_, e⟩ | ⟨_, e⟩
        · exact k65 e hm
        · rcases oi e with ⟨_, e⟩ | ⟨_, e⟩
          · exact k73 e hm
          · exact k65 e hm
      have k37 : ∀ {v M}, bX7_weigh_37 29 v M = some y → M 33 0 = 0 → w5 33 0 = 0 := fun e hm => by
        unfold bX7_weigh_37 at e
        obtain ⟨_, e1, e⟩ := ob e
        obtain ⟨_, e2, e⟩ := ob e
        rw [pU_n] at e1 e2
        obtain rfl := Option.some.inj e1
        obtain rfl := Option.some.inj e2
        exact k50 e (by rw [g_up_row (by decide), g_up_row (by decide)]; exact hm)
      rcases oi e with ⟨_, e⟩ | ⟨_, e⟩
      · obtain rfl := Option.some.inj e
        have hh := hr _ rfl
        subst hh; exact hs
      · obtain ⟨r1, e1, e⟩ := ob e
        have z1 : r1 33 0 = 0 := (fz_findBy e1).trans hs
        rcases oi e with ⟨_, e⟩ | ⟨_, e⟩
        · exact k37 e z1
        · rcases oi e with ⟨_, e⟩ | ⟨_, e⟩
          · exact k50 e z1
          · exact k37 e z1
    exact key _ ew h
  · obtain rfl := Option.some.inj e; exact h
theorem jX_weigh {I r : gM} (h : JX I) (n : I 3 0 ≠ 0) (e : fX7_weigh 3 29 I = some r) : JX r := by
  have f : ∀ q, q < 29 → r q = I q := fun q hq => zfX7_weigh _ _ _ e q (by omega) (by omega) (by omega) (by omega) (by omega) (by omega) (by omega) (by omega) (by omega) (by omega) (by omega) (by omega)
  refine h.congW (fun q hq => f q (by omega)) (z_weigh h.2.1 e) ?_
  have e' := e
  unfold fX7_weigh at e'
  rcases oi e' with ⟨c, _⟩ | ⟨c, e'⟩
  · exact Or.inr ⟨I, r, fun q hq => (f q (by omega)).symm, h.2.1, c, e, fun _ => rfl⟩
  · obtain rfl := Option.some.inj e'
    exact (h.2.2 n).2
theorem jX_best {I : gM} {v1 : Int32} {r : Int32 × gM} (h : JX I) (e : fX8_best v1 I = some r) : JX r.2 := by
  unfold fX8_best at e
  rcases oi e with ⟨_, e⟩ | ⟨n, e⟩
  · obtain rfl := Option.some.inj e; exact h
  · rcases oi e with ⟨_, e⟩ | ⟨_, e⟩
    · obtain rfl := Option.some.inj e; exact h
    · rcases oi e with ⟨_, e⟩ | ⟨_, e⟩
      · obtain ⟨r1, e1, e⟩ := ob e
        have j := jX_weigh h n e1
        rcases oi e with ⟨_, e⟩ | ⟨_, e⟩
        · obtain rfl := Option.some.inj e; exact j
        · obtain rfl := Option.some.inj e; exact j
      · obtain rfl := Option.some.inj e; exact h
theorem jX_most {I : gM} {v1 : Int32} {r : Int32 × gM} (h : JX I) (e : fX8_most v1 I = some r) : JX r.2 := by
  unfold fX8_most at e
  rcases oi e with ⟨_, e⟩ | ⟨n, e⟩
  · obtain rfl := Option.some.inj e; exact h
  · rcases oi e with ⟨_, e⟩ | ⟨_, e⟩
    · obtain ⟨_, _, e⟩ := ob e; obtain rfl := Option.some.inj e; exact h
    · rcases oi e with ⟨_, e⟩ | ⟨_, e⟩
      · obtain ⟨_, _, e⟩ := ob e; obtain rfl := Option.some.inj e; exact h
      · rcases oi e with ⟨_, e⟩ | ⟨_, e⟩
        · obtain ⟨_, _, e⟩ := ob e; obtain rfl := Option.some.inj e; exact h
        · rcases oi e with ⟨_, e⟩ | ⟨_, e⟩
          · obtain ⟨_, _, e⟩ := ob e; obtain rfl := Option.some.inj e; exact h
          · rcases oi e with ⟨_, e⟩ | ⟨_, e⟩
            · obtain ⟨r5, e5, e⟩ := ob e
              obtain rfl := Option.some.inj e
              exact h.congA (fun q hq => zfX8_tellingCouples _ e5 q (by omega))
            · rcases oi e with ⟨_, e⟩ | ⟨_, e⟩
              · obtain ⟨r6, e6, e⟩ := ob e
                obtain rfl := Option.some.inj e
                exact h.cong (fun q hq => zfX1_findBy _ _ _ _ e6 q (by omega) (by omega) (by omega) (by omega) (by omega) (by omega) (by omega) (by omega) (by omega) (by omega) (by omega)) ((fz_findBy e6).trans h.2.1)
              · rcases oi e with ⟨_, e⟩ | ⟨_, e⟩
                · obtain ⟨r7, e7, e⟩ := ob e
                  obtain rfl := Option.some.inj e
                  exact jX_weigh h n e7
                · obtain rfl := Option.some.inj e; exact h
theorem jX_without {I : gM} {v1 : Int32} {r : Int32 × gM} (h : JX I) (e : fX8_without v1 I = some r) : JX r.2 := by
  refine h.cong (fun q hq => zfX8_without _ _ e q (by omega) (by omega) (by omega) (by omega) (by omega) (by omega) (by omega) (by omega) (by omega) (by omega) (by omega) (by omega) (by omega) (by omega) (by omega) (by omega)) ?_
  unfold fX8_without at e
  obtain ⟨r1, _, e⟩ := ob e
  rcases oi e with ⟨_, e⟩ | ⟨_, e⟩
  · obtain rfl := Option.some.inj e; exact h.2.1
  · rcases oi e with ⟨_, e⟩ | ⟨_, e⟩
    · obtain rfl := Option.some.inj e; exact h.2.1
    · obtain ⟨r2, e2, e⟩ := ob e
      obtain ⟨r3, e3, e⟩ := ob e
      obtain ⟨r4, e4, e⟩ := ob e
      obtain rfl := Option.some.inj e
      rw [pU_n] at e3
      obtain rfl := Option.some.inj e3
      have q : r2 33 = I 33 := zfX5_copyFrom _ _ _ e2 33 (by omega) (by omega) (by omega) (by omega) (by omega)
      exact (fz_findBy e4).trans (by rw [g_up_row (by decide), q]; exact h.2.1)
theorem jX_projected {I : gM} {v1 : Int32} {r : Int32 × gM} (h : JX I) (e : fX8_projected v1 I = some r) : JX r.2 := by
  refine h.cong (fun q hq => zfX8_projected _ _ e q (by omega) (by omega) (by omega) (by omega) (by omega) (by omega) (by omega) (by omega) (by omega) (by omega) (by omega)) ?_
  unfold fX8_projected at e
  rcases oi e with ⟨_, e⟩ | ⟨_, e⟩
  · obtain rfl := Option.some.inj e; exact h.2.1
  · rcases oi e with ⟨_, e⟩ | ⟨_, e⟩
    · obtain rfl := Option.some.inj e; exact h.2.1
    · rcases oi e with ⟨_, e⟩ | ⟨_, e⟩
      · obtain rfl := Option.some.inj e; exact h.2.1
      · obtain ⟨r1, _, e⟩ := ob e
        rcases oi e with ⟨_, e⟩ | ⟨_, e⟩
        · obtain ⟨r2, e2, e⟩ := ob e
          obtain ⟨r3, _, e⟩ := ob e
          obtain rfl := Option.some.inj e
          exact (fz_findLeading e2).trans h.2.1
        · obtain rfl := Option.some.inj e; exact h.2.1
theorem jX_would {I : gM} {v1 v2 v3 v4 v5 : Int32} {r : Int32 × gM} (h : JX I) (e : fX8_would v1 v2 v3 v4 v5 I = some r) : JX r.2 := by
  refine h.cong (fun q hq => zfX8_would _ _ _ _ _ _ e q (by omega) (by omega) (by omega) (by omega) (by omega) (by omega) (by omega) (by omega) (by omega) (by omega) (by omega) (by omega) (by omega) (by omega) (by omega) (by omega)) ?_
  unfold fX8_would at e
  rcases oi e with ⟨_, e⟩ | ⟨_, e⟩
  · obtain rfl := Option.some.inj e; exact h.2.1
  · rcases oi e with ⟨_, e⟩ | ⟨_, e⟩
    · obtain rfl := Option.some.inj e; exact h.2.1
    · obtain ⟨r1, _, e⟩ := ob e
      rcases oi e with ⟨_, e⟩ | ⟨_, e⟩
      · obtain ⟨r2, e2, e⟩ := ob e
        obtain ⟨r3, _, e⟩ := ob e
        obtain ⟨r4, e4, e⟩ := ob e
        obtain ⟨r5, e5, e⟩ := ob e
        have q2 : r2 33 = I 33 := zfX5_copyFrom _ _ _ e2 33 (by omega) (by omega) (by omega) (by omega) (by omega)
        have q4 : r4 33 = r2 33 := zfX5_change _ _ _ _ _ e4 33 (by omega) (by omega) (by omega)
        have q5 : r5 33 0 = 0 := (fz_findBy e5).trans (by rw [q4, q2]; exact h.2.1)
        rcases oi e with ⟨_, e⟩ | ⟨_, e⟩
        · obtain rfl := Option.some.inj e; exact q5
        · obtain rfl := Option.some.inj e; exact q5
      · obtain rfl := Option.some.inj e; exact h.2.1
theorem jX_run {I : gM} {v1 v2 : Int32} {r : Int32 × gM} (h : JX I) (e : fX8_run v1 v2 I = some r) : JX r.2 := by
  refine h.cong (fun q hq => zfX8_run _ _ _ e q (by omega) (by omega) (by omega) (by omega) (by omega) (by omega) (by omega) (by omega) (by omega) (by omega) (by omega) (by omega) (by omega) (by omega) (by omega) (by omega)) ?_
  unfold fX8_run at e
  obtain ⟨r1, _, e⟩ := ob e
  rcases oi e with ⟨_, e⟩ | ⟨_, e⟩
  · obtain rfl := Option.some.inj e; exact h.2.1
  · rcases oi e with ⟨_, e⟩ | ⟨_, e⟩
    · obtain rfl := Option.some.inj e; exact h.2.1
    · rcases oi e with ⟨_, e⟩ | ⟨_, e⟩
      · obtain rfl := Option.some.inj e; exact h.2.1
      · rcases oi e with ⟨_, e⟩ | ⟨_, e⟩
        · obtain ⟨r2, e2, e⟩ := ob e
          obtain ⟨k3, _, e⟩ := ob e
          obtain ⟨r4, e4, e⟩ := ob e
          have q2 : r2 33 = I 33 := zfX5_copyFrom _ _ _ e2 33 (by omega) (by omega) (by omega) (by omega) (by omega)
          have q4 : r4.2 33 = r2 33 := zfX4_rehearse _ _ _ e4 33 (by omega) (by omega) (by omega)
          have q5 : r4.2 33 0 = 0 := by rw [q4, q2]; exact h.2.1
          rcases oi e with ⟨_, e⟩ | ⟨_, e⟩
          · obtain ⟨k5, _, e⟩ := ob e
            rcases oi e with ⟨_, e⟩ | ⟨_, e⟩
            · obtain rfl := Option.some.inj e; exact q5
            · obtain rfl := Option.some.inj e; exact q5
          · obtain ⟨r6, e6, e⟩ := ob e
            obtain rfl := Option.some.inj e
            exact (fz_findBy e6).trans q5
        · obtain rfl := Option.some.inj e; exact h.2.1
theorem jX_feed {I : gM} {v1 v2 v3 v4 v5 : Int32} {r : Int32 × gM} (h : JX I) (e : fX8_feed v1 v2 v3 v4 v5 I = some r) : JX r.2 := h.congA (fun q hq => zfX8_feed _ _ _ _ _ _ e q (by omega) (by omega))
theorem jX_end {I : gM} {v1 : Int32} {r : Int32 × gM} (h : JX I) (e : fX8_end v1 I = some r) : JX r.2 := h.congA (fun q hq => zfX8_end _ _ e q (by omega))
theorem jX_fault {I : gM} {v1 : Int32} {r : Int32 × gM} (h : JX I) (e : fX8_fault v1 I = some r) : JX r.2 := h.congA (fun q hq => zfX8_fault _ _ e q (by omega) (by omega) (by omega) (by omega) (by omega) (by omega) (by omega) (by omega))
theorem jX_times {I : gM} {v1 v2 : Int32} {r : Int32 × gM} (h : JX I) (e : fX8_times v1 v2 I = some r) : JX r.2 := h.congA (fun q hq => zfX8_times _ _ _ e q (by omega))
theorem jX_distinct {I : gM} {v1 v2 : Int32} {r : Int32 × gM} (h : JX I) (e : fX8_distinct v1 v2 I = some r) : JX r.2 := h.congA (fun q hq => zfX8_distinct _ _ _ e q (by omega))
theorem jX_tells {I : gM} {v1 v2 : Int32} {r : Int32 × gM} (h : JX I) (e : fX8_tells v1 v2 I = some r) : JX r.2 := h.congA (fun q hq => zfX8_tells _ _ _ e q (by omega))
theorem jX_image {I : gM} {r : Int32 × gM} (h : JX I) (e : fX8_image  I = some r) : JX r.2 := h.congA (fun q hq => zfX8_image _ e q (by omega) (by omega) (by omega) (by omega) (by omega) (by omega) (by omega) (by omega))
theorem jX_skew {I : gM} {v1 : Int32} {r : Int32 × gM} (h : JX I) (e : fX8_skew v1 I = some r) : JX r.2 := by
  unfold fX8_skew at e
  obtain ⟨r1, _, e⟩ := ob e
  rcases oi e with ⟨_, e⟩ | ⟨_, e⟩
  · obtain rfl := Option.some.inj e; exact h
  · rcases oi e with ⟨_, e⟩ | ⟨_, e⟩
    · obtain rfl := Option.some.inj e; exact h
    · obtain ⟨r2, e2, e⟩ := ob e
      have j : JX r2 := h.congA (fun q hq => zfX0_tallyUp _ _ _ e2 q (by omega))
      obtain ⟨r3, _, e⟩ := ob e
      rcases oi e with ⟨_, e⟩ | ⟨_, e⟩
      · obtain rfl := Option.some.inj e; exact j
      · rcases oi e with ⟨_, e⟩ | ⟨_, e⟩
        · obtain ⟨_, _, e⟩ := ob e
          obtain ⟨_, _, e⟩ := ob e
          obtain ⟨_, _, e⟩ := ob e
          obtain rfl := Option.some.inj e; exact j
        · obtain rfl := Option.some.inj e; exact j
/-! the calls over both -/
/-- an image of tables, where there are tables -/
def RX (I : gM) : Prop := I 62 42 ≠ 0 → I 62 17 ≠ 0
theorem RX.keep {I b : gM} (h : RX I) (h1 : b 62 17 = I 62 17) (h2 : b 62 42 = I 62 42) : RX b := by
  unfold RX
  rw [h1, h2]; exact h
def InvB (I : gM) : Prop := InvA 3 I ∧ JX I ∧ RX I
theorem InvB.mk' {a b : gM} (h : InvA 3 b) (j : JX a) (lo : ∀ q, q < 62 → b q = a q) (x : RX b) : InvB b := ⟨h, j.congA (fun q hq => lo q (by omega)), x⟩
theorem InvB.hJ {I : gM} (h : InvB I) : 3 = 3 → JE ∧ I 22 0 = 0 := fun _ => ⟨je, h.2.1.1⟩
theorem zS_skew {I : gM} {v1 : Int32} {r : Int32 × gM} (e : fX8_skew v1 I = some r) : r.2 62 = I 62 := by
  unfold fX8_skew at e
  obtain ⟨r1, _, e⟩ := ob e
  rcases oi e with ⟨_, e⟩ | ⟨_, e⟩
  · obtain rfl := Option.some.inj e; rfl
  · rcases oi e with ⟨_, e⟩ | ⟨_, e⟩
    · obtain rfl := Option.some.inj e; rfl
    · obtain ⟨r2, e2, e⟩ := ob e
      have j : r2 62 = I 62 := zfX0_tallyUp _ _ _ e2 62 (by omega)
      obtain ⟨r3, _, e⟩ := ob e
      rcases oi e with ⟨_, e⟩ | ⟨_, e⟩
      · obtain rfl := Option.some.inj e; exact j
      · rcases oi e with ⟨_, e⟩ | ⟨_, e⟩
        · obtain ⟨_, _, e⟩ := ob e
          obtain ⟨_, _, e⟩ := ob e
          obtain ⟨_, _, e⟩ := ob e
          obtain rfl := Option.some.inj e; exact j
        · obtain rfl := Option.some.inj e; exact j
theorem rx_image {a : gM} {b : Int32 × gM} (h : RX a) (e : fX9_image a = some b) : RX b.2 := by
  have e' := e
  unfold fX9_image at e'
  obtain ⟨r1, e1, e'⟩ := ob e'
  rcases oi e' with ⟨_, e'⟩ | ⟨c, e'⟩
  · obtain rfl := Option.some.inj e'; exact h
  · intro _
    have k := xfX9_image _ e 62 17 (by omega) (by omega) (by omega) (by omega) (by omega) (by omega) (by omega) (by omega) (by omega) (by omega) (by omega) (by omega)
    rw [k]
    intro z
    unfold fX9_areTables at e1
    rw [z, if_pos (by decide)] at e1
    exact c (Option.some.inj e1).symm
theorem rx_text {a : gM} {v : Int32} {b : Int32 × gM} (h : RX a) (e : fX9_text v a = some b) : RX b.2 := by
  have k22 : ∀ {w M}, RX M → bX9_text_22 w M = some b → RX b.2 := fun {w M} h e => by
    unfold bX9_text_22 at e
    rcases oi e with ⟨_, e⟩ | ⟨_, e⟩
    · rcases oi e with ⟨_, e⟩ | ⟨_, e⟩
      · obtain rfl := Option.some.inj e; exact h
      · obtain ⟨r4, e4, e⟩ := ob e
        have h4 : RX r4.2 := h.keep (xfX9_readScript _ _ e4 62 17 (by omega) (by omega) (by omega) (by omega)) (xfX9_readScript _ _ e4 62 42 (by omega) (by omega) (by omega) (by omega))
        rcases oi e with ⟨_, e⟩ | ⟨_, e⟩
        · obtain ⟨I5, e5, e⟩ := ob e
          obtain ⟨I6, e6, e⟩ := ob e
          obtain rfl := Option.some.inj e
          rw [pU_n] at e5 e6
          obtain rfl := Option.some.inj e5
          obtain rfl := Option.some.inj e6
          have k : ∀ j, j ≠ 2 → j ≠ 12 → g_up (g_up r4.2 62 2 0) 62 12 (g_up r4.2 62 2 0 62 12 + 1) 62 j = r4.2 62 j := fun j h1 h2 => by rw [g_up_ne (Or.inr h2), g_up_ne (Or.inr h1)]
          exact h4.keep (k 17 (by decide) (by decide)) (k 42 (by decide) (by decide))
        · obtain rfl := Option.some.inj e; exact h4
    · obtain rfl := Option.some.inj e; exact h
  unfold fX9_text at e
  rcases oi e with ⟨_, e⟩ | ⟨_, e⟩
  · obtain ⟨r1, e1, e⟩ := ob e
    have h1 : RX r1.2 := h.keep (xfX9_readAll _ e1 62 17 (by omega) (by omega) (by omega) (by omega) (by omega) (by omega) (by omega)) (xfX9_readAll _ e1 62 42 (by omega) (by omega) (by omega) (by omega) (by omega) (by omega) (by omega))
    rcases oi e with ⟨_, e⟩ | ⟨_, e⟩
    · obtain ⟨I2, e2, e⟩ := ob e
      obtain ⟨r3, e3, e⟩ := ob e
      obtain rfl := Option.some.inj e
      unfold fX9_takeTables at e3
      obtain ⟨_, _, e3⟩ := ob e3
      obtain ⟨_, _, e3⟩ := ob e3
      obtain ⟨_, _, e3⟩ := ob e3
      obtain ⟨_, _, e3⟩ := ob e3
      obtain ⟨I21, _, e3⟩ := ob e3
      obtain ⟨I22, e22, e3⟩ := ob e3
      obtain rfl := Option.some.inj e3
      rw [pU_n] at e22
      obtain rfl := Option.some.inj e22
      exact fun z => absurd (show g_up I21 62 42 0 62 42 = 0 from g_up_self) z
    · exact k22 h1 e
  · exact k22 h e
theorem jb_put {I : gM} (h : InvB I) (v1 v2 v3 v4 : Int32) : ∃ a b, fX8_put v1 v2 v3 v4 I = some a ∧ fX9_put v1 v2 v3 v4 a.2 = some b ∧ InvB b.2 ∧ a.1 = b.1 := by
  obtain ⟨a, b, e1, e2, hI, he⟩ := all_put h.1 (by omega) h.hJ v1 v2 v3 v4
  exact ⟨a, b, e1, e2, InvB.mk' hI (jX_put h.2.1 e1) (fun q hq => zfX9_put _ _ _ _ _ e2 q (by omega) (by omega) (by omega) (by omega) (by omega) (by omega) (by omega) (by omega) (by omega) (by omega) (by omega)) (h.2.2.keep ((xfX9_put _ _ _ _ _ e2 62 17 (by omega) (by omega) (by omega) (by omega) (by omega) (by omega) (by omega) (by omega) (by omega) (by omega) (by omega) (by omega) (by omega) (by omega)).trans (congrFun (zfX8_put _ _ _ _ _ e1 62 (by omega) (by omega) (by omega) (by omega) (by omega) (by omega) (by omega) (by omega) (by omega) (by omega) (by omega) (by omega) (by omega) (by omega) (by omega) (by omega) (by omega) (by omega) (by omega) (by omega)) 17)) ((xfX9_put _ _ _ _ _ e2 62 42 (by omega) (by omega) (by omega) (by omega) (by omega) (by omega) (by omega) (by omega) (by omega) (by omega) (by omega) (by omega) (by omega) (by omega)).trans (congrFun (zfX8_put _ _ _ _ _ e1 62 (by omega) (by omega) (by omega) (by omega) (by omega) (by omega) (by omega) (by omega) (by omega) (by omega) (by omega) (by omega) (by omega) (by omega) (by omega) (by omega) (by omega) (by omega) (by omega) (by omega)) 42))), he⟩
theorem jb_take {I : gM} (h : InvB I) (v1 v2 v3 v4 : Int32) : ∃ a b, fX8_take v1 v2 v3 v4 I = some a ∧ fX9_take v1 v2 v3 v4 a.2 = some b ∧ InvB b.2 ∧ a.1 = b.1 := by
  obtain ⟨a, b, e1, e2, hI, he⟩ := all_take h.1 (by omega) h.hJ v1 v2 v3 v4
  exact ⟨a, b, e1, e2, InvB.mk' hI (jX_take h.2.1 e1) (fun q hq => zfX9_take _ _ _ _ _ e2 q (by omega) (by omega) (by omega) (by omega) (by omega) (by omega) (by omega) (by omega) (by omega) (by omega) (by omega)) (h.2.2.keep ((xfX9_take _ _ _ _ _ e2 62 17 (by omega) (by omega) (by omega) (by omega) (by omega) (by omega) (by omega) (by omega) (by omega) (by omega) (by omega) (by omega) (by omega) (by omega)).trans (congrFun (zfX8_take _ _ _ _ _ e1 62 (by omega) (by omega) (by omega) (by omega) (by omega) (by omega) (by omega) (by omega) (by omega) (by omega) (by omega) (by omega) (by omega) (by omega) (by omega) (by omega) (by omega) (by omega) (by omega) (by omega)) 17)) ((xfX9_take _ _ _ _ _ e2 62 42 (by omega) (by omega) (by omega) (by omega) (by omega) (by omega) (by omega) (by omega) (by omega) (by omega) (by omega) (by omega) (by omega) (by omega)).trans (congrFun (zfX8_take _ _ _ _ _ e1 62 (by omega) (by omega) (by omega) (by omega) (by omega) (by omega) (by omega) (by omega) (by omega) (by omega) (by omega) (by omega) (by omega) (by omega) (by omega) (by omega) (by omega) (by omega) (by omega) (by omega)) 42))), he⟩
theorem jb_use {I : gM} (h : InvB I) (v1 : Int32) : ∃ a b, fX8_use v1 I = some a ∧ fX9_use v1 a.2 = some b ∧ InvB b.2 ∧ a.1 = b.1 := by
  obtain ⟨a, b, e1, e2, hI, he⟩ := all_use h.1 (by omega) h.hJ v1
  exact ⟨a, b, e1, e2, InvB.mk' hI (jX_use h.2.1 e1) (fun q hq => zfX9_use _ _ e2 q (by omega) (by omega) (by omega) (by omega) (by omega) (by omega) (by omega) (by omega) (by omega) (by omega) (by omega)) (h.2.2.keep ((xfX9_use _ _ e2 62 17 (by omega) (by omega) (by omega) (by omega) (by omega) (by omega) (by omega) (by omega) (by omega) (by omega) (by omega) (by omega) (by omega) (by omega)).trans (congrFun (zfX8_use _ _ e1 62 (by omega) (by omega) (by omega) (by omega) (by omega) (by omega) (by omega) (by omega) (by omega) (by omega) (by omega) (by omega) (by omega) (by omega) (by omega) (by omega) (by omega) (by omega) (by omega) (by omega)) 17)) ((xfX9_use _ _ e2 62 42 (by omega) (by omega) (by omega) (by omega) (by omega) (by omega) (by omega) (by omega) (by omega) (by omega) (by omega) (by omega) (by omega) (by omega)).trans (congrFun (zfX8_use _ _ e1 62 (by omega) (by omega) (by omega) (by omega) (by omega) (by omega) (by omega) (by omega) (by omega) (by omega) (by omega) (by omega) (by omega) (by omega) (by omega) (by omega) (by omega) (by omega) (by omega) (by omega)) 42))), he⟩
theorem jb_order {I : gM} (h : InvB I) (v1 : Int32) : ∃ a b, fX8_order v1 I = some a ∧ fX9_order v1 a.2 = some b ∧ InvB b.2 ∧ a.1 = b.1 := by
  obtain ⟨a, b, e1, e2, hI, he⟩ := all_order h.1 (by omega) h.hJ v1
  exact ⟨a, b, e1, e2, InvB.mk' hI (jX_order h.2.1 e1) (fun q hq => zfX9_order _ _ e2 q (by omega) (by omega) (by omega) (by omega) (by omega) (by omega) (by omega) (by omega) (by omega) (by omega) (by omega)) (h.2.2.keep ((xfX9_order _ _ e2 62 17 (by omega) (by omega) (by omega) (by omega) (by omega) (by omega) (by omega) (by omega) (by omega) (by omega) (by omega) (by omega) (by omega) (by omega)).trans (congrFun (zfX8_order _ _ e1 62 (by omega) (by omega) (by omega) (by omega) (by omega) (by omega) (by omega) (by omega) (by omega) (by omega) (by omega) (by omega) (by omega) (by omega) (by omega) (by omega) (by omega) (by omega) (by omega) (by omega)) 17)) ((xfX9_order _ _ e2 62 42 (by omega) (by omega) (by omega) (by omega) (by omega) (by omega) (by omega) (by omega) (by omega) (by omega) (by omega) (by omega) (by omega) (by omega)).trans (congrFun (zfX8_order _ _ e1 62 (by omega) (by omega) (by omega) (by omega) (by omega) (by omega) (by omega) (by omega) (by omega) (by omega) (by omega) (by omega) (by omega) (by omega) (by omega) (by omega) (by omega) (by omega) (by omega) (by omega)) 42))), he⟩
theorem jb_undo {I : gM} (h : InvB I) : ∃ a b, fX8_undo I = some a ∧ fX9_undo a.2 = some b ∧ InvB b.2 ∧ a.1 = b.1 := by
  obtain ⟨a, b, e1, e2, hI, he⟩ := all_undo h.1 (by omega) 
  exact ⟨a, b, e1, e2, InvB.mk' hI (jX_undo h.2.1 e1) (fun q hq => zfX9_undo _ e2 q (by omega) (by omega)) (h.2.2.keep ((xfX9_undo _ e2 62 17 (by omega) (by omega)).trans (congrFun (zfX8_undo _ e1 62 (by omega) (by omega) (by omega) (by omega) (by omega) (by omega) (by omega) (by omega) (by omega) (by omega) (by omega) (by omega) (by omega) (by omega) (by omega) (by omega) (by omega)) 17)) ((xfX9_undo _ e2 62 42 (by omega) (by omega)).trans (congrFun (zfX8_undo _ e1 62 (by omega) (by omega) (by omega) (by omega) (by omega) (by omega) (by omega) (by omega) (by omega) (by omega) (by omega) (by omega) (by omega) (by omega) (by omega) (by omega) (by omega)) 42))), he⟩
theorem jb_image {I : gM} (h : InvB I) : ∃ a b, fX8_image I = some a ∧ fX9_image a.2 = some b ∧ InvB b.2 := by
  obtain ⟨a, b, e1, e2, hI⟩ := all_image h.1 (by omega) 
  exact ⟨a, b, e1, e2, InvB.mk' hI (jX_image h.2.1 e1) (fun q hq => zfX9_image _ e2 q (by omega) (by omega) (by omega) (by omega) (by omega) (by omega) (by omega) (by omega) (by omega)) (rx_image (h.2.2.keep (congrFun (zfX8_image _ e1 62 (by omega) (by omega) (by omega) (by omega) (by omega) (by omega) (by omega) (by omega)) 17) (congrFun (zfX8_image _ e1 62 (by omega) (by omega) (by omega) (by omega) (by omega) (by omega) (by omega) (by omega)) 42)) e2)⟩
theorem jb_back {I : gM} (h : InvB I) : ∃ a b, fX8_back I = some a ∧ fX9_back a.2 = some b ∧ InvB b.2 := by
  obtain ⟨a, b, e1, e2, hI⟩ := all_back h.1 (by omega) 
  exact ⟨a, b, e1, e2, InvB.mk' hI (jX_back h.2.1 e1) (fun q hq => zfX9_back _ e2 q (by omega) (by omega) (by omega) (by omega) (by omega) (by omega) (by omega) (by omega) (by omega)) (h.2.2.keep ((xfX9_back _ e2 62 17 (by omega) (by omega) (by omega) (by omega) (by omega) (by omega) (by omega) (by omega) (by omega) (by omega) (by omega) (by omega)).trans (congrFun (zfX8_back _ e1 62 (by omega) (by omega) (by omega) (by omega) (by omega) (by omega) (by omega) (by omega) (by omega) (by omega) (by omega) (by omega) (by omega) (by omega) (by omega) (by omega) (by omega) (by omega) (by omega) (by omega)) 17)) ((xfX9_back _ e2 62 42 (by omega) (by omega) (by omega) (by omega) (by omega) (by omega) (by omega) (by omega) (by omega) (by omega) (by omega) (by omega)).trans (congrFun (zfX8_back _ e1 62 (by omega) (by omega) (by omega) (by omega) (by omega) (by omega) (by omega) (by omega) (by omega) (by omega) (by omega) (by omega) (by omega) (by omega) (by omega) (by omega) (by omega) (by omega) (by omega) (by omega)) 42)))⟩
theorem jb_text {I : gM} (h : InvB I) (v : Int32) : ∃ a b, fX8_text v I = some a ∧ fX9_text v a.2 = some b ∧ InvB b.2 ∧ a.1 = b.1 := by
  obtain ⟨a, b, e1, e2, hI, he⟩ := all_text h.1 (by omega) v
  exact ⟨a, b, e1, e2, InvB.mk' hI (jX_text h.2.1 e1) (fun q hq => zfX9_text _ _ e2 q (by omega) (by omega) (by omega) (by omega) (by omega) (by omega) (by omega) (by omega) (by omega) (by omega)) (rx_text (h.2.2.keep (congrFun (zfX8_text _ _ e1 62 (by omega) (by omega) (by omega) (by omega) (by omega) (by omega) (by omega) (by omega) (by omega) (by omega) (by omega) (by omega) (by omega) (by omega) (by omega) (by omega) (by omega) (by omega) (by omega) (by omega) (by omega) (by omega) (by omega) (by omega) (by omega) (by omega) (by omega) (by omega) (by omega) (by omega) (by omega) (by omega) (by omega) (by omega) (by omega) (by omega)) 17) (congrFun (zfX8_text _ _ e1 62 (by omega) (by omega) (by omega) (by omega) (by omega) (by omega) (by omega) (by omega) (by omega) (by omega) (by omega) (by omega) (by omega) (by omega) (by omega) (by omega) (by omega) (by omega) (by omega) (by omega) (by omega) (by omega) (by omega) (by omega) (by omega) (by omega) (by omega) (by omega) (by omega) (by omega) (by omega) (by omega) (by omega) (by omega) (by omega) (by omega)) 42)) e2), he⟩
theorem jb_perform {I : gM} (h : InvB I) (v : Int32) : ∃ a b, fX8_perform v I = some a ∧ fX9_perform v a.2 = some b ∧ InvB b.2 ∧ a.1 = b.1 := by
  obtain ⟨a, b, e1, e2, hI, he⟩ := all_perform h.1 (by omega) h.hJ v
  exact ⟨a, b, e1, e2, InvB.mk' hI (jX_perform h.2.1 e1) (fun q hq => zfX9_perform _ _ e2 q (by omega) (by omega) (by omega) (by omega) (by omega) (by omega) (by omega) (by omega) (by omega) (by omega)) (h.2.2.keep ((xfX9_perform _ _ e2 62 17 (by omega) (by omega) (by omega) (by omega) (by omega) (by omega) (by omega) (by omega) (by omega) (by omega) (by omega) (by omega) (by omega)).trans (congrFun (zfX8_perform _ _ e1 62 (by omega) (by omega) (by omega) (by omega) (by omega) (by omega) (by omega) (by omega) (by omega) (by omega) (by omega) (by omega) (by omega) (by omega) (by omega) (by omega) (by omega) (by omega) (by omega)) 17)) ((xfX9_perform _ _ e2 62 42 (by omega) (by omega) (by omega) (by omega) (by omega) (by omega) (by omega) (by omega) (by omega) (by omega) (by omega) (by omega) (by omega)).trans (congrFun (zfX8_perform _ _ e1 62 (by omega) (by omega) (by omega) (by omega) (by omega) (by omega) (by omega) (by omega) (by omega) (by omega) (by omega) (by omega) (by omega) (by omega) (by omega) (by omega) (by omega) (by omega) (by omega)) 42))), he⟩
theorem jb_ways {I : gM} (h : InvB I) (v1 : Int32) (v2 : Int64) (J : gN) : ∃ a b, fX8_ways v1 v2 I J = some a ∧ fX9_ways v1 v2 a.2.1 a.2.2 = some b ∧ InvB b.2.1 := by
  obtain ⟨a, b, e1, e2, hI⟩ := all_ways h.1 (by omega) h.hJ v1 v2 J
  exact ⟨a, b, e1, e2, InvB.mk' hI (jX_ways h.2.1 e1) (fun q hq => zfX9_ways _ _ _ _ e2 q (by omega) (by omega) (by omega) (by omega) (by omega) (by omega) (by omega) (by omega) (by omega) (by omega)) (h.2.2.keep ((xfX9_ways _ _ _ _ e2 62 17 (by omega) (by omega) (by omega) (by omega) (by omega) (by omega) (by omega) (by omega) (by omega) (by omega) (by omega) (by omega) (by omega)).trans (congrFun (zfX8_ways _ _ _ _ e1 62 (by omega) (by omega) (by omega) (by omega) (by omega) (by omega) (by omega) (by omega) (by omega) (by omega) (by omega) (by omega) (by omega) (by omega) (by omega) (by omega) (by omega) (by omega) (by omega)) 17)) ((xfX9_ways _ _ _ _ e2 62 42 (by omega) (by omega) (by omega) (by omega) (by omega) (by omega) (by omega) (by omega) (by omega) (by omega) (by omega) (by omega) (by omega)).trans (congrFun (zfX8_ways _ _ _ _ e1 62 (by omega) (by omega) (by omega) (by omega) (by omega) (by omega) (by omega) (by omega) (by omega) (by omega) (by omega) (by omega) (by omega) (by omega) (by omega) (by omega) (by omega) (by omega) (by omega)) 42)))⟩
theorem jb_rule {I : gM} (h : InvB I) (v : Int32) : ∃ a b, fX8_rule v I = some a ∧ fX9_rule v I = some b ∧ InvB I ∧ a = b := by
  obtain ⟨a, b, e1, e2, hI, he⟩ := all_rule h.1 v
  exact ⟨a, b, e1, e2, h, he⟩
theorem jb_plain {I : gM} (h : InvB I) : ∃ a b, fX8_plain I = some a ∧ fX9_plain I = some b ∧ InvB I ∧ a = b := by
  obtain ⟨a, b, e1, e2, hI, he⟩ := all_plain h.1 
  exact ⟨a, b, e1, e2, h, he⟩
theorem jb_status {I : gM} (h : InvB I) (v : Int32) : ∃ a b, fX8_status v I = some a ∧ fX9_status v I = some b ∧ InvB I ∧ a = b := by
  obtain ⟨a, b, e1, e2, hI, he⟩ := all_status h.1 v
  exact ⟨a, b, e1, e2, h, he⟩
theorem jb_count {I : gM} (h : InvB I) (v : Int32) : ∃ a b, fX8_count v I = some a ∧ fX9_count v I = some b ∧ InvB I ∧ a = b := by
  obtain ⟨a, b, e1, e2, hI, he⟩ := all_count h.1 v
  exact ⟨a, b, e1, e2, h, he⟩
theorem jb_cell {I : gM} (h : InvB I) (v1 v2 v3 : Int32) : ∃ a b, fX8_cell v1 v2 v3 I = some a ∧ fX9_cell v1 v2 v3 I = some b ∧ InvB I ∧ a = b := by
  obtain ⟨a, b, e1, e2, hI, he⟩ := all_cell h.1 v1 v2 v3
  exact ⟨a, b, e1, e2, h, he⟩
theorem jb_step {I : gM} (h : InvB I) (v1 v2 v3 : Int32) : ∃ a b, fX8_step v1 v2 v3 I = some a ∧ fX9_step v1 v2 v3 I = some b ∧ InvB I ∧ a = b := by
  obtain ⟨a, b, e1, e2, hI, he⟩ := all_step h.1 v1 v2 v3
  exact ⟨a, b, e1, e2, h, he⟩
theorem jb_table {I : gM} (h : InvB I) (v1 v2 : Int32) : ∃ y b, fT8 v1 v2 I = some y ∧ fX9_table v1 v2 I = some b ∧ InvB b.2 ∧ b.2 62 0 = jr y ∧ ∀ v, y = some v → b.1 = v := by
  obtain ⟨y, b, e1, e2, hI, hr⟩ := all_table h.1 (by omega) v1 v2
  exact ⟨y, b, e1, e2, InvB.mk' hI h.2.1 (fun q hq => zfX9_table _ _ _ e2 q (by omega)) (h.2.2.keep (xfX9_table _ _ _ e2 62 17 (by omega)) (xfX9_table _ _ _ e2 62 42 (by omega))), hr⟩
theorem jb_feed {I : gM} (h : InvB I) (v1 v2 v3 v4 v5 : Int32) : ∃ a b, fX8_feed v1 v2 v3 v4 v5 I = some a ∧ fX9_feed v1 v2 v3 v4 v5 a.2 = some b ∧ InvB b.2 ∧ a.1 = b.1 := by
  obtain ⟨a, b, e1, e2, hI, he⟩ := all_feed h.1 (by omega) v1 v2 v3 v4 v5
  exact ⟨a, b, e1, e2, InvB.mk' hI (jX_feed h.2.1 e1) (fun q hq => zfX9_feed _ _ _ _ _ _ e2 q (by omega) (by omega)) (h.2.2.keep ((xfX9_feed _ _ _ _ _ _ e2 62 17 (by omega) (by omega)).trans (congrFun (zfX8_feed _ _ _ _ _ _ e1 62 (by omega) (by omega)) 17)) ((xfX9_feed _ _ _ _ _ _ e2 62 42 (by omega) (by omega)).trans (congrFun (zfX8_feed _ _ _ _ _ _ e1 62 (by omega) (by omega)) 42))), he⟩
theorem jb_end {I : gM} (h : InvB I) (v : Int32) : ∃ a b, fX8_end v I = some a ∧ fX9_end v a.2 = some b ∧ InvB b.2 ∧ a.1 = b.1 := by
  obtain ⟨a, b, e1, e2, hI, he⟩ := all_end h.1 (by omega) v
  exact ⟨a, b, e1, e2, InvB.mk' hI (jX_end h.2.1 e1) (fun q hq => zfX9_end _ _ e2 q (by omega)) (h.2.2.keep ((xfX9_end _ _ e2 62 17 (by omega)).trans (congrFun (zfX8_end _ _ e1 62 (by omega)) 17)) ((xfX9_end _ _ e2 62 42 (by omega)).trans (congrFun (zfX8_end _ _ e1 62 (by omega)) 42))), he⟩
theorem jb_fault {I : gM} (h : InvB I) (v1 : Int32) : ∃ a b, fX8_fault v1 I = some a ∧ fX9_fault v1 a.2 = some b ∧ InvB b.2 := by
  obtain ⟨a, b, e1, e2, hI⟩ := all_fault h.1 (by omega) v1
  exact ⟨a, b, e1, e2, InvB.mk' hI (jX_fault h.2.1 e1) (fun q hq => zfX9_fault _ _ e2 q (by omega) (by omega) (by omega) (by omega) (by omega) (by omega) (by omega)) (h.2.2.keep ((xfX9_fault _ _ e2 62 17 (by omega) (by omega) (by omega) (by omega) (by omega) (by omega) (by omega) (by omega) (by omega)).trans (congrFun (zfX8_fault _ _ e1 62 (by omega) (by omega) (by omega) (by omega) (by omega) (by omega) (by omega) (by omega)) 17)) ((xfX9_fault _ _ e2 62 42 (by omega) (by omega) (by omega) (by omega) (by omega) (by omega) (by omega) (by omega) (by omega)).trans (congrFun (zfX8_fault _ _ e1 62 (by omega) (by omega) (by omega) (by omega) (by omega) (by omega) (by omega) (by omega)) 42)))⟩
theorem jb_rows {I : gM} (h : InvB I) : ∃ a b, fX8_rows I = some a ∧ fX9_rows I = some b ∧ InvB b.2 := by
  obtain ⟨a, b, e1, e2, hI⟩ := all_rows h.1 (by omega) 
  exact ⟨a, b, e1, e2, InvB.mk' hI (h.2.1) (fun q hq => zfX9_rows _ e2 q (by omega) (by omega) (by omega) (by omega) (by omega) (by omega) (by omega) (by omega)) (h.2.2.keep (xfX9_rows _ e2 62 17 (by omega) (by omega) (by omega) (by omega) (by omega) (by omega) (by omega) (by omega) (by omega) (by omega)) (xfX9_rows _ e2 62 42 (by omega) (by omega) (by omega) (by omega) (by omega) (by omega) (by omega) (by omega) (by omega) (by omega)))⟩
theorem jb_row {I : gM} (h : InvB I) (v1 : Int32) (v2 : Int32) : ∃ a b, fX8_row v1 v2 I = some a ∧ fX9_row v1 v2 I = some b ∧ InvB b.2 := by
  obtain ⟨a, b, e1, e2, hI⟩ := all_row h.1 (by omega) v1 v2
  exact ⟨a, b, e1, e2, InvB.mk' hI (h.2.1) (fun q hq => zfX9_row _ _ _ e2 q (by omega) (by omega) (by omega) (by omega) (by omega) (by omega) (by omega) (by omega)) (h.2.2.keep (xfX9_row _ _ _ e2 62 17 (by omega) (by omega) (by omega) (by omega) (by omega) (by omega) (by omega) (by omega) (by omega) (by omega)) (xfX9_row _ _ _ e2 62 42 (by omega) (by omega) (by omega) (by omega) (by omega) (by omega) (by omega) (by omega) (by omega) (by omega)))⟩
theorem jb_leaps {I : gM} (h : InvB I) : ∃ a b, fX8_leaps I = some a ∧ fX9_leaps_ I = some b ∧ InvB b.2 := by
  obtain ⟨a, b, e1, e2, hI⟩ := all_leaps h.1 (by omega) 
  exact ⟨a, b, e1, e2, InvB.mk' hI (h.2.1) (fun q hq => zfX9_leaps_ _ e2 q (by omega) (by omega) (by omega) (by omega) (by omega) (by omega) (by omega) (by omega)) (h.2.2.keep (xfX9_leaps_ _ e2 62 17 (by omega) (by omega) (by omega) (by omega) (by omega) (by omega) (by omega) (by omega) (by omega) (by omega)) (xfX9_leaps_ _ e2 62 42 (by omega) (by omega) (by omega) (by omega) (by omega) (by omega) (by omega) (by omega) (by omega) (by omega)))⟩
theorem jb_beginnings {I : gM} (h : InvB I) (v1 : Int32) : ∃ a b, fX8_beginnings v1 I = some a ∧ fX9_beginnings v1 I = some b ∧ InvB b.2 := by
  obtain ⟨a, b, e1, e2, hI⟩ := all_beginnings h.1 (by omega) v1
  exact ⟨a, b, e1, e2, InvB.mk' hI (h.2.1) (fun q hq => zfX9_beginnings _ _ e2 q (by omega) (by omega) (by omega) (by omega) (by omega) (by omega) (by omega) (by omega)) (h.2.2.keep (xfX9_beginnings _ _ e2 62 17 (by omega) (by omega) (by omega) (by omega) (by omega) (by omega) (by omega) (by omega) (by omega) (by omega)) (xfX9_beginnings _ _ e2 62 42 (by omega) (by omega) (by omega) (by omega) (by omega) (by omega) (by omega) (by omega) (by omega) (by omega)))⟩
theorem jb_best {I : gM} (h : InvB I) (v1 : Int32) : ∃ a b, fX8_best v1 I = some a ∧ fX9_best v1 a.2 = some b ∧ InvB b.2 := by
  obtain ⟨a, b, e1, e2, hI⟩ := all_best h.1 (by omega) v1
  exact ⟨a, b, e1, e2, InvB.mk' hI (jX_best h.2.1 e1) (fun q hq => zfX9_best _ _ e2 q (by omega) (by omega) (by omega) (by omega) (by omega) (by omega) (by omega) (by omega)) (h.2.2.keep ((xfX9_best _ _ e2 62 17 (by omega) (by omega) (by omega) (by omega) (by omega) (by omega) (by omega) (by omega) (by omega) (by omega) (by omega) (by omega) (by omega)).trans (congrFun (zfX8_best _ _ e1 62 (by omega) (by omega) (by omega) (by omega) (by omega) (by omega) (by omega) (by omega) (by omega) (by omega) (by omega) (by omega)) 17)) ((xfX9_best _ _ e2 62 42 (by omega) (by omega) (by omega) (by omega) (by omega) (by omega) (by omega) (by omega) (by omega) (by omega) (by omega) (by omega) (by omega)).trans (congrFun (zfX8_best _ _ e1 62 (by omega) (by omega) (by omega) (by omega) (by omega) (by omega) (by omega) (by omega) (by omega) (by omega) (by omega) (by omega)) 42)))⟩
theorem jb_given {I : gM} (h : InvB I) (v1 : Int32) : ∃ a b, fX8_given v1 I = some a ∧ fX9_given v1 I = some b ∧ InvB b.2 := by
  obtain ⟨a, b, e1, e2, hI⟩ := all_given h.1 (by omega) v1
  exact ⟨a, b, e1, e2, InvB.mk' hI (h.2.1) (fun q hq => zfX9_given _ _ e2 q (by omega) (by omega) (by omega) (by omega) (by omega) (by omega) (by omega) (by omega)) (h.2.2.keep (xfX9_given _ _ e2 62 17 (by omega) (by omega) (by omega) (by omega) (by omega) (by omega) (by omega) (by omega) (by omega) (by omega)) (xfX9_given _ _ e2 62 42 (by omega) (by omega) (by omega) (by omega) (by omega) (by omega) (by omega) (by omega) (by omega) (by omega)))⟩
theorem jb_without {I : gM} (h : InvB I) (v1 : Int32) : ∃ a b, fX8_without v1 I = some a ∧ fX9_without v1 a.2 = some b ∧ InvB b.2 := by
  obtain ⟨a, b, e1, e2, hI⟩ := all_without h.1 (by omega) v1
  exact ⟨a, b, e1, e2, InvB.mk' hI (jX_without h.2.1 e1) (fun q hq => zfX9_without _ _ e2 q (by omega) (by omega) (by omega) (by omega) (by omega) (by omega) (by omega) (by omega) (by omega)) (h.2.2.keep ((xfX9_without _ _ e2 62 17 (by omega) (by omega) (by omega) (by omega) (by omega) (by omega) (by omega) (by omega) (by omega) (by omega) (by omega)).trans (congrFun (zfX8_without _ _ e1 62 (by omega) (by omega) (by omega) (by omega) (by omega) (by omega) (by omega) (by omega) (by omega) (by omega) (by omega) (by omega) (by omega) (by omega) (by omega) (by omega)) 17)) ((xfX9_without _ _ e2 62 42 (by omega) (by omega) (by omega) (by omega) (by omega) (by omega) (by omega) (by omega) (by omega) (by omega) (by omega)).trans (congrFun (zfX8_without _ _ e1 62 (by omega) (by omega) (by omega) (by omega) (by omega) (by omega) (by omega) (by omega) (by omega) (by omega) (by omega) (by omega) (by omega) (by omega) (by omega) (by omega)) 42)))⟩
theorem jb_projected {I : gM} (h : InvB I) (v1 : Int32) : ∃ a b, fX8_projected v1 I = some a ∧ fX9_projected v1 a.2 = some b ∧ InvB b.2 := by
  obtain ⟨a, b, e1, e2, hI⟩ := all_projected h.1 (by omega) v1
  exact ⟨a, b, e1, e2, InvB.mk' hI (jX_projected h.2.1 e1) (fun q hq => zfX9_projected _ _ e2 q (by omega) (by omega) (by omega) (by omega) (by omega) (by omega) (by omega) (by omega) (by omega) (by omega) (by omega) (by omega)) (h.2.2.keep ((xfX9_projected _ _ e2 62 17 (by omega) (by omega) (by omega) (by omega) (by omega) (by omega) (by omega) (by omega) (by omega) (by omega) (by omega) (by omega) (by omega) (by omega)).trans (congrFun (zfX8_projected _ _ e1 62 (by omega) (by omega) (by omega) (by omega) (by omega) (by omega) (by omega) (by omega) (by omega) (by omega) (by omega)) 17)) ((xfX9_projected _ _ e2 62 42 (by omega) (by omega) (by omega) (by omega) (by omega) (by omega) (by omega) (by omega) (by omega) (by omega) (by omega) (by omega) (by omega) (by omega)).trans (congrFun (zfX8_projected _ _ e1 62 (by omega) (by omega) (by omega) (by omega) (by omega) (by omega) (by omega) (by omega) (by omega) (by omega) (by omega)) 42)))⟩
theorem jb_times {I : gM} (h : InvB I) (v1 : Int32) (v2 : Int32) : ∃ a b, fX8_times v1 v2 I = some a ∧ fX9_times v1 v2 a.2 = some b ∧ InvB b.2 := by
  obtain ⟨a, b, e1, e2, hI⟩ := all_times h.1 (by omega) v1 v2
  exact ⟨a, b, e1, e2, InvB.mk' hI (jX_times h.2.1 e1) (fun q hq => zfX9_times _ _ _ e2 q (by omega) (by omega) (by omega) (by omega) (by omega) (by omega) (by omega) (by omega) (by omega) (by omega) (by omega)) (h.2.2.keep ((xfX9_times _ _ _ e2 62 17 (by omega) (by omega) (by omega) (by omega) (by omega) (by omega) (by omega) (by omega) (by omega) (by omega) (by omega) (by omega) (by omega)).trans (congrFun (zfX8_times _ _ _ e1 62 (by omega)) 17)) ((xfX9_times _ _ _ e2 62 42 (by omega) (by omega) (by omega) (by omega) (by omega) (by omega) (by omega) (by omega) (by omega) (by omega) (by omega) (by omega) (by omega)).trans (congrFun (zfX8_times _ _ _ e1 62 (by omega)) 42)))⟩
theorem jb_distinct {I : gM} (h : InvB I) (v1 : Int32) (v2 : Int32) : ∃ a b, fX8_distinct v1 v2 I = some a ∧ fX9_distinct v1 v2 a.2 = some b ∧ InvB b.2 := by
  obtain ⟨a, b, e1, e2, hI⟩ := all_distinct h.1 (by omega) v1 v2
  exact ⟨a, b, e1, e2, InvB.mk' hI (jX_distinct h.2.1 e1) (fun q hq => zfX9_distinct _ _ _ e2 q (by omega) (by omega) (by omega) (by omega) (by omega) (by omega) (by omega) (by omega) (by omega) (by omega) (by omega)) (h.2.2.keep ((xfX9_distinct _ _ _ e2 62 17 (by omega) (by omega) (by omega) (by omega) (by omega) (by omega) (by omega) (by omega) (by omega) (by omega) (by omega) (by omega) (by omega)).trans (congrFun (zfX8_distinct _ _ _ e1 62 (by omega)) 17)) ((xfX9_distinct _ _ _ e2 62 42 (by omega) (by omega) (by omega) (by omega) (by omega) (by omega) (by omega) (by omega) (by omega) (by omega) (by omega) (by omega) (by omega)).trans (congrFun (zfX8_distinct _ _ _ e1 62 (by omega)) 42)))⟩
theorem jb_tells {I : gM} (h : InvB I) (v1 : Int32) (v2 : Int32) : ∃ a b, fX8_tells v1 v2 I = some a ∧ fX9_tells v1 v2 a.2 = some b ∧ InvB b.2 := by
  obtain ⟨a, b, e1, e2, hI⟩ := all_tells h.1 (by omega) v1 v2
  exact ⟨a, b, e1, e2, InvB.mk' hI (jX_tells h.2.1 e1) (fun q hq => zfX9_tells _ _ _ e2 q (by omega) (by omega) (by omega) (by omega) (by omega) (by omega) (by omega) (by omega) (by omega)) (h.2.2.keep ((xfX9_tells _ _ _ e2 62 17 (by omega) (by omega) (by omega) (by omega) (by omega) (by omega) (by omega) (by omega) (by omega) (by omega) (by omega)).trans (congrFun (zfX8_tells _ _ _ e1 62 (by omega)) 17)) ((xfX9_tells _ _ _ e2 62 42 (by omega) (by omega) (by omega) (by omega) (by omega) (by omega) (by omega) (by omega) (by omega) (by omega) (by omega)).trans (congrFun (zfX8_tells _ _ _ e1 62 (by omega)) 42)))⟩
theorem jb_behind {I : gM} (h : InvB I) (v1 : Int32) (v2 : Int32) (v3 : Int32) (v4 : Int32) : ∃ a b, fX8_behind v1 v2 v3 v4 I = some a ∧ fX9_behind v1 v2 v3 v4 I = some b ∧ InvB b.2 := by
  obtain ⟨a, b, e1, e2, hI⟩ := all_behind h.1 (by omega) v1 v2 v3 v4
  exact ⟨a, b, e1, e2, InvB.mk' hI (h.2.1) (fun q hq => zfX9_behind _ _ _ _ _ e2 q (by omega) (by omega) (by omega) (by omega) (by omega) (by omega) (by omega) (by omega) (by omega)) (h.2.2.keep (xfX9_behind _ _ _ _ _ e2 62 17 (by omega) (by omega) (by omega) (by omega) (by omega) (by omega) (by omega) (by omega) (by omega) (by omega) (by omega)) (xfX9_behind _ _ _ _ _ e2 62 42 (by omega) (by omega) (by omega) (by omega) (by omega) (by omega) (by omega) (by omega) (by omega) (by omega) (by omega)))⟩
theorem jb_has {I : gM} (h : InvB I) (v1 : Int32) (v2 : Int32) (v3 : Int32) (v4 : Int32) : ∃ a b, fX8_has v1 v2 v3 v4 I = some a ∧ fX9_has_ v1 v2 v3 v4 I = some b ∧ InvB b.2 := by
  obtain ⟨a, b, e1, e2, hI⟩ := all_has h.1 (by omega) v1 v2 v3 v4
  exact ⟨a, b, e1, e2, InvB.mk' hI (h.2.1) (fun q hq => zfX9_has_ _ _ _ _ _ e2 q (by omega) (by omega) (by omega) (by omega) (by omega) (by omega) (by omega) (by omega) (by omega)) (h.2.2.keep (xfX9_has_ _ _ _ _ _ e2 62 17 (by omega) (by omega) (by omega) (by omega) (by omega) (by omega) (by omega) (by omega) (by omega) (by omega) (by omega)) (xfX9_has_ _ _ _ _ _ e2 62 42 (by omega) (by omega) (by omega) (by omega) (by omega) (by omega) (by omega) (by omega) (by omega) (by omega) (by omega)))⟩
theorem jb_mean {I : gM} (h : InvB I) (v1 : Int32) : ∃ a b, fX8_mean v1 I = some a ∧ fX9_mean v1 I = some b ∧ InvB b.2 := by
  obtain ⟨a, b, e1, e2, hI⟩ := all_mean h.1 (by omega) v1
  exact ⟨a, b, e1, e2, InvB.mk' hI (h.2.1) (fun q hq => funext fun j => xfX9_mean v1 I e2 q j (by omega) (by omega) (by omega) (by omega) (by omega) (by omega) (by omega) (by omega) (by omega) (by omega)) (h.2.2.keep (xfX9_mean _ _ e2 62 17 (by omega) (by omega) (by omega) (by omega) (by omega) (by omega) (by omega) (by omega) (by omega) (by omega)) (xfX9_mean _ _ e2 62 42 (by omega) (by omega) (by omega) (by omega) (by omega) (by omega) (by omega) (by omega) (by omega) (by omega)))⟩
theorem jb_meanAs {I : gM} (h : InvB I) (v1 : Int32) (v2 : Int32) : ∃ a b, fX8_meanAs v1 v2 I = some a ∧ fX9_meanAs v1 v2 I = some b ∧ InvB b.2 := by
  obtain ⟨a, b, e1, e2, hI⟩ := all_meanAs h.1 (by omega) v1 v2
  exact ⟨a, b, e1, e2, InvB.mk' hI (h.2.1) (fun q hq => funext fun j => xfX9_meanAs v1 v2 I e2 q j (by omega) (by omega) (by omega) (by omega) (by omega) (by omega) (by omega) (by omega) (by omega) (by omega)) (h.2.2.keep (xfX9_meanAs _ _ _ e2 62 17 (by omega) (by omega) (by omega) (by omega) (by omega) (by omega) (by omega) (by omega) (by omega) (by omega)) (xfX9_meanAs _ _ _ e2 62 42 (by omega) (by omega) (by omega) (by omega) (by omega) (by omega) (by omega) (by omega) (by omega) (by omega)))⟩
theorem jb_spread {I : gM} (h : InvB I) (v1 : Int32) : ∃ a b, fX8_spread v1 I = some a ∧ fX9_spread v1 I = some b ∧ InvB b.2 := by
  obtain ⟨a, b, e1, e2, hI⟩ := all_spread h.1 (by omega) v1
  exact ⟨a, b, e1, e2, InvB.mk' hI (h.2.1) (fun q hq => funext fun j => xfX9_spread v1 I e2 q j (by omega) (by omega) (by omega) (by omega) (by omega) (by omega) (by omega) (by omega) (by omega) (by omega)) (h.2.2.keep (xfX9_spread _ _ e2 62 17 (by omega) (by omega) (by omega) (by omega) (by omega) (by omega) (by omega) (by omega) (by omega) (by omega)) (xfX9_spread _ _ e2 62 42 (by omega) (by omega) (by omega) (by omega) (by omega) (by omega) (by omega) (by omega) (by omega) (by omega)))⟩
theorem jb_skew {I : gM} (h : InvB I) (v1 : Int32) : ∃ a b, fX8_skew v1 I = some a ∧ fX9_skew v1 a.2 = some b ∧ InvB b.2 := by
  obtain ⟨a, b, e1, e2, hI⟩ := all_skew h.1 (by omega) v1
  exact ⟨a, b, e1, e2, InvB.mk' hI (jX_skew h.2.1 e1) (fun q hq => funext fun j => xfX9_skew v1 _ e2 q j (by omega) (by omega) (by omega) (by omega) (by omega) (by omega) (by omega) (by omega) (by omega) (by omega) (by omega) (by omega) (by omega)) (h.2.2.keep ((xfX9_skew _ _ e2 62 17 (by omega) (by omega) (by omega) (by omega) (by omega) (by omega) (by omega) (by omega) (by omega) (by omega) (by omega) (by omega) (by omega)).trans (congrFun (zS_skew e1) 17)) ((xfX9_skew _ _ e2 62 42 (by omega) (by omega) (by omega) (by omega) (by omega) (by omega) (by omega) (by omega) (by omega) (by omega) (by omega) (by omega) (by omega)).trans (congrFun (zS_skew e1) 42)))⟩
theorem jb_log {I : gM} (h : InvB I) (v1 : Int32) (v2 : Int32) : ∃ a b, fX8_log v1 v2 I = some a ∧ fX9_log v1 v2 I = some b ∧ InvB I := by
  obtain ⟨a, b, e1, e2, hI⟩ := all_log h.1 (by omega) v1 v2
  exact ⟨a, b, e1, e2, h⟩
theorem jb_would {I : gM} (h : InvB I) (v1 : Int32) (v2 : Int32) (v3 : Int32) (v4 : Int32) (v5 : Int32) : ∃ a b, fX8_would v1 v2 v3 v4 v5 I = some a ∧ fX9_would v1 v2 v3 v4 v5 a.2 = some b ∧ InvB b.2 := by
  obtain ⟨a, b, e1, e2, hI⟩ := all_would h.1 (by omega) v1 v2 v3 v4 v5
  exact ⟨a, b, e1, e2, InvB.mk' hI (jX_would h.2.1 e1) (fun q hq => zfX9_would _ _ _ _ _ _ e2 q (by omega) (by omega) (by omega) (by omega) (by omega) (by omega) (by omega) (by omega) (by omega) (by omega)) (h.2.2.keep ((xfX9_would _ _ _ _ _ _ e2 62 17 (by omega) (by omega) (by omega) (by omega) (by omega) (by omega) (by omega) (by omega) (by omega) (by omega) (by omega) (by omega)).trans (congrFun (zfX8_would _ _ _ _ _ _ e1 62 (by omega) (by omega) (by omega) (by omega) (by omega) (by omega) (by omega) (by omega) (by omega) (by omega) (by omega) (by omega) (by omega) (by omega) (by omega) (by omega)) 17)) ((xfX9_would _ _ _ _ _ _ e2 62 42 (by omega) (by omega) (by omega) (by omega) (by omega) (by omega) (by omega) (by omega) (by omega) (by omega) (by omega) (by omega)).trans (congrFun (zfX8_would _ _ _ _ _ _ e1 62 (by omega) (by omega) (by omega) (by omega) (by omega) (by omega) (by omega) (by omega) (by omega) (by omega) (by omega) (by omega) (by omega) (by omega) (by omega) (by omega)) 42)))⟩
theorem jb_run {I : gM} (h : InvB I) (v1 : Int32) (v2 : Int32) : ∃ a b, fX8_run v1 v2 I = some a ∧ fX9_run v1 v2 a.2 = some b ∧ InvB b.2 := by
  obtain ⟨a, b, e1, e2, hI⟩ := all_run h.1 (by omega) v1 v2
  exact ⟨a, b, e1, e2, InvB.mk' hI (jX_run h.2.1 e1) (fun q hq => zfX9_run _ _ _ e2 q (by omega) (by omega) (by omega) (by omega) (by omega) (by omega) (by omega) (by omega) (by omega) (by omega) (by omega)) (h.2.2.keep ((xfX9_run _ _ _ e2 62 17 (by omega) (by omega) (by omega) (by omega) (by omega) (by omega) (by omega) (by omega) (by omega) (by omega) (by omega) (by omega) (by omega) (by omega)).trans (congrFun (zfX8_run _ _ _ e1 62 (by omega) (by omega) (by omega) (by omega) (by omega) (by omega) (by omega) (by omega) (by omega) (by omega) (by omega) (by omega) (by omega) (by omega) (by omega) (by omega)) 17)) ((xfX9_run _ _ _ e2 62 42 (by omega) (by omega) (by omega) (by omega) (by omega) (by omega) (by omega) (by omega) (by omega) (by omega) (by omega) (by omega) (by omega) (by omega)).trans (congrFun (zfX8_run _ _ _ e1 62 (by omega) (by omega) (by omega) (by omega) (by omega) (by omega) (by omega) (by omega) (by omega) (by omega) (by omega) (by omega) (by omega) (by omega) (by omega) (by omega)) 42)))⟩
theorem jb_most {I : gM} (h : InvB I) (v1 : Int32) : ∃ a b, fX8_most v1 I = some a ∧ fX9_most v1 a.2 = some b ∧ InvB b.2 := by
  obtain ⟨a, b, e1, e2, hI⟩ := all_most h.1 (by omega) v1
  exact ⟨a, b, e1, e2, InvB.mk' hI (jX_most h.2.1 e1) (fun q hq => zfX9_most _ _ e2 q (by omega) (by omega) (by omega) (by omega) (by omega) (by omega) (by omega) (by omega) (by omega)) (h.2.2.keep ((xfX9_most _ _ e2 62 17 (by omega) (by omega) (by omega) (by omega) (by omega) (by omega) (by omega) (by omega) (by omega) (by omega) (by omega) (by omega) (by omega) (by omega)).trans (congrFun (zfX8_most _ _ e1 62 (by omega) (by omega) (by omega) (by omega) (by omega) (by omega) (by omega) (by omega) (by omega) (by omega) (by omega) (by omega) (by omega)) 17)) ((xfX9_most _ _ e2 62 42 (by omega) (by omega) (by omega) (by omega) (by omega) (by omega) (by omega) (by omega) (by omega) (by omega) (by omega) (by omega) (by omega) (by omega)).trans (congrFun (zfX8_most _ _ e1 62 (by omega) (by omega) (by omega) (by omega) (by omega) (by omega) (by omega) (by omega) (by omega) (by omega) (by omega) (by omega) (by omega)) 42)))⟩
end P_35r_43a_joined
section P_35r_43b_asks
/-! what is asked of the join: both hold the same one -/
theorem InvB.tab {I : gM} (h : InvB I) : ∃ A, WF A ∧ CT I 3 A ∧ RT I (I 70) A := by
  obtain ⟨_, _, _, _, S, m, nx, hR⟩ := h.1
  exact ⟨S m, hR.2.1 m (Nat.le_refl _), hR.2.2.1.1, hR.2.2.1.2.1⟩
theorem InvB.mi {I : gM} (h : InvB I) : MI false I I := h.1.1.re
theorem it_two {σ τ ρ ρ' : Type} {f : σ → Option (σ ⊕ ρ)} {g : τ → Option (τ ⊕ ρ')} (R : σ → τ → Prop) (Q : ρ → ρ' → Prop) (h : ∀ s t, R s t → ∀ y, f s = some y → ∃ z, g t = some z ∧ ((∃ s' t', y = .inl s' ∧ z = .inl t' ∧ R s' t') ∨ ∃ r r', y = .inr r ∧ z = .inr r' ∧ Q r r')) {s : σ} {t : τ} (h0 : R s t) {r : ρ} (e : itO f s = some r) : ∃ r', itO g t = some r' ∧ Q r r' := by
  have key : ∀ s, itO f s = some r → ∀ t, R s t → ∃ r', itO g t = some r' ∧ Q r r' := by
    refine itO_ind (P := fun s => ∀ t, R s t → ∃ r', itO g t = some r' ∧ Q r r') (fun s y e hl hr t ht => ?_)
    obtain ⟨z, ez, q⟩ := h s t ht y e
    rcases q with ⟨s', t', rfl, rfl, q⟩ | ⟨r1, r', rfl, rfl, q⟩
    · rw [it_l ez]; exact hl s' rfl t' q
    · have := hr r1 rfl
      subst this
      exact ⟨r', it_r ez, q⟩
  exact key s e t h0
theorem nn_of {v : Int32} (h : ¬ v < 0) : 0 ≤ v.toInt := by
  rw [Int32.lt_iff_toInt_lt] at h
  rw [show (0 : Int32).toInt = 0 by decide] at h
  omega
theorem fl4_at : ∀ o, o < 24 → ∀ am, am < 16 → ∀ l, l < 4 → am.testBit l = true → ∃ e, e < 4 ∧ (e < (fl4 o am).length ∧ (fl4 o am).getD e 0 = l) := by decide +kernel
theorem CT.n0 {I : gM} {k : Nat} {A : aT} (hW : WF A) (hC : CT I k A) : I k 0 = 0 ↔ A.1.length = 0 := by
  rw [hC.1]
  have := hW.1
  exact ⟨fun q => nI_inj (b := 0) q (by omega) (by omega), fun q => by rw [q]; rfl⟩
theorem c_isAsked {I : gM} {A : aT} (hW : WF A) (hC : CT I 3 A) (v : Int32) : (∃ l, l < 4 ∧ v = nI l ∧ (asA A).testBit l = true ∧ fX8_isAsked v I = some 1) ∨ ((∀ l, l < 4 → v = nI l → ¬ (asA A).testBit l = true) ∧ fX8_isAsked v I = some 0) := by
  unfold fX8_isAsked
  by_cases c0 : v < 0
  · rw [if_pos c0]
    refine Or.inr ⟨fun l hl e => ?_, rfl⟩
    subst e
    exact absurd ((nI_ltI (b := 0) (by omega) (by omega)).mp c0) (by omega)
  · rw [if_neg c0]
    have p := nn_of c0
    obtain ⟨l, rfl, hl31⟩ : ∃ l, v = nI l ∧ l < 2 ^ 31 := ⟨_, nI_self p, by have := v.toInt_lt; omega⟩
    rw [show (4 : Int32) = nI 4 from rfl]
    by_cases c4 : nI 4 ≤ nI l
    · rw [if_pos c4]
      have := (nI_leI (by omega) (by omega)).mp c4
      exact Or.inr ⟨fun l' hl e => absurd (nI_inj e (by omega) (by omega)) (by omega), rfl⟩
    · have := mt (nI_leI (by omega) (by omega)).mpr c4
      rw [if_neg c4, c_asked hW hC, obs]
      have q := hs0_bit _ (asA_lt hW) l (by omega)
      by_cases b : (asA A).testBit l = true
      · rw [if_neg (fun z => q.mp z b)]
        exact Or.inl ⟨l, by omega, rfl, b, rfl⟩
      · rw [if_pos (q.mpr b)]
        exact Or.inr ⟨fun l' hl e => by rw [← nI_inj e (by omega) (by omega)]; exact b, rfl⟩
theorem n_isAskedK {R0 R : gM} {A : aT} (hM : MI false R0 R) (hW : WF A) (hR : RT R (R 70) A) (v : Int32) : (∃ l, l < 4 ∧ v = nI l ∧ (asA A).testBit l = true ∧ 0 < A.1.length ∧ fX9_isAsked v R = some 1) ∨ ((∀ l, l < 4 → v = nI l → ¬ (asA A).testBit l = true) ∧ fX9_isAsked v R = some 0) := by
  obtain ⟨am, a1, a2, a3⟩ := n_asked hM hW.1 hR.1
  have e := am_asA hM hW hR hR.1 hW.1 a1 a3
  subst e
  rcases n_isAsked hM hW.1 hR.1 v with ⟨l, h1, h2, h3, h4, h5⟩ | ⟨h1, h2⟩
  · exact Or.inl ⟨l, h1, h2, (a3 l h1).mpr h3, h4, h5⟩
  · exact Or.inr ⟨fun l hl e q => h1 l hl e ((a3 l hl).mp q), h2⟩
/-- both are asked of a letter that is asked, or both are not -/
theorem two_asked {I R0 R : gM} {A : aT} (hW : WF A) (hC : CT I 3 A) (hM : MI false R0 R) (hR : RT R (R 70) A) (v : Int32) : (∃ l, l < 4 ∧ v = nI l ∧ (asA A).testBit l = true ∧ 0 < A.1.length ∧ fX8_isAsked v I = some 1 ∧ fX9_isAsked v R = some 1) ∨ (fX8_isAsked v I = some 0 ∧ fX9_isAsked v R = some 0) := by
  rcases c_isAsked hW hC v with ⟨l, h1, h2, h3, h4⟩ | ⟨h1, h2⟩
  · rcases n_isAskedK hM hW hR v with ⟨l', g1, g2, g3, g4, g5⟩ | ⟨g1, g2⟩
    · exact Or.inl ⟨l, h1, h2, h3, g4, h4, g5⟩
    · exact absurd h3 (g1 l h1 h2)
  · rcases n_isAskedK hM hW hR v with ⟨l', g1, g2, g3, g4, g5⟩ | ⟨g1, g2⟩
    · exact absurd g3 (h1 l' g1 g2)
    · exact Or.inr ⟨h2, g2⟩
/-- the class's join now beside the reference's join of the same tables -/
theorem cur_two {I R R0 : gM} {A : aT} (h : InvB I) (hW : WF A) (hn : 0 < A.1.length) (hC : CT I 3 A) (hM : MI false R0 R) (hR : RT R (R 70) A) : ∃ R' J, fX9_joinsNow R = some R' ∧ OUT 18 (fl4 A.2.2 (asA A)) I R' J ∧ J ≤ 20736 ∧ Sc I 18 (fl4 A.2.2 (asA A)) ∧ Sq R' (fl4 A.2.2 (asA A)) ∧ 0 < (fl4 A.2.2 (asA A)).length ∧ MI false R0 R' ∧ GJ9 R' ∧ (∀ k, k ≠ 62 → k ≠ 74 → k ≠ 75 → k ≠ 76 → k ≠ 77 → k ≠ 78 → k ≠ 79 → k ≠ 80 → R' k = R k) ∧ ∀ j, j ≠ 19 → j ≠ 26 → j ≠ 27 → R' 62 j = R 62 j := by
  have n0 : I 3 0 ≠ 0 := fun z => by have := (hC.n0 hW).mp z; omega
  obtain ⟨I8, M', a1, a2, a3, a4⟩ := (h.2.1.2.2 n0).1
  have hC8 : CT I8 3 A := hC.cong (fun j _ => by rw [a1 3 (by omega)]) (a1 4 (by omega)) (a1 5 (by omega)) (a1 6 (by omega)) (a1 7 (by omega))
  obtain ⟨r, er, _, Mr, Gr, f1, f2⟩ := n_rowsNow hM
  obtain ⟨M2, R', J, g1, g2, o, g4, g5, g6, g7, _⟩ := find_two (I0 := I) (k := 18) (k1 := 3) (by omega) hM hW hn hC8 hR a2 hW.2.2.2.1
  rw [hC.2.2.1, g1] at a3
  obtain rfl := Option.some.inj a3
  have er' := er
  unfold fX9_joinsNow at er'
  rw [show (1 : Int32) = nI 1 from rfl, rI_n (by omega) (by omega), obs, hR.2.2.1, g2, obs] at er'
  obtain rfl := Option.some.inj er'
  refine ⟨R', J, er, ⟨by rw [a4 18 (by omega)]; exact o.1, o.2.1, by rw [a4 18 (by omega)]; exact o.2.2.1, fun e he => by rw [a4 (18 + 1) (by omega)]; exact o.2.2.2.1 e he, fun j hj => by rw [a4 (18 + 3) (by omega)]; exact o.2.2.2.2 j hj⟩, g4, ⟨by rw [a4 18 (by omega)]; exact g5.1, fun e he => by rw [a4 (18 + 2) (by omega)]; exact g5.2 e he⟩, g6, g7, Mr, Gr, f1, f2⟩
theorem d4_v {P l : Nat} (hP : P < 268435456) (hl : l < 4) : (nI P >>> (((21 : Int32) - ((7 : Int32) * nI l)) &&& 31)) &&& 127 = nI (d4 l P) := by
  rcases (by omega : l = 0 ∨ l = 1 ∨ l = 2 ∨ l = 3) with rfl | rfl | rfl | rfl
  · rw [show (((21 : Int32) - ((7 : Int32) * nI 0)) &&& 31) = 21 by decide +kernel, pk_shrN (by omega) 21 21 (by decide), pk_andN (by omega) 7 (by decide), d4_0]
  · rw [show (((21 : Int32) - ((7 : Int32) * nI 1)) &&& 31) = 14 by decide +kernel, pk_shrN (by omega) 14 14 (by decide), pk_andN (by omega) 7 (by decide), d4_1]
  · rw [show (((21 : Int32) - ((7 : Int32) * nI 2)) &&& 31) = 7 by decide +kernel, pk_shrN (by omega) 7 7 (by decide), pk_andN (by omega) 7 (by decide), d4_2]
  · rw [show (((21 : Int32) - ((7 : Int32) * nI 3)) &&& 31) = 0 by decide +kernel, pk_shrN (by omega) 0 0 (by decide), pk_andN (by omega) 7 (by decide), d4_3]
/-- the number of a letter in a row of the class's join at k -/
def rdg (M : gM) (k j l : Nat) : Nat := d4 l (kn (M (k + 3) j))
theorem rdg_lt (M : gM) (k j l : Nat) : rdg M k j l < 128 := Nat.mod_lt _ (by decide)
theorem OUT.dg {k : Nat} {ls : List Nat} {M I : gM} {J : Nat} (o : OUT k ls M I J) {j : Nat} (hj : j < J) : M (k + 3) j = nI (kn (M (k + 3) j)) ∧ kn (M (k + 3) j) < 268435456 ∧ ∀ e, e < ls.length → I 80 (4 * j + ls.getD e 0) = nI (rdg M k j (ls.getD e 0)) := by
  obtain ⟨P, h1, h2, h3⟩ := o.2.2.2.2 j hj
  have e : kn (M (k + 3) j) = P := by
    unfold kn
    rw [h2, nIt (by omega)]
  unfold rdg
  rw [e]
  exact ⟨h2, h1, h3⟩
theorem c_numberAt {k : Nat} {ls : List Nat} {M I : gM} {J : Nat} (o : OUT k ls M I J) (hJ : J ≤ 20736) {j l : Nat} (hj : j < J) (hl : l < 4) : fX1_numberAt k (nI j) (nI l) M = some (nI (rdg M k j l)) := by
  have := o.dg hj
  unfold fX1_numberAt fX1_rowAt
  rw [if_neg (show ¬ nI j < 0 from fun z => absurd ((nI_ltI (b := 0) (by omega) (by omega)).mp z) (by omega)), o.1, if_neg (show ¬ nI J ≤ nI j from fun z => absurd ((nI_leI (by omega) (by omega)).mp z) (by omega)), rI_n (by omega) (by omega), obs, obs, this.1, d4_v this.2.1 hl]
  rfl
theorem n_number80 {R : gM} {j l : Nat} (hj : j < 20736) (hl : l < 4) : fX9_numberOf (nI j) (nI l) R = some (R 80 (4 * j + l)) := by
  unfold fX9_numberOf
  rw [show (4 : Int32) = nI 4 from rfl, nI_mul, nI_add, rI_n (by omega) (by omega), obs]
theorem eq_rows {I : gM} (h : InvB I) {a : Int32} {b : Int32 × gM} (e1 : fX8_rows I = some a) (e2 : fX9_rows I = some b) : a = b.1 := by
  obtain ⟨A, hW, hC, hR⟩ := h.tab
  unfold fX8_rows at e1
  unfold fX9_rows at e2
  rw [n_areTables hW.1 hR.1, obs] at e2
  by_cases n : A.1.length = 0
  · rw [if_pos ((hC.n0 hW).mpr n)] at e1
    rw [if_pos n, if_pos rfl] at e2
    cases e1; cases e2; rfl
  · rw [if_neg (mt (hC.n0 hW).mp n)] at e1
    rw [if_neg n, if_neg (by decide)] at e2
    obtain ⟨R', J, ej, o, _⟩ := cur_two h hW (by omega) hC h.mi hR
    unfold fX9_rowsNow at e2
    rw [ej, obs, obs] at e2
    cases e1; cases e2
    exact o.1.trans o.2.1.symm
theorem eq_leaps {I : gM} (h : InvB I) {a : Int32} {b : Int32 × gM} (e1 : fX8_leaps I = some a) (e2 : fX9_leaps_ I = some b) : a = b.1 := by
  obtain ⟨A, hW, hC, hR⟩ := h.tab
  unfold fX8_leaps at e1
  unfold fX9_leaps_ at e2
  rw [n_areTables hW.1 hR.1, obs] at e2
  by_cases n : A.1.length = 0
  · rw [if_pos ((hC.n0 hW).mpr n)] at e1
    rw [if_pos n, if_pos rfl] at e2
    cases e1; cases e2; rfl
  · rw [if_neg (mt (hC.n0 hW).mp n)] at e1
    rw [if_neg n, if_neg (by decide)] at e2
    obtain ⟨R', J, ej, o, _⟩ := cur_two h hW (by omega) hC h.mi hR
    rw [ej, obs] at e2
    cases e1; cases e2
    exact o.2.2.1
theorem eq_beginnings {I : gM} (h : InvB I) {v : Int32} {a : Int32} {b : Int32 × gM} (e1 : fX8_beginnings v I = some a) (e2 : fX9_beginnings v I = some b) : a = b.1 := by
  obtain ⟨A, hW, hC, hR⟩ := h.tab
  unfold fX8_beginnings at e1
  unfold fX9_beginnings at e2
  rw [n_areTables hW.1 hR.1, obs] at e2
  by_cases n : A.1.length = 0
  · rw [if_pos ((hC.n0 hW).mpr n)] at e1
    rw [if_pos n, if_pos rfl] at e2
    cases e1; cases e2; rfl
  · rw [if_neg (mt (hC.n0 hW).mp n)] at e1
    rw [if_neg n, if_neg (by decide)] at e2
    obtain ⟨R', J, ej, o, hJ, hS, hQ, hl, _⟩ := cur_two h hW (by omega) hC h.mi hR
    have l4 : (fl4 A.2.2 (asA A)).length ≤ 4 := (okS_fl4 hW.2.2.2.1 (asA_lt hW)).1
    by_cases c1 : v < 1
    · rw [if_pos c1] at e1
      have : ¬ (1 : Int32) ≤ v := fun z => by rw [Int32.le_iff_toInt_le] at z; rw [Int32.lt_iff_toInt_lt] at c1; omega
      rw [if_neg this] at e2
      cases e1; cases e2; rfl
    · have d1 : (1 : Int32) ≤ v := by rw [Int32.le_iff_toInt_le]; rw [Int32.lt_iff_toInt_lt] at c1; omega
      rw [if_neg c1] at e1
      rw [if_pos d1, ej, obs] at e2
      obtain ⟨l, rfl, hl31⟩ : ∃ l, v = nI l ∧ l < 2 ^ 31 := ⟨_, nI_self (by have := Int32.le_iff_toInt_le.mp d1; rw [show (1 : Int32).toInt = 1 by decide] at this; omega), by have := v.toInt_lt; omega⟩
      have l1 : 1 ≤ l := (nI_leI (a := 1) (by omega) (by omega)).mp d1
      rw [hS.1] at e1
      rw [hQ.1] at e2
      by_cases c2 : nI l ≤ nI (fl4 A.2.2 (asA A)).length
      · have c3 := (nI_leI (by omega) (by omega)).mp c2
        rw [if_pos c2, nI_s1 (by omega), rI_n (by omega) (by omega), obs] at e1
        rw [if_neg (show ¬ nI (fl4 A.2.2 (asA A)).length < nI l from fun z => absurd ((nI_ltI (by omega) (by omega)).mp z) (by omega)), rI_n (by omega) (by omega), obs] at e2
        cases e1; cases e2
        have := o.2.2.2.1 (l - 1) (by omega)
        rw [show l - 1 + 1 = l by omega] at this
        exact this
      · have c3 := mt (nI_leI (by omega) (by omega)).mpr c2
        rw [if_neg c2] at e1
        rw [if_pos (show nI (fl4 A.2.2 (asA A)).length < nI l from (nI_ltI (by omega) (by omega)).mpr (by omega))] at e2
        cases e1; cases e2; rfl
theorem eq_row {I : gM} (h : InvB I) {v w : Int32} {a : Int32} {b : Int32 × gM} (e1 : fX8_row v w I = some a) (e2 : fX9_row v w I = some b) : a = b.1 := by
  obtain ⟨A, hW, hC, hR⟩ := h.tab
  unfold fX8_row at e1
  unfold fX9_row at e2
  rcases two_asked hW hC h.mi hR w with ⟨l, hl, rfl, hb, n, z1, z2⟩ | ⟨z1, z2⟩
  · rw [z1, obs, if_neg (by decide)] at e1
    rw [z2, obs, if_neg (by decide)] at e2
    obtain ⟨R', J, ej, o, hJ, hS, hQ, _⟩ := cur_two h hW n hC h.mi hR
    by_cases c : v < 0
    · rw [if_pos c] at e1 e2
      cases e1; cases e2; rfl
    · rw [if_neg c] at e1 e2
      obtain ⟨j, rfl, hj31⟩ : ∃ l, v = nI l ∧ l < 2 ^ 31 := ⟨_, nI_self (nn_of c), by have := v.toInt_lt; omega⟩
      unfold fX9_rowsNow at e2
      rw [ej, obs, obs] at e2
      dsimp only at e2
      rw [o.1] at e1
      rw [o.2.1] at e2
      by_cases cj : j < J
      · rw [if_pos ((nI_ltI (by omega) (by omega)).mpr cj), c_numberAt o hJ cj hl, obs] at e1
        rw [if_neg (fun z => absurd ((nI_leI (by omega) (by omega)).mp z) (by omega)), n_number80 (by omega) hl, obs] at e2
        obtain ⟨e, _, e3, e4⟩ := fl4_at _ hW.2.2.2.1 _ (asA_lt hW) l hl hb
        have := (o.dg cj).2.2 e e3
        rw [e4] at this
        cases e1; cases e2
        exact this.symm
      · rw [if_neg (fun z => cj ((nI_ltI (by omega) (by omega)).mp z))] at e1
        rw [if_pos ((nI_leI (by omega) (by omega)).mpr (by omega))] at e2
        cases e1; cases e2; rfl
  · rw [z1, obs, if_pos rfl] at e1
    rw [z2, obs, if_pos rfl] at e2
    cases e1; cases e2; rfl
end P_35r_43b_asks
section P_35r_43c_counts
/-! rows compared, numbers counted -/
def v4 (v1 v2 v3 v4 : Int32) (l : Nat) : Int32 := if l = 0 then v1 else if l = 1 then v2 else if l = 2 then v3 else v4
theorem n_four {R0 R : gM} (hM : MI false R0 R) (v1 v2 v3 v4' : Int32) : ∃ r, fX9_takesFour v1 v2 v3 v4' R = some r ∧ MI false R0 r ∧ (∀ q, q ≠ 87 → r q = R q) ∧ ∀ l, l < 4 → r 87 l = v4 v1 v2 v3 v4' l := by
  obtain ⟨r, e, hr⟩ := tfX9_takesFour v1 v2 v3 v4' R hM
  have e' := e
  unfold fX9_takesFour at e'
  rw [show (0 : Int32) = nI 0 from rfl, show (1 : Int32) = nI 1 from rfl, show (2 : Int32) = nI 2 from rfl, show (3 : Int32) = nI 3 from rfl, wI_n (by omega) (by omega), obs, wI_n (by omega) (by omega), obs, wI_n (by omega) (by omega), obs, wI_n (by omega) (by omega), obs] at e'
  obtain rfl := Option.some.inj e'
  refine ⟨_, e, hr, fun q hq => by rw [g_up_row hq, g_up_row hq, g_up_row hq, g_up_row hq], fun l hl => ?_⟩
  unfold v4
  rcases (by omega : l = 0 ∨ l = 1 ∨ l = 2 ∨ l = 3) with rfl | rfl | rfl | rfl
  · rw [g_up_ne (Or.inr (by decide)), g_up_ne (Or.inr (by decide)), g_up_ne (Or.inr (by decide)), g_up_self]; rfl
  · rw [g_up_ne (Or.inr (by decide)), g_up_ne (Or.inr (by decide)), g_up_self]; rfl
  · rw [g_up_ne (Or.inr (by decide)), g_up_self]; rfl
  · rw [g_up_self]; rfl
/-- a row of the join beside four numbers: both compare alike -/
theorem cmp_two {ls : List Nat} {M R : gM} {J j : Nat} (o : OUT 18 ls M R J) (hs : okS ls) (hJ : J ≤ 20736) (hS : Sc M 18 ls) (hQ : Sq R ls) (hj : j < J) {v1 v2 v3 v4' : Int32} (h4 : ∀ l, l < 4 → R 87 l = v4 v1 v2 v3 v4' l) {r : Int32} (e : fX1_compareAt 18 (nI j) v1 v2 v3 v4' M = some r) : fX9_comparesFour (nI j) R = some r := by
  have s4 := hs.1
  unfold fX1_compareAt at e
  obtain ⟨w, ew, e⟩ := ob e
  unfold lX1_compareAt_3 at ew
  obtain ⟨w', ew', q⟩ := it_two (g := fun s : Int32 => if (R 62 19) ≤ s then some (.inr (.inr ())) else (rI 4 (R 74) s).bind fun u1 => (fX9_numberOf (nI j) u1 R).bind fun r2 => (rI 4 (R 87) u1).bind fun u3 => if r2 = u3 then some (.inl (s + 1)) else some (.inr (.inl u1))) (fun s t : Int32 => s = t ∧ ∃ e, e ≤ ls.length ∧ s = nI e) (fun (a : (Int32 × Int32) ⊕ Unit) (b : Int32 ⊕ Unit) => (a = .inr () ∧ b = .inr ()) ∨ ∃ p l, l < 4 ∧ a = .inl p ∧ b = .inl (nI l) ∧ p.1 = R 87 l ∧ p.2 = R 80 (4 * j + l) ∧ p.1 ≠ p.2) (fun s t hst y hy => by
    obtain ⟨rfl, e, he, rfl⟩ := hst
    rw [hS.1] at hy
    rw [hQ.1]
    rcases oi hy with ⟨c, hy⟩ | ⟨c, hy⟩
    · rw [if_pos c]
      obtain rfl := Option.some.inj hy
      exact ⟨_, rfl, Or.inr ⟨_, _, rfl, rfl, Or.inl ⟨rfl, rfl⟩⟩⟩
    · have c' := mt (nI_leI (by omega) (by omega)).mpr c
      have el : e < ls.length := by omega
      have l4 := hs.2.1 e el
      rw [if_neg c]
      rw [rI_n (by omega) (by omega), hS.2 e el, obs] at hy
      rw [rI_n (by omega) (by omega), hQ.2 e el, obs, n_numberOf (by omega) l4, obs, rI_n (by omega) (by omega), obs, (o.dg hj).2.2 e el, h4 _ l4]
      generalize hl : ls.getD e 0 = l at *
      have key : ∀ {t}, bX1_compareAt_53 18 (nI j) (nI e) (nI l) t M = some y → t = v4 v1 v2 v3 v4' l → ∃ z, (if nI (rdg M 18 j l) = v4 v1 v2 v3 v4' l then some (Sum.inl (nI e + 1)) else some (Sum.inr (Sum.inl (nI l)))) = some z ∧ ((∃ s' t' : Int32, y = .inl s' ∧ z = .inl t' ∧ s' = t' ∧ ∃ e, e ≤ ls.length ∧ s' = nI e) ∨ ∃ (r : (Int32 × Int32) ⊕ Unit) (r' : Int32 ⊕ Unit), y = .inr r ∧ z = .inr r' ∧ ((r = .inr () ∧ r' = .inr ()) ∨ ∃ p l, l < 4 ∧ r = .inl p ∧ r' = .inl (nI l) ∧ p.1 = R 87 l ∧ p.2 = R 80 (4 * j + l) ∧ p.1 ≠ p.2)) := fun {t} hy ht => by
        subst ht
        unfold bX1_compareAt_53 at hy
        rw [c_numberAt o hJ hj l4, obs] at hy
        rcases oi hy with ⟨c, hy⟩ | ⟨c, hy⟩
        · rw [if_pos c]
          obtain rfl := Option.some.inj hy
          exact ⟨_, rfl, Or.inl ⟨_, _, rfl, rfl, rfl, e + 1, by omega, nI_1 _⟩⟩
        · rw [if_neg c]
          obtain rfl := Option.some.inj hy
          refine ⟨_, rfl, Or.inr ⟨_, _, rfl, rfl, Or.inr ⟨_, l, l4, rfl, rfl, (h4 l l4).symm, ?_, fun z => c z.symm⟩⟩⟩
          have q := (o.dg hj).2.2 e el
          rw [hl] at q
          exact q.symm
      rcases (by omega : l = 0 ∨ l = 1 ∨ l = 2 ∨ l = 3) with rfl | rfl | rfl | rfl
      · rw [if_pos (by decide)] at hy
        exact key hy rfl
      · rw [if_neg (by decide), if_pos (by decide)] at hy
        exact key hy rfl
      · rw [if_neg (by decide), if_neg (by decide), if_pos (by decide)] at hy
        exact key hy rfl
      · rw [if_neg (by decide), if_neg (by decide), if_neg (by decide)] at hy
        exact key hy rfl) (s := 0) (t := 0) ⟨rfl, 0, Nat.zero_le _, rfl⟩ ew
  unfold fX9_comparesFour lX9_comparesFour_2
  rw [ew', obs]
  rcases q with ⟨rfl, rfl⟩ | ⟨p, l, hl, rfl, rfl, p1, p2, p3⟩
  · exact e
  · show ((fX9_numberOf (nI j) (nI l) R).bind fun r5 => (rI 4 (R 87) (nI l)).bind fun u6 => if u6 ≤ r5 then some (1 : Int32) else some ((-1) : Int32)) = some r
    rw [n_numberOf (by omega) hl, obs, rI_n (by omega) (by omega), obs, ← p1, ← p2]
    have e : (if p.2 ≤ p.1 then some ((-1) : Int32) else some (1 : Int32)) = some r := e
    rw [← e]
    have ne : p.1.toInt ≠ p.2.toInt := fun z => p3 (Int32.toInt_inj.mp z)
    by_cases c : p.2 ≤ p.1
    · rw [if_pos c, if_neg]
      rw [Int32.le_iff_toInt_le] at c ⊢
      omega
    · rw [if_neg c, if_pos]
      rw [Int32.le_iff_toInt_le] at c ⊢
      omega
theorem eq_behind {I : gM} (h : InvB I) {v1 v2 v3 v4' : Int32} {a : Int32} {b : Int32 × gM} (e1 : fX8_behind v1 v2 v3 v4' I = some a) (e2 : fX9_behind v1 v2 v3 v4' I = some b) : a = b.1 := by
  obtain ⟨A, hW, hC, hR⟩ := h.tab
  unfold fX8_behind at e1
  unfold fX9_behind at e2
  rw [n_areTables hW.1 hR.1, obs] at e2
  by_cases n : A.1.length = 0
  · rw [if_pos ((hC.n0 hW).mpr n)] at e1
    rw [if_pos n, if_pos rfl] at e2
    cases e1; cases e2; rfl
  · rw [if_neg (mt (hC.n0 hW).mp n)] at e1
    rw [if_neg n, if_neg (by decide)] at e2
    obtain ⟨r, er, hM, fr, h4⟩ := n_four h.mi v1 v2 v3 v4'
    rw [er, obs] at e2
    have hRr : RT r (r 70) A := by
      rw [fr 70 (by omega)]
      exact hR.cong (by rw [fr 62 (by omega)]) (fr 72 (by omega)) (fr 73 (by omega)) hW.1 hW.k12 (fun _ _ => rfl)
    obtain ⟨R', J, ej, o, hJ, hS, hQ, hl, _, _, fR, _⟩ := cur_two h hW (by omega) hC hM hRr
    rw [ej, obs] at e2
    obtain ⟨w, ew, e1⟩ := ob e1
    unfold lX8_behind_15 at ew
    have h4' : ∀ l, l < 4 → R' 87 l = v4 v1 v2 v3 v4' l := fun l hl => by rw [fR 87 (by omega) (by omega) (by omega) (by omega) (by omega) (by omega) (by omega) (by omega)]; exact h4 l hl
    have hs := okS_fl4 hW.2.2.2.1 (asA_lt hW)
    obtain ⟨w', ew', q⟩ := it_two (g := fun s : Int32 => if (R' 62 26) ≤ s then some (.inr (.inr ())) else (fX9_comparesFour s R').bind fun r4 => if r4 ≤ 0 then some (.inl (s + 1)) else some (.inr (.inl s))) (fun s t : Int32 => s = t ∧ ∃ e, e ≤ J ∧ s = nI e) (fun (a b : Int32 ⊕ Unit) => a = b) (fun s t hst y hy => by
      obtain ⟨rfl, j, hj, rfl⟩ := hst
      rw [o.1] at hy
      rw [o.2.1]
      rcases oi hy with ⟨c, hy⟩ | ⟨c, hy⟩
      · rw [if_pos c]
        obtain rfl := Option.some.inj hy
        exact ⟨_, rfl, Or.inr ⟨_, _, rfl, rfl, rfl⟩⟩
      · have c' := mt (nI_leI (by omega) (by omega)).mpr c
        obtain ⟨r1, er1, hy⟩ := ob hy
        rw [if_neg c, cmp_two o hs hJ hS hQ (by omega) h4' er1, obs]
        rcases oi hy with ⟨c, hy⟩ | ⟨c, hy⟩
        · rw [if_pos c]
          obtain rfl := Option.some.inj hy
          exact ⟨_, rfl, Or.inl ⟨_, _, rfl, rfl, rfl, j + 1, by omega, nI_1 _⟩⟩
        · rw [if_neg c]
          obtain rfl := Option.some.inj hy
          exact ⟨_, rfl, Or.inr ⟨_, _, rfl, rfl, rfl⟩⟩) (s := 0) (t := 0) ⟨rfl, 0, Nat.zero_le _, rfl⟩ ew
    subst q
    unfold lX9_behind_25 at e2
    rw [ew', obs] at e2
    cases w with
    | inl x => cases e1; cases e2; rfl
    | inr x => cases e1; cases e2; rfl
theorem eq_has {I : gM} (h : InvB I) {v1 v2 v3 v4' : Int32} {a : Int32} {b : Int32 × gM} (e1 : fX8_has v1 v2 v3 v4' I = some a) (e2 : fX9_has_ v1 v2 v3 v4' I = some b) : a = b.1 := by
  obtain ⟨A, hW, hC, hR⟩ := h.tab
  unfold fX8_has at e1
  unfold fX9_has_ at e2
  rw [n_areTables hW.1 hR.1, obs] at e2
  by_cases n : A.1.length = 0
  · rw [if_pos ((hC.n0 hW).mpr n)] at e1
    rw [if_pos n, if_pos rfl] at e2
    cases e1; cases e2; rfl
  · rw [if_neg (mt (hC.n0 hW).mp n)] at e1
    rw [if_neg n, if_neg (by decide)] at e2
    obtain ⟨r, er, hM, fr, h4⟩ := n_four h.mi v1 v2 v3 v4'
    rw [er, obs] at e2
    have hRr : RT r (r 70) A := by
      rw [fr 70 (by omega)]
      exact hR.cong (by rw [fr 62 (by omega)]) (fr 72 (by omega)) (fr 73 (by omega)) hW.1 hW.k12 (fun _ _ => rfl)
    obtain ⟨R', J, ej, o, hJ, hS, hQ, hl, _, _, fR, _⟩ := cur_two h hW (by omega) hC hM hRr
    rw [ej, obs] at e2
    obtain ⟨w, ew, e1⟩ := ob e1
    unfold lX8_has_15 at ew
    have h4' : ∀ l, l < 4 → R' 87 l = v4 v1 v2 v3 v4' l := fun l hl => by rw [fR 87 (by omega) (by omega) (by omega) (by omega) (by omega) (by omega) (by omega) (by omega)]; exact h4 l hl
    have hs := okS_fl4 hW.2.2.2.1 (asA_lt hW)
    obtain ⟨w', ew', q⟩ := it_two (g := fun s : Int32 => if (R' 62 26) ≤ s then some (.inr (.inr ())) else (fX9_comparesFour s R').bind fun r4 => if r4 = 0 then some (.inr (.inl ())) else some (.inl (s + 1))) (fun s t : Int32 => s = t ∧ ∃ e, e ≤ J ∧ s = nI e) (fun (a b : Unit ⊕ Unit) => a = b) (fun s t hst y hy => by
      obtain ⟨rfl, j, hj, rfl⟩ := hst
      rw [o.1] at hy
      rw [o.2.1]
      rcases oi hy with ⟨c, hy⟩ | ⟨c, hy⟩
      · rw [if_pos c]
        obtain rfl := Option.some.inj hy
        exact ⟨_, rfl, Or.inr ⟨_, _, rfl, rfl, rfl⟩⟩
      · have c' := mt (nI_leI (by omega) (by omega)).mpr c
        obtain ⟨r1, er1, hy⟩ := ob hy
        rw [if_neg c, cmp_two o hs hJ hS hQ (by omega) h4' er1, obs]
        rcases oi hy with ⟨c, hy⟩ | ⟨c, hy⟩
        · rw [if_pos c]
          obtain rfl := Option.some.inj hy
          exact ⟨_, rfl, Or.inr ⟨_, _, rfl, rfl, rfl⟩⟩
        · rw [if_neg c]
          obtain rfl := Option.some.inj hy
          exact ⟨_, rfl, Or.inl ⟨_, _, rfl, rfl, rfl, j + 1, by omega, nI_1 _⟩⟩) (s := 0) (t := 0) ⟨rfl, 0, Nat.zero_le _, rfl⟩ ew
    subst q
    unfold lX9_has__25 at e2
    rw [ew', obs] at e2
    cases w with
    | inl x => cases e1; cases e2; rfl
    | inr x => cases e1; cases e2; rfl
end P_35r_43c_counts
