/-! both find their joins -/
theorem c_open {M : gM} {k k1 : Nat} {A : aT} {ls : List Nat} (hk : k1 + 4 < k) (hW : WF A) (hs : okS ls) (hC : CT M k1 A) (hS : Sc M k ls) :
    ∃ qs r, fX1_open k k1 M = some r ∧ SX r k A ls qs ∧ QS A ls qs ∧ (∀ f, RG r k A ls qs 0 f (fun _ => 0) (fun t => (qs t).length)) ∧ r k 0 = 0 ∧ r k 1 = 0 ∧ (∀ e, e < 4 → r (k + 1) e = 0) ∧ (∀ x, x ≠ k → x ≠ k + 1 → x ≠ k + 5 → x ≠ k + 6 → x ≠ k + 7 → x ≠ k + 8 → x ≠ k + 9 → r x = M x) ∧ ∀ j, 2 ≤ j → r k j = M k j := by
  have hn4 := hW.1
  have s4 := hs.1
  obtain ⟨r3, e3, a1, a2⟩ := c_fill (k0 := k + 1) (n0 := 4) (v := 0) (M := g_up (g_up M k 0 0) k 1 0) (by omega)
  obtain ⟨r4, e4, b1, b2⟩ := c_fill (k0 := k + 7) (n0 := 16) (v := -1) (M := r3) (by omega)
  have g4 : ∀ x, x ≠ k → x ≠ k + 1 → x ≠ k + 7 → r4 x = M x := fun x h0 h1 h7 => by rw [b1 x h7, a1 x h1, g_up_row h0, g_up_row h0]
  have hC4 : CT r4 k1 A := hC.cong (fun j _ => by rw [g4 k1 (by omega) (by omega) (by omega)]) (g4 _ (by omega) (by omega) (by omega)) (g4 _ (by omega) (by omega) (by omega)) (g4 _ (by omega) (by omega) (by omega)) (g4 _ (by omega) (by omega) (by omega))
  have k0 : ∀ j, r4 k j = g_up (g_up M k 0 0) k 1 0 k j := fun j => by rw [b1 k (by omega), a1 k (by omega)]
  have key : T (lX1_open_28 k k1 (nI 0, r4)) (fun r => ∃ qs : Nat → List Nat, (∀ t, t < 4 → A.2.1.testBit t = true → QT A ls t (aK A t).length (qs t) ∧ r (k + 8) t = nI (12 * t) ∧ r (k + 9) t = nI (12 * t + (qs t).length) ∧ ∀ j, j < (qs t).length → r (k + 5) (12 * t + j) = nI ((qs t).getD j 0)) ∧ (∀ t, t < 4 → ∀ d, d < ls.length → r (k + 7) (4 * d + t) = if inB A ls t d = true then nI (14 - 7 * pA A ls t d) else -1) ∧ ∀ x, x ≠ k + 5 → x ≠ k + 6 → x ≠ k + 7 → x ≠ k + 8 → x ≠ k + 9 → r x = r4 x) := by
    unfold lX1_open_28
    refine t_it (P := fun s => ∃ c, ∃ qs : Nat → List Nat, c ≤ 4 ∧ s.1 = nI c ∧ (∀ t, t < c → A.2.1.testBit t = true → QT A ls t (aK A t).length (qs t) ∧ s.2 (k + 8) t = nI (12 * t) ∧ s.2 (k + 9) t = nI (12 * t + (qs t).length) ∧ ∀ j, j < (qs t).length → s.2 (k + 5) (12 * t + j) = nI ((qs t).getD j 0)) ∧ (∀ t, t < 4 → ∀ d, d < ls.length → s.2 (k + 7) (4 * d + t) = if t < c ∧ inB A ls t d = true then nI (14 - 7 * pA A ls t d) else -1) ∧ ∀ x, x ≠ k + 5 → x ≠ k + 6 → x ≠ k + 7 → x ≠ k + 8 → x ≠ k + 9 → s.2 x = r4 x) (μ := fun s => 20 - s.1.toInt.toNat) (fun s p => ?_)
      ⟨0, fun _ => [], by omega, rfl, fun t ht => absurd ht (Nat.not_lt_zero t), fun t ht d hd => by rw [if_neg (fun z => absurd z.1 (Nat.not_lt_zero t))]; exact b2 _ (by omega), fun _ _ _ _ _ _ => rfl⟩
    obtain ⟨s1, N⟩ := s
    obtain ⟨c, qs, hc, e, p1, p2, p3⟩ := p
    dsimp only at e p1 p2 p3
    subst e
    dsimp only
    rw [L4]
    refine t_ite (fun q => ?_) (fun q => ?_)
    · have q := (nI_leI (by omega) (by omega)).mp q
      have : c = 4 := by omega
      subst this
      refine t_ret ⟨qs, p1, fun t ht d hd => ?_, p3⟩
      have := p2 t ht d hd
      by_cases b : inB A ls t d = true
      · rw [if_pos ⟨ht, b⟩] at this
        rw [if_pos b]; exact this
      · rw [if_neg (fun z => b z.2)] at this
        rw [if_neg b]; exact this
    · have q := mt (nI_leI (a := 4) (b := c) (by omega) (by omega)).mpr q
      have c4 : c < 4 := by omega
      have mu : 20 - (nI c + 1).toInt.toNat < 20 - (nI c).toInt.toNat := by rw [nI_1, nIt (by omega), nIt (by omega)]; omega
      rw [L12, nI_mul, Nat.mul_comm c 12]
      refine t_be (wI_n (by omega) (by omega)) ?_
      refine t_be (wI_n (by omega) (by omega)) ?_
      generalize hN : g_up (g_up N (k + 8) c (nI (12 * c))) (k + 9) c (nI (12 * c)) = N'
      have n1 : ∀ x, x ≠ k + 8 → x ≠ k + 9 → N' x = N x := fun x h1 h2 => by rw [← hN, g_up_row h2, g_up_row h1]
      have n8 : ∀ j, N' (k + 8) j = if j = c then nI (12 * c) else N (k + 8) j := fun j => by rw [← hN, g_up_row (by omega), gu_in]
      have n9 : ∀ j, N' (k + 9) j = if j = c then nI (12 * c) else N (k + 9) j := fun j => by rw [← hN, gu_in, g_up_row (by omega)]
      have nx : ∀ x, x ≠ k + 5 → x ≠ k + 6 → x ≠ k + 7 → x ≠ k + 8 → x ≠ k + 9 → N' x = r4 x := fun x h5 h6 h7 h8 h9 => (n1 x h8 h9).trans (p3 x h5 h6 h7 h8 h9)
      have hCN : CT N' k1 A := hC4.cong (fun j _ => by rw [nx k1 (by omega) (by omega) (by omega) (by omega) (by omega)]) (nx _ (by omega) (by omega) (by omega) (by omega) (by omega)) (nx _ (by omega) (by omega) (by omega) (by omega) (by omega)) (nx _ (by omega) (by omega) (by omega) (by omega) (by omega)) (nx _ (by omega) (by omega) (by omega) (by omega) (by omega))
      have hSN : Sc N' k ls := ⟨by rw [nx k (by omega) (by omega) (by omega) (by omega) (by omega), k0, g_up_ne (Or.inr (by decide)), g_up_ne (Or.inr (by decide))]; exact hS.1, fun e he => by rw [nx (k + 2) (by omega) (by omega) (by omega) (by omega) (by omega), g4 (k + 2) (by omega) (by omega) (by omega)]; exact hS.2 e he⟩
      have iu : T (fX5_isUsed k1 (nI c) N') (fun r => r = if A.2.1.testBit c = true then 1 else 0) := by
        by_cases ct : c < A.1.length
        · exact ⟨_, c_isUsed hW hCN ct, rfl⟩
        · refine ⟨0, ?_, ?_⟩
          · unfold fX5_isUsed
            rcases c_isTable hn4 hCN.1 (nI c) with ⟨t, z1, z2, _⟩ | ⟨_, z⟩
            · have := nI_inj z2 (by omega) (by omega)
              omega
            · rw [z, obs, if_pos rfl]
          · by_cases u : A.2.1.testBit c = true
            · exact absurd (used_t hW u) ct
            · rw [if_neg u]
      refine t_bind iu (fun v hv => ?_)
      subst hv
      unfold bX1_open_67
      by_cases u : A.2.1.testBit c = true
      · rw [if_pos u, if_neg n10]
        obtain ⟨l, r, er, l1, l2, l3, l4, l5, l6, l7, l8⟩ := c_load hk hW hs hCN hSN u (by rw [n8, if_pos rfl]) (by rw [n9, if_pos rfl])
        refine t_be er ?_
        refine t_nx ⟨c + 1, fun t => if t = c then l else qs t, by omega, nI_1 c, fun t ht hu => ?_, fun t ht d hd => ?_, fun x h5 h6 h7 h8 h9 => ?_⟩ mu
        · dsimp only
          rcases (by omega : t < c ∨ t = c) with z | z
          · obtain ⟨y1, y2, y3, y4⟩ := p1 t z hu
            have yl : (qs t).length ≤ 12 := by rw [y1.1]; exact hW.k12 t (used_t hW hu)
            rw [if_neg (by omega), l6 (k + 8) (by omega) (by omega) (by omega) (by omega), n8, if_neg (by omega), l7 t (by omega), n9, if_neg (by omega)]
            refine ⟨y1, y2, y3, fun j hj => ?_⟩
            rw [l8 _ (Or.inl (by omega)), n1 (k + 5) (by omega) (by omega)]; exact y4 j hj
          · subst z
            rw [if_pos rfl, l6 (k + 8) (by omega) (by omega) (by omega) (by omega), n8, if_pos rfl]
            exact ⟨l1, rfl, l2, l3⟩
        · dsimp only
          by_cases z : t = c
          · subst z
            rw [l4 d hd, n1 (k + 7) (by omega) (by omega), p2 t ht d hd, if_neg (show ¬ (t < t ∧ inB A ls t d = true) from fun y => Nat.lt_irrefl t y.1)]
            by_cases b : inB A ls t d = true
            · rw [if_pos b, if_pos ⟨by omega, b⟩]
            · rw [if_neg b, if_neg (fun y => b y.2)]
          · rw [l5 _ (by omega), n1 (k + 7) (by omega) (by omega), p2 t ht d hd]
            by_cases b : t < c ∧ inB A ls t d = true
            · rw [if_pos b, if_pos ⟨by omega, b.2⟩]
            · rw [if_neg b, if_neg (fun y => b ⟨by omega, y.2⟩)]
        · dsimp only
          rw [l6 x h5 h6 h7 h9]; exact nx x h5 h6 h7 h8 h9
      · rw [if_neg u, if_pos rfl]
        refine t_nx ⟨c + 1, qs, by omega, nI_1 c, fun t ht hu => ?_, fun t ht d hd => ?_, nx⟩ mu
        · rcases (by omega : t < c ∨ t = c) with z | z
          · obtain ⟨y1, y2, y3, y4⟩ := p1 t z hu
            dsimp only
            rw [n8, if_neg (by omega), n9, if_neg (by omega), n1 (k + 5) (by omega) (by omega)]
            exact ⟨y1, y2, y3, y4⟩
          · rw [z] at hu; exact absurd hu u
        · dsimp only
          rw [n1 (k + 7) (by omega) (by omega), p2 t ht d hd]
          by_cases b : t < c ∧ inB A ls t d = true
          · rw [if_pos b, if_pos ⟨by omega, b.2⟩]
          · rw [if_neg b]
            by_cases z : t = c
            · rw [if_neg (fun y => u (by rw [← z]; exact (inB_and.mp y.2).1))]
            · rw [if_neg (fun y => b ⟨by omega, y.2⟩)]
  obtain ⟨r, e, qs, h1, h2, h3⟩ := key
  have rk : ∀ x, x ≠ k → x ≠ k + 1 → x ≠ k + 5 → x ≠ k + 6 → x ≠ k + 7 → x ≠ k + 8 → x ≠ k + 9 → r x = M x := fun x h0 h1 h5 h6 h7 h8 h9 => by rw [h3 x h5 h6 h7 h8 h9, g4 x h0 h1 h7]
  have rk0 : ∀ j, r k j = g_up (g_up M k 0 0) k 1 0 k j := fun j => by rw [h3 k (by omega) (by omega) (by omega) (by omega) (by omega)]; exact k0 j
  refine ⟨qs, r, ?_, ⟨?_, fun e he => ?_, h2, fun t ht u j hj => (h1 t ht u).2.2.2 j hj⟩, fun t ht u => ?_, fun f t ht u => ?_, ?_, ?_, fun e he => ?_, rk, fun j hj => ?_⟩
  · unfold fX1_open
    rw [pU_n, obs, pU_n, obs, e3, obs, e4, obs, show ((0 : Int32), r4) = (nI 0, r4) from rfl, e, obs]
  · rw [rk0, g_up_ne (Or.inr (by decide)), g_up_ne (Or.inr (by decide))]; exact hS.1
  · rw [rk (k + 2) (by omega) (by omega) (by omega) (by omega) (by omega) (by omega) (by omega)]; exact hS.2 e he
  · obtain ⟨⟨q1, q2, q3, q4, q5⟩, _⟩ := h1 t ht u
    exact ⟨by rw [q1]; exact hW.k12 t (used_t hW u), q2, q3, by rw [← q1] at q4 ⊢; exact q4, q5⟩
  · obtain ⟨_, g1, g2, _⟩ := h1 t ht u
    exact ⟨by rw [Nat.mul_zero, Nat.zero_add]; exact g1, by rw [Nat.mul_zero, Nat.zero_add]; exact g2, Nat.zero_le _, Nat.le_refl _, fun j hj => ⟨fun _ e he => absurd he (Nat.not_lt_zero e), fun _ => ⟨Nat.zero_le _, hj⟩⟩⟩
  · rw [rk0, g_up_ne (Or.inr (by decide)), g_up_self]
  · rw [rk0, g_up_self]
  · rw [h3 (k + 1) (by omega) (by omega) (by omega) (by omega) (by omega), b1 (k + 1) (by omega)]; exact a2 e he
  · rw [rk0, g_up_ne (Or.inr (by omega)), g_up_ne (Or.inr (by omega))]
/-- the letters asked, as both have them -/
theorem am_asA {I0 I : gM} {A : aT} {n am : Nat} (hM : MI false I0 I) (hW : WF A) (hR : RT I (I 70) A) (hn : I 62 17 = nI n) (n4 : n ≤ 4) (ha : am < 16) (h : ∀ l, l < 4 → (am.testBit l = true ↔ ask9 I n l)) : am = asA A := by
  obtain ⟨am', z1, z2, z3⟩ := n_asked hM n4 hn
  rw [n_askedK hW hR] at z2
  have e := nI_inj (Option.some.inj z2) (by have := asA_lt hW; omega) (by omega)
  rw [e]
  exact Nat.eq_of_testBit_eq (fun l => by
    by_cases hl : l < 4
    · have a := z3 l hl
      rw [← h l hl] at a
      cases h1 : am'.testBit l <;> cases h2 : am.testBit l <;> simp_all
    · have p1 : (2 : Nat) ^ 4 ≤ 2 ^ l := Nat.pow_le_pow_right (by omega) (by omega)
      rw [Nat.testBit_lt_two_pow (Nat.lt_of_lt_of_le z1 p1), Nat.testBit_lt_two_pow (Nat.lt_of_lt_of_le ha p1)])
theorem okS_fl4 {o am : Nat} (ho : o < 24) (ha : am < 16) : okS (fl4 o am) := by
  have l4 : (fl4 o am).length ≤ 4 := flt_len o am 4
  refine ⟨l4, fun e he => (fl4_mem o ho am ha e (by omega) he).1, fun d e hd he hne => ?_⟩
  rcases (by omega : d < e ∨ e < d) with z | z
  · exact fl4_ne ho ha (by omega) he z
  · exact (fl4_ne ho ha (by omega) hd z).symm
/-- what a join of the class leaves of its memory -/
def FJc (k : Nat) (M r : gM) : Prop := (∀ q, q < k ∨ k + 10 < q → r q = M q) ∧ (∀ j, 3 ≤ j → r k j = M k j) ∧ r (k + 4) 0 = M (k + 4) 0
/-- both find by an order: the same rows in the same order, as many leaps, as many beginnings -/
theorem find_two {I0 R0 M R : gM} {k k1 o : Nat} {A : aT} (hk : k1 + 4 < k) (hM9 : MI false R0 R) (hW : WF A) (h0 : 0 < A.1.length) (hC : CT M k1 A) (hR : RT R (R 70) A) (hz : M (k + 4) 0 = 0) (ho : o < 24) :
    ∃ M' R' J, fX1_findBy k k1 (nI o) M = some M' ∧ fX9_joins (nI o) R = some R' ∧ OUT k (fl4 o (asA A)) M' R' J ∧ J ≤ 20736 ∧ Sc M' k (fl4 o (asA A)) ∧ Sq R' (fl4 o (asA A)) ∧ 0 < (fl4 o (asA A)).length ∧ FJc k M M' := by
  obtain ⟨am, B, n, ha, hask, eJ, MB, hB, hSq, hD, b26, b27, _, b79, bk, bj⟩ := n_joinsB hM9 ho
  have e17 : R 62 17 = nI n := by rw [← bj 17 (by omega) (by omega) (by omega)]; exact hB.2.2.1
  have := am_asA hM9 hW hR e17 hB.1 ha hask
  subst this
  generalize hls : fl4 o (asA A) = ls at *
  have hs : okS ls := by rw [← hls]; exact okS_fl4 ho ha
  have s4 := hs.1
  have hn : n = A.1.length := nI_inj (e17.symm.trans hR.1) (by have := hB.1; omega) (by have := hW.1; omega)
  have RB : RT B (B 70) A := by
    rw [bk 70 (by omega) (by omega) (by omega) (by omega)]
    exact hR.cong (bj 17 (by omega) (by omega) (by omega)) (bk 72 (by omega) (by omega) (by omega) (by omega)) (bk 73 (by omega) (by omega) (by omega) (by omega)) hW.1 hW.k12 (fun _ _ => rfl)
  -- at least one letter
  have lpos : 0 < ls.length := by
    have hu := hW.2.2.1 h0
    have hu16 := hW.u
    have ⟨t, tb⟩ : ∃ t, A.2.1.testBit t = true := by
      rcases Classical.em (∃ t, A.2.1.testBit t = true) with q | q
      · exact q
      · exfalso
        have : A.2.1 = 0 := Nat.eq_of_testBit_eq (fun i => by
          rw [Nat.zero_testBit]
          cases h : A.2.1.testBit i with
          | true => exact absurd ⟨i, h⟩ q
          | false => rfl)
        omega
    have ht := used_t hW tb
    have w := hW.2.2.2.2 t ht
    have w1 := w.1
    have l0 := w.2.1 0 (by omega)
    have hn4 := hW.1
    have bit : (asA A).testBit ((aL A t).getD 0 0) = true := (hask _ l0).mpr ⟨t, by omega, (br_hs hW hR (by omega)).mpr tb, 0, by rw [(hR.2.2.2 t ht).1, nIt (by omega)]; omega, (hR.2.2.2 t ht).2.1 0 (by omega)⟩
    have hc := fl4_has o ho _ ha _ l0 bit
    rw [hls] at hc
    rcases Nat.eq_zero_or_pos ls.length with q | q
    · rw [List.eq_nil_of_length_eq_zero q] at hc
      have hc : false = true := hc
      exact absurd hc (by decide)
    · exact q
  -- the class
  have e1 := c_asked hW hC
  obtain ⟨r9, e9, S9, f9, f9'⟩ := c_seq (k := k) (M := g_up M k 2 0) ho ha g_up_self
  rw [hls] at S9
  have g9 : ∀ q, q ≠ k → q ≠ k + 2 → r9 q = M q := fun q h1 h2 => by rw [f9 q h1 h2, g_up_row h1]
  have hC9 : CT r9 k1 A := hC.cong (fun j _ => by rw [g9 k1 (by omega) (by omega)]) (g9 _ (by omega) (by omega)) (g9 _ (by omega) (by omega)) (g9 _ (by omega) (by omega)) (g9 _ (by omega) (by omega))
  obtain ⟨qs, r10, e10, SX0, QS0, RG0, z0, z1, zm, f10, f10'⟩ := c_open hk hW hs hC9 S9
  have hp : r10 (k + 4) 0 = 0 := by rw [f10 (k + 4) (by omega) (by omega) (by omega) (by omega) (by omega) (by omega) (by omega), g9 (k + 4) (by omega) (by omega)]; exact hz
  have P0 : PR r10 k ls 0 (fun _ => 0) := ⟨0, by decide, hp, fun e he => absurd he (Nat.not_lt_zero e), fun l hl _ => by unfold d4; rw [Nat.zero_div]⟩
  have O0 : OUT k ls r10 B 0 := ⟨z0, b26, by rw [z1, b27]; rfl, fun e he => by rw [zm e he, b79 (e + 1) (by omega) (by omega)], fun j hj => absurd hj (Nat.not_lt_zero j)⟩
  have pw : 12 ^ (ls.length - 0) ≤ 20736 := Nat.le_trans (Nat.pow_le_pow_right (n := 12) (by decide) (show ls.length - 0 ≤ 4 by omega)) (by decide)
  obtain ⟨M', R', J, h1, h2, h3, h4, h5⟩ := jn_go (R0 := R0) hW RB hn hSq hs hB hD QS0 (ls.length - 1) 0 (by omega) 6 6 (by omega) (by omega) r10 B 0 (fun _ => 0) (fun _ => 0) (fun t => (qs t).length) SX0 (RG0 _) P0 O0 MB ⟨rfl, rfl, rfl, rfl, rfl, rfl⟩ (fun e he => absurd he (Nat.not_lt_zero e)) (fun e he => absurd he (Nat.not_lt_zero e)) (by omega)
  have hS' : SX M' k A ls qs := h4.sx SX0
  have hQ9 : Cx B R' := by
    have hD0 := n_goes (I0 := R0) hB hD 6 0 (by omega) (by omega) B 0 MB ⟨rfl, rfl, rfl, rfl, rfl, rfl⟩ b26 (by omega) (fun e he => absurd he (Nat.not_lt_zero e))
    obtain ⟨r, er, hr⟩ := hD0
    rw [h2] at er
    obtain rfl := Option.some.inj er
    exact hr.2.1
  refine ⟨M', R', J, ?_, ?_, h3, h5, ⟨hS'.1, hS'.2.1⟩, ⟨by rw [hQ9.2.1]; exact hSq.1, fun d hd => by rw [hQ9.2.2.2.2.2]; exact hSq.2 d hd⟩, lpos, fun q hq => ?_, fun j hj => ?_, ?_⟩
  · unfold fX1_findBy
    rw [e1, obs, pU_n, obs, e9, obs, e10, obs, show (0 : Int32) = nI 0 from rfl, h1, obs]
  · rw [eJ, h2, obs]
  · rw [h4.1 q (by omega) (by omega) (by omega) (by omega) (by omega) (by omega) (by omega), f10 q (by omega) (by omega) (by omega) (by omega) (by omega) (by omega) (by omega), g9 q (by omega) (by omega)]
  · rw [h4.2.1 j (by omega), f10' j (by omega), f9' j (by omega), g_up_ne (Or.inr (by omega))]
  · rw [h4.2.2.1 0 (Nat.le_refl 0), hp, hz]
