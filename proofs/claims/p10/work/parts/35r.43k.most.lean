/-! most -/
def pc12 (B : Nat) : Nat := suUp (fun i => B / 2 ^ i % 2) 12
theorem bc_all0 : ∀ a, a < 64 → ∀ b, b < 64 → fJ6_bitCount_0f7a4 (nI (64 * a + b)) = some (nI (pc12 (64 * a + b))) := by decide +kernel
theorem bc_n {B : Nat} (h : B < 4096) : fJ6_bitCount_0f7a4 (nI B) = some (nI (pc12 B)) := by
  have := bc_all0 (B / 64) (by omega) (B % 64) (by omega)
  rwa [show 64 * (B / 64) + B % 64 = B by omega] at this
theorem n_bits {B : Nat} (h : B < 4096) : fX9_bits (nI B) = some (nI (pc12 B)) := by
  have key : lX9_bits_4 (nI B) (nI 0, nI 0) = some (nI (pc12 B)) := by
    unfold lX9_bits_4
    refine p_it (P := fun s => ∃ c, c ≤ 12 ∧ s = (nI (suUp (fun i => B / 2 ^ i % 2) c), nI c)) (μ := fun s => 20 - s.2.toInt.toNat) (fun s p => ?_) ⟨0, by omega, rfl⟩
    obtain ⟨c, hc, rfl⟩ := p
    dsimp only
    refine t_ite (fun d => ?_) (fun d => ?_)
    · have := (nI_leI (a := 12) (by omega) (by omega)).mp d
      have : c = 12 := by omega
      subst this
      exact t_ret rfl
    · have := mt (nI_leI (a := 12) (b := c) (by omega) (by omega)).mpr d
      rw [bit_of (by omega) (by omega), nI_add, nI_1]
      exact t_nx ⟨c + 1, by omega, rfl⟩ (show 20 - (nI (c + 1)).toInt.toNat < 20 - (nI c).toInt.toNat by rw [nIt (by omega), nIt (by omega)]; omega)
  unfold fX9_bits
  rw [show ((0 : Int32), (0 : Int32)) = (nI 0, nI 0) from rfl, key, obs]
theorem c_givenRows {M : gM} {t B : Nat} (e : fX0_givenBits 18 3 (nI t) M = some (nI B)) (hB : B < 4096) : fX8_givenRows (nI t) M = some (nI (pc12 B)) := by
  unfold fX8_givenRows
  rw [e, obs, bc_n hB, obs]
/-- the numbers of all rows -/
theorem c_allN {I : gM} {k : Nat} {A : aT} (hW : WF A) (hC : CT I k A) : fX5_allNumbers k I = some (nI (suUp (fun t => suUp (fun i => suUp (fun c => dgt c ((aK A t).getD i 0)) 3) (aK A t).length) A.1.length)) := by
  have hn4 := hW.1
  have inner : ∀ t, t < A.1.length → ∀ a, lX5_allNumbers_14 k (nI t) I (nI a, nI 0) = some (nI (a + suUp (fun i => suUp (fun c => dgt c ((aK A t).getD i 0)) 3) (aK A t).length)) := fun t ht a => by
    have w := hW.2.2.2.2 t ht
    have w4 := w.2.2.2.1
    have hCt := (hC.2.2.2 t ht).2.2
    unfold lX5_allNumbers_14
    refine p_it (P := fun s => ∃ i, i ≤ (aK A t).length ∧ s = (nI (a + suUp (fun i => suUp (fun c => dgt c ((aK A t).getD i 0)) 3) i), nI i)) (μ := fun s => 20 - s.2.toInt.toNat) (fun s p => ?_) ⟨0, by omega, rfl⟩
    obtain ⟨i, hi, rfl⟩ := p
    dsimp only
    refine t_be (rI_n (by omega) (by omega)) ?_
    rw [hCt.1]
    refine t_ite (fun d => ?_) (fun d => ?_)
    · have := (nI_leI (by omega) (by omega)).mp d
      have : i = (aK A t).length := by omega
      rw [this]
      exact t_ret rfl
    · have := mt (nI_leI (a := (aK A t).length) (b := i) (by omega) (by omega)).mpr d
      have kl := k_lt w i (by omega)
      refine t_be (c_rowAt (i := i) (by omega) w4 hCt (by omega)) ?_
      rw [pk_shrN (by omega) 14 14 (by decide), pk_shrN (by omega) 7 7 (by decide), pk_andN (by omega) 7 (by decide), pk_andN (by omega) 7 (by decide), nI_add, nI_add, nI_add, nI_1]
      refine t_nx ⟨i + 1, by omega, ?_⟩ (show 20 - (nI (i + 1)).toInt.toNat < 20 - (nI i).toInt.toNat by rw [nIt (by omega), nIt (by omega)]; omega)
      refine Prod.ext ?_ rfl
      dsimp only
      congr 1
      show _ = a + (suUp _ i + (((0 + dgt 0 _) + dgt 1 _) + dgt 2 _))
      rw [dgt_0, dgt_1, dgt_2, Nat.zero_add, Nat.add_assoc]
  have key : lX5_allNumbers_4 k I (nI 0, nI 0) = some (nI (suUp (fun t => suUp (fun i => suUp (fun c => dgt c ((aK A t).getD i 0)) 3) (aK A t).length) A.1.length)) := by
    unfold lX5_allNumbers_4
    refine p_it (P := fun s => ∃ t, t ≤ A.1.length ∧ s = (nI (suUp (fun t => suUp (fun i => suUp (fun c => dgt c ((aK A t).getD i 0)) 3) (aK A t).length) t), nI t)) (μ := fun s => 20 - s.2.toInt.toNat) (fun s p => ?_) ⟨0, by omega, rfl⟩
    obtain ⟨t, hc, rfl⟩ := p
    dsimp only
    refine t_ite (fun d => ?_) (fun d => ?_)
    · rw [hC.1] at d
      have d := (nI_leI (by omega) (by omega)).mp d
      have : t = A.1.length := by omega
      rw [this]
      exact t_ret rfl
    · rw [hC.1] at d
      have d := mt (nI_leI (a := A.1.length) (b := t) (by omega) (by omega)).mpr d
      refine t_be (inner t (by omega) _) ?_
      rw [nI_1]
      exact t_nx ⟨t + 1, by omega, rfl⟩ (show 20 - (nI (t + 1)).toInt.toNat < 20 - (nI t).toInt.toNat by rw [nIt (by omega), nIt (by omega)]; omega)
  unfold fX5_allNumbers
  rw [show ((0 : Int32), (0 : Int32)) = (nI 0, nI 0) from rfl, key, obs]
theorem suUp_cong {f g : Nat → Nat} : ∀ {n : Nat}, (∀ i, i < n → f i = g i) → suUp f n = suUp g n
  | 0, _ => rfl
  | n + 1, h => by
    show suUp f n + f n = suUp g n + g n
    rw [suUp_cong (fun i hi => h i (by omega)), h n (by omega)]
theorem ds3 {wd q : Nat} (h : kOK wd q) (hw : 1 ≤ wd ∧ wd ≤ 3) : suUp (fun c => dgt c q) wd = suUp (fun c => dgt c q) 3 := by
  rcases (by omega : wd = 1 ∨ wd = 2 ∨ wd = 3) with rfl | rfl | rfl
  · show 0 + dgt 0 q = 0 + dgt 0 q + dgt 1 q + dgt 2 q
    rw [h.2.2.1 (by omega), h.2.2.2.2 (by omega)]; rfl
  · show 0 + dgt 0 q + dgt 1 q = 0 + dgt 0 q + dgt 1 q + dgt 2 q
    rw [h.2.2.2.2 (by omega)]; rfl
  · rfl
theorem n_sumR {R : gM} {A : aT} (hW : WF A) (hR : RT R (R 70) A) : fX9_sumOfRows R = some (nI (suUp (fun t => suUp (fun i => suUp (fun c => dgt c ((aK A t).getD i 0)) 3) (aK A t).length) A.1.length)) := by
  have hn4 := hW.1
  have cols : ∀ t, t < A.1.length → ∀ i, i < (aK A t).length → ∀ a, lX9_sumOfRows_26 (nI t) (nI i) R (nI a, nI 0) = some (nI (a + suUp (fun c => dgt c ((aK A t).getD i 0)) 3)) := fun t ht i hi a => by
    have w := hW.2.2.2.2 t ht
    have w1 := w.1
    have w4 := w.2.2.2.1
    obtain ⟨g1, _, _, g4⟩ := hR.2.2.2 t ht
    rw [← ds3 (w.2.2.2.2.2 i hi) w1]
    unfold lX9_sumOfRows_26
    refine p_it (P := fun s => ∃ c, c ≤ (aL A t).length ∧ s = (nI (a + suUp (fun c => dgt c ((aK A t).getD i 0)) c), nI c)) (μ := fun s => 20 - s.2.toInt.toNat) (fun s p => ?_) ⟨0, by omega, rfl⟩
    obtain ⟨c, hc, rfl⟩ := p
    dsimp only
    refine t_be (rI_n (by omega) (by omega)) ?_
    rw [g1]
    refine t_ite (fun d => ?_) (fun d => ?_)
    · have d := (nI_leI (by omega) (by omega)).mp d
      have : c = (aL A t).length := by omega
      rw [this]
      exact t_ret rfl
    · have d := mt (nI_leI (a := (aL A t).length) (b := c) (by omega) (by omega)).mpr d
      refine t_be (n_rowAt t i) ?_
      rw [nI_add]
      refine t_be (rI_n (by omega) (by omega)) ?_
      rw [g4 i hi c (by omega), if_pos (show c < (aL A t).length by omega), nI_add, nI_1]
      refine t_nx ⟨c + 1, by omega, ?_⟩ (show 20 - (nI (c + 1)).toInt.toNat < 20 - (nI c).toInt.toNat by rw [nIt (by omega), nIt (by omega)]; omega)
      refine Prod.ext ?_ rfl
      dsimp only
      rw [Nat.add_assoc]; rfl
  have inner : ∀ t, t < A.1.length → ∀ a, lX9_sumOfRows_14 (nI t) R (nI a, nI 0) = some (nI (a + suUp (fun i => suUp (fun c => dgt c ((aK A t).getD i 0)) 3) (aK A t).length)) := fun t ht a => by
    have w4 := (hW.2.2.2.2 t ht).2.2.2.1
    have hRt := (hR.2.2.2 t ht).2.2
    unfold lX9_sumOfRows_14
    refine p_it (P := fun s => ∃ i, i ≤ (aK A t).length ∧ s = (nI (a + suUp (fun i => suUp (fun c => dgt c ((aK A t).getD i 0)) 3) i), nI i)) (μ := fun s => 20 - s.2.toInt.toNat) (fun s p => ?_) ⟨0, by omega, rfl⟩
    obtain ⟨i, hi, rfl⟩ := p
    dsimp only
    refine t_be (n_many (by omega) R) ?_
    rw [hRt.1]
    refine t_ite (fun d => ?_) (fun d => ?_)
    · have := (nI_leI (by omega) (by omega)).mp d
      have : i = (aK A t).length := by omega
      rw [this]
      exact t_ret rfl
    · have := mt (nI_leI (a := (aK A t).length) (b := i) (by omega) (by omega)).mpr d
      refine t_be (cols t ht i (by omega) _) ?_
      rw [nI_1]
      refine t_nx ⟨i + 1, by omega, ?_⟩ (show 20 - (nI (i + 1)).toInt.toNat < 20 - (nI i).toInt.toNat by rw [nIt (by omega), nIt (by omega)]; omega)
      refine Prod.ext ?_ rfl
      dsimp only
      rw [Nat.add_assoc]; rfl
  have key : lX9_sumOfRows_4 R (nI 0, nI 0) = some (nI (suUp (fun t => suUp (fun i => suUp (fun c => dgt c ((aK A t).getD i 0)) 3) (aK A t).length) A.1.length)) := by
    unfold lX9_sumOfRows_4
    refine p_it (P := fun s => ∃ t, t ≤ A.1.length ∧ s = (nI (suUp (fun t => suUp (fun i => suUp (fun c => dgt c ((aK A t).getD i 0)) 3) (aK A t).length) t), nI t)) (μ := fun s => 20 - s.2.toInt.toNat) (fun s p => ?_) ⟨0, by omega, rfl⟩
    obtain ⟨t, hc, rfl⟩ := p
    dsimp only
    refine t_ite (fun d => ?_) (fun d => ?_)
    · rw [hR.1] at d
      have d := (nI_leI (by omega) (by omega)).mp d
      have : t = A.1.length := by omega
      rw [this]
      exact t_ret rfl
    · rw [hR.1] at d
      have d := mt (nI_leI (a := A.1.length) (b := t) (by omega) (by omega)).mpr d
      refine t_be (inner t (by omega) _) ?_
      rw [nI_1]
      exact t_nx ⟨t + 1, by omega, rfl⟩ (show 20 - (nI (t + 1)).toInt.toNat < 20 - (nI t).toInt.toNat by rw [nIt (by omega), nIt (by omega)]; omega)
  unfold fX9_sumOfRows
  rw [show ((0 : Int32), (0 : Int32)) = (nI 0, nI 0) from rfl, key, obs]
/-- the table with most rows -/
theorem two_mostRows {M R : gM} {A : aT} (hW : WF A) (h0 : 0 < A.1.length) (hC : CT M 3 A) (hR : RT R (R 70) A) {r : Int32} (e : fX8_tableWithMostRows M = some r) : fX9_greatestTable 0 R = some r := by
  have hn4 := hW.1
  unfold fX8_tableWithMostRows at e
  obtain ⟨w, ew, e⟩ := ob e
  obtain rfl := Option.some.inj e
  unfold lX8_tableWithMostRows_4 at ew
  unfold fX9_greatestTable lX9_greatestTable_4
  obtain ⟨w', ew', q⟩ := it_two (g := fun s : Int32 × Int32 => if (R 62 17) ≤ s.2 then some (.inr s.1) else if (0 : Int32) = 0 then (fX9_many s.2 R).bind fun r1 => (fX9_many s.1 R).bind fun r2 => if r1 ≤ r2 then bX9_greatestTable_61 s.1 s.2 (0 : Int32) else bX9_greatestTable_61 s.1 s.2 (1 : Int32) else (fX9_givenBy s.2 R).bind fun r3 => (fX9_bits r3).bind fun r4 => (fX9_givenBy s.1 R).bind fun r5 => (fX9_bits r5).bind fun r6 => if r4 ≤ r6 then bX9_greatestTable_61 s.1 s.2 (0 : Int32) else bX9_greatestTable_61 s.1 s.2 (1 : Int32)) (fun s t : Int32 × Int32 => s = t ∧ ∃ u t, u < A.1.length ∧ t ≤ A.1.length ∧ s = (nI u, nI t)) (fun a b : Int32 => a = b) (fun s t hst y hy => by
    obtain ⟨rfl, u, t, hu, ht, rfl⟩ := hst
    dsimp only at hy ⊢
    have wu := (hW.2.2.2.2 u hu).2.2.2.1
    have cu := (hC.2.2.2 u hu).2.2.1
    have ru := (hR.2.2.2 u hu).2.2.1
    rcases oi hy with ⟨c, hy⟩ | ⟨c, hy⟩
    · rw [hC.1] at c
      rw [hR.1, if_pos c]
      obtain rfl := Option.some.inj hy
      exact ⟨_, rfl, Or.inr ⟨_, _, rfl, rfl, rfl⟩⟩
    · rw [hC.1] at c
      have c' := mt (nI_leI (a := A.1.length) (b := t) (by omega) (by omega)).mpr c
      have ct := (hC.2.2.2 t (by omega)).2.2.1
      have rt := (hR.2.2.2 t (by omega)).2.2.1
      rw [hR.1, if_neg c, if_pos rfl, n_many (by omega), obs, n_many (by omega), obs, rt, ru]
      rw [rI_n (by omega) (by omega), obs, rI_n (by omega) (by omega), obs, show M 5 t = M (3 + 2) t from rfl, ct, show M 5 u = M (3 + 2) u from rfl, cu] at hy
      unfold bX8_tableWithMostRows_38 at hy
      unfold bX9_greatestTable_61 bX9_greatestTable_73
      rcases oi hy with ⟨d, hy⟩ | ⟨d, hy⟩
      · rw [if_pos d, if_pos rfl]
        obtain rfl := Option.some.inj hy
        exact ⟨_, rfl, Or.inl ⟨_, _, rfl, rfl, rfl, u, t + 1, hu, by omega, by rw [nI_1]⟩⟩
      · rw [if_neg d, if_neg (by decide)]
        obtain rfl := Option.some.inj hy
        exact ⟨_, rfl, Or.inl ⟨_, _, rfl, rfl, rfl, t, t + 1, by omega, by omega, by rw [nI_1]⟩⟩) (s := (0, 1)) (t := (0, 1)) ⟨rfl, 0, 1, h0, h0, rfl⟩ ew
  subst q
  rw [ew', obs]
/-- the table with most rows given -/
theorem two_mostGiven {M R : gM} {A : aT} (hW : WF A) (h0 : 0 < A.1.length) (hC : CT M 3 A) (hR : RT R (R 70) A) (hG : ∀ t, t < A.1.length → ∃ B, B < 4096 ∧ fX0_givenBits 18 3 (nI t) M = some (nI B) ∧ fX9_givenBy (nI t) R = some (nI B)) {r : Int32} (e : fX8_tableWithMostGiven M = some r) : fX9_greatestTable 1 R = some r := by
  have hn4 := hW.1
  unfold fX8_tableWithMostGiven at e
  obtain ⟨B0, b0, g0, g0'⟩ := hG 0 h0
  rw [show (0 : Int32) = nI 0 from rfl, c_givenRows g0 b0, obs] at e
  obtain ⟨w, ew, e⟩ := ob e
  obtain rfl := Option.some.inj e
  unfold lX8_tableWithMostGiven_10 at ew
  unfold fX9_greatestTable lX9_greatestTable_4
  obtain ⟨w', ew', q⟩ := it_two (g := fun s : Int32 × Int32 => if (R 62 17) ≤ s.2 then some (.inr s.1) else if (1 : Int32) = 0 then (fX9_many s.2 R).bind fun r1 => (fX9_many s.1 R).bind fun r2 => if r1 ≤ r2 then bX9_greatestTable_61 s.1 s.2 (0 : Int32) else bX9_greatestTable_61 s.1 s.2 (1 : Int32) else (fX9_givenBy s.2 R).bind fun r3 => (fX9_bits r3).bind fun r4 => (fX9_givenBy s.1 R).bind fun r5 => (fX9_bits r5).bind fun r6 => if r4 ≤ r6 then bX9_greatestTable_61 s.1 s.2 (0 : Int32) else bX9_greatestTable_61 s.1 s.2 (1 : Int32)) (fun (s : Int32 × Int32 × Int32) (t' : Int32 × Int32) => ∃ u t B, u < A.1.length ∧ t ≤ A.1.length ∧ B < 4096 ∧ fX9_givenBy (nI u) R = some (nI B) ∧ s = (nI u, nI (pc12 B), nI t) ∧ t' = (nI u, nI t)) (fun a b : Int32 => a = b) (fun s t' hst y hy => by
    obtain ⟨u, t, B, hu, ht, hB, gu, rfl, rfl⟩ := hst
    dsimp only at hy ⊢
    rcases oi hy with ⟨c, hy⟩ | ⟨c, hy⟩
    · rw [hC.1] at c
      rw [hR.1, if_pos c]
      obtain rfl := Option.some.inj hy
      exact ⟨_, rfl, Or.inr ⟨_, _, rfl, rfl, rfl⟩⟩
    · rw [hC.1] at c
      have c' := mt (nI_leI (a := A.1.length) (b := t) (by omega) (by omega)).mpr c
      obtain ⟨B', hB', gt, gt'⟩ := hG t (by omega)
      rw [hR.1, if_neg c, if_neg (by decide), gt', obs, n_bits hB', obs, gu, obs, n_bits hB, obs]
      rw [c_givenRows gt hB', obs] at hy
      unfold bX8_tableWithMostGiven_39 at hy
      unfold bX9_greatestTable_61 bX9_greatestTable_73
      rcases oi hy with ⟨d, hy⟩ | ⟨d, hy⟩
      · rw [if_pos d, if_pos rfl]
        obtain rfl := Option.some.inj hy
        exact ⟨_, rfl, Or.inl ⟨_, _, rfl, rfl, u, t + 1, B, hu, by omega, hB, gu, by rw [nI_1], by rw [nI_1]⟩⟩
      · rw [if_neg d, if_neg (by decide)]
        obtain rfl := Option.some.inj hy
        exact ⟨_, rfl, Or.inl ⟨_, _, rfl, rfl, t, t + 1, B', by omega, by omega, hB', gt', by rw [nI_1], by rw [nI_1]⟩⟩) (s := (nI 0, nI (pc12 B0), 1)) (t := (0, 1)) ⟨0, 1, B0, h0, h0, b0, g0', rfl, rfl⟩ ew
  subst q
  rw [ew', obs]
/-- rows that dangle -/
theorem two_dangling {M R : gM} {A : aT} (hW : WF A) (hC : CT M 3 A) (hR : RT R (R 70) A) (hG : ∀ t, t < A.1.length → ∃ B, B < 4096 ∧ fX0_givenBits 18 3 (nI t) M = some (nI B) ∧ fX9_givenBy (nI t) R = some (nI B)) {r : Int32} (e : fX8_dangling M = some r) : fX9_notGiven R = some r := by
  have hn4 := hW.1
  unfold fX8_dangling at e
  obtain ⟨w, ew, e⟩ := ob e
  obtain rfl := Option.some.inj e
  unfold lX8_dangling_4 at ew
  unfold fX9_notGiven lX9_notGiven_4
  obtain ⟨w', ew', q⟩ := it_two (g := fun s : Int32 × Int32 => if (R 62 17) ≤ s.2 then some (.inr s.1) else (fX9_isUsed s.2 R).bind fun r1 => if r1 = 0 then bX9_notGiven_39 s.2 (0 : Int32) s.1 else (fX9_many s.2 R).bind fun r2 => (fX9_givenBy s.2 R).bind fun r3 => (fX9_bits r3).bind fun r4 => bX9_notGiven_39 s.2 (r2 - r4) s.1) (fun s t' : Int32 × Int32 => s = t' ∧ ∃ t, t ≤ A.1.length ∧ s.2 = nI t) (fun a b : Int32 => a = b) (fun s t' hst y hy => by
    obtain ⟨s1, s2⟩ := s
    obtain ⟨rfl, t, ht, e⟩ := hst
    dsimp only at e
    subst e
    dsimp only at hy ⊢
    rcases oi hy with ⟨c, hy⟩ | ⟨c, hy⟩
    · rw [hC.1] at c
      rw [hR.1, if_pos c]
      obtain rfl := Option.some.inj hy
      exact ⟨_, rfl, Or.inr ⟨_, _, rfl, rfl, rfl⟩⟩
    · rw [hC.1] at c
      have c' := mt (nI_leI (a := A.1.length) (b := t) (by omega) (by omega)).mpr c
      obtain ⟨B', hB', gt, gt'⟩ := hG t (by omega)
      have ct := (hC.2.2.2 t (by omega)).2.2.1
      have rt := (hR.2.2.2 t (by omega)).2.2.1
      have w4 := (hW.2.2.2.2 t (by omega)).2.2.2.1
      rw [hR.1, if_neg c, n_usedK hW hR (by omega), obs]
      rw [c_isUsed hW hC (by omega), obs] at hy
      unfold bX8_dangling_44 at hy
      unfold bX9_notGiven_39
      by_cases u : A.2.1.testBit t = true
      · rw [if_pos u, if_neg n10] at hy ⊢
        rw [rI_n (by omega) (by omega), obs, c_givenRows gt hB', obs, show M 5 t = M (3 + 2) t from rfl, ct] at hy
        rw [n_many (by omega), obs, gt', obs, n_bits hB', obs, rt]
        obtain rfl := Option.some.inj hy
        exact ⟨_, rfl, Or.inl ⟨_, _, rfl, rfl, rfl, t + 1, by omega, nI_1 _⟩⟩
      · rw [if_neg u, if_pos rfl] at hy ⊢
        obtain rfl := Option.some.inj hy
        exact ⟨_, rfl, Or.inl ⟨_, _, rfl, rfl, by rw [Int32.add_zero], t + 1, by omega, nI_1 _⟩⟩) (s := (0, 0)) (t := (0, 0)) ⟨rfl, 0, Nat.zero_le _, rfl⟩ ew
  subst q
  rw [ew', obs]
