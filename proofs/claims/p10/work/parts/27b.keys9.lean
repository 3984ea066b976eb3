/-! the reference's join: the keys of a depth -/
/-- n keys of a cell, rising, and what is among them -/
def KS (K : Nat → Int32) (c n : Nat) (P : Int32 → Prop) : Prop := (∀ i j, i < j → j < n → (K (12 * c + i)).toInt < (K (12 * c + j)).toInt) ∧ ∀ v, P v ↔ ∃ j, j < n ∧ K (12 * c + j) = v
theorem KS.iff {K : Nat → Int32} {c n : Nat} {P Q : Int32 → Prop} (h : KS K c n P) (e : ∀ v, Q v ↔ P v) : KS K c n Q := ⟨h.1, fun v => (e v).trans (h.2 v)⟩
theorem KS.same {K K' : Nat → Int32} {c n : Nat} {P : Int32 → Prop} (h : KS K c n P) (e : ∀ j, j < n → K' (12 * c + j) = K (12 * c + j)) : KS K' c n P := by
  refine ⟨fun i j a b => ?_, fun v => (h.2 v).trans ⟨?_, ?_⟩⟩
  · rw [e i (by omega), e j b]; exact h.1 i j a b
  · rintro ⟨j, a, b⟩; exact ⟨j, a, by rw [e j a]; exact b⟩
  · rintro ⟨j, a, b⟩; exact ⟨j, a, by rw [← e j a]; exact b⟩
theorem n_takesKey10 {I : gM} {c n : Nat} (hc : c < 16) (hn : n ≤ 11) (v : Int32) : ∃ k, lX9_takesKey_10 (nI c) v I (nI n) = some (nI k) ∧ k ≤ n ∧ (∀ j, k ≤ j → j < n → v.toInt < (I 76 (12 * c + j)).toInt) ∧ (k = 0 ∨ (I 76 (12 * c + k - 1)).toInt ≤ v.toInt) := by
  have key : T (lX9_takesKey_10 (nI c) v I (nI n)) (fun r => ∃ k, r = nI k ∧ k ≤ n ∧ (∀ j, k ≤ j → j < n → v.toInt < (I 76 (12 * c + j)).toInt) ∧ (k = 0 ∨ (I 76 (12 * c + k - 1)).toInt ≤ v.toInt)) := by
    unfold lX9_takesKey_10
    refine t_it (P := fun s => ∃ k, s = nI k ∧ k ≤ n ∧ ∀ j, k ≤ j → j < n → v.toInt < (I 76 (12 * c + j)).toInt) (μ := fun s => s.toInt.toNat) (fun s p => ?_) ⟨n, rfl, by omega, fun j a b => by omega⟩
    obtain ⟨k, rfl, h1, h2⟩ := p
    refine t_ite (fun c1 => ?_) (fun c1 => ?_)
    · have c1 := (nI_leI (b := 0) (by omega) (by omega)).mp c1
      exact t_ret (show ∃ k', nI k = nI k' ∧ k' ≤ n ∧ (∀ j, k' ≤ j → j < n → v.toInt < (I 76 (12 * c + j)).toInt) ∧ (k' = 0 ∨ (I 76 (12 * c + k' - 1)).toInt ≤ v.toInt) from ⟨k, rfl, h1, h2, Or.inl (by omega)⟩)
    · have c1 := mt (nI_leI (a := k) (b := 0) (by omega) (by omega)).mpr c1
      rw [a12, nI_s1 (by omega), rI_n (by omega) (by omega), obs]
      refine t_ite (fun c2 => ?_) (fun c2 => ?_)
      · exact t_ret (show ∃ k', nI k = nI k' ∧ k' ≤ n ∧ (∀ j, k' ≤ j → j < n → v.toInt < (I 76 (12 * c + j)).toInt) ∧ (k' = 0 ∨ (I 76 (12 * c + k' - 1)).toInt ≤ v.toInt) from ⟨k, rfl, h1, h2, Or.inr ((iLE rfl rfl).mp c2)⟩)
      · have c2 := mt (iLE (a := I 76 (12 * c + k - 1)) (b := v) rfl rfl).mpr c2
        rw [nI_dec (by omega)]
        refine t_ret (show _ ∧ _ from ⟨⟨k - 1, rfl, by omega, fun j a b => ?_⟩, ?_⟩)
        · rcases (by omega : k ≤ j ∨ j = k - 1) with q | q
          · exact h2 j q b
          · rw [q, show 12 * c + (k - 1) = 12 * c + k - 1 by omega]; omega
        · show (nI (k - 1)).toInt.toNat < (nI k).toInt.toNat
          rw [nIt (by omega), nIt (by omega)]; omega
  obtain ⟨r, e, k, rfl, h⟩ := key
  exact ⟨k, e, h⟩
theorem n_takesKey66 {I : gM} {c n k : Nat} (hc : c < 16) (hn : n ≤ 11) (hk : k ≤ n) : T (lX9_takesKey_66 (nI c) (nI k) (nI n, I)) (fun r => (∀ q, q ≠ 76 → r q = I q) ∧ ∀ a, r 76 a = if 12 * c + k < a ∧ a ≤ 12 * c + n then I 76 (a - 1) else I 76 a) := by
  unfold lX9_takesKey_66
  refine t_it (P := fun s => ∃ i, s.1 = nI i ∧ k ≤ i ∧ i ≤ n ∧ (∀ q, q ≠ 76 → s.2 q = I q) ∧ ∀ a, s.2 76 a = if 12 * c + i < a ∧ a ≤ 12 * c + n then I 76 (a - 1) else I 76 a) (μ := fun s => s.1.toInt.toNat) (fun s p => ?_) ⟨n, rfl, hk, by omega, fun _ _ => rfl, fun a => by rw [if_neg (by omega)]⟩
  obtain ⟨s1, s2⟩ := s
  obtain ⟨i, e1, h1, h2, h3, h4⟩ := p
  dsimp only at e1 h3 h4
  subst e1
  refine t_ite (fun c1 => ?_) (fun c1 => ?_)
  · have c1 := (nI_leI (by omega) (by omega)).mp c1
    obtain rfl : i = k := by omega
    exact t_ret (show (∀ q, q ≠ 76 → s2 q = I q) ∧ ∀ a, s2 76 a = if 12 * c + i < a ∧ a ≤ 12 * c + n then I 76 (a - 1) else I 76 a from ⟨h3, h4⟩)
  · have c1 := mt (nI_leI (a := i) (b := k) (by omega) (by omega)).mpr c1
    dsimp only
    rw [a12, nI_s1 (by omega), rI_n (by omega) (by omega), obs]
    rw [wI_n (by omega) (by omega), obs]
    refine t_ret (show _ ∧ _ from ⟨⟨i - 1, nI_dec (by omega), by omega, by omega, fun q h => ?_, fun a => ?_⟩, ?_⟩)
    · show g_up s2 76 _ _ q = I q
      rw [g_up_row h]; exact h3 q h
    · show g_up s2 76 (12 * c + i) (s2 76 (12 * c + i - 1)) 76 a = _
      rw [gu_in, h4, h4]
      by_cases z : a = 12 * c + i
      · rw [if_pos z, if_neg (by omega), if_pos (by omega), z]
      · rw [if_neg z]
        by_cases z2 : 12 * c + i < a ∧ a ≤ 12 * c + n
        · rw [if_pos z2, if_pos (by omega)]
        · rw [if_neg z2, if_neg (by omega)]
    · show (nI i + (-1)).toInt.toNat < (nI i).toInt.toNat
      rw [nI_dec (by omega), nIt (by omega), nIt (by omega)]; omega
theorem n_takesKey {I : gM} {c n : Nat} (hc : c < 16) (hn : n ≤ 11) (e : I 77 c = nI n) (v : Int32) {P : Int32 → Prop} (hK : KS (I 76) c n P) : ∃ r n', fX9_takesKey (nI c) v I = some r ∧ n' ≤ n + 1 ∧ (∀ j, r 77 j = if j = c then nI n' else I 77 j) ∧ KS (r 76) c n' (fun u => P u ∨ u = v) ∧ (∀ q, q ≠ 76 → q ≠ 77 → r q = I q) ∧ (∀ a, (a < 12 * c ∨ 12 * c + 12 ≤ a) → r 76 a = I 76 a) ∧ (∀ a, r 76 a = v ∨ ∃ b, r 76 a = I 76 b) := by
  obtain ⟨k, e1, k1, k2, k3⟩ := n_takesKey10 (I := I) hc hn v
  unfold fX9_takesKey
  rw [rI_n (by omega) (by omega), obs, e, e1, obs]
  unfold bX9_takesKey_39
  have ins : (k = 0 ∨ (I 76 (12 * c + k - 1)).toInt < v.toInt) → ∃ r n', bX9_takesKey_63 (nI c) v (nI n) (nI k) I = some r ∧ n' ≤ n + 1 ∧ (∀ j, r 77 j = if j = c then nI n' else I 77 j) ∧ KS (r 76) c n' (fun u => P u ∨ u = v) ∧ (∀ q, q ≠ 76 → q ≠ 77 → r q = I q) ∧ (∀ a, (a < 12 * c ∨ 12 * c + 12 ≤ a) → r 76 a = I 76 a) ∧ (∀ a, r 76 a = v ∨ ∃ b, r 76 a = I 76 b) := fun hk => by
    obtain ⟨w, ew, w1, w2⟩ := n_takesKey66 (I := I) hc hn k1
    unfold bX9_takesKey_63
    rw [ew, obs, a12, wI_n (by omega) (by omega), obs, rI_n (by omega) (by omega), obs, g_up_row (by omega), w1 77 (by omega), e, nI_1, wI_n (by omega) (by omega), obs]
    have v76 : ∀ a, g_up (g_up w 76 (12 * c + k) v) 77 c (nI (n + 1)) 76 a = if a = 12 * c + k then v else if 12 * c + k < a ∧ a ≤ 12 * c + n then I 76 (a - 1) else I 76 a := fun a => by
      rw [g_up_row (by omega), gu_in, w2]
    have vl1 : ∀ j, j < k → g_up (g_up w 76 (12 * c + k) v) 77 c (nI (n + 1)) 76 (12 * c + j) = I 76 (12 * c + j) := fun j h => by
      rw [v76, if_neg (by omega), if_neg (by omega)]
    have vl2 : g_up (g_up w 76 (12 * c + k) v) 77 c (nI (n + 1)) 76 (12 * c + k) = v := by rw [v76, if_pos rfl]
    have vl3 : ∀ j, k < j → j < n + 1 → g_up (g_up w 76 (12 * c + k) v) 77 c (nI (n + 1)) 76 (12 * c + j) = I 76 (12 * c + (j - 1)) := fun j h h' => by
      rw [v76, if_neg (by omega), if_pos (by omega), show 12 * c + j - 1 = 12 * c + (j - 1) by omega]
    have hk' : 0 < k → (I 76 (12 * c + (k - 1))).toInt < v.toInt := fun h => by
      rcases hk with q | q
      · omega
      · rw [show 12 * c + (k - 1) = 12 * c + k - 1 by omega]; exact q
    refine ⟨_, n + 1, rfl, by omega, fun j => ?_, ⟨fun i j a b => ?_, fun u => ⟨?_, ?_⟩⟩, fun q h1 h2 => ?_, fun a h => ?_, fun a => ?_⟩
    · rw [gu_in, g_up_row (by omega), w1 77 (by omega)]
    · rcases (by omega : j < k ∨ j = k ∨ k < j) with z | z | z
      · rw [vl1 i (by omega), vl1 j z]; exact hK.1 i j a (by omega)
      · rw [z, vl2, vl1 i (by omega)]
        have h1 := hk' (by omega)
        by_cases y : i = k - 1
        · rw [y]; exact h1
        · have := hK.1 i (k - 1) (by omega) (by omega)
          omega
      · rw [vl3 j z b]
        rcases (by omega : i < k ∨ i = k ∨ k < i) with y | y | y
        · rw [vl1 i y]; exact hK.1 i (j - 1) (by omega) (by omega)
        · rw [y, vl2]; exact k2 (j - 1) (by omega) (by omega)
        · rw [vl3 i y (by omega)]; exact hK.1 (i - 1) (j - 1) (by omega) (by omega)
    · rintro (h | h)
      · obtain ⟨j, a, b⟩ := (hK.2 u).mp h
        by_cases z : j < k
        · exact ⟨j, by omega, by rw [v76, if_neg (by omega), if_neg (by omega)]; exact b⟩
        · exact ⟨j + 1, by omega, by rw [v76, if_neg (by omega), if_pos (by omega), show 12 * c + (j + 1) - 1 = 12 * c + j by omega]; exact b⟩
      · exact ⟨k, by omega, by rw [v76, if_pos rfl]; exact h.symm⟩
    · rintro ⟨j, a, b⟩
      rw [v76] at b
      by_cases z1 : j = k
      · rw [if_pos (by omega)] at b; exact Or.inr b.symm
      · rw [if_neg (by omega)] at b
        by_cases z2 : k < j
        · rw [if_pos (by omega), show 12 * c + j - 1 = 12 * c + (j - 1) by omega] at b
          exact Or.inl ((hK.2 u).mpr ⟨j - 1, by omega, b⟩)
        · rw [if_neg (by omega)] at b
          exact Or.inl ((hK.2 u).mpr ⟨j, by omega, b⟩)
    · rw [g_up_row h2, g_up_row h1, w1 q h1]
    · rw [v76, if_neg (by omega), if_neg (by omega)]
    · rw [v76]
      by_cases z1 : a = 12 * c + k
      · rw [if_pos z1]; exact Or.inl rfl
      · rw [if_neg z1]
        by_cases z2 : 12 * c + k < a ∧ a ≤ 12 * c + n
        · rw [if_pos z2]; exact Or.inr ⟨_, rfl⟩
        · rw [if_neg z2]; exact Or.inr ⟨_, rfl⟩
  by_cases z : k = 0
  · subst z
    rw [if_pos (show nI 0 ≤ 0 from by decide)]
    exact ins (Or.inl rfl)
  · rw [if_neg (show ¬ nI k ≤ (0 : Int32) from mt (nI_leI (a := k) (b := 0) (by omega) (by omega)).mp (by omega)), a12, nI_s1 (by omega), rI_n (by omega) (by omega), obs]
    by_cases z2 : I 76 (12 * c + k - 1) = v
    · rw [if_pos z2]
      refine ⟨I, n, rfl, by omega, fun j => ?_, hK.iff (fun u => ⟨fun h => h.elim id (fun h => ?_), Or.inl⟩), fun _ _ _ => rfl, fun _ _ => rfl, fun a => Or.inr ⟨a, rfl⟩⟩
      · by_cases y : j = c
        · rw [if_pos y, y, e]
        · rw [if_neg y]
      · rw [h]; exact (hK.2 v).mpr ⟨k - 1, by omega, by rw [← z2, show 12 * c + (k - 1) = 12 * c + k - 1 by omega]⟩
    · rw [if_neg z2]
      refine ins (Or.inr ?_)
      rcases k3 with k3 | k3
      · exact absurd k3 z
      · have : ¬ (I 76 (12 * c + k - 1)).toInt = v.toInt := fun q => z2 (Int32.toInt_inj.mp q)
        omega
