/-! the class's tables as lists -/
/-- the rows of table t of the tables at cell k -/
def CTt (I : gM) (k t : Nat) (ks : List Nat) : Prop := I (k + 2) t = nI ks.length ∧ ∀ i, i < ks.length → I (k + 4) (12 * t + i) = nI (ks.getD i 0)
theorem CTt.cong {I r : gM} {k t : Nat} {ks : List Nat} (h : CTt I k t ks) (e1 : r (k + 2) t = I (k + 2) t) (e2 : ∀ i, i < ks.length → r (k + 4) (12 * t + i) = I (k + 4) (12 * t + i)) : CTt r k t ks := ⟨e1.trans h.1, fun i hi => (e2 i hi).trans (h.2 i hi)⟩
theorem c_rowAt {I : gM} {k t i : Nat} {ks : List Nat} (ht : t < 4) (hl : ks.length ≤ 12) (h : CTt I k t ks) (hi : i < ks.length) : fX5_rowAt k (nI t) (nI i) I = some (nI (ks.getD i 0)) := by
  unfold fX5_rowAt
  rw [L12, nI_mul, nI_add, rI_n (by omega) (by omega), obs, show t * 12 + i = 12 * t + i by omega, h.2 i hi]
theorem c_placeOf {I : gM} {k t q : Nat} {ks : List Nat} (ht : t < 4) (hl : ks.length ≤ 12) (h : CTt I k t ks) (hq : q < 2097152) (hk : ∀ i, i < ks.length → ks.getD i 0 < 2097152) :
    (∃ i, i < ks.length ∧ ks.getD i 0 = q ∧ fX5_placeOf k (nI t) (nI q) I = some (nI i)) ∨ ((∀ i, i < ks.length → ks.getD i 0 ≠ q) ∧ fX5_placeOf k (nI t) (nI q) I = some (-1)) := by
  have key : ∀ (m s : Nat), ks.length - s = m → s ≤ ks.length → (∀ j, j < s → ks.getD j 0 ≠ q) → (∃ i, i < ks.length ∧ ks.getD i 0 = q ∧ lX5_placeOf_2 k (nI t) (nI q) I (nI s) = some (.inl (nI i))) ∨ ((∀ i, i < ks.length → ks.getD i 0 ≠ q) ∧ lX5_placeOf_2 k (nI t) (nI q) I (nI s) = some (.inr ())) := by
    intro m
    induction m with
    | zero =>
      intro s hm hs hn
      refine Or.inr ⟨fun i hi => hn i (by omega), ?_⟩
      unfold lX5_placeOf_2
      refine it_r ?_
      rw [rI_n ht (by omega), obs, h.1, if_pos ((nI_leI (by omega) (by omega)).mpr (by omega))]
    | succ m ih =>
      intro s hm hs hn
      have hr := c_rowAt (i := s) ht hl h (by omega)
      have hks := hk s (by omega)
      by_cases c : ks.getD s 0 = q
      · refine Or.inl ⟨s, by omega, c, ?_⟩
        unfold lX5_placeOf_2
        refine it_r ?_
        rw [rI_n ht (by omega), obs, h.1, if_neg (mt (nI_leI (by omega) (by omega)).mp (by omega)), hr, obs, if_pos (by rw [c])]
      · have e : lX5_placeOf_2 k (nI t) (nI q) I (nI s) = lX5_placeOf_2 k (nI t) (nI q) I (nI (s + 1)) := by
          unfold lX5_placeOf_2
          refine it_l ?_
          rw [rI_n ht (by omega), obs, h.1, if_neg (mt (nI_leI (by omega) (by omega)).mp (by omega)), hr, obs, if_neg (fun z => c (nI_inj z (by omega) (by omega))), nI_1]
        rw [e]
        exact ih (s + 1) (by omega) (by omega) (fun j hj => by
          rcases (by omega : j < s ∨ j = s) with z | z
          · exact hn j z
          · rw [z]; exact c)
  unfold fX5_placeOf
  rw [L0]
  rcases key _ 0 rfl (by omega) (fun j hj => by omega) with ⟨i, h1, h2, h3⟩ | ⟨h1, h3⟩
  · rw [h3]; exact Or.inl ⟨i, h1, h2, rfl⟩
  · rw [h3]; exact Or.inr ⟨h1, rfl⟩
theorem c_isTable {I : gM} {k n : Nat} (hn : n ≤ 4) (e : I k 0 = nI n) (v : Int32) : (∃ t, t < n ∧ v = nI t ∧ fX5_isTable k v I = some 1) ∨ ((∀ t, t < n → v ≠ nI t) ∧ fX5_isTable k v I = some 0) := by
  unfold fX5_isTable
  rw [e]
  by_cases c : v < 0
  · have c' := (iLT (a := v) (b := 0) rfl (by decide : (0 : Int32).toInt = 0)).mp c
    rw [if_pos c]
    exact Or.inr ⟨fun t ht z => by rw [z, tnI (by omega)] at c'; omega, rfl⟩
  · have c' := mt (iLT (a := v) (b := 0) rfl (by decide : (0 : Int32).toInt = 0)).mpr c
    rw [if_neg c]
    have ev := nI_self (x := v) (by omega)
    by_cases d : nI n ≤ v
    · rw [if_pos d]
      refine Or.inr ⟨fun t ht z => ?_, rfl⟩
      rw [z] at d
      have := (nI_leI (by omega) (by omega)).mp d
      omega
    · rw [if_neg d]
      refine Or.inl ⟨v.toInt.toNat, ?_, ev, rfl⟩
      have h2 := mt (iLE (a := nI n) (b := v) (tnI (by omega)) rfl).mpr d
      omega
/-- the places of an insertion: k + 4 as written -/
def iw (w : Nat → Int32) (t m i : Nat) (q : Int32) : Nat → Int32 := fun a => if a = 12 * t + i then q else if 12 * t + i < a ∧ a ≤ 12 * t + m then w (a - 1) else w a
theorem c_insert {I : gM} {k n t q : Nat} {ks : List Nat} (hn : n ≤ 4) (e : I k 0 = nI n) (ht : t < n) (hl : ks.length ≤ 11) (h : CTt I k t ks) (hq : q < 2097152) (hk : ∀ i, i < ks.length → ks.getD i 0 < 2097152) (hs : srt ks) (hno : ∀ i, i < ks.length → ks.getD i 0 ≠ q) :
    ∃ i r, fX5_insert k (nI t) (nI q) I = some r ∧ posK q ks i ∧ (∀ x, x ≠ k + 2 → x ≠ k + 4 → r x = I x) ∧ (∀ a, r (k + 2) a = if a = t then nI (ks.length + 1) else I (k + 2) a) ∧ ∀ a, r (k + 4) a = iw (I (k + 4)) t ks.length i (nI q) a := by
  have h1 : fX5_isTable k (nI t) I = some 1 := by
    rcases c_isTable hn e (nI t) with ⟨_, _, _, z⟩ | ⟨z, _⟩
    · exact z
    · exact absurd rfl (z t ht)
  have h2 : fX5_placeOf k (nI t) (nI q) I = some (-1) := by
    rcases c_placeOf (by omega) (by omega) h hq hk with ⟨i, a, b, _⟩ | ⟨_, z⟩
    · exact absurd b (hno i a)
    · exact z
  -- the loop: rows from i on moved by one
  have key : ∀ (s : Nat) (M : gM), s ≤ ks.length → (∀ x, x ≠ k + 4 → M x = I x) → (∀ a, M (k + 4) a = if 12 * t + s < a ∧ a ≤ 12 * t + ks.length then I (k + 4) (a - 1) else I (k + 4) a) → (∀ j, s ≤ j → j < ks.length → q < ks.getD j 0) →
      ∃ i N, lX5_insert_45 k (nI q) (nI (12 * t)) (nI (12 * t + s), M) = some (nI (12 * t + i), N) ∧ posK q ks i ∧ (∀ x, x ≠ k + 4 → N x = I x) ∧ ∀ a, N (k + 4) a = if 12 * t + i < a ∧ a ≤ 12 * t + ks.length then I (k + 4) (a - 1) else I (k + 4) a := by
    intro s
    induction s with
    | zero =>
      intro M _ m1 m2 m3
      refine ⟨0, M, ?_, ⟨by omega, fun j hj => by omega, fun j _ hj => Nat.le_of_lt (m3 j (by omega) hj)⟩, m1, m2⟩
      unfold lX5_insert_45
      refine it_r ?_
      dsimp only
      rw [if_pos ((nI_leI (by omega) (by omega)).mpr (by omega))]
    | succ s ih =>
      intro M hs1 m1 m2 m3
      have er : M (k + 4) (12 * t + s) = nI (ks.getD s 0) := by rw [m2, if_neg (by omega)]; exact h.2 s (by omega)
      have hks := hk s (by omega)
      by_cases c : ks.getD s 0 ≤ q
      · have cl : ks.getD s 0 < q := by have := hno s (by omega); omega
        refine ⟨s + 1, M, ?_, ⟨hs1, fun j hj => ?_, fun j a b => Nat.le_of_lt (m3 j a b)⟩, m1, m2⟩
        · unfold lX5_insert_45
          refine it_r ?_
          dsimp only
          rw [if_neg (mt (nI_leI (by omega) (by omega)).mp (by omega)), nI_s1 (by omega), rI_n (by omega) (by omega), obs, show 12 * t + (s + 1) - 1 = 12 * t + s by omega, er, if_pos ((nI_leI (by omega) (by omega)).mpr c)]
        · rcases (by omega : j < s ∨ j = s) with z | z
          · have := hs j s z (by omega)
            omega
          · rw [z]; exact cl
      · have e2 : lX5_insert_45 k (nI q) (nI (12 * t)) (nI (12 * t + (s + 1)), M) = lX5_insert_45 k (nI q) (nI (12 * t)) (nI (12 * t + s), g_up M (k + 4) (12 * t + (s + 1)) (nI (ks.getD s 0))) := by
          unfold lX5_insert_45
          refine it_l ?_
          dsimp only
          rw [if_neg (mt (nI_leI (by omega) (by omega)).mp (by omega)), nI_s1 (by omega), rI_n (by omega) (by omega), obs, show 12 * t + (s + 1) - 1 = 12 * t + s by omega, er, if_neg (mt (nI_leI (by omega) (by omega)).mp c), obs, wI_n (by omega) (by omega), obs, nI_dec (by omega), show 12 * t + (s + 1) - 1 = 12 * t + s by omega]
        rw [e2]
        refine ih _ (by omega) (fun x hx => by rw [g_up_row hx]; exact m1 x hx) (fun a => ?_) (fun j a b => ?_)
        · rw [gu_in, m2]
          by_cases d : a = 12 * t + (s + 1)
          · rw [if_pos d, if_pos (by omega), d, show 12 * t + (s + 1) - 1 = 12 * t + s by omega]
            exact (h.2 s (by omega)).symm
          · rw [if_neg d]
            by_cases d2 : 12 * t + (s + 1) < a ∧ a ≤ 12 * t + ks.length
            · rw [if_pos d2, if_pos (by omega)]
            · rw [if_neg d2, if_neg (by omega)]
        · rcases (by omega : s + 1 ≤ j ∨ j = s) with z | z
          · exact m3 j z b
          · rw [z]; omega
  obtain ⟨i, N, e1, hp, n1, n2⟩ := key ks.length I (Nat.le_refl _) (fun _ _ => rfl) (fun a => by rw [if_neg (by omega)]) (fun j a b => by omega)
  have hi := hp.1
  have nk : N (k + 2) = I (k + 2) := n1 _ (by omega)
  refine ⟨i, g_up (g_up N (k + 4) (12 * t + i) (nI q)) (k + 2) t (nI (ks.length + 1)), ?_, hp, ?_, ?_, ?_⟩
  · unfold fX5_insert bX5_insert_86
    rw [h1, obs, if_neg n10, rI_n (by omega) (by omega), obs, h.1, L12, if_neg (mt (nI_leI (by omega) (by omega)).mp (by omega)), h2, obs, if_pos rfl, obs, nI_mul, nI_add, show t * 12 = 12 * t by omega, e1, obs]
    dsimp only
    rw [wI_n (by omega) (by omega), obs, rI_n (by omega) (by omega), obs, g_up_row (by omega), nk, h.1, nI_1, wI_n (by omega) (by omega), obs]
  · intro x a b
    rw [g_up_row a, g_up_row b]; exact n1 x b
  · intro a
    rw [gu_in, g_up_row (by omega), nk]
  · intro a
    rw [g_up_row (by omega), gu_in, n2]; rfl
theorem c_remove {I : gM} {k n t q i : Nat} {ks : List Nat} (hn : n ≤ 4) (e : I k 0 = nI n) (ht : t < n) (hl : ks.length ≤ 12) (h : CTt I k t ks) (hk : ∀ i, i < ks.length → ks.getD i 0 < 2097152) (hs : srt ks) (hi : i < ks.length) (hq : ks.getD i 0 = q) :
    ∃ r, fX5_remove k (nI t) (nI q) I = some r ∧ (∀ x, x ≠ k + 2 → x ≠ k + 4 → r x = I x) ∧ (∀ a, r (k + 2) a = if a = t then nI (ks.length - 1) else I (k + 2) a) ∧ ∀ a, r (k + 4) a = if 12 * t + i ≤ a ∧ a < 12 * t + (ks.length - 1) then I (k + 4) (a + 1) else I (k + 4) a := by
  have h1 : fX5_isTable k (nI t) I = some 1 := by
    rcases c_isTable hn e (nI t) with ⟨_, _, _, z⟩ | ⟨z, _⟩
    · exact z
    · exact absurd rfl (z t ht)
  have h2 : fX5_placeOf k (nI t) (nI q) I = some (nI i) := by
    rcases c_placeOf (q := q) (by omega) (by omega) h (by rw [← hq]; exact hk i hi) hk with ⟨i', a, b, z⟩ | ⟨z, _⟩
    · rcases Nat.lt_trichotomy i i' with c | c | c
      · have := hs i i' c a
        omega
      · rw [c]; exact z
      · have := hs i' i c hi
        omega
    · exact absurd hq (z i hi)
  have key : ∀ (m s : Nat) (M : gM), ks.length - 1 - s = m → i ≤ s → s ≤ ks.length - 1 → (∀ x, x ≠ k + 2 → x ≠ k + 4 → M x = I x) → (∀ a, M (k + 2) a = if a = t then nI (ks.length - 1) else I (k + 2) a) → (∀ a, M (k + 4) a = if 12 * t + i ≤ a ∧ a < 12 * t + s then I (k + 4) (a + 1) else I (k + 4) a) →
      ∃ r, lX5_remove_56 k (nI (12 * t + (ks.length - 1))) (nI (12 * t + s), M) = some r ∧ (∀ x, x ≠ k + 2 → x ≠ k + 4 → r x = I x) ∧ (∀ a, r (k + 2) a = if a = t then nI (ks.length - 1) else I (k + 2) a) ∧ ∀ a, r (k + 4) a = if 12 * t + i ≤ a ∧ a < 12 * t + (ks.length - 1) then I (k + 4) (a + 1) else I (k + 4) a := by
    intro m
    induction m with
    | zero =>
      intro s M hm his hs1 m1 m2 m3
      have : s = ks.length - 1 := by omega
      subst this
      refine ⟨M, ?_, m1, m2, m3⟩
      unfold lX5_remove_56
      refine it_r ?_
      dsimp only
      rw [if_pos ((nI_leI (by omega) (by omega)).mpr (by omega))]
    | succ m ih =>
      intro s M hm his hs1 m1 m2 m3
      have e2 : lX5_remove_56 k (nI (12 * t + (ks.length - 1))) (nI (12 * t + s), M) = lX5_remove_56 k (nI (12 * t + (ks.length - 1))) (nI (12 * t + (s + 1)), g_up M (k + 4) (12 * t + s) (I (k + 4) (12 * t + s + 1))) := by
        unfold lX5_remove_56
        refine it_l ?_
        dsimp only
        rw [if_neg (mt (nI_leI (by omega) (by omega)).mp (by omega)), nI_1, rI_n (by omega) (by omega), obs, m3, if_neg (by omega), wI_n (by omega) (by omega), obs, show 12 * t + s + 1 = 12 * t + (s + 1) by omega]
      rw [e2]
      refine ih (s + 1) _ (by omega) (by omega) (by omega) (fun x a b => by rw [g_up_row b]; exact m1 x a b) (fun a => by rw [g_up_row (by omega)]; exact m2 a) (fun a => ?_)
      rw [gu_in, m3]
      by_cases d : a = 12 * t + s
      · rw [if_pos d, if_pos (by omega), d]
      · rw [if_neg d]
        by_cases d2 : 12 * t + i ≤ a ∧ a < 12 * t + s
        · rw [if_pos d2, if_pos (by omega)]
        · rw [if_neg d2, if_neg (by omega)]
  obtain ⟨r, e1, r1, r2, r3⟩ := key _ i (g_up I (k + 2) t (nI (ks.length - 1))) rfl (Nat.le_refl _) (by omega) (fun x a _ => g_up_row a) (fun a => gu_in) (fun a => by rw [g_up_row (by omega), if_neg (by omega)])
  refine ⟨r, ?_, r1, r2, r3⟩
  unfold fX5_remove bX5_remove_18
  rw [h1, obs, if_neg n10, h2, obs, if_neg (nI_m1 (by omega)), rI_n (by omega) (by omega), obs, h.1, nI_s1 (by omega), wI_n (by omega) (by omega), obs, rI_n (by omega) (by omega), obs, g_up_self, L12, nI_mul, nI_add, nI_add, show t * 12 = 12 * t by omega, e1, obs]
