/-! the leaps of a join of the class are few -/
def lb : Nat → Nat
  | 0 => 0
  | m + 1 => 48 * (lb m + 1)
/-- a search that starts at depth d, with m letters left -/
def LB (rec : Int32 → gM → Option gM) (k : Nat) (L : Int) (m : Nat) : Prop := ∀ (d : Int32) (I r : gM), rec d I = some r → (I k 2).toInt = L → L - d.toInt ≤ m → 0 ≤ (I k 1).toInt → (I k 1).toInt + lb m < 2147483647 → r k 2 = I k 2 ∧ 0 ≤ (r k 1).toInt ∧ (r k 1).toInt ≤ (I k 1).toInt + lb m
theorem lp_isLeapt {k : Nat} {v1 v2 : Int32} {I : gM} {r : Int32 × gM} (h : fX1_isLeapt k v1 v2 I = some r) (h0 : 0 ≤ (I k 1).toInt) (h1 : (I k 1).toInt < 2147483647) : r.2 k 2 = I k 2 ∧ 0 ≤ (r.2 k 1).toInt ∧ (r.2 k 1).toInt ≤ (I k 1).toInt + 1 := by
  have f2 := xfX1_isLeapt k v1 v2 I h k 2 (by omega) (by omega)
  refine ⟨f2, ?_⟩
  unfold fX1_isLeapt at h
  obtain ⟨u1, _, h⟩ := ob h
  obtain ⟨w5, _, h⟩ := ob h
  unfold bX1_isLeapt_43 at h
  obtain ⟨I6, e6, h⟩ := ob h
  rw [pU_n, obs] at h
  have f6 : I6 k 1 = I k 1 := by rw [← (wI_some e6).2.2, g_up_row (by omega)]
  have p1 : (I k 1 + 1).toInt = (I k 1).toInt + 1 := tA rfl t1i (by omega) (by omega)
  have key : r.2 k 1 = I k 1 + 1 := by
    obtain ⟨u8, _, h⟩ := ob h
    rcases oi h with ⟨_, h⟩ | ⟨_, h⟩
    · obtain rfl := Option.some.inj h
      show g_up I6 k 1 (I6 k 1 + 1) k 1 = _
      rw [g_up_self, f6]
    · obtain rfl := Option.some.inj h
      show g_up I6 k 1 (I6 k 1 + 1) k 1 = _
      rw [g_up_self, f6]
  rw [key, p1]
  omega
theorem lp_deepen {k : Nat} {rec : Int32 → gM → Option gM} {L : Int} {m : Nat} (hrec : LB rec k L m) {v1 v2 : Int32} {I r : gM} (h : fX1_deepen rec k v1 v2 I = some r) (hL : (I k 2).toInt = L) (hm : L - v1.toInt ≤ (m : Int) + 1) (h0 : 0 ≤ (I k 1).toInt) (h1 : (I k 1).toInt + lb m < 2147483647) : r k 2 = I k 2 ∧ 0 ≤ (r k 1).toInt ∧ (r k 1).toInt ≤ (I k 1).toInt + lb m := by
  unfold fX1_deepen at h
  obtain ⟨u1, e1, h⟩ := ob h
  obtain ⟨I2, e2, h⟩ := ob h
  obtain ⟨u3, _, h⟩ := ob h
  obtain ⟨u4, _, h⟩ := ob h
  obtain ⟨I5, e5, h⟩ := ob h
  have r1 := rI_some e1
  have p1 : (v1 + 1).toInt = v1.toInt + 1 := tA rfl t1i (by omega) (by omega)
  have f5 : I5 k = I k := by rw [← (wI_some e5).2.2, g_up_row (by omega), ← (wI_some e2).2.2, g_up_row (by omega)]
  rcases oi h with ⟨_, h⟩ | ⟨_, h⟩
  · rcases oi h with ⟨_, h⟩ | ⟨_, h⟩
    · obtain rfl := Option.some.inj h
      rw [f5]
      exact ⟨rfl, h0, by omega⟩
    · obtain ⟨u6, _, h⟩ := ob h
      obtain ⟨I7, e7, h⟩ := ob h
      rw [pU_n, obs] at h
      obtain rfl := Option.some.inj h
      have f7 : I7 k = I k := by rw [← (wI_some e7).2.2, g_up_row (by omega), f5]
      rw [g_up_ne (Or.inr (by decide)), g_up_ne (Or.inr (by decide)), f7]
      exact ⟨rfl, h0, by omega⟩
  · obtain ⟨r9, e9, h⟩ := ob h
    obtain ⟨r10, e10, h⟩ := ob h
    obtain rfl := Option.some.inj h
    have f9 : r9 k = I k := by rw [zfX1_narrow k v1 v2 I5 e9 k (by omega) (by omega), f5]
    have q := hrec _ _ _ e10 (by rw [f9]; exact hL) (by rw [p1]; omega) (by rw [f9]; exact h0) (by rw [f9]; exact h1)
    rw [f9] at q
    exact q
theorem lp_searchB {k : Nat} {rec : Int32 → gM → Option gM} {L : Int} {m : Nat} (hrec : LB rec k L m) : LB (fun d I => fX1_searchB rec k d I) k L (m + 1) := by
  intro v1 I r h hL hm h0 h1
  have h : fX1_searchB rec k v1 I = some r := h
  have lm : lb (m + 1) = 48 * (lb m + 1) := rfl
  unfold fX1_searchB at h
  rcases oi h with ⟨_, h⟩ | ⟨_, h⟩
  · obtain rfl := Option.some.inj h
    exact ⟨rfl, h0, by omega⟩
  · obtain ⟨r1, e1, h⟩ := ob h
    have f1 : r1.2 k = I k := zfX1_isOpened k v1 I e1 k (by omega)
    rcases oi h with ⟨_, h⟩ | ⟨_, h⟩
    · obtain rfl := Option.some.inj h
      rw [f1]
      exact ⟨rfl, h0, by omega⟩
    · obtain ⟨w, ew, h⟩ := ob h
      have hm' : L - v1.toInt ≤ (m : Int) + 1 := by omega
      have key : ∀ s : Int32 × gM, lX1_search_19 rec k v1 s = some w → ∀ c : Nat, c ≤ 48 → s.1 = nI c → s.2 k 2 = I k 2 → 0 ≤ (s.2 k 1).toInt → (s.2 k 1).toInt ≤ (I k 1).toInt + (c * (lb m + 1) : Nat) → (Sum.elim (fun x : gM => x) (fun x : gM => x) w) k 2 = I k 2 ∧ 0 ≤ ((Sum.elim (fun x : gM => x) (fun x : gM => x) w) k 1).toInt ∧ ((Sum.elim (fun x : gM => x) (fun x : gM => x) w) k 1).toInt ≤ (I k 1).toInt + lb (m + 1) := by
        unfold lX1_search_19
        refine itO_ind (P := fun s : Int32 × gM => ∀ c : Nat, c ≤ 48 → s.1 = nI c → s.2 k 2 = I k 2 → 0 ≤ (s.2 k 1).toInt → (s.2 k 1).toInt ≤ (I k 1).toInt + (c * (lb m + 1) : Nat) → (Sum.elim (fun x : gM => x) (fun x : gM => x) w) k 2 = I k 2 ∧ 0 ≤ ((Sum.elim (fun x : gM => x) (fun x : gM => x) w) k 1).toInt ∧ ((Sum.elim (fun x : gM => x) (fun x : gM => x) w) k 1).toInt ≤ (I k 1).toInt + lb (m + 1)) (fun s y h hl hr => ?_)
        intro c hc e1 a2 a0 a1
        have cm : c * (lb m + 1) ≤ 48 * (lb m + 1) := Nat.mul_le_mul_right _ hc
        have out : ∀ {N : gM}, y = .inr (.inl N) ∨ y = .inr (.inr N) → N k 2 = I k 2 → 0 ≤ (N k 1).toInt → (N k 1).toInt ≤ (I k 1).toInt + lb (m + 1) → (Sum.elim (fun x : gM => x) (fun x : gM => x) w) k 2 = I k 2 ∧ 0 ≤ ((Sum.elim (fun x : gM => x) (fun x : gM => x) w) k 1).toInt ∧ ((Sum.elim (fun x : gM => x) (fun x : gM => x) w) k 1).toInt ≤ (I k 1).toInt + lb (m + 1) := fun {N} hy b2 b0 b1 => by
          rcases hy with rfl | rfl
          · have := hr _ rfl
            subst this
            exact ⟨b2, b0, b1⟩
          · have := hr _ rfl
            subst this
            exact ⟨b2, b0, b1⟩
        rcases oi h with ⟨_, h⟩ | ⟨c48, h⟩
        · obtain rfl := Option.some.inj h
          exact out (Or.inr rfl) a2 a0 (by rw [lm]; omega)
        · rw [e1] at c48
          have c48 := mt (nI_leI (a := 48) (b := c) (by omega) (by omega)).mpr c48
          have cm1 : (c + 1) * (lb m + 1) ≤ 48 * (lb m + 1) := Nat.mul_le_mul_right _ (by omega)
          have cs : (c + 1) * (lb m + 1) = c * (lb m + 1) + (lb m + 1) := Nat.succ_mul _ _
          generalize hX : c * (lb m + 1) = X at *
          obtain ⟨r2, _, h⟩ := ob h
          obtain ⟨r3, _, h⟩ := ob h
          have fin : ∀ {v3 v4 : Int32} {N : gM}, bX1_search_63 rec k v1 s.1 v3 v4 N = some y → N k 2 = I k 2 → 0 ≤ (N k 1).toInt → (N k 1).toInt ≤ (I k 1).toInt + (X + lb m : Nat) → (Sum.elim (fun x : gM => x) (fun x : gM => x) w) k 2 = I k 2 ∧ 0 ≤ ((Sum.elim (fun x : gM => x) (fun x : gM => x) w) k 1).toInt ∧ ((Sum.elim (fun x : gM => x) (fun x : gM => x) w) k 1).toInt ≤ (I k 1).toInt + lb (m + 1) := by
            intro v3 v4 N h b2 b0 b1
            unfold bX1_search_63 at h
            rcases oi h with ⟨_, h⟩ | ⟨_, h⟩
            · obtain rfl := Option.some.inj h
              exact out (Or.inl rfl) b2 b0 (by omega)
            · obtain ⟨r6, e6, h⟩ := ob h
              obtain ⟨g2, g0, g1⟩ := lp_isLeapt e6 b0 (by omega)
              rcases oi h with ⟨_, h⟩ | ⟨_, h⟩
              · obtain rfl := Option.some.inj h
                exact out (Or.inl rfl) (g2.trans b2) g0 (by omega)
              · obtain rfl := Option.some.inj h
                exact hl _ rfl (c + 1) (by omega) (by rw [e1, nI_1]) (g2.trans b2) g0 (by rw [cs]; dsimp only; omega)
          rcases oi h with ⟨_, h⟩ | ⟨_, h⟩
          · obtain ⟨r4, e4, h⟩ := ob h
            obtain ⟨r5, _, h⟩ := ob h
            obtain ⟨g2, g0, g1⟩ := lp_deepen hrec e4 (by rw [a2]; exact hL) hm' a0 (by omega)
            exact fin h (g2.trans a2) g0 (by omega)
          · exact fin h a2 a0 (by omega)
      have q := key _ ew 0 (by omega) rfl (by rw [f1]) (by rw [f1]; exact h0) (by rw [f1]; omega)
      rcases w with w | w
      · have h : some w = some r := h
        obtain rfl := Option.some.inj h
        exact q
      · have h : some w = some r := h
        obtain rfl := Option.some.inj h
        exact q
theorem lp_done {n k : Nat} {L : Int} : LB (fun d I => fX1_search n k d I) k L 0 := by
  intro d I r h hL hm h0 h1
  cases n with
  | zero => cases h
  | succ n =>
    have h : fX1_searchB (fun d I => fX1_search n k d I) k d I = some r := h
    unfold fX1_searchB at h
    rw [if_pos (by rw [Int32.le_iff_toInt_le]; omega)] at h
    obtain rfl := Option.some.inj h
    exact ⟨rfl, h0, by omega⟩
theorem lp_search {k : Nat} {L : Int} : ∀ (m n : Nat), LB (fun d I => fX1_search n k d I) k L m
  | 0, _ => lp_done
  | m + 1, 0 => fun _ _ _ h => by cases h
  | m + 1, n + 1 => lp_searchB (lp_search m n)
theorem leaps_nn {k k1 : Nat} {o : Int32} {I r : gM} (h : fX1_findBy k k1 o I = some r) (h4 : (r k 2).toInt ≤ 4) : 0 ≤ (r k 1).toInt ∧ (r k 1).toInt ≤ lb 4 := by
  unfold fX1_findBy at h
  obtain ⟨r1, _, h⟩ := ob h
  obtain ⟨I2, _, h⟩ := ob h
  obtain ⟨w9, _, h⟩ := ob h
  obtain ⟨r10, e10, h⟩ := ob h
  obtain ⟨r11, e11, h⟩ := ob h
  obtain rfl := Option.some.inj h
  have k2 : r11 k 2 = r10 k 2 := xfX1_search 6 k 0 r10 e11 k 2 (by omega) (by omega) (by omega) (by omega) (by omega) (by omega) (by omega) (by omega)
  have z : r10 k 1 = 0 := by
    unfold fX1_open at e10
    rw [pU_n, obs, pU_n, obs] at e10
    obtain ⟨r3, e3, e10⟩ := ob e10
    obtain ⟨r4, e4, e10⟩ := ob e10
    obtain ⟨w9', e9, e10⟩ := ob e10
    obtain rfl := Option.some.inj e10
    have f9 : w9' k = r4 k := zlX1_open_28 _ _ _ e9 k (by omega) (by omega) (by omega) (by omega) (by omega)
    rw [f9, zfJ7_fill_53178 _ _ _ _ e4 k (by omega), zfJ7_fill_53178 _ _ _ _ e3 k (by omega), g_up_self]
  have q := lp_search (L := (r10 k 2).toInt) 4 6 0 r10 r11 e11 rfl (by rw [← k2, t0i]; omega) (by rw [z]; decide) (by rw [z]; decide)
  rw [z] at q
  have := q.2
  rw [t0i] at this
  omega
