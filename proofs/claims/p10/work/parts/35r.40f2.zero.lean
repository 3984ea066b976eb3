/-! what a join of the class never writes: the packed numbers ahead of the first letter -/
theorem wI_ne0 {I r : gM} {k n : Nat} {i v : Int32} (h : wI I k n i v = some r) (hi : i.toInt ≠ 0) : r k 0 = I k 0 := by
  obtain ⟨h1, _, e⟩ := wI_some h
  rw [← e, g_up_ne (Or.inr (by omega))]
theorem fz_narrow {k : Nat} {v1 v2 : Int32} {I r : gM} (h : fX1_narrow k v1 v2 I = some r) : r (k + 4) 0 = I (k + 4) 0 := by
  exact zfX1_narrow k v1 v2 I h (k + 4) (by omega) (by omega) |> fun e => congrFun e 0
theorem fz_isLeapt {k : Nat} {v1 v2 : Int32} {I : gM} {r : Int32 × gM} (h : fX1_isLeapt k v1 v2 I = some r) : r.2 (k + 4) 0 = I (k + 4) 0 := congrFun (zfX1_isLeapt k v1 v2 I h (k + 4) (by omega) (by omega)) 0
theorem fz_isOpened {k : Nat} {v1 : Int32} {I : gM} {r : Int32 × gM} (h : fX1_isOpened k v1 I = some r) : r.2 (k + 4) 0 = I (k + 4) 0 := congrFun (zfX1_isOpened k v1 I h (k + 4) (by omega)) 0
theorem fz_deepen {k : Nat} {rec : Int32 → gM → Option gM} (hrec : ∀ d I r, rec d I = some r → r (k + 4) 0 = I (k + 4) 0) {v1 v2 : Int32} {I r : gM} (h : fX1_deepen rec k v1 v2 I = some r) : r (k + 4) 0 = I (k + 4) 0 := by
  unfold fX1_deepen at h
  obtain ⟨u1, e1, h⟩ := ob h
  obtain ⟨I2, e2, h⟩ := ob h
  obtain ⟨u3, _, h⟩ := ob h
  obtain ⟨u4, _, h⟩ := ob h
  obtain ⟨I5, e5, h⟩ := ob h
  have r1 := rI_some e1
  have p1 : (v1 + 1).toInt ≠ 0 := by
    have e : (v1 + 1).toInt = v1.toInt + 1 := tA rfl t1i (by omega) (by omega)
    omega
  have f5 : I5 (k + 4) 0 = I (k + 4) 0 := by
    rw [wI_ne0 e5 p1, ← (wI_some e2).2.2, g_up_row (by omega)]
  rcases oi h with ⟨_, h⟩ | ⟨_, h⟩
  · rcases oi h with ⟨_, h⟩ | ⟨_, h⟩
    · obtain rfl := Option.some.inj h
      exact f5
    · obtain ⟨u6, _, h⟩ := ob h
      obtain ⟨I7, e7, h⟩ := ob h
      rw [pU_n, obs] at h
      obtain rfl := Option.some.inj h
      rw [g_up_row (by omega), ← (wI_some e7).2.2, g_up_row (by omega)]
      exact f5
  · obtain ⟨r9, e9, h⟩ := ob h
    obtain ⟨r10, e10, h⟩ := ob h
    obtain rfl := Option.some.inj h
    rw [hrec _ _ _ e10, fz_narrow e9]
    exact f5
theorem fz_searchB {k : Nat} {rec : Int32 → gM → Option gM} (hrec : ∀ d I r, rec d I = some r → r (k + 4) 0 = I (k + 4) 0) {v1 : Int32} {I r : gM} (h : fX1_searchB rec k v1 I = some r) : r (k + 4) 0 = I (k + 4) 0 := by
  unfold fX1_searchB at h
  rcases oi h with ⟨_, h⟩ | ⟨_, h⟩
  · obtain rfl := Option.some.inj h; rfl
  · obtain ⟨r1, e1, h⟩ := ob h
    have f1 := fz_isOpened e1
    rcases oi h with ⟨_, h⟩ | ⟨_, h⟩
    · obtain rfl := Option.some.inj h; exact f1
    · obtain ⟨w, ew, h⟩ := ob h
      have key : ∀ s : Int32 × gM, lX1_search_19 rec k v1 s = some w → Sum.elim (fun x : gM => x (k + 4) 0) (fun x : gM => x (k + 4) 0) w = s.2 (k + 4) 0 := by
        unfold lX1_search_19
        refine itO_ind (P := fun s : Int32 × gM => Sum.elim (fun x : gM => x (k + 4) 0) (fun x : gM => x (k + 4) 0) w = s.2 (k + 4) 0) (fun s y h hl hr => ?_)
        rcases oi h with ⟨_, h⟩ | ⟨_, h⟩
        · obtain rfl := Option.some.inj h
          have := hr _ rfl
          subst this; rfl
        · obtain ⟨r2, _, h⟩ := ob h
          obtain ⟨r3, _, h⟩ := ob h
          have fin : ∀ {v3 v4 : Int32} {N : gM}, bX1_search_63 rec k v1 s.1 v3 v4 N = some y → N (k + 4) 0 = s.2 (k + 4) 0 → Sum.elim (fun x : gM => x (k + 4) 0) (fun x : gM => x (k + 4) 0) w = s.2 (k + 4) 0 := by
            intro v3 v4 N h e
            unfold bX1_search_63 at h
            rcases oi h with ⟨_, h⟩ | ⟨_, h⟩
            · obtain rfl := Option.some.inj h
              have := hr _ rfl
              subst this; exact e
            · obtain ⟨r6, e6, h⟩ := ob h
              have f6 := (fz_isLeapt e6).trans e
              rcases oi h with ⟨_, h⟩ | ⟨_, h⟩
              · obtain rfl := Option.some.inj h
                have := hr _ rfl
                subst this; exact f6
              · obtain rfl := Option.some.inj h
                exact (hl _ rfl).trans f6
          rcases oi h with ⟨_, h⟩ | ⟨_, h⟩
          · obtain ⟨r4, e4, h⟩ := ob h
            obtain ⟨r5, _, h⟩ := ob h
            exact fin h (fz_deepen hrec e4)
          · exact fin h rfl
      have q := key _ ew
      rcases w with w | w
      · have h : some w = some r := h
        obtain rfl := Option.some.inj h
        exact Eq.trans q f1
      · have h : some w = some r := h
        obtain rfl := Option.some.inj h
        exact Eq.trans q f1
theorem fz_search {k : Nat} : ∀ (n : Nat) (d : Int32) (I r : gM), fX1_search n k d I = some r → r (k + 4) 0 = I (k + 4) 0
  | 0, _, _, _, h => by cases h
  | n + 1, d, I, r, h => fz_searchB (rec := fun d I => fX1_search n k d I) (fun d I r h => fz_search n d I r h) h
theorem fz_findBy {k k1 : Nat} {o : Int32} {I r : gM} (h : fX1_findBy k k1 o I = some r) : r (k + 4) 0 = I (k + 4) 0 := by
  unfold fX1_findBy at h
  obtain ⟨r1, _, h⟩ := ob h
  rw [pU_n, obs] at h
  obtain ⟨w9, e9, h⟩ := ob h
  obtain ⟨r10, e10, h⟩ := ob h
  obtain ⟨r11, e11, h⟩ := ob h
  obtain rfl := Option.some.inj h
  have f9 : w9 (k + 4) 0 = I (k + 4) 0 := by
    have key : ∀ s : Int32 × Int32 × Int32 × gM, lX1_findBy_20 k r1 s = some w9 → w9 (k + 4) 0 = s.2.2.2 (k + 4) 0 := by
      unfold lX1_findBy_20
      refine itO_ind (P := fun s : Int32 × Int32 × Int32 × gM => w9 (k + 4) 0 = s.2.2.2 (k + 4) 0) (fun s y h hl hr => ?_)
      rcases oi h with ⟨_, h⟩ | ⟨_, h⟩
      · obtain rfl := Option.some.inj h
        have := hr _ rfl
        subst this; rfl
      · obtain ⟨_, _, h⟩ := ob h
        obtain ⟨_, _, h⟩ := ob h
        obtain ⟨_, _, h⟩ := ob h
        obtain ⟨_, _, h⟩ := ob h
        obtain ⟨_, _, h⟩ := ob h
        obtain ⟨r8, e8, h⟩ := ob h
        obtain rfl := Option.some.inj h
        have f8 := congrFun (zfX1_addLetters _ _ _ e8 (k + 4) (by omega) (by omega)) 0
        exact (hl _ rfl).trans f8
    have := key _ e9
    rw [this]
    exact congrFun (g_up_row (by omega)) 0
  have f10 := congrFun (zfX1_open _ _ _ e10 (k + 4) (by omega) (by omega) (by omega) (by omega) (by omega) (by omega) (by omega)) 0
  rw [fz_search _ _ _ _ e11, f10, f9]
theorem fz_findLeading {k k1 : Nat} {o : Int32} {I r : gM} (h : fX1_findLeading k k1 o I = some r) : r (k + 4) 0 = I (k + 4) 0 := by
  unfold fX1_findLeading at h
  obtain ⟨r1, _, h⟩ := ob h
  rw [pU_n, obs] at h
  obtain ⟨r3, e3, h⟩ := ob h
  obtain ⟨r4, e4, h⟩ := ob h
  obtain ⟨r10, e10, h⟩ := ob h
  obtain ⟨r11, e11, h⟩ := ob h
  obtain rfl := Option.some.inj h
  have f10 := congrFun (zfX1_open _ _ _ e10 (k + 4) (by omega) (by omega) (by omega) (by omega) (by omega) (by omega) (by omega)) 0
  rw [fz_search _ _ _ _ e11, f10, congrFun (zfX1_addLetters _ _ _ e4 (k + 4) (by omega) (by omega)) 0, congrFun (zfX1_addLetters _ _ _ e3 (k + 4) (by omega) (by omega)) 0]
  exact congrFun (g_up_row (by omega)) 0
