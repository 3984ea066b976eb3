/-! the reference's join: the search as a whole -/
/-- a number that each table of a depth has -/
def GV (B : gM) (n e : Nat) (v : Int32) : Prop := ∀ t, t < n → inn B t e → ∃ i, i < mn B t ∧ vl B t i e = v
theorem n_takesRow {I0 I : gM} {J : Nat} (hM : MI false I0 I) (hJ : J < 20736) (e : I 62 26 = nI J) : ∃ r, fX9_takesRow I = some r ∧ MI false I0 r ∧ r 62 26 = nI (J + 1) ∧ (∀ l, l < 4 → r 80 (4 * J + l) = I 75 l) ∧ (∀ a, (a < 4 * J ∨ 4 * J + 4 ≤ a) → r 80 a = I 80 a) ∧ (∀ k, k ≠ 80 → k ≠ 62 → r k = I k) ∧ ∀ j, j ≠ 26 → r 62 j = I 62 j := by
  have key : T (lX9_takesRow_2 (nI 0, I)) (fun w => MI false I0 w ∧ (∀ l, l < 4 → w 80 (4 * J + l) = I 75 l) ∧ (∀ a, (a < 4 * J ∨ 4 * J + 4 ≤ a) → w 80 a = I 80 a) ∧ (∀ k, k ≠ 80 → w k = I k)) := by
    unfold lX9_takesRow_2
    refine t_it (P := fun s => ∃ l, s.1 = nI l ∧ l ≤ 4 ∧ MI false I0 s.2 ∧ (∀ l', l' < l → s.2 80 (4 * J + l') = I 75 l') ∧ (∀ a, (a < 4 * J ∨ 4 * J + 4 ≤ a) → s.2 80 a = I 80 a) ∧ (∀ k, k ≠ 80 → s.2 k = I k)) (μ := fun s => 20 - s.1.toInt.toNat) (fun s p => ?_) ⟨0, rfl, by omega, hM, fun l a => by omega, fun _ _ => rfl, fun _ _ => rfl⟩
    obtain ⟨s1, s2⟩ := s
    obtain ⟨l, e1, h1, hM2, h2, h3, h4⟩ := p
    dsimp only at e1 hM2 h2 h3 h4
    subst e1
    dsimp only
    refine t_ite (fun c => ?_) (fun c => ?_)
    · have c := (nI_leI (a := 4) (by omega) (by omega)).mp c
      exact t_ret ⟨hM2, fun l' a => h2 l' (by omega), h3, h4⟩
    · have c := mt (nI_leI (a := 4) (b := l) (by omega) (by omega)).mpr c
      refine t_be (rI_n (by omega) (by omega)) ?_
      rw [h4 62 (by omega), e, a4]
      refine t_be (wI_n (by omega) (by omega)) ?_
      have hv : -1 ≤ (s2 75 l).toInt ∧ (s2 75 l).toInt ≤ 99 := hM2.at (k := 75) (j := l) rfl
      refine t_nx ?_ (by show 20 - (nI l + 1).toInt.toNat < 20 - (nI l).toInt.toNat; rw [nI_1, nIt (by omega), nIt (by omega)]; omega)
      dsimp only
      refine ⟨l + 1, nI_1 l, by omega, hM2.up (k := 80) rfl (lo := -1) (hi := 99) rfl hv.1 hv.2, fun l' a => ?_, fun a ha => ?_, fun k hk => ?_⟩
      · rw [gu_in]
        by_cases z : l' = l
        · rw [if_pos (by omega), z, h4 75 (by omega)]
        · rw [if_neg (by omega)]; exact h2 l' (by omega)
      · rw [gu_in, if_neg (by omega)]; exact h3 a ha
      · rw [g_up_row hk]; exact h4 k hk
  obtain ⟨w, ew, w1, w2, w3, w4⟩ := key
  have e2 : w 62 26 + 1 = nI (J + 1) := by rw [w4 62 (by omega), e, nI_1]
  refine ⟨g_up w 62 26 (nI (J + 1)), ?_, w1.up (k := 62) rfl (lo := 0) (hi := 20736) rfl (by rw [tnI (by omega)]; omega) (by rw [tnI (by omega)]; omega), g_up_self, fun l hl => ?_, fun a ha => ?_, fun k y1 y2 => ?_, fun j hj => ?_⟩
  · unfold fX9_takesRow
    rw [L0, ew, obs, e2, pU_n, obs]
  · rw [g_up_row (by omega)]; exact w2 l hl
  · rw [g_up_row (by omega)]; exact w3 a ha
  · rw [g_up_row y2]; exact w4 k y1
  · rw [g_up_ne (Or.inr hj), w4 62 (by omega)]
theorem Cx.of {B I r : gM} (C : Cx B I) (h17 : r 62 17 = I 62 17) (h19 : r 62 19 = I 62 19) (h : ∀ k, k = 70 ∨ k = 72 ∨ k = 73 ∨ k = 74 → r k = I k) : Cx B r := by
  obtain ⟨c1, c2, c3, c4, c5, c6⟩ := C
  exact ⟨h17.trans c1, h19.trans c2, (h 70 (by omega)).trans c3, (h 72 (by omega)).trans c4, (h 73 (by omega)).trans c5, (h 74 (by omega)).trans c6⟩
/-- what is left to go -/
def mu9 (I : gM) (d : Nat) : Nat := (13 - stf I d 0) + (13 - stf I d 1) + (13 - stf I d 2) + (13 - stf I d 3)
theorem mu9_lt {I r : gM} {d t st' : Nat} (ht : t < 4) (h : ∀ j, j < 4 → stf r d j = if j = t then st' else stf I d j) (h1 : stf I d t < st') (h2 : stf I d t ≤ 12) : mu9 r d < mu9 I d := by
  have a0 := h 0 (by omega)
  have a1 := h 1 (by omega)
  have a2 := h 2 (by omega)
  have a3 := h 3 (by omega)
  unfold mu9
  rcases (by omega : t = 0 ∨ t = 1 ∨ t = 2 ∨ t = 3) with rfl | rfl | rfl | rfl
  · rw [if_pos rfl] at a0; rw [if_neg (by omega)] at a1 a2 a3; omega
  · rw [if_pos rfl] at a1; rw [if_neg (by omega)] at a0 a2 a3; omega
  · rw [if_pos rfl] at a2; rw [if_neg (by omega)] at a0 a1 a3; omega
  · rw [if_pos rfl] at a3; rw [if_neg (by omega)] at a0 a1 a2; omega
/-- a table goes on: what all tables of the depth then stand at -/
theorem n_leaps2 {I0 B I : gM} {n D d t : Nat} {f : Nat → Int32} (h : Bs B n D) (hM : MI false I0 I) (C : Cx B I) (hd : d < 4) (S : DS B n d f I) (ht : t < n) (q : inn B t d) (v : Int32) (hv : (kf I d t).toInt < v.toInt) : ∃ b r, fX9_leaps (nI d) (nI t) v I = some (b, r) ∧ MI false I0 r ∧ Cx B r ∧ ((b = 1 ∧ DS B n d f r) ∨ b = 0) ∧ mu9 r d < mu9 I d ∧ stf I d t < stf r d t ∧ stf r d t ≤ 12 ∧ (∀ j, j < 4 → j ≠ t → stf r d j = stf I d j) ∧ (∀ k, k ≠ 62 → k ≠ 78 → r k = I k) ∧ (∀ j, j ≠ 27 → r 62 j = I 62 j) ∧ (∀ c, c < 4 * d → r 78 c = I 78 c) ∧ r 62 27 = I 62 27 + 1 ∧ ∀ j, j < nkf I d t → v.toInt ≤ (I 76 (12 * (4 * d + t) + j)).toInt → b = 1 ∧ (kf r d t).toInt ≤ (I 76 (12 * (4 * d + t) + j)).toInt := by
  have n4 : n ≤ 4 := h.1
  obtain ⟨s1, s2, s3⟩ := S t ht q
  have k12 := s1.1
  obtain ⟨st', b, r, e, r0, r1, r2, r3, r4, r5, r6, r7, r8, r9⟩ := n_leaps hM hd (by omega) v k12 s1.2.1 s3 (Nat.le_of_lt s2)
  have lt : stf I d t < st' := by
    rcases (by omega : stf I d t < st' ∨ stf I d t = st') with z | z
    · exact z
    · have := r4 (by omega)
      rw [← z] at this
      exact absurd hv (by show ¬ (I 76 (12 * (4 * d + t) + stf I d t)).toInt < _; omega)
  have sf : ∀ j, j < 4 → stf r d j = if j = t then st' else stf I d j := fun j hj => by
    unfold stf
    rw [r9]
    by_cases z : j = t
    · rw [if_pos (by omega), if_pos z, nIt (by omega)]
    · rw [if_neg (by omega), if_neg z]
  have C2 : Cx B r := C.of (r7 17 (by omega)) (r7 19 (by omega)) (fun k hk => r6 k (by omega) (by omega))
  have st : stf r d t = st' := by rw [sf t (by omega), if_pos rfl]
  refine ⟨b, r, e, r0, C2, ?_, mu9_lt (by omega) sf lt (by omega), by omega, by omega, fun j a z => by rw [sf j a, if_neg z], r6, r7, fun c hc => by rw [r9, if_neg (by omega)], r8, fun j hj hvj => ?_⟩
  · rcases r5 with ⟨b1, z⟩ | ⟨b0, z⟩
    rotate_left
    · exact Or.inr b0
    refine Or.inl ⟨b1, fun t' a y => ?_⟩
    obtain ⟨u1, u2, u3⟩ := S t' a y
    have nk : nkf r d t' = nkf I d t' := by unfold nkf; rw [r6 77 (by omega) (by omega)]
    refine ⟨?_, ?_, ?_⟩
    · rw [nk]; exact u1.same (by rw [r6 77 (by omega) (by omega)]) (fun j _ => by rw [r6 76 (by omega) (by omega)])
    · rw [nk, sf t' (by omega)]
      by_cases x : t' = t
      · rw [if_pos x, x]; exact z
      · rw [if_neg x]; exact u2
    · rw [r9, sf t' (by omega)]
      by_cases x : t' = t
      · rw [if_pos (by omega), if_pos x]
      · rw [if_neg (by omega), if_neg x]; exact u3
  · have hst : st' ≤ j := by
      rcases (by omega : st' ≤ j ∨ j < st') with z | z
      · exact z
      · exfalso
        rcases (by omega : stf I d t ≤ j ∨ j < stf I d t) with y | y
        · have := r3 j y z; omega
        · have := s1.2.2.1 j (stf I d t) y s2
          have hv : (I 76 (12 * (4 * d + t) + stf I d t)).toInt < v.toInt := hv
          omega
    refine ⟨?_, ?_⟩
    · rcases r5 with ⟨b1, _⟩ | ⟨_, z⟩
      · exact b1
      · omega
    · unfold kf
      rw [st, r6 76 (by omega) (by omega)]
      rcases (by omega : st' = j ∨ st' < j) with z | z
      · rw [z]; exact Int.le_refl _
      · have := s1.2.2.1 st' j z hj; omega
/-- the letters of the depths are unlike, each is asked -/
def Dp (B : gM) (n D : Nat) : Prop := (∀ d e, d < D → e < D → d ≠ e → lo B d ≠ lo B e) ∧ ∀ d, d < D → ∃ t, t < n ∧ inn B t d
theorem least {P : Nat → Prop} : ∀ {n : Nat}, (∃ t, t < n ∧ P t) → ∃ t, t < n ∧ P t ∧ ∀ t', t' < t → ¬ P t' := by
  intro n
  induction n with
  | zero => rintro ⟨t, h, _⟩; omega
  | succ n ih =>
    rintro ⟨t, h, p⟩
    by_cases z : ∃ t, t < n ∧ P t
    · obtain ⟨t', a, b, c⟩ := ih z
      exact ⟨t', by omega, b, c⟩
    · refine ⟨t, h, p, fun t' a b => z ⟨t', by omega, b⟩⟩
/-- numbers for the depths from d on that each table has together with those ahead -/
def Cs (B : gM) (n D d : Nat) (g : Nat → Int32) : Prop := ∀ e, d ≤ e → e < D → ∀ t, t < n → inn B t e → ∃ i, i < mn B t ∧ (∀ e', e' < e → cv B t e' = -1 ∨ vl B t i e' = g e') ∧ vl B t i e = g e
/-- what the search of a depth leaves -/
def GQ (I0 B : gM) (n D d J0 M : Nat) (I r : gM) : Prop := MI false I0 r ∧ Cx B r ∧ (∃ J, r 62 26 = nI J ∧ J0 ≤ J ∧ J ≤ M ∧ (∀ j, J0 ≤ j → j < J → ∀ e, e < D → GV B n e (r 80 (4 * j + lo B e))) ∧ (∀ j, J0 ≤ j → j < J → (∀ e, e < d → r 80 (4 * j + lo B e) = I 75 (lo B e)) ∧ Cs B n D d (fun e => r 80 (4 * j + lo B e))) ∧ ∀ g : Nat → Int32, (∀ e, e < d → g e = I 75 (lo B e)) → Cs B n D d g → J0 < J) ∧ (∀ a, a < 4 * J0 → r 80 a = I 80 a) ∧ (∀ e, e < d → r 75 (lo B e) = I 75 (lo B e)) ∧ (∀ c, c < 4 * d → r 77 c = I 77 c ∧ r 78 c = I 78 c) ∧ ∀ a, a < 48 * d → r 76 a = I 76 a
theorem n_goes {I0 B : gM} {n D : Nat} (h : Bs B n D) (hD : Dp B n D) : ∀ (fu d : Nat), d ≤ D → D < fu + d → ∀ (I : gM) (J0 : Nat), MI false I0 I → Cx B I → I 62 26 = nI J0 → J0 + 12 ^ (D - d) ≤ 20736 → (∀ e, e < d → GV B n e (I 75 (lo B e))) → T (fX9_goes fu (nI d) I) (GQ I0 B n D d J0 (J0 + 12 ^ (D - d)) I) := by
  have n4 : n ≤ 4 := h.1
  have D4 : D ≤ 4 := h.2.1
  intro fu
  induction fu with
  | zero => intro d h1 h2; omega
  | succ fu ih =>
    intro d h1 h2 I J0 hM C eJ hJ hG
    show T (fX9_goesB (fun d I => fX9_goes fu d I) (nI d) I) _
    unfold fX9_goesB
    have eD : I 62 19 = nI D := C.2.1.trans h.2.2.2.1
    refine t_ite (fun c => ?_) (fun c => ?_)
    · rw [eD] at c
      obtain rfl := nI_inj c (by omega) (by omega)
      have p1 : 12 ^ (d - d) = 1 := by rw [Nat.sub_self]
      rw [p1] at hJ ⊢
      obtain ⟨r, e, r1, r2, r3, r4, r5, r6⟩ := n_takesRow hM (by omega) eJ
      refine t_be e (t_ret ⟨r1, C.of (r6 17 (by omega)) (r6 19 (by omega)) (fun k hk => r5 k (by omega) (by omega)), ⟨J0 + 1, r2, by omega, by omega, fun j a b e he => ?_, fun j a b => ⟨fun e he => ?_, fun e h1 h2 => by omega⟩, fun _ _ _ => by omega⟩, fun a ha => r4 a (Or.inl ha), fun e _ => by rw [r5 75 (by omega) (by omega)], fun c _ => ⟨by rw [r5 77 (by omega) (by omega)], by rw [r5 78 (by omega) (by omega)]⟩, fun a _ => by rw [r5 76 (by omega) (by omega)]⟩)
      · obtain rfl : j = J0 := by omega
        rw [r3 _ (bs_lo h (d := e) (by omega)).1]
        exact hG e he
      · obtain rfl : j = J0 := by omega
        exact r3 _ (bs_lo h (d := e) (by omega)).1
    · rw [eD] at c
      have dD : d < D := by
        rcases (by omega : d < D ∨ d = D) with z | z
        · exact z
        · exact absurd (by rw [z]) c
      obtain ⟨t0, t1, t2, t3⟩ := least (hD.2 d dD)
      obtain ⟨v, r2, e2, v01, M2, C2, K2, K20, F2, F3, F4⟩ := n_laysKeys h hM C (d := d) (by omega)
      refine t_be e2 ?_
      dsimp only
      obtain ⟨W, hW⟩ : ∃ W, W = 12 ^ (D - (d + 1)) := ⟨_, rfl⟩
      have W12 : 12 ^ (D - d) = 12 * W := by rw [hW, show D - d = D - (d + 1) + 1 by omega, Nat.pow_succ, Nat.mul_comm]
      have f75 : r2 75 = I 75 := F2 75 (by omega) (by omega) (by omega)
      refine t_bind (P := GQ I0 B n D d J0 (J0 + 12 ^ (D - d)) I) ?_ (fun r hr => t_ret hr)
      unfold lX9_goes_19
      refine t_it (P := fun s => MI false I0 s.2 ∧ Cx B s.2 ∧ (∃ J, s.2 62 26 = nI J ∧ J0 ≤ J ∧ (∀ j, J0 ≤ j → j < J → ∀ e, e < D → GV B n e (s.2 80 (4 * j + lo B e))) ∧ (∀ j, J0 ≤ j → j < J → (∀ e, e < d → s.2 80 (4 * j + lo B e) = I 75 (lo B e)) ∧ Cs B n D d (fun e => s.2 80 (4 * j + lo B e))) ∧ (∀ g : Nat → Int32, (∀ e, e < d → g e = I 75 (lo B e)) → Cs B n D d g → J0 < J ∨ (s.1 = 1 ∧ ∀ t, t < n → inn B t d → (kf s.2 d t).toInt ≤ (g d).toInt)) ∧ ((s.1 = 1 ∧ DS B n d (I 75) s.2 ∧ J ≤ J0 + W * stf s.2 d t0) ∨ (s.1 = 0 ∧ J ≤ J0 + 12 * W))) ∧ (∀ a, a < 4 * J0 → s.2 80 a = I 80 a) ∧ (∀ e, e < d → s.2 75 (lo B e) = I 75 (lo B e)) ∧ (∀ c, c < 4 * d → s.2 77 c = I 77 c ∧ s.2 78 c = I 78 c) ∧ ∀ a, a < 48 * d → s.2 76 a = I 76 a) (μ := fun s => mu9 s.2 d) (fun s p => ?_)
        ⟨M2, C2, ⟨J0, by show r2 62 26 = _; rw [F2 62 (by omega) (by omega) (by omega)]; exact eJ, by omega, fun j a b => by omega, fun j a b => by omega, ?_, ?_⟩, fun a _ => by show r2 80 a = _; rw [F2 80 (by omega) (by omega) (by omega)], fun e _ => by show r2 75 _ = _; rw [f75], F3, F4⟩
      · obtain ⟨b, I1⟩ := s
        obtain ⟨M3, C3, ⟨J, eJ1, J1, GJ, GC, GX, hb⟩, G1, G2, G3, G4⟩ := p
        dsimp only at M3 C3 eJ1 GJ GC GX hb G1 G2 G3 G4
        dsimp only
        refine t_ite (fun c1 => ?_) (fun c1 => ?_)
        · refine t_ret ⟨M3, C3, ⟨J, eJ1, J1, ?_, GJ, GC, fun g g1 g2 => ?_⟩, G1, G2, G3, G4⟩
          · rcases hb with ⟨z, _⟩ | ⟨_, z⟩
            · rw [z] at c1; exact absurd c1 (by decide)
            · omega
          · rcases GX g g1 g2 with z | ⟨z, _⟩
            · exact z
            · rw [z] at c1; exact absurd c1 (by decide)
        · obtain ⟨b1, S, JW⟩ : b = 1 ∧ DS B n d (I 75) I1 ∧ J ≤ J0 + W * stf I1 d t0 := hb.resolve_right (fun z => c1 z.1)
          obtain ⟨g, eg, g1, g2, g3⟩ := n_greatestKey h C3 (by omega) S
          obtain ⟨fb, ef, f1⟩ := n_firstBehind h C3 (by omega) S g
          have s12 : stf I1 d t0 < 12 := by
            obtain ⟨u1, u2, u3⟩ := S t0 t1 t2
            have := u1.1
            omega
          have dHas : ∀ g : Nat → Int32, (∀ e, e < d → g e = I 75 (lo B e)) → Cs B n D d g → ∀ t, t < n → inn B t d → ∃ j, j < nkf I1 d t ∧ I1 76 (12 * (4 * d + t) + j) = g d := fun g g1 g2 t a q => by
            obtain ⟨u1, _, _⟩ := S t a q
            obtain ⟨i, i1, i2, i3⟩ := g2 d (by omega) dD t a q
            refine (u1.2.2.2 (g d)).mp ⟨i, i1, fun e he => ?_, i3⟩
            rcases i2 e he with y | y
            · exact Or.inl y
            · exact Or.inr (y.trans (g1 e he))
          refine t_be eg (t_be ef ?_)
          refine t_ite (fun c2 => ?_) (fun c2 => ?_)
          · -- all stand at one key
            have all : ∀ t, t < n → inn B t d → (kf I1 d t).toInt = g.toInt := fun t a q => by
              rcases f1 with ⟨t', y1, y2, y3, y4, y5⟩ | ⟨y1, y2⟩
              · exact absurd (y2.symm.trans c2) (nI_m1 (by omega))
              · have := g1 t a q
                have := y2 t a q
                omega
            have allg : ∀ t, t < n → inn B t d → kf I1 d t = g := fun t a q => Int32.toInt_inj.mp (all t a q)
            have gv : GV B n d g := fun t a q => by
              obtain ⟨i, i1, i2, i3⟩ := (S.key (by omega) n4 a q).2
              exact ⟨i, i1, i3.trans (allg t a q)⟩
            have g99 : g.toInt ≤ 99 := by
              obtain ⟨i, i1, i3⟩ := gv t0 t1 t2
              rw [← i3]
              exact (vl_rg h M3 C3 (by omega) (by have := (bs_mn h (t := t0) (by omega)).1; omega) t2.2).2
            obtain ⟨l4, le⟩ := bs_lo h (d := d) (by omega)
            refine t_be (rI_n (by omega) (by omega)) ?_
            rw [C3.2.2.2.2.2, le]
            refine t_be (wI_n (by omega) (by omega)) ?_
            rw [nI_1]
            refine t_be (rI_n (by omega) (by omega)) (t_be (wI_n (by omega) (by omega)) ?_)
            have M5 : MI false I0 (g_up (g_up I1 75 (lo B d) g) 79 (d + 1) (g_up I1 75 (lo B d) g 79 (d + 1) + 1)) := (M3.up (k := 75) rfl (lo := -1) (hi := 99) rfl g3 g99).up (k := 79) rfl (lo := -2147483648) (hi := 2147483647) rfl (tTop _).1 (tTop _).2
            have C5 : Cx B (g_up (g_up I1 75 (lo B d) g) 79 (d + 1) (g_up I1 75 (lo B d) g 79 (d + 1) + 1)) := (C3.up (by omega) (by omega) (by omega) (by omega) (by omega)).up (by omega) (by omega) (by omega) (by omega) (by omega)
            have z5 : ∀ k, k ≠ 75 → k ≠ 79 → g_up (g_up I1 75 (lo B d) g) 79 (d + 1) (g_up I1 75 (lo B d) g 79 (d + 1) + 1) k = I1 k := fun k y1 y2 => by rw [g_up_row y2, g_up_row y1]
            have f5 : ∀ j, g_up (g_up I1 75 (lo B d) g) 79 (d + 1) (g_up I1 75 (lo B d) g 79 (d + 1) + 1) 75 j = if j = lo B d then g else I1 75 j := fun j => by rw [g_up_row (by omega), gu_in]
            generalize g_up (g_up I1 75 (lo B d) g) 79 (d + 1) (g_up I1 75 (lo B d) g 79 (d + 1) + 1) = I5 at *
            have JB : J + 12 ^ (D - (d + 1)) ≤ 20736 := by
              rw [← hW]
              have : W * stf I1 d t0 + W ≤ 12 * W := by rw [← Nat.mul_succ, Nat.mul_comm]; exact Nat.mul_le_mul_right _ (by omega)
              omega
            refine t_bind (ih (d + 1) (by omega) (by omega) I5 J M5 C5 (by rw [z5 62 (by omega) (by omega)]; exact eJ1) JB (fun e he => ?_)) (fun r9 p9 => ?_)
            · rw [f5]
              rcases (by omega : e < d ∨ e = d) with z | z
              · rw [if_neg (hD.1 e d (by omega) dD (by omega)), G2 e z]; exact hG e z
              · rw [z, if_pos rfl]; exact gv
            · obtain ⟨M9, C9, ⟨J', eJ', J9, J9', G9, GC9, GX9⟩, H1, H2, H3, H4⟩ := p9
              refine t_be (rI_n (by omega) (by omega)) ?_
              rw [C9.2.2.2.2.2, le]
              refine t_be (wI_n (by omega) (by omega)) ?_
              have M11 : MI false I0 (g_up r9 75 (lo B d) (-1)) := M9.up (k := 75) rfl (lo := -1) (hi := 99) rfl (by decide) (by decide)
              have C11 : Cx B (g_up r9 75 (lo B d) (-1)) := C9.up (by omega) (by omega) (by omega) (by omega) (by omega)
              have z11 : ∀ k, k ≠ 75 → g_up r9 75 (lo B d) (-1) k = r9 k := fun k y => g_up_row y
              have f11 : ∀ e, e < d → g_up r9 75 (lo B d) (-1) 75 (lo B e) = I 75 (lo B e) := fun e he => by
                rw [g_up_ne (Or.inr (hD.1 e d (by omega) dD (by omega))), H2 e (by omega), f5, if_neg (hD.1 e d (by omega) dD (by omega)), G2 e he]
              generalize g_up r9 75 (lo B d) (-1) = I11 at *
              refine t_be (n_firstIn h C11 (by omega) t1 t2 t3) ?_
              have c7 : ∀ t, t < 4 → I11 77 (4 * d + t) = I1 77 (4 * d + t) ∧ I11 78 (4 * d + t) = I1 78 (4 * d + t) := fun t a => by
                rw [z11 77 (by omega), z11 78 (by omega)]
                have := H3 (4 * d + t) (by omega)
                rw [this.1, this.2, z5 77 (by omega) (by omega), z5 78 (by omega) (by omega)]; exact ⟨rfl, rfl⟩
              have sf : ∀ t, t < 4 → stf I11 d t = stf I1 d t ∧ nkf I11 d t = nkf I1 d t := fun t a => by
                unfold stf nkf
                rw [(c7 t a).1, (c7 t a).2]; exact ⟨rfl, rfl⟩
              have c6 : ∀ a, a < 48 * (d + 1) → I11 76 a = I1 76 a := fun a ha => by
                rw [z11 76 (by omega), H4 a ha, z5 76 (by omega) (by omega)]
              have S11 : DS B n d (I 75) I11 := fun t a q => by
                obtain ⟨u1, u2, u3⟩ := S t a q
                rw [(sf t (by omega)).1, (sf t (by omega)).2]
                exact ⟨u1.same (c7 t (by omega)).1 (fun j hj => c6 _ (by omega)), u2, (c7 t (by omega)).2.trans u3⟩
              have kv : kf I11 d t0 = g := by
                rw [← allg t0 t1 t2]
                unfold kf
                rw [(sf t0 (by omega)).1]
                exact c6 _ (by have := (S t0 t1 t2).1.1; omega)
              have gp : (g + 1).toInt = g.toInt + 1 := tA rfl (by decide : (1 : Int32).toInt = 1) (by omega) (by omega)
              obtain ⟨b', r, er, M12, C12, S12, mu, sl, s12', so, x1, x2, x3, x4, x5⟩ := n_leaps2 h M11 C11 (by omega) S11 t1 t2 (g + 1) (by rw [kv, gp]; omega)
              refine t_be er ?_
              unfold bX9_goes_112
              have mu' : mu9 I11 d = mu9 I1 d := by
                unfold mu9
                rw [(sf 0 (by omega)).1, (sf 1 (by omega)).1, (sf 2 (by omega)).1, (sf 3 (by omega)).1]
              refine t_nx ?_ (by show mu9 r d < mu9 I1 d; omega)
              dsimp only
              have JW' : J' ≤ J0 + W * stf r d t0 := by
                rw [← hW] at J9'
                have y : W * (stf I1 d t0 + 1) ≤ W * stf r d t0 := Nat.mul_le_mul_left _ (by rw [(sf t0 (by omega)).1] at sl; omega)
                rw [Nat.mul_succ] at y
                omega
              refine ⟨M12, C12, ⟨J', by rw [x2 26 (by omega), z11 62 (by omega)]; exact eJ', by omega, fun j a b e he => ?_, fun j a b => ?_, fun g' p1 p2 => ?_, ?_⟩, fun a ha => ?_, fun e he => ?_, fun c hc => ?_, fun a ha => ?_⟩
              · rw [x1 80 (by omega) (by omega), z11 80 (by omega)]
                rcases (by omega : j < J ∨ J ≤ j) with z | z
                · have l4 := (bs_lo h (d := e) (by omega)).1
                  rw [H1 _ (by omega), z5 80 (by omega) (by omega)]; exact GJ j a z e he
                · exact G9 j z b e he
              · have e80 : r 80 = r9 80 := by rw [x1 80 (by omega) (by omega), z11 80 (by omega)]
                rw [e80]
                rcases (by omega : j < J ∨ J ≤ j) with z | z
                · obtain ⟨y1, y2⟩ := GC j a z
                  have old : ∀ e, e < D → r9 80 (4 * j + lo B e) = I1 80 (4 * j + lo B e) := fun e he => by
                    have l4 := (bs_lo h (d := e) (by omega)).1
                    rw [H1 _ (by omega), z5 80 (by omega) (by omega)]
                  refine ⟨fun e he => (old e (by omega)).trans (y1 e he), fun e h1 h2 t ht q => ?_⟩
                  obtain ⟨i, i1, i2, i3⟩ := y2 e h1 h2 t ht q
                  refine ⟨i, i1, fun e' he' => ?_, i3.trans (old e h2).symm⟩
                  rcases i2 e' he' with w | w
                  · exact Or.inl w
                  · exact Or.inr (w.trans (old e' (by omega)).symm)
                · obtain ⟨y1, y2⟩ := GC9 j z b
                  have pf : ∀ e, e < d → r9 80 (4 * j + lo B e) = I 75 (lo B e) := fun e he => by
                    rw [y1 e (by omega), f5, if_neg (hD.1 e d (by omega) dD (by omega)), G2 e he]
                  have pd : r9 80 (4 * j + lo B d) = g := by rw [y1 d (by omega), f5, if_pos rfl]
                  refine ⟨pf, fun e h1 h2 t ht q => ?_⟩
                  rcases (by omega : e = d ∨ d + 1 ≤ e) with w | w
                  · subst w
                    obtain ⟨i, i1, i2, i3⟩ := (S.key (by omega) n4 ht q).2
                    refine ⟨i, i1, fun e' he' => ?_, (i3.trans (allg t ht q)).trans pd.symm⟩
                    rcases i2 e' he' with v | v
                    · exact Or.inl v
                    · exact Or.inr (v.trans (pf e' he').symm)
                  · exact y2 e w h2 t ht q
              · rcases GX g' p1 p2 with z | ⟨_, z⟩
                · exact Or.inl (by omega)
                · have le : g.toInt ≤ (g' d).toInt := by rw [← allg t0 t1 t2]; exact z t0 t1 t2
                  by_cases eq : g = g' d
                  · refine Or.inl ?_
                    have : J < J' := GX9 g' (fun e he => by
                      rw [f5]
                      rcases (by omega : e < d ∨ e = d) with w | w
                      · rw [if_neg (hD.1 e d (by omega) dD (by omega)), G2 e w]; exact p1 e w
                      · rw [w, if_pos rfl]; exact eq.symm) (fun e h1 h2 => p2 e (by omega) h2)
                    omega
                  · have lt : g.toInt < (g' d).toInt := by
                      have : ¬ g.toInt = (g' d).toInt := fun w => eq (Int32.toInt_inj.mp w)
                      omega
                    obtain ⟨j0, j1, j2⟩ := dHas g' p1 p2 t0 t1 t2
                    have j2' : I11 76 (12 * (4 * d + t0) + j0) = g' d := by
                      have := (S t0 t1 t2).1.1
                      rw [c6 _ (by omega)]; exact j2
                    obtain ⟨w1, w2⟩ := x5 j0 (by rw [(sf t0 (by omega)).2]; exact j1) (by rw [j2', gp]; omega)
                    refine Or.inr ⟨w1, fun t a q => ?_⟩
                    by_cases y : t = t0
                    · rw [y, ← j2']; exact w2
                    · rw [show kf r d t = kf I11 d t by unfold kf; rw [so t (by omega) y, x1 76 (by omega) (by omega)]]
                      have e1 : kf I11 d t = kf I1 d t := by
                        unfold kf
                        have := (S t a q).1.1
                        rw [(sf t (by omega)).1]
                        exact c6 _ (by have := (S t a q).2.1; omega)
                      rw [e1]; exact z t a q
              · rcases S12 with ⟨y1, y2⟩ | y1
                · exact Or.inl ⟨y1, y2, JW'⟩
                · refine Or.inr ⟨y1, ?_⟩
                  have : W * stf r d t0 ≤ 12 * W := by rw [Nat.mul_comm]; exact Nat.mul_le_mul_right _ s12'
                  omega
              · rw [x1 80 (by omega) (by omega), z11 80 (by omega), H1 a (by omega), z5 80 (by omega) (by omega)]; exact G1 a ha
              · rw [x1 75 (by omega) (by omega)]; exact f11 e he
              · rw [x1 77 (by omega) (by omega), x3 c hc, z11 77 (by omega), z11 78 (by omega), (H3 c (by omega)).1, (H3 c (by omega)).2, z5 77 (by omega) (by omega), z5 78 (by omega) (by omega)]; exact G3 c hc
              · rw [x1 76 (by omega) (by omega), c6 a (by omega)]; exact G4 a ha
          · -- one is behind
            obtain ⟨t, y1, y2, y3, y4, y5⟩ := f1.resolve_right (fun z => c2 z.1)
            subst y2
            obtain ⟨b', r, er, M12, C12, S12, mu, sl, s12', so, x1, x2, x3, x4, x5⟩ := n_leaps2 h M3 C3 (by omega) S y1 y3 g y4
            refine t_be er ?_
            unfold bX9_goes_112
            refine t_nx ?_ mu
            dsimp only
            have s0 : stf I1 d t0 ≤ stf r d t0 := by
              by_cases z : t0 = t
              · subst z; omega
              · rw [so t0 (by omega) z]; exact Nat.le_refl _
            have s0' : stf r d t0 ≤ 12 := by
              by_cases z : t0 = t
              · subst z; exact s12'
              · rw [so t0 (by omega) z]; omega
            have JW' : J ≤ J0 + W * stf r d t0 := by
              have y : W * stf I1 d t0 ≤ W * stf r d t0 := Nat.mul_le_mul_left _ s0
              omega
            refine ⟨M12, C12, ⟨J, by rw [x2 26 (by omega)]; exact eJ1, by omega, fun j a b e he => ?_, fun j a b => ?_, fun g' p1 p2 => ?_, ?_⟩, fun a ha => ?_, fun e he => ?_, fun c hc => ?_, fun a ha => ?_⟩
            · rw [x1 80 (by omega) (by omega)]; exact GJ j a b e he
            · rw [x1 80 (by omega) (by omega)]; exact GC j a b
            · rcases GX g' p1 p2 with z | ⟨_, z⟩
              · exact Or.inl z
              · have gle : g.toInt ≤ (g' d).toInt := by
                  rcases g2 with w | ⟨t', w1, w2, w3⟩
                  · obtain ⟨i, i1, i2, i3⟩ := (S.key (by omega) n4 y1 y3).2
                    have lo1 := (vl_rg h M3 C3 (t := t) (i := i) (by omega) (by have := (bs_mn h (t := t) (by omega)).1; omega) y3.2).1
                    rw [i3] at lo1
                    have m1 : ((-1) : Int32).toInt = -1 := by decide
                    rw [w, m1] at y4
                    omega
                  · rw [← w3]; exact z t' w1 w2
                obtain ⟨j0, j1, j2⟩ := dHas g' p1 p2 t y1 y3
                obtain ⟨w1, w2⟩ := x5 j0 j1 (by rw [j2]; exact gle)
                refine Or.inr ⟨w1, fun t' a q => ?_⟩
                by_cases y : t' = t
                · rw [y, ← j2]; exact w2
                · rw [show kf r d t' = kf I1 d t' by unfold kf; rw [so t' (by omega) y, x1 76 (by omega) (by omega)]]
                  exact z t' a q
            · rcases S12 with ⟨z1, z2⟩ | z1
              · exact Or.inl ⟨z1, z2, JW'⟩
              · refine Or.inr ⟨z1, ?_⟩
                have : W * stf r d t0 ≤ 12 * W := by rw [Nat.mul_comm]; exact Nat.mul_le_mul_right _ s0'
                omega
            · rw [x1 80 (by omega) (by omega)]; exact G1 a ha
            · rw [x1 75 (by omega) (by omega)]; exact G2 e he
            · rw [x1 77 (by omega) (by omega), x3 c hc]; exact G3 c hc
            · rw [x1 76 (by omega) (by omega)]; exact G4 a ha
      · intro g p1 p2
        refine Or.inr ?_
        have has : ∀ t, t < n → inn B t d → ∃ nk, Ky B t d (I 75) r2 nk ∧ r2 78 (4 * d + t) = nI 0 ∧ 0 < nk ∧ (r2 76 (12 * (4 * d + t))).toInt ≤ (g d).toInt := fun t a q => by
          obtain ⟨nk, k1, k2, k3⟩ := K2 t a q
          obtain ⟨i, i1, i2, i3⟩ := p2 d (by omega) dD t a q
          obtain ⟨j, j1, j2⟩ := (k1.2.2.2 (g d)).mp ⟨i, i1, fun e he => (i2 e he).elim Or.inl (fun y => Or.inr (y.trans (p1 e he))), i3⟩
          refine ⟨nk, k1, k2, by omega, ?_⟩
          rcases (by omega : j = 0 ∨ 0 < j) with z | z
          · rw [z] at j2; rw [← j2]; exact Int.le_refl _
          · have := k1.2.2.1 0 j z j1
            rw [j2] at this
            exact Int.le_of_lt this
        refine ⟨?_, fun t a q => ?_⟩
        · rcases v01 with z | z
          · exfalso
            obtain ⟨t, a, q, e7⟩ := K20 z
            obtain ⟨nk, k1, _, k3, _⟩ := has t a q
            have := nI_inj (e7.symm.trans k1.2.1) (by omega) (by have := k1.1; omega)
            omega
          · exact z
        · obtain ⟨nk, k1, k2, k3, k4⟩ := has t a q
          have e8 : stf r2 d t = 0 := by unfold stf; rw [k2, nIt (by omega)]
          show (kf r2 d t).toInt ≤ _
          unfold kf
          rw [e8]; exact k4
      · rcases v01 with z | z
        · exact Or.inr ⟨z, by omega⟩
        · refine Or.inl ⟨z, fun t a q => ?_, by omega⟩
          obtain ⟨nk, k1, k2, k3⟩ := K2 t a q
          have e7 : nkf r2 d t = nk := by unfold nkf; rw [k1.2.1, nIt (by have := k1.1; omega)]
          have e8 : stf r2 d t = 0 := by unfold stf; rw [k2, nIt (by omega)]
          show Ky B t d (I 75) r2 (nkf r2 d t) ∧ stf r2 d t < nkf r2 d t ∧ r2 78 (4 * d + t) = nI (stf r2 d t)
          rw [e7, e8]
          exact ⟨k1, k3 z, k2⟩
