/-! the search of both: the loop of a depth, all depths -/
theorem cs_step {rec : Int32 → gM → Option gM} {k d c : Nat} {M : gM} {g m bt : Int32} {r : gM} (hc : c < 48) (eg : fX1_greatestKey k (nI d) M = some g) (em : fX1_lowestBelow k (nI d) g M = some m) (hm : m ≠ -1) (el : fX1_isLeapt k ((nI d * 4) + m) g M = some (bt, r)) : lX1_search_19 rec k (nI d) (nI c, M) = if bt = 0 then some (.inl r) else lX1_search_19 rec k (nI d) (nI (c + 1), r) := by
  conv => lhs; unfold lX1_search_19
  rw [itO_eq]; dsimp only
  rw [if_neg (show ¬ (48 : Int32) ≤ nI c from mt (nI_leI (a := 48) (by omega) (by omega)).mp (by omega)), eg, obs, em, obs, if_neg hm]
  unfold bX1_search_63
  rw [if_neg hm, el, obs, nI_1]
  dsimp only
  by_cases c : bt = 0
  · rw [if_pos c, if_pos c, obs]; rfl
  · rw [if_neg c, if_neg c, obs]; rfl
theorem cs_found {rec : Int32 → gM → Option gM} {k d c : Nat} {M r4 : gM} {g m bt : Int32} {r : gM} (hc : c < 48) (eg : fX1_greatestKey k (nI d) M = some g) (em : fX1_lowestBelow k (nI d) g M = some (-1)) (ed : fX1_deepen rec k (nI d) g M = some r4) (e100 : fX1_lowestBelow k (nI d) 100 r4 = some m) (hm : m ≠ -1) (el : fX1_isLeapt k ((nI d * 4) + m) (g + 1) r4 = some (bt, r)) : lX1_search_19 rec k (nI d) (nI c, M) = if bt = 0 then some (.inl r) else lX1_search_19 rec k (nI d) (nI (c + 1), r) := by
  conv => lhs; unfold lX1_search_19
  rw [itO_eq]; dsimp only
  rw [if_neg (show ¬ (48 : Int32) ≤ nI c from mt (nI_leI (a := 48) (by omega) (by omega)).mp (by omega)), eg, obs, em, obs, if_pos rfl, ed, obs, e100, obs]
  unfold bX1_search_63
  rw [if_neg hm, el, obs, nI_1]
  dsimp only
  by_cases c : bt = 0
  · rw [if_pos c, if_pos c, obs]; rfl
  · rw [if_neg c, if_neg c, obs]; rfl
theorem rg_end {rec : Int32 → gM → Option gM} {v : Int32} {I : gM} : lX9_goes_19 rec v (0, I) = some I := by
  unfold lX9_goes_19
  rw [itO_eq]; dsimp only
  rw [if_pos rfl, obs]; rfl
theorem rg_step {rec : Int32 → gM → Option gM} {d : Nat} {I : gM} {g m bt : Int32} {r : gM} (eg : fX9_greatestKey (nI d) I = some g) (em : fX9_firstBehind (nI d) g I = some m) (hm : m ≠ -1) (el : fX9_leaps (nI d) m g I = some (bt, r)) : lX9_goes_19 rec (nI d) (1, I) = lX9_goes_19 rec (nI d) (bt, r) := by
  conv => lhs; unfold lX9_goes_19
  rw [itO_eq]; dsimp only
  rw [if_neg n10, eg, obs, em, obs, if_neg hm, el, obs]
  unfold bX9_goes_112
  rw [obs]; rfl
theorem rg_found {rec : Int32 → gM → Option gM} {d : Nat} {I I6 I8 r9 I11 : gM} {g m bt u5 u7 u10 : Int32} {r : gM} (eg : fX9_greatestKey (nI d) I = some g) (em : fX9_firstBehind (nI d) g I = some (-1)) (e5 : rI 4 (I 74) (nI d) = some u5) (e6 : wI I 75 4 u5 g = some I6) (e7 : rI 5 (I6 79) (nI d + 1) = some u7) (e8 : wI I6 79 5 (nI d + 1) (u7 + 1) = some I8) (e9 : rec (nI d + 1) I8 = some r9) (e10 : rI 4 (r9 74) (nI d) = some u10) (e11 : wI r9 75 4 u10 (-1) = some I11) (e12 : fX9_firstIn (nI d) I11 = some m) (el : fX9_leaps (nI d) m (g + 1) I11 = some (bt, r)) : lX9_goes_19 rec (nI d) (1, I) = lX9_goes_19 rec (nI d) (bt, r) := by
  conv => lhs; unfold lX9_goes_19
  rw [itO_eq]; dsimp only
  rw [if_neg n10, eg, obs, em, obs, if_pos rfl, e5, obs, e6, obs, e7, obs, e8, obs, e9, obs, e10, obs, e11, obs, e12, obs, el, obs]
  unfold bX9_goes_112
  rw [obs]; rfl
theorem leaps_st {I0 B I : gM} {n D d t : Nat} {f : Nat → Int32} (h : Bs B n D) (hM : MI false I0 I) (C : Cx B I) (hd : d < 4) (S : DS B n d f I) (ht : t < n) (q : inn B t d) {v : Int32} (hv : (kf I d t).toInt < v.toInt) {b : Int32} {r : gM} (e : fX9_leaps (nI d) (nI t) v I = some (b, r)) : stf I d t + 1 ≤ stf r d t := by
  obtain ⟨b', r', e', _, _, _, _, sl, _⟩ := n_leaps2 h hM C hd S ht q v hv
  rw [e] at e'
  obtain ⟨rfl, rfl⟩ := Prod.mk.inj (Option.some.inj e')
  exact sl
section TW2
variable {B R0 : gM} {n k : Nat} {A : aT} {ls : List Nat} {qs : Nat → List Nat}
theorem jn_go (hW : WF A) (hR : RT B (B 70) A) (hn : n = A.1.length) (hS : Sq B ls) (hs : okS ls) (hB : Bs B n ls.length) (hD : Dp B n ls.length) (hQ : QS A ls qs) : ∀ (w d : Nat), d + w + 1 = ls.length → ∀ (fc fr : Nat), w < fc → ls.length < fr + d → ∀ (M I : gM) (J : Nat) (f a b : Nat → Nat), SX M k A ls qs → RG M k A ls qs d f a b → PR M k ls d f → OUT k ls M I J → MI false R0 I → Cx B I → (∀ e, e < d → I 75 (ls.getD e 0) = nI (f e) ∧ f e ≤ 99) → (∀ e, e < d → GV B n e (I 75 (lo B e))) → J + 12 ^ (ls.length - d) ≤ 20736 →
    ∃ M' I' J', fX1_search fc k (nI d) M = some M' ∧ fX9_goes fr (nI d) I = some I' ∧ OUT k ls M' I' J' ∧ FRc k d M M' ∧ J' ≤ 20736 := by
  have h4 := hs.1
  have hn4 := hW.1
  intro w
  induction w using Nat.strongRecOn with
  | _ w ih =>
    intro d hdw fc fr hfc hfr M I J f a b S RG0 P0 O0 hM hC hF hGV hJ
    have hd : d < ls.length := by omega
    obtain ⟨fc, rfl⟩ : ∃ z, fc = z + 1 := ⟨fc - 1, by omega⟩
    obtain ⟨fr, rfl⟩ : ∃ z, fr = z + 1 := ⟨fr - 1, by omega⟩
    have inn_iff : ∀ t, t < n → (inn B t d ↔ inB A ls t d = true) := fun t ht => br_inn hW hR hS hs hB (by omega) hd
    have in_n : ∀ t, inB A ls t d = true → t < n := fun t h => by rw [hn]; exact inB_t hW h
    have lod : lo B d = ls.getD d 0 := br_lo hS hs hd
    have loe : ∀ e, e < ls.length → lo B e = ls.getD e 0 := fun e he => br_lo hS hs he
    have l4 := hs.2.1 d hd
    obtain ⟨t0, t1, t2, t3⟩ := least (hD.2 d hd)
    have i0 := (inn_iff t0 t1).mp t2
    -- both at the first keys
    obtain ⟨v, r2, e2, v01, M2, C2, K2, K20, F2, F3, F4⟩ := n_laysKeys hB hM hC (d := d) (by omega)
    obtain ⟨v8, r8, e8, g1, g2, g3⟩ := c_isOpened hW hs hQ S hd RG0
    have f75 : r2 75 = I 75 := F2 75 (by omega) (by omega) (by omega)
    have FR8 : FRc k d M r8 := ⟨fun q _ _ _ _ _ _ h => g1 q h, fun j _ => by rw [g1 k (by omega)], fun j _ => by rw [g1 _ (by omega)], fun j _ => ⟨by rw [g1 _ (by omega)], by rw [g1 _ (by omega)]⟩, fun j hj => g2 j (Or.inl hj)⟩
    have O8 : OUT k ls r8 r2 J := by
      obtain ⟨o1, o2, o3, o4, o5⟩ := O0
      refine ⟨by rw [g1 k (by omega)]; exact o1, by rw [F2 62 (by omega) (by omega) (by omega)]; exact o2, by rw [g1 k (by omega), F2 62 (by omega) (by omega) (by omega)]; exact o3, fun e he => by rw [g1 _ (by omega), F2 79 (by omega) (by omega) (by omega)]; exact o4 e he, fun j hj => ?_⟩
      obtain ⟨P, P1, P2, P3⟩ := o5 j hj
      exact ⟨P, P1, by rw [g1 _ (by omega)]; exact P2, fun e he => by rw [F2 80 (by omega) (by omega) (by omega)]; exact P3 e he⟩
    have hset : ∀ t, inB A ls t d = true → ∀ {nk : Nat}, Ky B t d (I 75) r2 nk → ∀ v, v < 1000 → ((∃ j, j < nk ∧ r2 76 (12 * (4 * d + t) + j) = nI v) ↔ ∃ j, a t ≤ j ∧ j < b t ∧ uq A ls qs t d j = v) := fun t h nk hK v hv => by
      rw [RG0.set hW hQ hd h v]
      exact br_set hW hR hS hs hB hd h (fun e he => hF e he) hK hv
    have eSc : fX1_search (fc + 1) k (nI d) M = if v8 = 0 then some r8 else ((lX1_search_19 (fun d I => fX1_search fc k d I) k (nI d) (nI 0, r8)).bind fun w7 => Sum.elim (fun w7_0 => some w7_0) (fun w7_1 => some w7_1) w7) := by
      show fX1_searchB (fun d I => fX1_search fc k d I) k (nI d) M = _
      unfold fX1_searchB
      rw [S.1, if_neg (mt (nI_leI (by omega) (by omega)).mp (by omega)), e8, obs]; rfl
    have eSr : fX9_goes (fr + 1) (nI d) I = (lX9_goes_19 (fun d I => fX9_goes fr d I) (nI d) (v, r2)).bind fun w15 => some w15 := by
      show fX9_goesB (fun d I => fX9_goes fr d I) (nI d) I = _
      unfold fX9_goesB
      rw [if_neg (show ¬ nI d = I 62 19 by rw [hC.2.1, hB.2.2.2.1]; exact fun z => by have := nI_inj z (by omega) (by omega); omega), e2, obs]
    rw [eSc, eSr]
    rcases g3 with ⟨rfl, g4, g5⟩ | ⟨rfl, t, z1, z2, z3⟩
    · -- each has a key
      have v1 : v = 1 := by
        rcases v01 with z | z
        · exfalso
          obtain ⟨t, y1, y2, y3⟩ := K20 z
          have yi := (inn_iff t y1).mp y2
          obtain ⟨nk, n1, _, _⟩ := K2 t y1 y2
          have : nk = 0 := nI_inj (n1.2.1.symm.trans y3) (by have := n1.1; omega) (by omega)
          subst this
          have ab := g5 t (by omega) yi
          obtain ⟨_, _, _, rb, _⟩ := RG0 t (by omega) (inB_and.mp yi).1
          have u99 := uq_99 hW hQ hd yi (show a t < (qs t).length by omega)
          obtain ⟨j, j1, _⟩ := (hset t yi n1 (uq A ls qs t d (a t)) (by omega)).mpr ⟨a t, Nat.le_refl _, ab, rfl⟩
          omega
        · exact z
      subst v1
      rw [if_neg n10]
      have L0' : LI B R0 n k A ls qs d (I 75) a b t0 J M 0 r8 r2 J a := by
        refine ⟨FR8, fun t ht hi => ?_, fun t ht hu hi => ?_, ?_, M2, C2, fun t ht hi => ?_, fun e he => by rw [f75], by omega, O8, fun t ht hi => ?_⟩
        · rw [g4 t ht, (RG0 t ht (inB_and.mp hi).1).1]
          exact ⟨rfl, Nat.le_refl _, g5 t ht hi, fun j h1 h2 => by omega⟩
        · rw [g4 t ht, (RG0 t ht hu).1]
        · have wl : ∀ t, t < 4 → wg A ls d b a t ≤ 12 := fun t ht => by
            unfold wg
            by_cases c : inB A ls t d = true
            · rw [if_pos c]
              have := (RG0 t ht (inB_and.mp c).1).2.2.2.1
              have := (hQ t ht (inB_and.mp c).1).1
              omega
            · rw [if_neg c]; omega
          have := wl 0 (by omega)
          have := wl 1 (by omega)
          have := wl 2 (by omega)
          have := wl 3 (by omega)
          omega
        · obtain ⟨nk, n1, n2, n3⟩ := K2 t ht hi
          have e1 : nkf r2 d t = nk := by
            unfold nkf
            rw [n1.2.1, nIt (by have := n1.1; omega)]
          have e0 : stf r2 d t = 0 := by
            unfold stf
            rw [n2]; rfl
          rw [e1, e0]
          exact ⟨n1, n3 rfl, n2⟩
        · have hit := (inn_iff t ht).mpr hi
          obtain ⟨nk, n1, n2, n3⟩ := K2 t ht hit
          have e0 : stf r2 d t = 0 := by
            unfold stf
            rw [n2]; rfl
          have n0 := n3 rfl
          obtain ⟨w, w99, ew⟩ := br_key hW hR hS hs hB hd hi n1 n0
          have ab := g5 t (by omega) hi
          obtain ⟨_, _, _, rb, _⟩ := RG0 t (by omega) (inB_and.mp hi).1
          have u99 := uq_99 hW hQ hd hi (show a t < (qs t).length by omega)
          obtain ⟨j, j1, j2⟩ := (hset t hi n1 (uq A ls qs t d (a t)) (by omega)).mpr ⟨a t, Nat.le_refl _, ab, rfl⟩
          obtain ⟨m, m1, m2, m3⟩ := (hset t hi n1 w (by omega)).mp ⟨0, n0, ew⟩
          have le1 := RG0.mono hW hs hQ hd hi (Nat.le_refl (a t)) m1 m2
          have le2 : w ≤ uq A ls qs t d (a t) := by
            rcases Nat.eq_zero_or_pos j with z | z
            · rw [z, ew] at j2
              have := nI_inj j2 (by omega) (by omega)
              omega
            · have := n1.2.2.1 0 j z j1
              rw [ew, j2, tnI (by omega), tnI (by omega)] at this
              omega
          show r2 76 (12 * (4 * d + t) + stf r2 d t) = _
          rw [e0, ew]
          congr 1
          omega
      have loop : ∀ (m c : Nat) (M1 I1 : gM) (J1 : Nat) (x : Nat → Nat), 48 - c = m → LI B R0 n k A ls qs d (I 75) a b t0 J M c M1 I1 J1 x → ∃ M' I' J', (∃ w, lX1_search_19 (fun d I => fX1_search fc k d I) k (nI d) (nI c, M1) = some w ∧ (w = .inl M' ∨ w = .inr M')) ∧ lX9_goes_19 (fun d I => fX9_goes fr d I) (nI d) (1, I1) = some I' ∧ OUT k ls M' I' J' ∧ FRc k d M M' ∧ J' ≤ 20736 := by
        intro m
        induction m using Nat.strongRecOn with
        | _ m ihm =>
          intro c M1 I1 J1 x hm hL
          obtain ⟨q1, q2, q3, q4, q5, q6, q7, q8, q9, q10, q11⟩ := id hL
          have S1 := q1.sx S
          have RG1 := q1.rg RG0
          have P1 := q1.pr P0
          have hx : AT M1 k A ls qs d x := fun t ht hi => ⟨(q2 t ht hi).1, by have := (q2 t ht hi).2.2.1; have := (RG0 t ht (inB_and.mp hi).1).2.2.2.1; omega⟩
          have t04 : t0 < 4 := by omega
          have hc : c < 48 := by
            have h0 : 1 ≤ wg A ls d b x t0 := by
              unfold wg
              rw [if_pos i0]
              have := (q2 t0 t04 i0).2.2.1
              omega
            rcases (by omega : t0 = 0 ∨ t0 = 1 ∨ t0 = 2 ∨ t0 = 3) with z | z | z | z <;> rw [z] at h0 <;> omega
          have hlt : 48 - (c + 1) < m := by rw [← hm]; exact Nat.sub_succ_lt_self 48 c hc
          have un : ∀ t, t < 4 → inB A ls t d = true → uq A ls qs t d (x t) ≤ 99 := fun t ht hi => uq_99 hW hQ hd hi (hx t ht hi).2
          -- the greatest key
          obtain ⟨g, eg, hg⟩ := c_greatestKey hW hs hQ S1 hd hx
          obtain ⟨g', rfl, gle, tg, tg4, tgi, tge⟩ : ∃ g', g = nI g' ∧ (∀ t, t < 4 → inB A ls t d = true → uq A ls qs t d (x t) ≤ g') ∧ ∃ t, t < 4 ∧ inB A ls t d = true ∧ uq A ls qs t d (x t) = g' := by
            rcases hg with ⟨_, z⟩ | z
            · rw [z t0 t04] at i0; exact absurd i0 (by decide)
            · exact z
          have g99 : g' ≤ 99 := by rw [← tge]; exact un tg tg4 tgi
          obtain ⟨gr, er, r1', r2', r3'⟩ := n_greatestKey hB q6 (by omega) q7
          have egr : gr = nI g' := by
            have a1 := r1' tg (in_n tg tgi) ((inn_iff tg (in_n tg tgi)).mpr tgi)
            rw [q11 tg (in_n tg tgi) tgi, tge, tnI (by omega)] at a1
            rcases r2' with z | ⟨t', y1, y2, y3⟩
            · rw [z, show ((-1 : Int32)).toInt = -1 by decide] at a1; omega
            · have yi := (inn_iff t' y1).mp y2
              rw [q11 t' y1 yi] at y3
              have := gle t' (by omega) yi
              rw [← y3, tnI (by have := un t' (by omega) yi; omega)] at a1
              rw [← y3]
              congr 1
              omega
          subst egr
          obtain ⟨ml, el, hml⟩ := c_lowestBelow hW hs hQ S1 hd hx (v := g') (by omega)
          obtain ⟨mr, emr, hmr⟩ := n_firstBehind hB q6 (by omega) q7 (nI g')
          have emm : mr = ml := by
            rcases hml with ⟨t, y1, y2, y3, y4, y5⟩ | ⟨y1, y2⟩ <;> rcases hmr with ⟨t', x1, x2, x3, x4, x5⟩ | ⟨x1, x2⟩
            · have xi := (inn_iff t' x1).mp x3
              rw [q11 t' x1 xi, tnI (by have := un t' (by omega) xi; omega), tnI (by omega)] at x4
              rw [y2, x2]
              rcases Nat.lt_trichotomy t t' with z | z | z
              · exfalso
                have := x5 t z ((inn_iff t (in_n t y3)).mpr y3)
                rw [q11 t (in_n t y3) y3, tnI (by omega), tnI (by have := un t y1 y3; omega)] at this
                omega
              · rw [z]
              · exfalso
                have := y5 t' z xi
                omega
            · exfalso
              have := x2 t (in_n t y3) ((inn_iff t (in_n t y3)).mpr y3)
              rw [q11 t (in_n t y3) y3, tnI (by omega), tnI (by have := un t y1 y3; omega)] at this
              omega
            · exfalso
              have xi := (inn_iff t' x1).mp x3
              rw [q11 t' x1 xi, tnI (by have := un t' (by omega) xi; omega), tnI (by omega)] at x4
              have := y2 t' (by omega) xi
              omega
            · rw [x1, y1]
          subst emm
          have J1le : J1 ≤ 20736 := by
            have s12 : stf I1 d t0 ≤ 12 := by
              obtain ⟨u1, u2, u3⟩ := q7 t0 t1 t2
              have := u1.1
              omega
            have y : 12 ^ (ls.length - (d + 1)) * stf I1 d t0 ≤ 12 ^ (ls.length - (d + 1)) * 12 := Nat.mul_le_mul_left _ s12
            have W12' : 12 ^ (ls.length - d) = 12 ^ (ls.length - (d + 1)) * 12 := by rw [show ls.length - d = ls.length - (d + 1) + 1 by omega, Nat.pow_succ]
            rw [W12'] at hJ
            exact Nat.le_trans q9 (Nat.le_trans (Nat.add_le_add_left y J) hJ)
          -- behind the leap of a table
          have go : ∀ {Y : Option (gM ⊕ gM)} {Z : Option gM} {bt bt' : Int32} {r r9 : gM} {J2 : Nat}, Y = (if bt = 0 then some (.inl r) else lX1_search_19 (fun d I => fX1_search fc k d I) k (nI d) (nI (c + 1), r)) → Z = lX9_goes_19 (fun d I => fX9_goes fr d I) (nI d) (bt', r9) → ((bt = 0 ∧ bt' = 0 ∧ FRc k d M r ∧ OUT k ls r r9 J2 ∧ J2 ≤ 20736) ∨ (bt = 1 ∧ bt' = 1 ∧ ∃ x', LI B R0 n k A ls qs d (I 75) a b t0 J M (c + 1) r r9 J2 x')) → ∃ M' I' J', (∃ w, Y = some w ∧ (w = .inl M' ∨ w = .inr M')) ∧ Z = some I' ∧ OUT k ls M' I' J' ∧ FRc k d M M' ∧ J' ≤ 20736 := by
            intro Y Z bt bt' r r9 J2 hY hZ h
            rcases h with ⟨rfl, rfl, h1, h2, h3⟩ | ⟨rfl, rfl, x', h1⟩
            · rw [if_pos rfl] at hY
              rw [rg_end] at hZ
              exact ⟨r, r9, J2, ⟨_, hY, Or.inl rfl⟩, hZ, h2, h1, h3⟩
            · rw [if_neg n10] at hY
              rw [hY, hZ]
              exact ihm (48 - (c + 1)) hlt (c + 1) r r9 J2 x' rfl h1
          by_cases c2 : mr = -1
          · subst c2
            -- all stand at one key
            have all : ∀ t, t < 4 → inB A ls t d = true → uq A ls qs t d (x t) = g' := fun t ht hi => by
              rcases hml with ⟨t', y1, y2, _⟩ | ⟨_, y2⟩
              · exact absurd y2.symm (nI_m1 (by omega))
              · have := y2 t ht hi
                have := gle t ht hi
                omega
            have allk : ∀ t, t < n → inn B t d → kf I1 d t = nI g' := fun t ht hi => by
              have := (inn_iff t ht).mp hi
              rw [q11 t ht this, all t (by omega) this]
            have gv : GV B n d (nI g') := fun t ht hi => by
              obtain ⟨i, i1, i2, i3⟩ := (q7.key (by omega) (by omega) ht hi).2
              exact ⟨i, i1, i3.trans (allk t ht hi)⟩
            obtain ⟨W, hWd⟩ : ∃ W, W = 12 ^ (ls.length - (d + 1)) := ⟨_, rfl⟩
            have W12 : 12 ^ (ls.length - d) = 12 * W := by rw [hWd, show ls.length - d = ls.length - (d + 1) + 1 by omega, Nat.pow_succ, Nat.mul_comm]
            have s12 : stf I1 d t0 < 12 := by
              obtain ⟨u1, u2, u3⟩ := q7 t0 t1 t2
              have := u1.1
              omega
            have JB : J1 + 12 ^ (ls.length - (d + 1)) ≤ 20736 := by
              rw [← hWd] at q9 ⊢
              have : W * stf I1 d t0 + W ≤ 12 * W := by rw [← Nat.mul_succ, Nat.mul_comm]; exact Nat.mul_le_mul_right _ (by omega)
              omega
            have W1 : 1 ≤ W := by rw [hWd]; exact Nat.pow_pos (by decide)
            have J1lt : J1 < 20736 := by rw [← hWd] at JB; omega
            -- the reference's memory with the number found
            have e74 : I1 74 d = nI (ls.getD d 0) := by rw [q6.2.2.2.2.2]; exact hS.2 d hd
            generalize hI5 : g_up (g_up I1 75 (ls.getD d 0) (nI g')) 79 (d + 1) (I1 79 (d + 1) + 1) = I5
            have z5 : ∀ q, q ≠ 75 → q ≠ 79 → I5 q = I1 q := fun q y1 y2 => by rw [← hI5, g_up_row y2, g_up_row y1]
            have f5 : ∀ j, I5 75 j = if j = ls.getD d 0 then nI g' else I1 75 j := fun j => by rw [← hI5, g_up_row (by omega), gu_in]
            have h79 : ∀ j, I5 79 j = if j = d + 1 then I1 79 (d + 1) + 1 else I1 79 j := fun j => by rw [← hI5, gu_in, g_up_row (by omega)]
            have M5 : MI false R0 I5 := by
              rw [← hI5]
              exact (q5.up (k := 75) rfl (lo := -1) (hi := 99) rfl (by rw [tnI (by omega)]; omega) (by rw [tnI (by omega)]; omega)).up (k := 79) rfl (lo := -2147483648) (hi := 2147483647) rfl (tTop _).1 (tTop _).2
            have C5 : Cx B I5 := by
              rw [← hI5]
              exact (q6.up (by omega) (by omega) (by omega) (by omega) (by omega)).up (by omega) (by omega) (by omega) (by omega) (by omega)
            have f5e : ∀ e, e < d → I5 75 (ls.getD e 0) = I1 75 (ls.getD e 0) := fun e he => by rw [f5, if_neg (hs.2.2 e d (by omega) hd (by omega))]
            have GV5 : ∀ e, e < d + 1 → GV B n e (I5 75 (lo B e)) := fun e he => by
              rw [loe e (by omega)]
              rcases (by omega : e < d ∨ e = d) with z | z
              · rw [f5e e z, q8 e z, ← loe e (by omega)]; exact hGV e z
              · rw [z, f5, if_pos rfl]; exact gv
            have eJ5 : I5 62 26 = nI J1 := by rw [z5 62 (by omega) (by omega)]; exact q10.2.1
            obtain ⟨r9, e9, M9, C9, ⟨J', eJ', J9, J9', _, _, _⟩, H1, H2, H3, H4⟩ := n_goes hB hD fr (d + 1) (by omega) (by omega) I5 J1 M5 C5 eJ5 JB GV5
            -- the class's memory with the number found
            obtain ⟨P, P28, Pe, Pf, Pz⟩ := P1
            have lz : d4 (ls.getD d 0) P = 0 := Pz _ l4 (fun e he => hs.2.2 e d (by omega) hd (by omega))
            obtain ⟨P', o1, o2, o3, o4⟩ := or4 P28 l4 (show g' < 128 by omega) lz
            generalize hM5 : g_up (g_up M1 (k + 1) d (M1 (k + 1) d + 1)) (k + 4) (d + 1) (nI P') = N5
            have y5 : ∀ q, q ≠ k + 1 → q ≠ k + 4 → N5 q = M1 q := fun q y1 y2 => by rw [← hM5, g_up_row y2, g_up_row y1]
            have y4 : ∀ j, N5 (k + 4) j = if j = d + 1 then nI P' else M1 (k + 4) j := fun j => by rw [← hM5, gu_in, g_up_row (by omega)]
            have y1 : ∀ j, N5 (k + 1) j = if j = d then M1 (k + 1) d + 1 else M1 (k + 1) j := fun j => by rw [← hM5, g_up_row (by omega), gu_in]
            have FN : FRc k d M1 N5 := ⟨fun q _ h1 _ h2 _ _ _ => y5 q h1 h2, fun j _ => by rw [y5 k (by omega) (by omega)], fun j hj => by rw [y4, if_neg (by omega)], fun j _ => ⟨by rw [y5 _ (by omega) (by omega)], by rw [y5 _ (by omega) (by omega)]⟩, fun j _ => by rw [y5 _ (by omega) (by omega)]⟩
            have S5 := FN.sx S1
            have RG5 := FN.rg RG1
            have f' : ∀ e, e < d + 1 → I5 75 (ls.getD e 0) = nI (if e = d then g' else f e) ∧ (if e = d then g' else f e) ≤ 99 := fun e he => by
              rcases (by omega : e < d ∨ e = d) with z | z
              · rw [if_neg (by omega), f5e e z, q8 e z]; exact hF e z
              · rw [if_pos z, z, f5, if_pos rfl]; exact ⟨rfl, g99⟩
            have PR5 : PR N5 k ls (d + 1) (fun e => if e = d then g' else f e) := by
              refine ⟨P', o2, by rw [y4, if_pos rfl], fun e he => ?_, fun l hl hne => ?_⟩
              · dsimp only
                rcases (by omega : e < d ∨ e = d) with z | z
                · rw [if_neg (by omega), o4 _ (hs.2.1 e (by omega)) (hs.2.2 e d (by omega) hd (by omega))]; exact Pf e z
                · rw [if_pos z, z]; exact o3
              · rw [o4 l hl (fun z => hne d (by omega) z.symm)]
                exact Pz l hl (fun e he => hne e (by omega))
            have O5 : OUT k ls N5 I5 J1 := by
              obtain ⟨w1, w2, w3, w4, w5⟩ := q10
              refine ⟨by rw [y5 k (by omega) (by omega)]; exact w1, eJ5, by rw [y5 k (by omega) (by omega), z5 62 (by omega) (by omega)]; exact w3, fun e he => ?_, fun j hj => ?_⟩
              · rw [y1, h79]
                by_cases z : e = d
                · rw [if_pos z, if_pos (by omega), w4 d (by omega)]
                · rw [if_neg z, if_neg (by omega)]; exact w4 e he
              · obtain ⟨Q, Q1, Q2, Q3⟩ := w5 j hj
                exact ⟨Q, Q1, by rw [y5 _ (by omega) (by omega)]; exact Q2, fun e he => by rw [z5 80 (by omega) (by omega)]; exact Q3 e he⟩
            -- the next depth
            have deep : ∃ r4, fX1_deepen (fun d I => fX1_search fc k d I) k (nI d) (nI g') M1 = some r4 ∧ OUT k ls r4 r9 J' ∧ FRc k d M1 r4 ∧ ∀ j, j < 4 * (d + 1) → r4 (k + 10) j = M1 (k + 10) j := by
              have eD : fX1_deepen (fun d I => fX1_search fc k d I) k (nI d) (nI g') M1 = if N5 k 2 ≤ nI (d + 1) then (if (20736 : Int32) ≤ N5 k 0 then some N5 else (rI 5 (N5 (k + 4)) (nI (d + 1))).bind fun u6 => (wI N5 (k + 3) 20736 (N5 k 0) u6).bind fun I7 => (pU I7 k 0 ((I7 k 0) + 1)).bind fun I8 => some I8) else (fX1_narrow k (nI d) (nI g') N5).bind fun r9 => (fX1_search fc k (nI (d + 1)) r9).bind fun r10 => some r10 := by
                unfold fX1_deepen
                rw [rI_n (by omega) (by omega), obs, wI_n (by omega) (by omega), obs, g_up_row (show k + 4 ≠ k + 1 by omega), rI_n (by omega) (by omega), obs, Pe, g_up_row (show k + 2 ≠ k + 1 by omega), rI_n (by omega) (by omega), obs, S1.2.1 d hd, o1, nI_1, wI_n (by omega) (by omega), obs, hM5]
              rw [eD, S5.1]
              by_cases hl : d + 1 = ls.length
              · -- a row
                rw [if_pos ((nI_leI (by omega) (by omega)).mpr (by omega)), O5.1, L20736, if_neg (mt (nI_leI (by omega) (by omega)).mp (by omega)), rI_n (by omega) (by omega), obs, y4, if_pos rfl, wI_n (by omega) (by omega), obs, pU_n, obs]
                obtain ⟨fr, rfl⟩ : ∃ z, fr = z + 1 := ⟨fr - 1, by omega⟩
                have e9' : fX9_goes (fr + 1) (nI (d + 1)) I5 = (fX9_takesRow I5).bind fun r1 => some r1 := by
                  show fX9_goesB (fun d I => fX9_goes fr d I) (nI (d + 1)) I5 = _
                  unfold fX9_goesB
                  rw [if_pos (show nI (d + 1) = I5 62 19 by rw [C5.2.1, hB.2.2.2.1, hl])]
                obtain ⟨rt, et, _, t26, t80, t80', tk, tj⟩ := n_takesRow M5 J1lt eJ5
                rw [et, obs, e9] at e9'
                obtain rfl := Option.some.inj e9'
                have : J' = J1 + 1 := nI_inj (eJ'.symm.trans t26) (by omega) (by omega)
                subst this
                have ek0 : g_up N5 (k + 3) J1 (nI P') k 0 = nI J1 := by rw [g_up_row (by omega)]; exact O5.1
                rw [ek0, nI_1]
                refine ⟨_, rfl, ⟨g_up_self, eJ', ?_, fun e he => ?_, fun j hj => ?_⟩, FN.trans ⟨fun q h1 _ h3 _ _ _ _ => by rw [g_up_row h1, g_up_row h3], fun j hj => by rw [g_up_ne (Or.inr (by omega)), g_up_row (by omega)], fun j _ => by rw [g_up_row (by omega), g_up_row (by omega)], fun j _ => ⟨by rw [g_up_row (by omega), g_up_row (by omega)], by rw [g_up_row (by omega), g_up_row (by omega)]⟩, fun j _ => by rw [g_up_row (by omega), g_up_row (by omega)]⟩, fun j _ => by rw [g_up_row (by omega), g_up_row (by omega), y5 _ (by omega) (by omega)]⟩
                · rw [g_up_ne (Or.inr (by decide)), g_up_row (by omega), tj 27 (by omega)]; exact O5.2.2.1
                · rw [g_up_row (by omega), g_up_row (by omega), tk 79 (by omega) (by omega)]; exact O5.2.2.2.1 e he
                · rcases (by omega : j < J1 ∨ j = J1) with z | z
                  · obtain ⟨Q, Q1, Q2, Q3⟩ := O5.2.2.2.2 j z
                    refine ⟨Q, Q1, by rw [g_up_row (by omega), g_up_ne (Or.inr (by omega))]; exact Q2, fun e he => ?_⟩
                    have := hs.2.1 e he
                    rw [t80' _ (Or.inl (by omega))]; exact Q3 e he
                  · subst z
                    refine ⟨P', o2, by rw [g_up_row (by omega), g_up_self], fun e he => ?_⟩
                    obtain ⟨PP, _, pe, pf, _⟩ := PR5
                    have ePP : PP = P' := by
                      rw [y4, if_pos rfl] at pe
                      exact (nI_inj pe (by omega) (by omega)).symm
                    rw [t80 _ (hs.2.1 e he), (f' e (by omega)).1, ← ePP, pf e (by omega)]
              · -- deeper
                rw [if_neg (mt (nI_leI (by omega) (by omega)).mp (by omega))]
                have k10 : ∀ j, N5 (k + 10) j = M1 (k + 10) j := fun j => by rw [y5 _ (by omega) (by omega)]
                obtain ⟨rn, a', b', en, RGn, fn, fn2⟩ := c_narrow hW hs hQ S5 (d := d) (x := x) (by omega) RG5 (v := g') (by omega) (fun t ht hi => by
                  obtain ⟨w1, w2, w3, w4⟩ := q2 t ht hi
                  refine ⟨by rw [k10]; exact w1, w2, w3, all t ht hi, fun j h1 h2 => ?_⟩
                  have := w4 j h1 h2
                  rw [all t ht hi] at this
                  exact this) (fun t ht hu hi => by rw [k10]; exact q3 t ht hu hi)
                have Sn := S5.cong (r := rn) (by rw [fn k (by omega) (by omega)]) (fn _ (by omega) (by omega)) (fn _ (by omega) (by omega)) (fn _ (by omega) (by omega))
                have On : OUT k ls rn I5 J1 := by
                  obtain ⟨w1, w2, w3, w4, w5⟩ := O5
                  refine ⟨by rw [fn k (by omega) (by omega)]; exact w1, w2, by rw [fn k (by omega) (by omega)]; exact w3, fun e he => by rw [fn _ (by omega) (by omega)]; exact w4 e he, fun j hj => ?_⟩
                  obtain ⟨Q, Q1, Q2, Q3⟩ := w5 j hj
                  exact ⟨Q, Q1, by rw [fn _ (by omega) (by omega)]; exact Q2, Q3⟩
                have PRn : PR rn k ls (d + 1) (fun e => if e = d then g' else f e) := by
                  obtain ⟨Q, Q1, Q2, Q3⟩ := PR5
                  exact ⟨Q, Q1, by rw [fn _ (by omega) (by omega)]; exact Q2, Q3⟩
                obtain ⟨M', I', J2, b1, b2, b3, b4, b5⟩ := ih (w - 1) (by omega) (d + 1) (by omega) fc fr (by omega) (by omega) rn I5 J1 _ a' b' Sn RGn PRn On M5 C5 (fun e he => f' e he) GV5 JB
                rw [e9] at b2
                obtain rfl := Option.some.inj b2
                have : J2 = J' := nI_inj (b3.2.1.symm.trans eJ') (by omega) (by omega)
                subst this
                rw [en, obs, b1, obs]
                obtain ⟨c1, c2, c3, c4, c5⟩ := b4
                refine ⟨M', rfl, b3, FN.trans ⟨fun q h1 h2 h3 h5 h8 h9 h10 => by rw [c1 q h1 h2 h3 h5 h8 h9 h10, fn q h8 h9], fun j hj => by rw [c2 j hj, fn k (by omega) (by omega)], fun j hj => by rw [c3 j (by omega), fn _ (by omega) (by omega)], fun j hj => ⟨by rw [(c4 j (by omega)).1, (fn2 j hj).1], by rw [(c4 j (by omega)).2, (fn2 j hj).2]⟩, fun j hj => by rw [c5 j (by omega), fn _ (by omega) (by omega)]⟩, fun j hj => by rw [c5 j hj, fn _ (by omega) (by omega), k10]⟩
            obtain ⟨r4, d1, d2, d3, d4'⟩ := deep
            have S4 := d3.sx S1
            -- behind the row or the rows: the first table goes on
            generalize hI11 : g_up r9 75 (ls.getD d 0) (-1) = I11
            have M11 : MI false R0 I11 := by rw [← hI11]; exact M9.up (k := 75) rfl (lo := -1) (hi := 99) rfl (by decide) (by decide)
            have C11 : Cx B I11 := by rw [← hI11]; exact C9.up (by omega) (by omega) (by omega) (by omega) (by omega)
            have z11 : ∀ q, q ≠ 75 → I11 q = r9 q := fun q y => by rw [← hI11, g_up_row y]
            have c7 : ∀ t, t < 4 → I11 77 (4 * d + t) = I1 77 (4 * d + t) ∧ I11 78 (4 * d + t) = I1 78 (4 * d + t) := fun t a => by
              rw [z11 77 (by omega), z11 78 (by omega)]
              have := H3 (4 * d + t) (by omega)
              rw [this.1, this.2, z5 77 (by omega) (by omega), z5 78 (by omega) (by omega)]; exact ⟨rfl, rfl⟩
            have sf : ∀ t, t < 4 → stf I11 d t = stf I1 d t ∧ nkf I11 d t = nkf I1 d t := fun t a => by
              unfold stf nkf
              rw [(c7 t a).1, (c7 t a).2]; exact ⟨rfl, rfl⟩
            have c6 : ∀ a, a < 48 * (d + 1) → I11 76 a = I1 76 a := fun a ha => by
              rw [z11 76 (by omega), H4 a ha, z5 76 (by omega) (by omega)]
            have S11 : DS B n d (I 75) I11 := fun t a q => by
              obtain ⟨u1, u2, u3⟩ := q7 t a q
              rw [(sf t (by omega)).1, (sf t (by omega)).2]
              exact ⟨u1.same (c7 t (by omega)).1 (fun j hj => c6 _ (by omega)), u2, (c7 t (by omega)).2.trans u3⟩
            have L11 : LI B R0 n k A ls qs d (I 75) a b t0 J' M c r4 I11 J' x := by
              refine ⟨q1.trans d3, fun t ht hi => ?_, fun t ht hu hi => ?_, q4, M11, C11, S11, fun e he => ?_, by omega, ?_, fun t ht hi => ?_⟩
              · rw [d4' _ (by omega)]; exact q2 t ht hi
              · rw [d4' _ (by omega)]; exact q3 t ht hu hi
              · rw [← hI11, g_up_ne (Or.inr (hs.2.2 e d (by omega) hd (by omega))), ← loe e (by omega), H2 e (by omega), loe e (by omega), f5e e he]; exact q8 e he
              · obtain ⟨w1, w2, w3, w4, w5⟩ := d2
                refine ⟨w1, by rw [z11 62 (by omega)]; exact w2, by rw [z11 62 (by omega)]; exact w3, fun e he => by rw [z11 79 (by omega)]; exact w4 e he, fun j hj => ?_⟩
                obtain ⟨Q, Q1, Q2, Q3⟩ := w5 j hj
                exact ⟨Q, Q1, Q2, fun e he => by rw [z11 80 (by omega)]; exact Q3 e he⟩
              · have e1 : kf I11 d t = kf I1 d t := by
                  unfold kf
                  have u := q7 t ht ((inn_iff t ht).mpr hi)
                  rw [(sf t (by omega)).1]
                  exact c6 _ (by have := u.1.1; have := u.2.1; omega)
                rw [e1]; exact q11 t ht hi
            have hx4 : AT r4 k A ls qs d x := fun t ht hi => ⟨by rw [d4' _ (by omega)]; exact (hx t ht hi).1, (hx t ht hi).2⟩
            have first0 : ∀ t', t' < t0 → inB A ls t' d = true → False := fun t' h1 h2 => t3 t' h1 ((inn_iff t' (by omega)).mpr h2)
            obtain ⟨m5, e5, h5⟩ := c_lowestBelow hW hs hQ S4 hd hx4 (v := 100) (by omega)
            have em5 : m5 = nI t0 := by
              rcases h5 with ⟨t, y1', y2', y3', y4', y5'⟩ | ⟨_, y2'⟩
              · rw [y2']
                rcases Nat.lt_trichotomy t t0 with z | z | z
                · exact absurd y3' (fun q => first0 t z q)
                · rw [z]
                · exfalso
                  have := y5' t0 z i0
                  have := un t0 t04 i0
                  omega
              · exfalso
                have := y2' t0 t04 i0
                have := un t0 t04 i0
                omega
            subst em5
            have ug := all t0 t04 i0
            obtain ⟨r, rr, hlp⟩ := leap_two hW hR hn hS hs hB hQ hd (fun e he => hF e he) S RG0 L11 t1 t2 t04 i0 (g := g' + 1) (by omega) (by omega)
            have e4t : (nI d * 4) + nI t0 = nI (4 * d + t0) := by rw [L4, nI_mul, nI_add]; congr 1; omega
            have eg1 : nI g' + 1 = nI (g' + 1) := nI_1 _
            have keyB : ∀ {bt bt' : Int32}, fX1_isLeapt k (nI (4 * d + t0)) (nI (g' + 1)) r4 = some (bt, r) → fX9_leaps (nI d) (nI t0) (nI (g' + 1)) I11 = some (bt', rr) → lX1_search_19 (fun d I => fX1_search fc k d I) k (nI d) (nI c, M1) = (if bt = 0 then some (.inl r) else lX1_search_19 (fun d I => fX1_search fc k d I) k (nI d) (nI (c + 1), r)) ∧ lX9_goes_19 (fun d I => fX9_goes fr d I) (nI d) (1, I1) = lX9_goes_19 (fun d I => fX9_goes fr d I) (nI d) (bt', rr) := by
              intro bt bt' w1 w2
              refine ⟨cs_found hc eg el d1 e5 (nI_m1 (by omega)) (by rw [e4t, eg1]; exact w1), ?_⟩
              refine rg_found er emr (show rI 4 (I1 74) (nI d) = some (nI (ls.getD d 0)) by rw [rI_n (by omega) (by omega), e74]) (wI_n (by omega) (by omega)) (show rI 5 (g_up I1 75 (ls.getD d 0) (nI g') 79) (nI d + 1) = some (I1 79 (d + 1)) by rw [nI_1, rI_n (by omega) (by omega), g_up_row (show 79 ≠ 75 by omega)]) (show wI _ 79 5 (nI d + 1) _ = some I5 by rw [nI_1, wI_n (by omega) (by omega), hI5]) (show fX9_goes fr (nI d + 1) I5 = some r9 by rw [nI_1]; exact e9) (show rI 4 (r9 74) (nI d) = some (nI (ls.getD d 0)) by rw [rI_n (by omega) (by omega), C9.2.2.2.2.2, hS.2 d hd]) (show wI r9 75 4 (nI (ls.getD d 0)) (-1) = some I11 by rw [wI_n (by omega) (by omega), hI11]) (n_firstIn hB C11 (by omega) t1 t2 t3) (by rw [eg1]; exact w2)
            rcases hlp with ⟨w1, w2, w3, w4⟩ | ⟨w1, w2, x', w3⟩
            · obtain ⟨kb1, kb2⟩ := keyB w1 w2
              exact go kb1 kb2 (Or.inl ⟨rfl, rfl, w3, w4, by omega⟩)
            · obtain ⟨kb1, kb2⟩ := keyB w1 w2
              refine go (J2 := J') kb1 kb2 (Or.inr ⟨rfl, rfl, x', ?_⟩)
              obtain ⟨v1, v2, v3, v4, v5, v6, v7, v8, v9, v10, v11⟩ := w3
              refine ⟨v1, v2, v3, v4, v5, v6, v7, v8, ?_, v10, v11⟩
              -- how many rows at most
              rw [← hWd] at q9 J9' ⊢
              have sl : stf I1 d t0 + 1 ≤ stf rr d t0 := by
                have q := leaps_st hB M11 C11 (by omega) S11 t1 t2 (v := nI (g' + 1)) (by
                  have e1 : kf I11 d t0 = kf I1 d t0 := by
                    unfold kf
                    have u := q7 t0 t1 t2
                    rw [(sf t0 (by omega)).1]
                    exact c6 _ (by have := u.1.1; have := u.2.1; omega)
                  rw [e1, allk t0 t1 t2, tnI (by omega), tnI (by omega)]; omega) w2
                rw [(sf t0 (by omega)).1] at q
                exact q
              have y : W * (stf I1 d t0 + 1) ≤ W * stf rr d t0 := Nat.mul_le_mul_left _ sl
              rw [Nat.mul_succ] at y
              omega
          · -- one is behind
            obtain ⟨t, y1, y2, y3, y4, y5⟩ := hml.resolve_right (fun z => c2 z.1)
            subst y2
            have e4t : (nI d * 4) + nI t = nI (4 * d + t) := by rw [L4, nI_mul, nI_add]; congr 1; omega
            obtain ⟨r, rr, hlp⟩ := leap_two hW hR hn hS hs hB hQ hd (fun e he => hF e he) S RG0 hL t1 t2 y1 y3 (g := g') y4 (by omega)
            rcases hlp with ⟨w1, w2, w3, w4⟩ | ⟨w1, w2, x', w3⟩
            · exact go (cs_step hc eg el (nI_m1 (by omega)) (by rw [e4t]; exact w1)) (rg_step er emr (nI_m1 (by omega)) w2) (Or.inl ⟨rfl, rfl, w3, w4, J1le⟩)
            · exact go (cs_step hc eg el (nI_m1 (by omega)) (by rw [e4t]; exact w1)) (rg_step er emr (nI_m1 (by omega)) w2) (Or.inr ⟨rfl, rfl, x', w3⟩)
      obtain ⟨M', I', J', ⟨w7, ew, hw⟩, el, hO, hFR, hJ'⟩ := loop 48 0 r8 r2 J a rfl L0'
      refine ⟨M', I', J', ?_, by rw [el, obs], hO, hFR, hJ'⟩
      rw [ew, obs]
      rcases hw with rfl | rfl
      · rfl
      · rfl
    · -- one has none
      have v0 : v = 0 := by
        rcases v01 with z | z
        · exact z
        · exfalso
          have ti := (inn_iff t (in_n t z2)).mpr z2
          obtain ⟨nk, n1, n2, n3⟩ := K2 t (in_n t z2) ti
          obtain ⟨w, w99, ew⟩ := br_key hW hR hS hs hB hd z2 n1 (n3 z)
          obtain ⟨m, m1, m2, m3⟩ := (hset t z2 n1 w (by omega)).mp ⟨0, n3 z, ew⟩
          omega
      subst v0
      rw [if_pos rfl, rg_end, obs]
      exact ⟨r8, r2, J, rfl, rfl, O8, FR8, Nat.le_trans (Nat.le_add_right _ _) hJ⟩
end TW2
