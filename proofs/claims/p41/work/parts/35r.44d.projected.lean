section P_35r_44d_projected
/-! projected: the reference's codes, and both answers -/
/-- the code of a row: the ranks of its masked numbers, twelve to a place -/
def hz (v : Nat) (r : Nat → Nat) : Nat → Nat
  | 0 => 0
  | l + 1 => if v.testBit l = true then 12 * hz v r l + r l else hz v r l
theorem hz_inj {v : Nat} {r r' : Nat → Nat} (hr : ∀ l, l < 4 → v.testBit l = true → r l < 12) (hr' : ∀ l, l < 4 → v.testBit l = true → r' l < 12) : ∀ {n : Nat}, n ≤ 4 → (hz v r n = hz v r' n ↔ ∀ l, l < n → v.testBit l = true → r l = r' l)
  | 0, _ => ⟨fun _ l hl => absurd hl (Nat.not_lt_zero l), fun _ => rfl⟩
  | n + 1, hn => by
    have ih := hz_inj hr hr' (n := n) (by omega)
    have e1 : hz v r (n + 1) = if v.testBit n = true then 12 * hz v r n + r n else hz v r n := rfl
    have e2 : hz v r' (n + 1) = if v.testBit n = true then 12 * hz v r' n + r' n else hz v r' n := rfl
    rw [e1, e2]
    by_cases b : v.testBit n = true
    · rw [if_pos b, if_pos b]
      have a1 := hr n (by omega) b
      have a2 := hr' n (by omega) b
      constructor
      · intro e l hl hb
        rcases (by omega : l < n ∨ l = n) with z | rfl
        · exact ih.mp (by omega) l z hb
        · omega
      · intro h
        have := ih.mpr (fun l hl hb => h l (by omega) hb)
        have := h n (by omega) b
        omega
    · rw [if_neg b, if_neg b, ih]
      constructor
      · intro h l hl hb
        rcases (by omega : l < n ∨ l = n) with z | rfl
        · exact h l z hb
        · exact absurd hb b
      · intro h l hl hb
        exact h l (by omega) hb
theorem cdJ_mono (K : Nat → Int32) (l J : Nat) : ∀ {a b : Nat}, a ≤ b → cdJ K l J a ≤ cdJ K l J b
  | a, 0, h => by rw [Nat.le_zero.mp h]; exact Nat.le_refl _
  | a, b + 1, h => by
    rcases (by omega : a = b + 1 ∨ a ≤ b) with z | z
    · rw [z]; exact Nat.le_refl _
    · have := cdJ_mono K l J z
      show _ ≤ cdJ K l J b + (if 0 < cntJ K l b J then 1 else 0)
      omega
theorem cdJ_inj {K : Nat → Int32} {l J a b : Nat} (ha : 0 < cntJ K l a J) (hb : 0 < cntJ K l b J) (h : cdJ K l J a = cdJ K l J b) : a = b := by
  have sa : cdJ K l J (a + 1) = cdJ K l J a + (if 0 < cntJ K l a J then 1 else 0) := rfl
  have sb : cdJ K l J (b + 1) = cdJ K l J b + (if 0 < cntJ K l b J then 1 else 0) := rfl
  rw [if_pos ha] at sa
  rw [if_pos hb] at sb
  rcases Nat.lt_trichotomy a b with z | z | z
  · have := cdJ_mono K l J (show a + 1 ≤ b by omega); omega
  · exact z
  · have := cdJ_mono K l J (show b + 1 ≤ a by omega); omega
theorem n_code {I R : gM} {v j J : Nat} {f : Nat → Nat} (hv : v < 16) (hj : j < 20736) (h83 : ∀ l, l < 4 → ∀ x, x < 100 → I 83 (100 * l + x) = nI (cdJ (R 80) l J x)) (h80 : I 80 = R 80) (hf : ∀ l, l < 4 → v.testBit l = true → R 80 (4 * j + l) = nI (f l) ∧ f l < 100) : lX9_projected_74 (nI v) (nI j) I (0, 0) = some (nI (hz v (fun l => cdJ (R 80) l J (f l)) 4)) := by
  unfold lX9_projected_74
  refine p_it (P := fun x => ∃ l, l ≤ 4 ∧ x = (nI (hz v (fun l => cdJ (R 80) l J (f l)) l), nI l)) (μ := fun x => 20 - x.2.toInt.toNat) (fun x p => ?_) ⟨0, by omega, rfl⟩
  obtain ⟨l, hl, rfl⟩ := p
  dsimp only
  have mu : 20 - (nI (l + 1)).toInt.toNat < 20 - (nI l).toInt.toNat ∨ l = 4 := by
    rcases (by omega : l < 4 ∨ l = 4) with z | z
    · left
      rw [nIt (by omega), nIt (by omega)]; omega
    · exact Or.inr z
  refine t_ite (fun c1 => ?_) (fun c1 => ?_)
  · have c1 := (nI_leI (a := 4) (by omega) (by omega)).mp c1
    obtain rfl : l = 4 := by omega
    exact t_ret rfl
  · have c1 := mt (nI_leI (a := 4) (b := l) (by omega) (by omega)).mpr c1
    have mu := mu.resolve_right (by omega)
    have e1 : hz v (fun l => cdJ (R 80) l J (f l)) (l + 1) = if v.testBit l = true then 12 * hz v (fun l => cdJ (R 80) l J (f l)) l + cdJ (R 80) l J (f l) else hz v (fun l => cdJ (R 80) l J (f l)) l := rfl
    unfold bX9_projected_118
    rw [nI_1]
    by_cases b : v.testBit l = true
    · obtain ⟨f1, f2⟩ := hf l (by omega) b
      rw [n_has1 ((hs_nI hv (by omega)).mpr b), obs, if_neg (by decide), n_numberOf hj (by omega), obs, h80, f1, show (100 : Int32) = nI 100 from rfl, nI_mul, nI_add]
      refine t_be (rI_n (by omega) (by omega)) ?_
      rw [h83 l (by omega) _ f2, show (12 : Int32) = nI 12 from rfl, nI_mul, nI_add]
      exact t_nx ⟨l + 1, by omega, by rw [e1, if_pos b]⟩ mu
    · rw [n_has0 (mt (hs_nI hv (by omega)).mp b), obs, if_pos rfl]
      exact t_nx ⟨l + 1, by omega, by rw [e1, if_neg b]⟩ mu
/-- the reference counts codes that are new -/
theorem n_unlike {R : gM} {v J : Nat} {cd Z : Nat → Nat} (hJ : J ≤ 20736) (eJ : R 62 26 = nI J) (h85 : ∀ a, a < 20736 → R 85 a = 0) (hcd : ∀ j, j < J → cd j < 20736 ∧ ∀ N : gM, (∀ q, q ≠ 85 → N q = R q) → lX9_projected_74 (nI v) (nI j) N (0, 0) = some (nI (cd j))) (heq : ∀ i j, i < J → j < J → (cd i = cd j ↔ Z i = Z j)) : ∃ w, lX9_projected_60 (nI v) (0, 0, R) = some w ∧ w.1 = nI (ncA Z J) := by
  have key : T (lX9_projected_60 (nI v) (0, 0, R)) (fun w => w.1 = nI (ncA Z J)) := by
    unfold lX9_projected_60
    refine t_it (P := fun s => ∃ j, j ≤ J ∧ s.1 = nI (ncA Z j) ∧ s.2.1 = nI j ∧ (∀ q, q ≠ 85 → s.2.2 q = R q) ∧ ∀ a, a < 20736 → (s.2.2 85 a = 0 ∧ ∀ i, i < j → cd i ≠ a) ∨ (s.2.2 85 a = 1 ∧ ∃ i, i < j ∧ cd i = a)) (μ := fun s => 30000 - s.2.1.toInt.toNat) (fun s p => ?_) ⟨0, Nat.zero_le _, rfl, rfl, fun _ _ => rfl, fun a ha => Or.inl ⟨h85 a ha, fun i hi => absurd hi (Nat.not_lt_zero i)⟩⟩
    obtain ⟨s1, s2, N⟩ := s
    obtain ⟨j, hj, e1, e2, h1, h2⟩ := p
    dsimp only at e1 e2 h1 h2
    subst e1; subst e2
    dsimp only
    have k26 : N 62 26 = nI J := by rw [h1 62 (by omega)]; exact eJ
    refine t_ite (fun c => ?_) (fun c => ?_)
    · rw [k26] at c
      have := (nI_leI (by omega) (by omega)).mp c
      have : j = J := by omega
      rw [this]
      exact t_ret rfl
    · rw [k26] at c
      have c' := mt (nI_leI (by omega) (by omega)).mpr c
      have mu : 30000 - (nI j + 1).toInt.toNat < 30000 - (nI j).toInt.toNat := by rw [nI_1, nIt (by omega), nIt (by omega)]; omega
      obtain ⟨cl, cN⟩ := hcd j (by omega)
      have nc : ncA Z (j + 1) = ncA Z j + (1 - ind (∃ i, i < j ∧ Z i = Z j)) := rfl
      refine t_be (cN N h1) (t_be (rI_n cl (by omega)) ?_)
      have one : vp_nar .boolean 1 = (1 : Int32) := by decide +kernel
      unfold bX9_projected_142
      rw [one]
      have nx : ∀ b : Nat, ncA Z (j + 1) = ncA Z j + b → T ((wI N 85 20736 (nI (cd j)) 1).bind fun I12 => some (.inl (nI (ncA Z j) + nI b, nI j + 1, I12))) (LQ (fun s : Int32 × Int32 × gM => ∃ j, j ≤ J ∧ s.1 = nI (ncA Z j) ∧ s.2.1 = nI j ∧ (∀ q, q ≠ 85 → s.2.2 q = R q) ∧ ∀ a, a < 20736 → (s.2.2 85 a = 0 ∧ ∀ i, i < j → cd i ≠ a) ∨ (s.2.2 85 a = 1 ∧ ∃ i, i < j ∧ cd i = a)) (30000 - (nI j).toInt.toNat) (fun s => 30000 - s.2.1.toInt.toNat) (fun w : Int32 × gM => w.1 = nI (ncA Z J))) := fun b hb => by
        refine t_be (wI_n cl (by omega)) (t_nx ⟨j + 1, by omega, by dsimp only; rw [nI_add, hb], nI_1 j, fun q hq => by dsimp only; rw [g_up_row hq]; exact h1 q hq, fun a ha => ?_⟩ mu)
        dsimp only
        rw [gu_in]
        by_cases z : a = cd j
        · rw [if_pos z]
          exact Or.inr ⟨rfl, j, by omega, z.symm⟩
        · rw [if_neg z]
          rcases h2 a ha with ⟨y1, y2⟩ | ⟨y1, i, y2, y3⟩
          · refine Or.inl ⟨y1, fun i hi => ?_⟩
            rcases (by omega : i < j ∨ i = j) with y | rfl
            · exact y2 i y
            · exact fun y => z y.symm
          · exact Or.inr ⟨y1, i, by omega, y3⟩
      rcases h2 (cd j) cl with ⟨y1, y2⟩ | ⟨y1, i, y2, y3⟩
      · rw [y1]
        refine t_ite (fun _ => ?_) (fun z => absurd rfl z)
        refine nx 1 ?_
        rw [nc, ind_f (fun ⟨i, hi, hz⟩ => y2 i hi ((heq i j (by omega) (by omega)).mpr hz))]
      · rw [y1]
        refine t_ite (fun z => absurd z (by decide)) (fun _ => ?_)
        refine nx 0 ?_
        rw [nc, ind_t ⟨i, y2, (heq i j (by omega) (by omega)).mp y3⟩]
  exact key
theorem sub_am : ∀ v, v < 16 → ∀ am, am < 16 → ((nI v &&& (nI am ^^^ (-1))) = 0 → ∀ l, l < 4 → (v.testBit l = true → am.testBit l = true)) := by decide +kernel
theorem RWS.cong {A : aT} {ls : List Nat} {M r : gM} {k J : Nat} (h : RWS A ls M k J) (h0 : r k 0 = M k 0) (h3 : r (k + 3) = M (k + 3)) : RWS A ls r k J := by
  obtain ⟨h1, h2, h4, h5⟩ := h
  have dg : ∀ j l, rdg r k j l = rdg M k j l := rdg_eq h3
  refine ⟨⟨by rw [h0]; exact h1.1, h1.2.1, fun j hj => by rw [h3]; exact h1.2.2 j hj⟩, fun j hj => by simp only [dg]; exact h2 j hj, fun g hg => ?_, fun i j hi hj => (h5 i j hi hj).of (by rw [h3]) (by rw [h3])⟩
  obtain ⟨j, j1, j2⟩ := h4 g hg
  exact ⟨j, j1, fun e he => by rw [dg]; exact j2 e he⟩
/-- the class's own join holds all that fits -/
theorem cur_all {I : gM} {A : aT} (h : InvB I) (hW : WF A) (hn : 0 < A.1.length) (hC : CT I 3 A) : ∃ J, RWS A (fl4 A.2.2 (asA A)) I 18 J := by
  have n0 : I 3 0 ≠ 0 := fun z => by have := (hC.n0 hW).mp z; omega
  obtain ⟨I8, M', a1, a2, a3, a4⟩ := (h.2.1.2.2 n0).1
  have hC8 : CT I8 3 A := hC.cong (fun j _ => by rw [a1 3 (by omega)]) (a1 4 (by omega)) (a1 5 (by omega)) (a1 6 (by omega)) (a1 7 (by omega))
  rw [hC.2.2.1] at a3
  obtain ⟨J, hJ⟩ := so_by (k := 18) (k1 := 3) (by omega) hW hn hC8 a2 hW.2.2.2.1 a3
  exact ⟨J, hJ.cong (by rw [a4 18 (by omega)]) (a4 (18 + 3) (by omega))⟩
theorem eq_projected {I : gM} (h : InvB I) {v : Int32} {a b : Int32 × gM} (e1 : fX8_projected v I = some a) (e2 : fX9_projected v a.2 = some b) : a.1 = b.1 := by
  obtain ⟨A, hW, hC, hR⟩ := h.tab
  have hMa : MI true I a.2 := by
    obtain ⟨p, ep, hp⟩ := tfX8_projected v I h.1.1
    rw [e1] at ep
    obtain rfl := Option.some.inj ep
    exact hp
  have hRa := hR.hi hMa hW
  have am16 := asA_lt hW
  unfold fX8_projected at e1
  unfold fX9_projected at e2
  rw [n_areTables hW.1 hRa.1, obs] at e2
  by_cases n : A.1.length = 0
  · rw [if_pos ((hC.n0 hW).mpr n)] at e1
    rw [if_pos n, if_pos rfl] at e2
    cases e1; cases e2; rfl
  · rw [if_neg (mt (hC.n0 hW).mp n)] at e1
    rw [if_neg n, if_neg (by decide)] at e2
    have t15 : (15 : Int32).toInt = 15 := by decide
    have hin := n_in v 1 15
    rw [t1i, t15] at hin
    rcases oi e1 with ⟨c, e1⟩ | ⟨c, e1⟩
    · rw [Int32.lt_iff_toInt_lt, t1i] at c
      rcases hin with ⟨_, _, _⟩ | ⟨_, z⟩
      · omega
      · rw [z, obs, if_pos rfl] at e2
        cases e1; cases e2; rfl
    · rw [Int32.lt_iff_toInt_lt, t1i] at c
      rcases oi e1 with ⟨d, e1⟩ | ⟨d, e1⟩
      · rw [Int32.lt_iff_toInt_lt, t15] at d
        rcases hin with ⟨_, _, _⟩ | ⟨_, z⟩
        · omega
        · rw [z, obs, if_pos rfl] at e2
          cases e1; cases e2; rfl
      · rw [Int32.lt_iff_toInt_lt, t15] at d
        rcases hin with ⟨_, _, z⟩ | ⟨z, _⟩
        · obtain ⟨x, rfl, hx⟩ : ∃ x, v = nI x ∧ x < 16 := ⟨_, nI_self (x := v) (by omega), by omega⟩
          rw [c_asked hW hC, obs] at e1
          rw [z, obs, if_neg (by decide), n_askedK hW hRa, obs] at e2
          rcases oi e1 with ⟨s, e1⟩ | ⟨s, e1⟩
          · rw [if_pos s] at e2
            have sub := sub_am x hx _ am16 s
            -- the class
            obtain ⟨r2, er2, e1⟩ := ob e1
            obtain ⟨Jc, W29⟩ := so_lead (k := 29) (k1 := 3) (by omega) hW (by omega) hC h.2.1.2.1 hx er2
            obtain ⟨o29, s29, f29, l29⟩ := W29
            obtain ⟨ld1, ld2, ld3, _⟩ := ld_ok am16 hx
            have hLd := okS_ld am16 hx
            have cu := c_unlike (k := 29) hx o29 (fun j hj j0 => contig hx o29 hLd (p := (lup (asA A &&& x) 4).length) (fun e he => (ld2 e he).2.2) (fun l hl hb => ld3 l hl (sub l hl hb)) l29 hj j0)
            rw [cu, obs] at e1
            obtain rfl := Option.some.inj e1
            -- the reference
            obtain ⟨R', J, ej, o, hJ, hS, hQ, hll, M1, G1, fR, fj⟩ := cur_two h hW (by omega) hC hMa.re hRa
            obtain ⟨A1, R1⟩ := cur_more (I := I) (R0 := I) hW (A9.hi hMa h.1.2.1) hRa fR fj
            obtain ⟨J2, o18, s18, f18, _⟩ := cur_all h hW (by omega) hC
            have : J2 = J := nI_inj (o18.1.symm.trans o.1) (by have := o18.2.1; omega) (by omega)
            subst this
            obtain ⟨r4, er4, _, ⟨_, J3, h1, h2, _, h83, _⟩, h6⟩ := n_counts hMa.re ej M1 G1
            rw [h6 62 (by omega) (by omega) (by omega), o.2.1] at h2
            have : J2 = J3 := nI_inj h2 (by omega) (by omega)
            subst this
            rw [h6 80 (by omega) (by omega) (by omega)] at h83
            rw [er4, obs] at e2
            obtain ⟨r5, er5, _, z85, k85⟩ := n_projected36 (I0 := r4) (I := r4) (by
              obtain ⟨q, eq, hq, _⟩ := n_counts hMa.re ej M1 G1
              rw [er4] at eq
              obtain rfl := Option.some.inj eq
              exact hq.re)
            have er5 : lX9_projected_36 ((0 : Int32), r4) = some r5 := er5
            rw [er5, obs] at e2
            have D : ∀ j, j < J2 → ∀ l, l < 4 → x.testBit l = true → R' 80 (4 * j + l) = nI (rdg I 18 j l) ∧ rdg I 18 j l < 100 := fun j hj l hl hb => d99 M1 G1 A1 hW R1 o hJ hl (sub l hl hb) hj
            have r12 : ∀ j, j < J2 → ∀ l, l < 4 → x.testBit l = true → cdJ (R' 80) l J2 (rdg I 18 j l) < 12 := fun j hj l hl hb => by
              obtain ⟨am, a1, a2, a3⟩ := n_asked M1 hW.1 R1.1
              have e := am_asA M1 hW R1 R1.1 hW.1 a1 a3
              have := cd_12 M1 G1 hW.1 R1.1 hJ o.2.1 (l := l) hl ((a3 l hl).mp (by rw [e]; exact sub l hl hb)) (rdg I 18 j l + 1)
              have st : cdJ (R' 80) l J2 (rdg I 18 j l + 1) = cdJ (R' 80) l J2 (rdg I 18 j l) + (if 0 < cntJ (R' 80) l (rdg I 18 j l) J2 then 1 else 0) := rfl
              have ps := cntJ_has (K := R' 80) (l := l) hj
              rw [(D j hj l hl hb).1, mx0_nI (by have := (D j hj l hl hb).2; omega)] at ps
              rw [if_pos ps] at st
              omega
            have occ : ∀ j, j < J2 → ∀ l, l < 4 → x.testBit l = true → 0 < cntJ (R' 80) l (rdg I 18 j l) J2 := fun j hj l hl hb => by
              have ps := cntJ_has (K := R' 80) (l := l) hj
              rwa [(D j hj l hl hb).1, mx0_nI (by have := (D j hj l hl hb).2; omega)] at ps
            have hzlt : ∀ r : Nat → Nat, (∀ l, l < 4 → x.testBit l = true → r l < 12) → hz x r 4 < 20736 := fun r hr => by
              have key : ∀ m, m ≤ 4 → hz x r m < 12 ^ m := fun m => by
                induction m with
                | zero => intro _; exact Nat.one_pos
                | succ m ih =>
                  intro hm
                  have := ih (by omega)
                  have e : hz x r (m + 1) = if x.testBit m = true then 12 * hz x r m + r m else hz x r m := rfl
                  rw [e, Nat.pow_succ]
                  by_cases b : x.testBit m = true
                  · rw [if_pos b]
                    have := hr m (by omega) b
                    omega
                  · rw [if_neg b]; omega
              exact key 4 (by omega)
            obtain ⟨w, ew, hw⟩ := n_unlike (R := r5) (v := x) (J := J2) (cd := fun j => hz x (fun l => cdJ (R' 80) l J2 (rdg I 18 j l)) 4) (Z := fun j => msk x (kn (I (18 + 3) j))) hJ (by rw [k85 62 (by omega), h6 62 (by omega) (by omega) (by omega)]; exact o.2.1) z85 (fun j hj => ⟨hzlt _ (r12 j hj), fun N hN => n_code hx (by omega) (fun l hl y hy => by rw [hN 83 (by omega), k85 83 (by omega)]; exact h83 l hl y hy) (by rw [hN 80 (by omega), k85 80 (by omega), h6 80 (by omega) (by omega) (by omega)]) (D j hj)⟩) (fun i j hi hj => by
              rw [hz_inj (r12 i hi) (r12 j hj) (Nat.le_refl 4), msk_eq hx (o18.2.2 i hi).2 (o18.2.2 j hj).2]
              constructor
              · intro y l hl hb
                exact cdJ_inj (occ i hi l hl hb) (occ j hj l hl hb) (y l hl hb)
              · intro y l hl hb
                exact congrArg (cdJ (R' 80) l J2) (y l hl hb))
            have ew : lX9_projected_60 (nI x) ((0 : Int32), (0 : Int32), r5) = some w := ew
            rw [ew, obs] at e2
            obtain rfl := Option.some.inj e2
            show nI _ = w.1
            rw [hw]
            congr 1
            -- as many
            rw [ncA_set (B := 268435456) (fun j _ => msk_lt hx _), ncA_set (B := 268435456) (fun j _ => msk_lt hx _)]
            refine suUp_cong (fun m _ => ind_iff ?_)
            constructor
            · rintro ⟨j, hj, hm⟩
              obtain ⟨i, hi, he⟩ := f18 _ (s29 j hj)
              refine ⟨i, hi, ?_⟩
              rw [← hm, msk_eq hx (o18.2.2 i hi).2 (o29.2.2 j hj).2]
              intro l hl hb
              obtain ⟨e, e1, e2⟩ := (lets_fl4 hW hW.2.2.2.1 l hl).mp (sub l hl hb)
              have := he e e1
              rw [e2] at this
              exact this
            · rintro ⟨j, hj, hm⟩
              obtain ⟨i, hi, he⟩ := f29 _ (s18 j hj)
              refine ⟨i, hi, ?_⟩
              rw [← hm, msk_eq hx (o29.2.2 i hi).2 (o18.2.2 j hj).2]
              intro l hl hb
              obtain ⟨e, e1, e2⟩ := ld3 l hl (sub l hl hb)
              have := he e e1
              rw [e2] at this
              exact this
          · rw [if_neg s] at e2
            cases e1; cases e2; rfl
        · exact absurd ⟨by omega, by omega⟩ z
end P_35r_44d_projected
section P_35r_45_rows
/-! the calls over the whole common state -/
theorem invB_g0 : InvB g0 := ⟨invA_g0 3, ⟨rfl, rfl, fun z => absurd rfl z⟩, fun z => absurd rfl z⟩
theorem alb_put {I : gM} (h : InvB I) (v1 v2 v3 v4 : Int32) : ∃ a b, fX8_put v1 v2 v3 v4 I = some a ∧ fX9_put v1 v2 v3 v4 a.2 = some b ∧ InvB b.2 ∧ a.1 = b.1 := jb_put h v1 v2 v3 v4
theorem alb_take {I : gM} (h : InvB I) (v1 v2 v3 v4 : Int32) : ∃ a b, fX8_take v1 v2 v3 v4 I = some a ∧ fX9_take v1 v2 v3 v4 a.2 = some b ∧ InvB b.2 ∧ a.1 = b.1 := jb_take h v1 v2 v3 v4
theorem alb_use {I : gM} (h : InvB I) (v1 : Int32) : ∃ a b, fX8_use v1 I = some a ∧ fX9_use v1 a.2 = some b ∧ InvB b.2 ∧ a.1 = b.1 := jb_use h v1
theorem alb_order {I : gM} (h : InvB I) (v1 : Int32) : ∃ a b, fX8_order v1 I = some a ∧ fX9_order v1 a.2 = some b ∧ InvB b.2 ∧ a.1 = b.1 := jb_order h v1
theorem alb_undo {I : gM} (h : InvB I) : ∃ a b, fX8_undo I = some a ∧ fX9_undo a.2 = some b ∧ InvB b.2 ∧ a.1 = b.1 := jb_undo h 
theorem alb_image {I : gM} (h : InvB I) : ∃ a b, fX8_image I = some a ∧ fX9_image a.2 = some b ∧ InvB b.2 ∧ a.1 = b.1 := by
  obtain ⟨a, b, e1, e2, h2⟩ := jb_image h 
  exact ⟨a, b, e1, e2, h2, eq_image h e1 e2 h2⟩
theorem alb_back {I : gM} (h : InvB I) : ∃ a b, fX8_back I = some a ∧ fX9_back a.2 = some b ∧ InvB b.2 ∧ a.1 = b.1 := by
  obtain ⟨a, b, e1, e2, h2⟩ := jb_back h 
  exact ⟨a, b, e1, e2, h2, eq_back h e1 e2 h2⟩
theorem alb_text {I : gM} (h : InvB I) (v : Int32) : ∃ a b, fX8_text v I = some a ∧ fX9_text v a.2 = some b ∧ InvB b.2 ∧ a.1 = b.1 := jb_text h v
theorem alb_perform {I : gM} (h : InvB I) (v : Int32) : ∃ a b, fX8_perform v I = some a ∧ fX9_perform v a.2 = some b ∧ InvB b.2 ∧ a.1 = b.1 := jb_perform h v
theorem alb_ways {I : gM} (h : InvB I) (v1 : Int32) (v2 : Int64) (J : gN) : ∃ a b, fX8_ways v1 v2 I J = some a ∧ fX9_ways v1 v2 a.2.1 a.2.2 = some b ∧ InvB b.2.1 ∧ a.1 = b.1 := by
  obtain ⟨a, b, e1, e2, h2⟩ := jb_ways h v1 v2 J
  exact ⟨a, b, e1, e2, h2, eq_ways h e1 e2 h2⟩
theorem alb_rule {I : gM} (h : InvB I) (v : Int32) : ∃ a b, fX8_rule v I = some a ∧ fX9_rule v I = some b ∧ InvB I ∧ a = b := jb_rule h v
theorem alb_plain {I : gM} (h : InvB I) : ∃ a b, fX8_plain I = some a ∧ fX9_plain I = some b ∧ InvB I ∧ a = b := jb_plain h 
theorem alb_status {I : gM} (h : InvB I) (v : Int32) : ∃ a b, fX8_status v I = some a ∧ fX9_status v I = some b ∧ InvB I ∧ a = b := jb_status h v
theorem alb_count {I : gM} (h : InvB I) (v : Int32) : ∃ a b, fX8_count v I = some a ∧ fX9_count v I = some b ∧ InvB I ∧ a = b := jb_count h v
theorem alb_cell {I : gM} (h : InvB I) (v1 v2 v3 : Int32) : ∃ a b, fX8_cell v1 v2 v3 I = some a ∧ fX9_cell v1 v2 v3 I = some b ∧ InvB I ∧ a = b := jb_cell h v1 v2 v3
theorem alb_step {I : gM} (h : InvB I) (v1 v2 v3 : Int32) : ∃ a b, fX8_step v1 v2 v3 I = some a ∧ fX9_step v1 v2 v3 I = some b ∧ InvB I ∧ a = b := jb_step h v1 v2 v3
theorem alb_tableE {I : gM} (h : InvB I) (v1 v2 : Int32) : ∃ y b, fT8 v1 v2 I = some y ∧ fX9_table v1 v2 I = some b ∧ InvB b.2 ∧ b.2 62 0 = jr y ∧ ∀ v, y = some v → b.1 = v := jb_table h v1 v2
theorem alb_table {I : gM} (h : InvB I) (v1 v2 : Int32) : ∃ y b, fT8 v1 v2 I = some y ∧ fX9_table v1 v2 I = some b ∧ InvB b.2 := by
  obtain ⟨y, b, e1, e2, h2, _⟩ := jb_table h v1 v2
  exact ⟨y, b, e1, e2, h2⟩
theorem alb_feed {I : gM} (h : InvB I) (v1 v2 v3 v4 v5 : Int32) : ∃ a b, fX8_feed v1 v2 v3 v4 v5 I = some a ∧ fX9_feed v1 v2 v3 v4 v5 a.2 = some b ∧ InvB b.2 ∧ a.1 = b.1 := jb_feed h v1 v2 v3 v4 v5
theorem alb_end {I : gM} (h : InvB I) (v : Int32) : ∃ a b, fX8_end v I = some a ∧ fX9_end v a.2 = some b ∧ InvB b.2 ∧ a.1 = b.1 := jb_end h v
theorem alb_fault {I : gM} (h : InvB I) (v1 : Int32) : ∃ a b, fX8_fault v1 I = some a ∧ fX9_fault v1 a.2 = some b ∧ InvB b.2 := jb_fault h v1
theorem alb_rows {I : gM} (h : InvB I) : ∃ a b, fX8_rows I = some a ∧ fX9_rows I = some b ∧ InvB b.2 ∧ a = b.1 := by
  obtain ⟨a, b, e1, e2, h2⟩ := jb_rows h 
  exact ⟨a, b, e1, e2, h2, eq_rows h e1 e2⟩
theorem alb_row {I : gM} (h : InvB I) (v1 : Int32) (v2 : Int32) : ∃ a b, fX8_row v1 v2 I = some a ∧ fX9_row v1 v2 I = some b ∧ InvB b.2 ∧ a = b.1 := by
  obtain ⟨a, b, e1, e2, h2⟩ := jb_row h v1 v2
  exact ⟨a, b, e1, e2, h2, eq_row h e1 e2⟩
theorem alb_leaps {I : gM} (h : InvB I) : ∃ a b, fX8_leaps I = some a ∧ fX9_leaps_ I = some b ∧ InvB b.2 ∧ a = b.1 := by
  obtain ⟨a, b, e1, e2, h2⟩ := jb_leaps h 
  exact ⟨a, b, e1, e2, h2, eq_leaps h e1 e2⟩
theorem alb_beginnings {I : gM} (h : InvB I) (v1 : Int32) : ∃ a b, fX8_beginnings v1 I = some a ∧ fX9_beginnings v1 I = some b ∧ InvB b.2 ∧ a = b.1 := by
  obtain ⟨a, b, e1, e2, h2⟩ := jb_beginnings h v1
  exact ⟨a, b, e1, e2, h2, eq_beginnings h e1 e2⟩
theorem alb_best {I : gM} (h : InvB I) (v1 : Int32) : ∃ a b, fX8_best v1 I = some a ∧ fX9_best v1 a.2 = some b ∧ InvB b.2 ∧ a.1 = b.1 := by
  obtain ⟨a, b, e1, e2, h2⟩ := jb_best h v1
  exact ⟨a, b, e1, e2, h2, eq_best h e1 e2⟩
theorem alb_given {I : gM} (h : InvB I) (v1 : Int32) : ∃ a b, fX8_given v1 I = some a ∧ fX9_given v1 I = some b ∧ InvB b.2 ∧ a = b.1 := by
  obtain ⟨a, b, e1, e2, h2⟩ := jb_given h v1
  exact ⟨a, b, e1, e2, h2, eq_given h e1 e2⟩
theorem alb_without {I : gM} (h : InvB I) (v1 : Int32) : ∃ a b, fX8_without v1 I = some a ∧ fX9_without v1 a.2 = some b ∧ InvB b.2 ∧ a.1 = b.1 := by
  obtain ⟨a, b, e1, e2, h2⟩ := jb_without h v1
  exact ⟨a, b, e1, e2, h2, eq_without h e1 e2⟩
theorem alb_projected {I : gM} (h : InvB I) (v1 : Int32) : ∃ a b, fX8_projected v1 I = some a ∧ fX9_projected v1 a.2 = some b ∧ InvB b.2 ∧ a.1 = b.1 := by
  obtain ⟨a, b, e1, e2, h2⟩ := jb_projected h v1
  exact ⟨a, b, e1, e2, h2, eq_projected h e1 e2⟩
theorem alb_times {I : gM} (h : InvB I) (v1 : Int32) (v2 : Int32) : ∃ a b, fX8_times v1 v2 I = some a ∧ fX9_times v1 v2 a.2 = some b ∧ InvB b.2 ∧ a.1 = b.1 := by
  obtain ⟨a, b, e1, e2, h2⟩ := jb_times h v1 v2
  exact ⟨a, b, e1, e2, h2, eq_times h e1 e2⟩
theorem alb_distinct {I : gM} (h : InvB I) (v1 : Int32) (v2 : Int32) : ∃ a b, fX8_distinct v1 v2 I = some a ∧ fX9_distinct v1 v2 a.2 = some b ∧ InvB b.2 ∧ a.1 = b.1 := by
  obtain ⟨a, b, e1, e2, h2⟩ := jb_distinct h v1 v2
  exact ⟨a, b, e1, e2, h2, eq_distinct h e1 e2⟩
theorem alb_tells {I : gM} (h : InvB I) (v1 : Int32) (v2 : Int32) : ∃ a b, fX8_tells v1 v2 I = some a ∧ fX9_tells v1 v2 a.2 = some b ∧ InvB b.2 ∧ a.1 = b.1 := by
  obtain ⟨a, b, e1, e2, h2⟩ := jb_tells h v1 v2
  exact ⟨a, b, e1, e2, h2, eq_tells h e1 e2⟩
theorem alb_behind {I : gM} (h : InvB I) (v1 : Int32) (v2 : Int32) (v3 : Int32) (v4 : Int32) : ∃ a b, fX8_behind v1 v2 v3 v4 I = some a ∧ fX9_behind v1 v2 v3 v4 I = some b ∧ InvB b.2 ∧ a = b.1 := by
  obtain ⟨a, b, e1, e2, h2⟩ := jb_behind h v1 v2 v3 v4
  exact ⟨a, b, e1, e2, h2, eq_behind h e1 e2⟩
theorem alb_has {I : gM} (h : InvB I) (v1 : Int32) (v2 : Int32) (v3 : Int32) (v4 : Int32) : ∃ a b, fX8_has v1 v2 v3 v4 I = some a ∧ fX9_has_ v1 v2 v3 v4 I = some b ∧ InvB b.2 ∧ a = b.1 := by
  obtain ⟨a, b, e1, e2, h2⟩ := jb_has h v1 v2 v3 v4
  exact ⟨a, b, e1, e2, h2, eq_has h e1 e2⟩
theorem alb_mean {I : gM} (h : InvB I) (v1 : Int32) : ∃ a b, fX8_mean v1 I = some a ∧ fX9_mean v1 I = some b ∧ InvB b.2 ∧ a = b.1 := by
  obtain ⟨a, b, e1, e2, h2⟩ := jb_mean h v1
  exact ⟨a, b, e1, e2, h2, eq_mean h e1 e2⟩
theorem alb_meanAs {I : gM} (h : InvB I) (v1 : Int32) (v2 : Int32) : ∃ a b, fX8_meanAs v1 v2 I = some a ∧ fX9_meanAs v1 v2 I = some b ∧ InvB b.2 ∧ a = b.1 := by
  obtain ⟨a, b, e1, e2, h2⟩ := jb_meanAs h v1 v2
  exact ⟨a, b, e1, e2, h2, eq_meanAs h e1 e2⟩
theorem alb_spread {I : gM} (h : InvB I) (v1 : Int32) : ∃ a b, fX8_spread v1 I = some a ∧ fX9_spread v1 I = some b ∧ InvB b.2 ∧ a = b.1 := by
  obtain ⟨a, b, e1, e2, h2⟩ := jb_spread h v1
  exact ⟨a, b, e1, e2, h2, eq_spread h e1 e2⟩
theorem alb_skew {I : gM} (h : InvB I) (v1 : Int32) : ∃ a b, fX8_skew v1 I = some a ∧ fX9_skew v1 a.2 = some b ∧ InvB b.2 ∧ a.1 = b.1 := by
  obtain ⟨a, b, e1, e2, h2⟩ := jb_skew h v1
  exact ⟨a, b, e1, e2, h2, eq_skew h e1 e2⟩
theorem alb_log {I : gM} (h : InvB I) (v1 : Int32) (v2 : Int32) : ∃ a b, fX8_log v1 v2 I = some a ∧ fX9_log v1 v2 I = some b ∧ InvB I ∧ a = b := by
  obtain ⟨a, b, e1, e2, h2⟩ := jb_log h v1 v2
  exact ⟨a, b, e1, e2, h2, eq_log h e1 e2⟩
theorem alb_would {I : gM} (h : InvB I) (v1 : Int32) (v2 : Int32) (v3 : Int32) (v4 : Int32) (v5 : Int32) : ∃ a b, fX8_would v1 v2 v3 v4 v5 I = some a ∧ fX9_would v1 v2 v3 v4 v5 a.2 = some b ∧ InvB b.2 ∧ a.1 = b.1 := by
  obtain ⟨a, b, e1, e2, h2⟩ := jb_would h v1 v2 v3 v4 v5
  exact ⟨a, b, e1, e2, h2, eq_would h e1 e2⟩
theorem alb_run {I : gM} (h : InvB I) (v1 : Int32) (v2 : Int32) : ∃ a b, fX8_run v1 v2 I = some a ∧ fX9_run v1 v2 a.2 = some b ∧ InvB b.2 ∧ a.1 = b.1 := by
  obtain ⟨a, b, e1, e2, h2⟩ := jb_run h v1 v2
  exact ⟨a, b, e1, e2, h2, eq_run h e1 e2⟩
theorem alb_most {I : gM} (h : InvB I) (v1 : Int32) : ∃ a b, fX8_most v1 I = some a ∧ fX9_most v1 a.2 = some b ∧ InvB b.2 ∧ a.1 = b.1 := by
  obtain ⟨a, b, e1, e2, h2⟩ := jb_most h v1
  exact ⟨a, b, e1, e2, h2, eq_most h e1 e2⟩
end P_35r_45_rows
