/-! rows compared, numbers counted -/
def v4 (v1 v2 v3 v4 : Int32) (l : Nat) : Int32 := if l = 0 then v1 else if l = 1 then v2 else if l = 2 then v3 else v4
theorem n_four {R0 R : gM} (hM : MI false R0 R) (v1 v2 v3 v4' : Int32) : ∃ r, fX9_takesFour v1 v2 v3 v4' R = some r ∧ MI false R0 r ∧ (∀ q, q ≠ 87 → r q = R q) ∧ ∀ l, l < 4 → r 87 l = v4 v1 v2 v3 v4' l := by
  obtain ⟨r, e, hr⟩ := tfX9_takesFour v1 v2 v3 v4' R hM
  have e' := e
  unfold fX9_takesFour at e'
  rw [show (0 : Int32) = nI 0 from rfl, show (1 : Int32) = nI 1 from rfl, show (2 : Int32) = nI 2 from rfl, show (3 : Int32) = nI 3 from rfl, wI_n (by omega) (by omega), obs, wI_n (by omega) (by omega), obs, wI_n (by omega) (by omega), obs, wI_n (by omega) (by omega), obs] at e'
  obtain rfl := Option.some.inj e'
  refine ⟨_, e, hr, fun q hq => by rw [g_up_row hq, g_up_row hq, g_up_row hq, g_up_row hq], fun l hl => ?_⟩
  unfold v4
  rcases (by omega : l = 0 ∨ l = 1 ∨ l = 2 ∨ l = 3) with rfl | rfl | rfl | rfl
  · rw [g_up_ne (Or.inr (by decide)), g_up_ne (Or.inr (by decide)), g_up_ne (Or.inr (by decide)), g_up_self]; rfl
  · rw [g_up_ne (Or.inr (by decide)), g_up_ne (Or.inr (by decide)), g_up_self]; rfl
  · rw [g_up_ne (Or.inr (by decide)), g_up_self]; rfl
  · rw [g_up_self]; rfl
/-- a row of the join beside four numbers: both compare alike -/
theorem cmp_two {ls : List Nat} {M R : gM} {J j : Nat} (o : OUT 18 ls M R J) (hs : okS ls) (hJ : J ≤ 20736) (hS : Sc M 18 ls) (hQ : Sq R ls) (hj : j < J) {v1 v2 v3 v4' : Int32} (h4 : ∀ l, l < 4 → R 87 l = v4 v1 v2 v3 v4' l) {r : Int32} (e : fX1_compareAt 18 (nI j) v1 v2 v3 v4' M = some r) : fX9_comparesFour (nI j) R = some r := by
  have s4 := hs.1
  unfold fX1_compareAt at e
  obtain ⟨w, ew, e⟩ := ob e
  unfold lX1_compareAt_3 at ew
  obtain ⟨w', ew', q⟩ := it_two (g := fun s : Int32 => if (R 62 19) ≤ s then some (.inr (.inr ())) else (rI 4 (R 74) s).bind fun u1 => (fX9_numberOf (nI j) u1 R).bind fun r2 => (rI 4 (R 87) u1).bind fun u3 => if r2 = u3 then some (.inl (s + 1)) else some (.inr (.inl u1))) (fun s t : Int32 => s = t ∧ ∃ e, e ≤ ls.length ∧ s = nI e) (fun (a : (Int32 × Int32) ⊕ Unit) (b : Int32 ⊕ Unit) => (a = .inr () ∧ b = .inr ()) ∨ ∃ p l, l < 4 ∧ a = .inl p ∧ b = .inl (nI l) ∧ p.1 = R 87 l ∧ p.2 = R 80 (4 * j + l) ∧ p.1 ≠ p.2) (fun s t hst y hy => by
    obtain ⟨rfl, e, he, rfl⟩ := hst
    rw [hS.1] at hy
    rw [hQ.1]
    rcases oi hy with ⟨c, hy⟩ | ⟨c, hy⟩
    · rw [if_pos c]
      obtain rfl := Option.some.inj hy
      exact ⟨_, rfl, Or.inr ⟨_, _, rfl, rfl, Or.inl ⟨rfl, rfl⟩⟩⟩
    · have c' := mt (nI_leI (by omega) (by omega)).mpr c
      have el : e < ls.length := by omega
      have l4 := hs.2.1 e el
      rw [if_neg c]
      rw [rI_n (by omega) (by omega), hS.2 e el, obs] at hy
      rw [rI_n (by omega) (by omega), hQ.2 e el, obs, n_numberOf (by omega) l4, obs, rI_n (by omega) (by omega), obs, (o.dg hj).2.2 e el, h4 _ l4]
      generalize hl : ls.getD e 0 = l at *
      have key : ∀ {t}, bX1_compareAt_53 18 (nI j) (nI e) (nI l) t M = some y → t = v4 v1 v2 v3 v4' l → ∃ z, (if nI (rdg M 18 j l) = v4 v1 v2 v3 v4' l then some (Sum.inl (nI e + 1)) else some (Sum.inr (Sum.inl (nI l)))) = some z ∧ ((∃ s' t' : Int32, y = .inl s' ∧ z = .inl t' ∧ s' = t' ∧ ∃ e, e ≤ ls.length ∧ s' = nI e) ∨ ∃ (r : (Int32 × Int32) ⊕ Unit) (r' : Int32 ⊕ Unit), y = .inr r ∧ z = .inr r' ∧ ((r = .inr () ∧ r' = .inr ()) ∨ ∃ p l, l < 4 ∧ r = .inl p ∧ r' = .inl (nI l) ∧ p.1 = R 87 l ∧ p.2 = R 80 (4 * j + l) ∧ p.1 ≠ p.2)) := fun {t} hy ht => by
        subst ht
        unfold bX1_compareAt_53 at hy
        rw [c_numberAt o hJ hj l4, obs] at hy
        rcases oi hy with ⟨c, hy⟩ | ⟨c, hy⟩
        · rw [if_pos c]
          obtain rfl := Option.some.inj hy
          exact ⟨_, rfl, Or.inl ⟨_, _, rfl, rfl, rfl, e + 1, by omega, nI_1 _⟩⟩
        · rw [if_neg c]
          obtain rfl := Option.some.inj hy
          refine ⟨_, rfl, Or.inr ⟨_, _, rfl, rfl, Or.inr ⟨_, l, l4, rfl, rfl, (h4 l l4).symm, ?_, fun z => c z.symm⟩⟩⟩
          have q := (o.dg hj).2.2 e el
          rw [hl] at q
          exact q.symm
      rcases (by omega : l = 0 ∨ l = 1 ∨ l = 2 ∨ l = 3) with rfl | rfl | rfl | rfl
      · rw [if_pos (by decide)] at hy
        exact key hy rfl
      · rw [if_neg (by decide), if_pos (by decide)] at hy
        exact key hy rfl
      · rw [if_neg (by decide), if_neg (by decide), if_pos (by decide)] at hy
        exact key hy rfl
      · rw [if_neg (by decide), if_neg (by decide), if_neg (by decide)] at hy
        exact key hy rfl) (s := 0) (t := 0) ⟨rfl, 0, Nat.zero_le _, rfl⟩ ew
  unfold fX9_comparesFour lX9_comparesFour_2
  rw [ew', obs]
  rcases q with ⟨rfl, rfl⟩ | ⟨p, l, hl, rfl, rfl, p1, p2, p3⟩
  · exact e
  · show ((fX9_numberOf (nI j) (nI l) R).bind fun r5 => (rI 4 (R 87) (nI l)).bind fun u6 => if u6 ≤ r5 then some (1 : Int32) else some ((-1) : Int32)) = some r
    rw [n_numberOf (by omega) hl, obs, rI_n (by omega) (by omega), obs, ← p1, ← p2]
    have e : (if p.2 ≤ p.1 then some ((-1) : Int32) else some (1 : Int32)) = some r := e
    rw [← e]
    have ne : p.1.toInt ≠ p.2.toInt := fun z => p3 (Int32.toInt_inj.mp z)
    by_cases c : p.2 ≤ p.1
    · rw [if_pos c, if_neg]
      rw [Int32.le_iff_toInt_le] at c ⊢
      omega
    · rw [if_neg c, if_pos]
      rw [Int32.le_iff_toInt_le] at c ⊢
      omega
theorem eq_behind {I : gM} (h : InvB I) {v1 v2 v3 v4' : Int32} {a : Int32} {b : Int32 × gM} (e1 : fX8_behind v1 v2 v3 v4' I = some a) (e2 : fX9_behind v1 v2 v3 v4' I = some b) : a = b.1 := by
  obtain ⟨A, hW, hC, hR⟩ := h.tab
  unfold fX8_behind at e1
  unfold fX9_behind at e2
  rw [n_areTables hW.1 hR.1, obs] at e2
  by_cases n : A.1.length = 0
  · rw [if_pos ((hC.n0 hW).mpr n)] at e1
    rw [if_pos n, if_pos rfl] at e2
    cases e1; cases e2; rfl
  · rw [if_neg (mt (hC.n0 hW).mp n)] at e1
    rw [if_neg n, if_neg (by decide)] at e2
    obtain ⟨r, er, hM, fr, h4⟩ := n_four h.mi v1 v2 v3 v4'
    rw [er, obs] at e2
    have hRr : RT r (r 70) A := by
      rw [fr 70 (by omega)]
      exact hR.cong (by rw [fr 62 (by omega)]) (fr 72 (by omega)) (fr 73 (by omega)) hW.1 hW.k12 (fun _ _ => rfl)
    obtain ⟨R', J, ej, o, hJ, hS, hQ, hl, _, _, fR, _⟩ := cur_two h hW (by omega) hC hM hRr
    rw [ej, obs] at e2
    obtain ⟨w, ew, e1⟩ := ob e1
    unfold lX8_behind_15 at ew
    have h4' : ∀ l, l < 4 → R' 87 l = v4 v1 v2 v3 v4' l := fun l hl => by rw [fR 87 (by omega) (by omega) (by omega) (by omega) (by omega) (by omega) (by omega) (by omega)]; exact h4 l hl
    have hs := okS_fl4 hW.2.2.2.1 (asA_lt hW)
    obtain ⟨w', ew', q⟩ := it_two (g := fun s : Int32 => if (R' 62 26) ≤ s then some (.inr (.inr ())) else (fX9_comparesFour s R').bind fun r4 => if r4 ≤ 0 then some (.inl (s + 1)) else some (.inr (.inl s))) (fun s t : Int32 => s = t ∧ ∃ e, e ≤ J ∧ s = nI e) (fun (a b : Int32 ⊕ Unit) => a = b) (fun s t hst y hy => by
      obtain ⟨rfl, j, hj, rfl⟩ := hst
      rw [o.1] at hy
      rw [o.2.1]
      rcases oi hy with ⟨c, hy⟩ | ⟨c, hy⟩
      · rw [if_pos c]
        obtain rfl := Option.some.inj hy
        exact ⟨_, rfl, Or.inr ⟨_, _, rfl, rfl, rfl⟩⟩
      · have c' := mt (nI_leI (by omega) (by omega)).mpr c
        obtain ⟨r1, er1, hy⟩ := ob hy
        rw [if_neg c, cmp_two o hs hJ hS hQ (by omega) h4' er1, obs]
        rcases oi hy with ⟨c, hy⟩ | ⟨c, hy⟩
        · rw [if_pos c]
          obtain rfl := Option.some.inj hy
          exact ⟨_, rfl, Or.inl ⟨_, _, rfl, rfl, rfl, j + 1, by omega, nI_1 _⟩⟩
        · rw [if_neg c]
          obtain rfl := Option.some.inj hy
          exact ⟨_, rfl, Or.inr ⟨_, _, rfl, rfl, rfl⟩⟩) (s := 0) (t := 0) ⟨rfl, 0, Nat.zero_le _, rfl⟩ ew
    subst q
    unfold lX9_behind_25 at e2
    rw [ew', obs] at e2
    cases w with
    | inl x => cases e1; cases e2; rfl
    | inr x => cases e1; cases e2; rfl
theorem eq_has {I : gM} (h : InvB I) {v1 v2 v3 v4' : Int32} {a : Int32} {b : Int32 × gM} (e1 : fX8_has v1 v2 v3 v4' I = some a) (e2 : fX9_has_ v1 v2 v3 v4' I = some b) : a = b.1 := by
  obtain ⟨A, hW, hC, hR⟩ := h.tab
  unfold fX8_has at e1
  unfold fX9_has_ at e2
  rw [n_areTables hW.1 hR.1, obs] at e2
  by_cases n : A.1.length = 0
  · rw [if_pos ((hC.n0 hW).mpr n)] at e1
    rw [if_pos n, if_pos rfl] at e2
    cases e1; cases e2; rfl
  · rw [if_neg (mt (hC.n0 hW).mp n)] at e1
    rw [if_neg n, if_neg (by decide)] at e2
    obtain ⟨r, er, hM, fr, h4⟩ := n_four h.mi v1 v2 v3 v4'
    rw [er, obs] at e2
    have hRr : RT r (r 70) A := by
      rw [fr 70 (by omega)]
      exact hR.cong (by rw [fr 62 (by omega)]) (fr 72 (by omega)) (fr 73 (by omega)) hW.1 hW.k12 (fun _ _ => rfl)
    obtain ⟨R', J, ej, o, hJ, hS, hQ, hl, _, _, fR, _⟩ := cur_two h hW (by omega) hC hM hRr
    rw [ej, obs] at e2
    obtain ⟨w, ew, e1⟩ := ob e1
    unfold lX8_has_15 at ew
    have h4' : ∀ l, l < 4 → R' 87 l = v4 v1 v2 v3 v4' l := fun l hl => by rw [fR 87 (by omega) (by omega) (by omega) (by omega) (by omega) (by omega) (by omega) (by omega)]; exact h4 l hl
    have hs := okS_fl4 hW.2.2.2.1 (asA_lt hW)
    obtain ⟨w', ew', q⟩ := it_two (g := fun s : Int32 => if (R' 62 26) ≤ s then some (.inr (.inr ())) else (fX9_comparesFour s R').bind fun r4 => if r4 = 0 then some (.inr (.inl ())) else some (.inl (s + 1))) (fun s t : Int32 => s = t ∧ ∃ e, e ≤ J ∧ s = nI e) (fun (a b : Unit ⊕ Unit) => a = b) (fun s t hst y hy => by
      obtain ⟨rfl, j, hj, rfl⟩ := hst
      rw [o.1] at hy
      rw [o.2.1]
      rcases oi hy with ⟨c, hy⟩ | ⟨c, hy⟩
      · rw [if_pos c]
        obtain rfl := Option.some.inj hy
        exact ⟨_, rfl, Or.inr ⟨_, _, rfl, rfl, rfl⟩⟩
      · have c' := mt (nI_leI (by omega) (by omega)).mpr c
        obtain ⟨r1, er1, hy⟩ := ob hy
        rw [if_neg c, cmp_two o hs hJ hS hQ (by omega) h4' er1, obs]
        rcases oi hy with ⟨c, hy⟩ | ⟨c, hy⟩
        · rw [if_pos c]
          obtain rfl := Option.some.inj hy
          exact ⟨_, rfl, Or.inr ⟨_, _, rfl, rfl, rfl⟩⟩
        · rw [if_neg c]
          obtain rfl := Option.some.inj hy
          exact ⟨_, rfl, Or.inl ⟨_, _, rfl, rfl, rfl, j + 1, by omega, nI_1 _⟩⟩) (s := 0) (t := 0) ⟨rfl, 0, Nat.zero_le _, rfl⟩ ew
    subst q
    unfold lX9_has__25 at e2
    rw [ew', obs] at e2
    cases w with
    | inl x => cases e1; cases e2; rfl
    | inr x => cases e1; cases e2; rfl
