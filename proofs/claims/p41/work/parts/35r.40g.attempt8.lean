section P_35r_40g_attempt8
/-! an act of the class: what it keeps of it, the tables, the log -/
theorem iR_n {a b : Nat} (ha : a < 2 ^ 31) (hb : 0 < b) (hb2 : b < 2 ^ 31) : iR (nI a) (nI b) = nI (a % b) := by
  have e : (iR (nI a) (nI b)).toInt = (a : Int) % (b : Int) := tR (tnI ha) (tnI hb2) (by omega) (by omega)
  have hlt : a % b < 2 ^ 31 := Nat.lt_of_le_of_lt (Nat.mod_le a b) ha
  apply Int32.toInt_inj.mp
  rw [e, tnI hlt]; rfl
theorem mN_n {a b : Nat} (ha : a < 2 ^ 31) (hb : b < 2 ^ 31) : mN (nI a) (nI b) = nI (min a b) := by
  unfold mN
  by_cases c : b < a
  · rw [if_pos ((nI_ltI hb ha).mpr c), Nat.min_eq_right (by omega)]
  · rw [if_neg (mt (nI_ltI hb ha).mp c), Nat.min_eq_left (by omega)]
/-- three places of a row of entries -/
def w3 (w : Nat → Int32) (p : Nat) (a b c : Int32) : Nat → Int32 := fun j => if j = 3 * p + 2 then c else if j = 3 * p + 1 then b else if j = 3 * p then a else w j
theorem c_past {I : gM} {nx m : Nat} (hx : nx < 40) (ex : I 48 2 = nI nx) (hm : m ≤ 40) (em : I 48 0 = nI m) (a b c : Int32) : ∃ r, fX3_add a b c I = some r ∧ r 48 2 = nI ((nx + 1) % 40) ∧ r 48 0 = nI (min (m + 1) 40) ∧ r 49 = w3 (I 49) nx a b c ∧ ∀ q, q ≠ 48 → q ≠ 49 → r q = I q := by
  have h3 : nI nx * 3 = nI (3 * nx) := by rw [L3, nI_mul, Nat.mul_comm]
  have g : ∀ (M : gM) (j : Nat) (v : Int32), g_up M 49 j v 48 = M 48 := fun M j v => g_up_row (by decide)
  unfold fX3_add
  rw [ex, h3, wI_n (by omega) (by omega), obs, g, ex, h3, nI_1, wI_n (by omega) (by omega), obs, g, g, ex, h3, L2, nI_add, wI_n (by omega) (by omega), obs, g, g, g, ex, nI_1, L40, iR_n (by omega) (by omega) (by omega), pU_n, obs, g_up_ne (Or.inr (by decide)), g, g, g, em, nI_1, mN_n (by omega) (by omega), pU_n, obs]
  refine ⟨_, rfl, ?_, ?_, ?_, fun q h1 h2 => ?_⟩
  · rw [g_up_ne (Or.inr (by decide)), g_up_self]
  · rw [g_up_self]
  · funext j
    rw [g_up_row (by decide), g_up_row (by decide), gu_in, gu_in, gu_in]; rfl
  · rw [g_up_row h1, g_up_row h1, g_up_row h2, g_up_row h2, g_up_row h2]
theorem c_log {I : gM} {k nl H : Nat} (hx : nl < 100) (ex : I k 1 = nI nl) (hH : H ≤ 100) (eH : I k 2 = nI H) (a b c : Int32) : ∃ r, fX2_add k a b c I = some r ∧ r k 1 = nI ((nl + 1) % 100) ∧ r k 2 = nI (min (H + 1) 100) ∧ r (k + 1) = w3 (I (k + 1)) nl a b c ∧ ∀ q, q ≠ k → q ≠ k + 1 → r q = I q := by
  have h3 : nI nl * 3 = nI (3 * nl) := by rw [L3, nI_mul, Nat.mul_comm]
  have g : ∀ (M : gM) (j : Nat) (v : Int32), g_up M (k + 1) j v k = M k := fun M j v => g_up_row (by omega)
  unfold fX2_add
  rw [ex, h3, wI_n (by omega) (by omega), obs, g, ex, h3, nI_1, wI_n (by omega) (by omega), obs, g, g, ex, h3, L2, nI_add, wI_n (by omega) (by omega), obs, g, g, g, ex, nI_1, L100, iR_n (by omega) (by omega) (by omega), pU_n, obs, g_up_ne (Or.inr (by decide)), g, g, g, show I k 2 = nI H from eH, nI_1, mN_n (by omega) (by omega), pU_n, obs]
  refine ⟨_, rfl, ?_, ?_, ?_, fun q h1 h2 => ?_⟩
  · rw [g_up_ne (Or.inr (by decide)), g_up_self]
  · rw [g_up_self]
  · funext j
    rw [g_up_row (by omega), g_up_row (by omega), gu_in, gu_in, gu_in]; rfl
  · rw [g_up_row h1, g_up_row h1, g_up_row h2, g_up_row h2, g_up_row h2]
theorem c_attempt {I0 I : gM} {A A' : aT} {s nx m nl H : Nat} {num x y z : Int32} (hM : MI true I0 I) (hs : s < 4) (hk : kn x < 128 ∧ kn y < 128 ∧ kn z < 128) (hW : WF A) (hC : CT I 3 A) (hA : ActA A (nI s) num x y z A') (hr : fX5_refusal 3 (nI s) num x y z I = some (-1))
    (hx : nx < 40) (ex : I 48 2 = nI nx) (hm : m ≤ 40) (em : I 48 0 = nI m) (hl : nl < 100) (el : I 44 1 = nI nl) (hH : H ≤ 100) (eH : I 44 2 = nI H) :
    ∃ r4 r5 r, fX8_attempt (nI s) num x y z I = some (-1, r) ∧ MI true I0 r4 ∧ CT r4 3 A' ∧ fX8_renew r4 = some r5 ∧ MI true I0 r ∧ CT r 3 A' ∧ r 48 2 = nI ((nx + 1) % 40) ∧ r 48 0 = nI (min (m + 1) 40) ∧ r 49 = w3 (I 49) nx (nI s) (backN A (nI s) num) (nI (kyz x y z)) ∧
      r 44 1 = nI ((nl + 1) % 100) ∧ r 44 2 = nI (min (H + 1) 100) ∧ r 45 = w3 (I 45) nl (nI s) num (r5 18 0) ∧ (∀ q, q = 0 ∨ q = 1 ∨ q = 2 ∨ (13 ≤ q ∧ q ≤ 17) ∨ 46 ≤ q ∧ q ≤ 47 ∨ 50 ≤ q ∧ q < 62 → r q = I q) ∧ (∀ q, q ≠ 44 → q ≠ 45 → r q = r5 q) ∧ (∀ j, 3 ≤ j → r 3 j = I 3 j) ∧ r4 22 = I 22 := by
  obtain ⟨p, ep, hp⟩ := tfX8_attempt (nI s) num x y z I hM
  have hbk : (if nI s = (3 : Int32) then I 3 2 else num) = backN A (nI s) num := by
    unfold backN
    rcases (by omega : s = 0 ∨ s = 1 ∨ s = 2 ∨ s = 3) with rfl | rfl | rfl | rfl
    · rw [if_neg (by decide), if_pos (by decide)]
    · rw [if_neg (by decide), if_pos (by decide)]
    · rw [if_neg (by decide), if_pos (by decide)]
    · rw [if_pos (show nI 3 = 3 from rfl), if_neg (by decide)]; exact hC.2.2.1
  have e0 : fX8_attempt (nI s) num x y z I = bX8_attempt_56 (nI s) num (nI (kyz x y z)) (backN A (nI s) num) (nI s) I := by
    unfold fX8_attempt
    rw [hr, obs, if_pos rfl, n_packed hk.1 hk.2.1 hk.2.2, obs, ← hbk]
    by_cases c : nI s = (3 : Int32)
    · rw [if_pos c, if_pos c]
    · rw [if_neg c, if_neg c]
  obtain ⟨r3, e3, a1, a2, a3, a4⟩ := c_past hx ex hm em (nI s) (backN A (nI s) num) (nI (kyz x y z))
  have C3 : CT r3 3 A := hC.cong (fun j _ => by rw [a4 3 (by decide) (by decide)]) (a4 4 (by decide) (by decide)) (a4 5 (by decide) (by decide)) (a4 6 (by decide) (by decide)) (a4 7 (by decide) (by decide))
  obtain ⟨r4, e4, C4, b1, b2⟩ := c_change hW C3 hA
  -- the class's functions keep the ranges
  have M3 : MI true I0 r3 := by
    obtain ⟨r3', e3', M⟩ := tfX3_add (nI s) (backN A (nI s) num) (nI (kyz x y z)) I hM
    rw [e3] at e3'
    cases e3'
    exact M
  have M4 : MI true I0 r4 := by
    obtain ⟨r4', e4', M⟩ := tfX5_change 3 (nI s) num (nI (kyz x y z)) r3 kX5_3 M3
    rw [e4] at e4'
    cases e4'
    exact M
  obtain ⟨r5, e5, M5⟩ := tfX8_renew r4 M4
  have f5 := xfX8_renew _ e5
  have g5 : ∀ q, q ≠ 18 → q ≠ 19 → q ≠ 20 → q ≠ 21 → q ≠ 22 → q ≠ 23 → q ≠ 24 → q ≠ 25 → q ≠ 26 → q ≠ 27 → q ≠ 28 → q ≠ 43 → r5 q = r4 q := fun q h18 h19 h20 h21 h22 h23 h24 h25 h26 h27 h28 h43 => zfX8_renew _ e5 q (by assumption) (by assumption) (by assumption) (by assumption) (by assumption) (by assumption) (by assumption) (by assumption) (by assumption) (by assumption) (by assumption) (by assumption)
  have k44 : r5 44 = I 44 := by rw [g5 44 (by decide) (by decide) (by decide) (by decide) (by decide) (by decide) (by decide) (by decide) (by decide) (by decide) (by decide) (by decide), b1 44 (by omega), a4 44 (by decide) (by decide)]
  have k45 : r5 45 = I 45 := by rw [g5 45 (by decide) (by decide) (by decide) (by decide) (by decide) (by decide) (by decide) (by decide) (by decide) (by decide) (by decide) (by decide), b1 45 (by omega), a4 45 (by decide) (by decide)]
  obtain ⟨r6, e6, c1, c2, c3, c4⟩ := c_log (I := r5) (k := 44) hl (by rw [k44]; exact el) hH (by rw [k44]; exact eH) (nI s) num (r5 18 0)
  have er : fX8_attempt (nI s) num x y z I = some (-1, r6) := by
    rw [e0]
    unfold bX8_attempt_56
    rw [e3, obs, e4, obs, e5, obs, e6, obs]
  rw [ep] at er
  have hpe := Option.some.inj er
  rw [hpe] at hp
  rw [hpe] at ep
  have t5 : ∀ q, 3 ≤ q → q ≤ 7 → r6 q = r4 q := fun q h1 h2 => by rw [c4 q (by omega) (by omega), g5 q (by omega) (by omega) (by omega) (by omega) (by omega) (by omega) (by omega) (by omega) (by omega) (by omega) (by omega) (by omega)]
  refine ⟨r4, r5, r6, ep, M4, C4, e5, hp.2.1, C4.cong (fun j _ => by rw [t5 3 (by omega) (by omega)]) (t5 4 (by omega) (by omega)) (t5 5 (by omega) (by omega)) (t5 6 (by omega) (by omega)) (t5 7 (by omega) (by omega)), ?_, ?_, ?_, c1, c2, ?_, fun q hq => ?_, fun q h1 h2 => c4 q h1 h2, fun j hj => ?_, by rw [b1 22 (by omega), a4 22 (by decide) (by decide)]⟩
  · rw [c4 48 (by decide) (by decide), g5 48 (by decide) (by decide) (by decide) (by decide) (by decide) (by decide) (by decide) (by decide) (by decide) (by decide) (by decide) (by decide), b1 48 (by omega)]; exact a1
  · rw [c4 48 (by decide) (by decide), g5 48 (by decide) (by decide) (by decide) (by decide) (by decide) (by decide) (by decide) (by decide) (by decide) (by decide) (by decide) (by decide), b1 48 (by omega)]; exact a2
  · rw [c4 49 (by decide) (by decide), g5 49 (by decide) (by decide) (by decide) (by decide) (by decide) (by decide) (by decide) (by decide) (by decide) (by decide) (by decide) (by decide), b1 49 (by omega)]; exact a3
  · rw [show r6 45 = r6 (44 + 1) from rfl, c3, show r5 (44 + 1) = r5 45 from rfl, k45]
  · rw [c4 q (by omega) (by omega), g5 q (by omega) (by omega) (by omega) (by omega) (by omega) (by omega) (by omega) (by omega) (by omega) (by omega) (by omega) (by omega), b1 q (by omega), a4 q (by omega) (by omega)]
  · rw [t5 3 (by omega) (by omega), b2 j hj, a4 3 (by decide) (by decide)]
end P_35r_40g_attempt8
section P_35r_40h_inv
/-! the log of the class beside the log in the reference's rows -/
def LG (C : Nat) (I : gM) (k e : Nat) (w : Nat → Int32) : Prop := ∃ nl H, nl < 100 ∧ H ≤ 100 ∧ e ≤ H ∧ I k 1 = nI nl ∧ I k 2 = nI H ∧ w 150 = nI (min (H - e) 60) ∧ ∀ i, i < min (H - e) 60 → ∀ c, c < C → w (151 + 3 * (min (H - e) 60 - 1 - i) + c) = I (k + 1) (3 * ((nl + 99 - (i + e)) % 100) + c)
theorem LG.cong {C k e : Nat} {I r : gM} {w w' : Nat → Int32} (h : LG C I k e w) (hC : C ≤ 3) (h1 : r k = I k) (h2 : r (k + 1) = I (k + 1)) (hw : ∀ x, 150 ≤ x → x < 331 → w' x = w x) : LG C r k e w' := by
  obtain ⟨nl, H, a1, a2, a3, a4, a5, a6, a7⟩ := h
  refine ⟨nl, H, a1, a2, a3, by rw [h1]; exact a4, by rw [h1]; exact a5, by rw [hw 150 (by omega) (by omega)]; exact a6, fun i hi c hc => ?_⟩
  rw [hw _ (by omega) (by omega), h2]
  exact a7 i hi c hc
/-- behind one act more: the log of rows kept before -/
theorem LG.old {C e nl H : Nat} {I r : gM} {w : Nat → Int32} {a b v : Int32} (h : LG C I 44 e w) (hC : C ≤ 3) (he : e ≤ 39) (el : I 44 1 = nI nl) (hl : nl < 100) (eH : I 44 2 = nI H) (hH : H ≤ 100) (r1 : r 44 1 = nI ((nl + 1) % 100)) (r2 : r 44 2 = nI (min (H + 1) 100)) (r3 : r 45 = w3 (I 45) nl a b v) : LG C r 44 (e + 1) w := by
  obtain ⟨nl', H', a1, a2, a3, a4, a5, a6, a7⟩ := h
  have : nl' = nl := nI_inj (a4.symm.trans el) (by omega) (by omega)
  subst this
  have : H' = H := nI_inj (a5.symm.trans eH) (by omega) (by omega)
  subst this
  have hm : min (min (H' + 1) 100 - (e + 1)) 60 = min (H' - e) 60 := by omega
  refine ⟨(nl' + 1) % 100, min (H' + 1) 100, by omega, by omega, by omega, r1, r2, by rw [hm]; exact a6, fun i hi c hc => ?_⟩
  rw [hm] at hi ⊢
  rw [a7 i hi c hc]
  show I 45 _ = r 45 _
  rw [r3]
  unfold w3
  have hp : ((nl' + 1) % 100 + 99 - (i + (e + 1))) % 100 = (nl' + 99 - (i + e)) % 100 := by omega
  have hne : (nl' + 99 - (i + e)) % 100 ≠ nl' := by omega
  rw [hp, if_neg (by omega), if_neg (by omega), if_neg (by omega)]
/-- the log as it is then -/
theorem LG.new {C nl H : Nat} {I r : gM} {w w' : Nat → Int32} {a b v v9 : Int32} (h : LG C I 44 0 w) (hC : C ≤ 3) (hv : C = 3 → v = v9) (el : I 44 1 = nI nl) (hl : nl < 100) (eH : I 44 2 = nI H) (hH : H ≤ 100) (r1 : r 44 1 = nI ((nl + 1) % 100)) (r2 : r 44 2 = nI (min (H + 1) 100)) (r3 : r 45 = w3 (I 45) nl a b v) (hw : ∀ j, 150 ≤ j → w' j = w j) : LG C r 44 0 (lg9 w' (min H 60) a b v9) := by
  obtain ⟨nl', H', a1, a2, a3, a4, a5, a6, a7⟩ := h
  have : nl' = nl := nI_inj (a4.symm.trans el) (by omega) (by omega)
  subst this
  have : H' = H := nI_inj (a5.symm.trans eH) (by omega) (by omega)
  subst this
  refine ⟨(nl' + 1) % 100, min (H' + 1) 100, by omega, by omega, by omega, r1, r2, ?_, fun i hi c hc => ?_⟩
  · unfold lg9
    rw [if_pos rfl]
    congr 1
    split <;> omega
  · have hL : (if min H' 60 = 60 then 59 else min H' 60) = min (min (H' + 1) 100 - 0) 60 - 1 := by split <;> omega
    show _ = r 45 _
    rw [r3]
    unfold lg9
    rw [hL]
    generalize hM : min (min (H' + 1) 100 - 0) 60 = M at *
    by_cases c0 : i = 0
    · subst c0
      have hp : ((nl' + 1) % 100 + 99 - (0 + 0)) % 100 = nl' := by omega
      rw [hp]
      unfold w3
      rw [if_neg (by omega)]
      rcases (by omega : c = 0 ∨ c = 1 ∨ c = 2) with rfl | rfl | rfl
      · rw [if_neg (by omega), if_neg (by omega), if_pos (by omega), if_neg (by omega), if_neg (by omega), if_pos (by omega)]
      · rw [if_neg (by omega), if_pos (by omega), if_neg (by omega), if_pos (by omega)]
      · rw [if_pos (by omega), if_pos (by omega)]; exact (hv (by omega)).symm
    · have hp : ((nl' + 1) % 100 + 99 - (i + 0)) % 100 = (nl' + 99 - ((i - 1) + 0)) % 100 := by omega
      have hne : (nl' + 99 - ((i - 1) + 0)) % 100 ≠ nl' := by omega
      rw [hp]
      unfold w3
      rw [if_neg (by omega), if_neg (by omega), if_neg (by omega), if_neg (by omega)]
      rw [if_neg (show ¬ 3 * ((nl' + 99 - ((i - 1) + 0)) % 100) + c = 3 * nl' + 2 by omega), if_neg (show ¬ 3 * ((nl' + 99 - ((i - 1) + 0)) % 100) + c = 3 * nl' + 1 by omega), if_neg (show ¬ 3 * ((nl' + 99 - ((i - 1) + 0)) % 100) + c = 3 * nl' by omega)]
      have q := a7 (i - 1) (by omega) c hc
      by_cases c1 : min H' 60 = 60
      · rw [if_pos ⟨c1, by omega, by omega⟩, hw _ (by omega), ← show I (44 + 1) = I 45 from rfl, ← q]
        congr 1
        omega
      · rw [if_neg (fun z => c1 z.1), hw _ (by omega), ← show I (44 + 1) = I 45 from rfl, ← q]
        congr 1
        omega
/-- what the class keeps of the act from A to A', at depth d -/
def stepA (I : gM) (A A' : aT) (d nx : Nat) : Prop := ∃ s num x y z, s < 4 ∧ ActA A (nI s) num x y z A' ∧ I 49 (3 * ((nx + 39 - d) % 40)) = nI s ∧ I 49 (3 * ((nx + 39 - d) % 40) + 1) = backN A (nI s) num ∧ I 49 (3 * ((nx + 39 - d) % 40) + 2) = nI (kyz x y z)
theorem stepA.cong {I r : gM} {A A' : aT} {d nx : Nat} (h : stepA I A A' d nx) (e : r 49 = I 49) : stepA r A A' d nx := by
  unfold stepA
  rw [e]; exact h
theorem stepA.old {I r : gM} {A A' : aT} {d nx : Nat} {a b c : Int32} (h : stepA I A A' d nx) (hd : d ≤ 38) (hx : nx < 40) (e : r 49 = w3 (I 49) nx a b c) : stepA r A A' (d + 1) ((nx + 1) % 40) := by
  obtain ⟨s, num, x, y, z, hs, h1, h2, h3, h4⟩ := h
  have hp : ((nx + 1) % 40 + 39 - (d + 1)) % 40 = (nx + 39 - d) % 40 := by omega
  have hne : (nx + 39 - d) % 40 ≠ nx := by omega
  have hw : ∀ c, c < 3 → r 49 (3 * ((nx + 39 - d) % 40) + c) = I 49 (3 * ((nx + 39 - d) % 40) + c) := fun c hc => by
    rw [e]
    unfold w3
    rw [if_neg (by omega), if_neg (by omega), if_neg (by omega)]
  refine ⟨s, num, x, y, z, hs, h1, ?_, ?_, ?_⟩
  · rw [hp]; exact (hw 0 (by omega)).trans h2
  · rw [hp, hw 1 (by omega)]; exact h3
  · rw [hp, hw 2 (by omega)]; exact h4
theorem stepA.new {I r : gM} {A A' : aT} {nx s : Nat} {num x y z : Int32} (hs : s < 4) (h : ActA A (nI s) num x y z A') (hx : nx < 40) (e : r 49 = w3 (I 49) nx (nI s) (backN A (nI s) num) (nI (kyz x y z))) : stepA r A A' 0 ((nx + 1) % 40) := by
  have hp : ((nx + 1) % 40 + 39 - 0) % 40 = nx := by omega
  refine ⟨s, num, x, y, z, hs, h, ?_, ?_, ?_⟩
  · rw [hp, e]
    unfold w3
    rw [if_neg (by omega), if_neg (by omega), if_pos rfl]
  · rw [hp, e]
    unfold w3
    rw [if_neg (by omega), if_pos rfl]
  · rw [hp, e]
    unfold w3
    rw [if_pos rfl]
def kept9 (I : gM) (a : Nat) : Nat → Int32 := fun x => I 81 (331 * a + x)
/-- tables, acts, log, image, status of both objects -/
def InvS (C : Nat) (I : gM) (S : Nat → aT) (m nx : Nat) : Prop := (m ≤ 40 ∧ nx < 40 ∧ I 48 0 = nI m ∧ I 48 2 = nI nx ∧ I 62 29 = nI m) ∧ (∀ a, a ≤ m → WF (S a)) ∧ (CT I 3 (S m) ∧ RT I (I 70) (S m) ∧ LG C I 44 0 (I 70)) ∧ (∀ a, a < m → RT I (kept9 I a) (S a) ∧ LG C I 44 (m - a) (kept9 I a) ∧ stepA I (S a) (S (a + 1)) (m - 1 - a) nx) ∧ (I 0 15 = I 62 42 ∧ (I 62 42 ≠ 0 → ∃ B, WF B ∧ CT I 13 B ∧ RT I (I 89) B ∧ LG C I 46 0 (I 89))) ∧ ∀ j, j < 4 → I 53 j = I 71 j
def InvR (C : Nat) (I : gM) : Prop := ∃ S m nx, InvS C I S m nx
theorem WF.k12 {A : aT} (h : WF A) : ∀ t, t < A.1.length → (aK A t).length ≤ 12 := fun t ht => (h.2.2.2.2 t ht).2.2.2.1
/-- nothing of that is touched but the status, which stays the same -/
theorem InvS.keepR {C : Nat} {I r : gM} {S : Nat → aT} {m nx : Nat} (h : InvS C I S m nx) (hC : C ≤ 3) (h0 : r 0 15 = I 0 15) (h8 : ∀ k, (3 ≤ k ∧ k ≤ 7) ∨ (13 ≤ k ∧ k ≤ 17) ∨ (44 ≤ k ∧ k ≤ 49) → r k = I k) (h62 : ∀ j, j = 17 ∨ j = 29 ∨ j = 42 → r 62 j = I 62 j) (h9 : ∀ k, k = 70 ∨ k = 72 ∨ k = 73 ∨ k = 81 ∨ k = 89 → r k = I k) (h53 : ∀ j, j < 4 → r 53 j = r 71 j) : InvS C r S m nx := by
  obtain ⟨⟨a1, a2, a3, a4, a5⟩, hW, ⟨b1, b2, b3⟩, hk, ⟨c1, c2⟩, c3⟩ := h
  have kC : ∀ {A : aT}, WF A → ∀ {w}, RT I w A → RT r w A := fun hA _ q => q.cong (h62 17 (by omega)) (h9 72 (by omega)) (h9 73 (by omega)) hA.1 hA.k12 (fun _ _ => rfl)
  refine ⟨⟨a1, a2, by rw [h8 48 (by omega)]; exact a3, by rw [h8 48 (by omega)]; exact a4, by rw [h62 29 (by omega)]; exact a5⟩, hW, ⟨?_, ?_, ?_⟩, fun a ha => ⟨?_, ?_, ?_⟩, ⟨by rw [h0, h62 42 (by omega)]; exact c1, fun q => ?_⟩, h53⟩
  · exact b1.cong (fun j _ => by rw [h8 3 (by omega)]) (h8 4 (by omega)) (h8 5 (by omega)) (h8 6 (by omega)) (h8 7 (by omega))
  · rw [h9 70 (by omega)]; exact kC (hW m (Nat.le_refl _)) b2
  · rw [h9 70 (by omega)]; exact b3.cong hC (h8 44 (by omega)) (h8 45 (by omega)) (fun _ _ _ => rfl)
  · have e : kept9 r a = kept9 I a := by unfold kept9; rw [h9 81 (by omega)]
    rw [e]; exact kC (hW a (by omega)) (hk a ha).1
  · have e : kept9 r a = kept9 I a := by unfold kept9; rw [h9 81 (by omega)]
    rw [e]; exact (hk a ha).2.1.cong hC (h8 44 (by omega)) (h8 45 (by omega)) (fun _ _ _ => rfl)
  · exact (hk a ha).2.2.cong (h8 49 (by omega))
  · rw [h62 42 (by omega)] at q
    obtain ⟨B, d1, d2, d3, d4⟩ := c2 q
    refine ⟨B, d1, d2.cong (fun j _ => by rw [h8 13 (by omega)]) (h8 14 (by omega)) (h8 15 (by omega)) (h8 16 (by omega)) (h8 17 (by omega)), by rw [h9 89 (by omega)]; exact kC d1 d3, by rw [h9 89 (by omega)]; exact d4.cong hC (h8 46 (by omega)) (h8 47 (by omega)) (fun _ _ _ => rfl)⟩
theorem InvS.refs {C : Nat} {I : gM} {S : Nat → aT} {m nx : Nat} (h : InvS C I S m nx) : ∀ j, j < 4 → I 53 j = I 71 j := h.2.2.2.2.2
/-- nothing of that is touched -/
theorem InvS.keep {C : Nat} {I r : gM} {S : Nat → aT} {m nx : Nat} (h : InvS C I S m nx) (hC : C ≤ 3) (h0 : r 0 15 = I 0 15) (h8 : ∀ k, (3 ≤ k ∧ k ≤ 7) ∨ (13 ≤ k ∧ k ≤ 17) ∨ (44 ≤ k ∧ k ≤ 49) ∨ k = 53 → r k = I k) (h62 : ∀ j, j = 17 ∨ j = 29 ∨ j = 42 → r 62 j = I 62 j) (h9 : ∀ k, k = 70 ∨ k = 71 ∨ k = 72 ∨ k = 73 ∨ k = 81 ∨ k = 89 → r k = I k) : InvS C r S m nx :=
  h.keepR hC h0 (fun k hk => h8 k (by omega)) h62 (fun k hk => h9 k (by omega)) (fun j hj => by rw [h8 53 (by omega), h9 71 (by omega)]; exact h.refs j hj)
end P_35r_40h_inv
section P_35r_40i_act
/-! an act of both -/
theorem why_cong {M I : gM} (h17 : M 62 17 = I 62 17) (h70 : M 70 = I 70) (h72 : M 72 = I 72) (s a x y z : Int32) : fX9_whyNot s a x y z M = fX9_whyNot s a x y z I := by
  simp only [fX9_whyNot, fX9_whyPut, fX9_whyTake, fX9_isTable, fX9_isRow, bX9_isRow_84, bX9_isRow_47, bX9_isRow_46, bX9_isRow_42, fX9_hasRow, fX9_many, fX9_countLess, lX9_countLess_3, fX9_compares, fX9_areTables, h17, h70, h72]
theorem ActA.any {A A' : aT} {s : Nat} {a x y z : Int32} (hs : s = 2 ∨ s = 3) (h : ActA A (nI s) a x y z A') (x' y' z' : Int32) : ActA A (nI s) a x' y' z' A' := by
  have n0 : ¬ nI s = 0 := by rcases hs with rfl | rfl <;> decide
  have n1 : ¬ nI s = 1 := by rcases hs with rfl | rfl <;> decide
  rcases h with ⟨q, _⟩ | ⟨q, _⟩ | h | h
  · exact absurd q n0
  · exact absurd q n1
  · exact Or.inr (Or.inr (Or.inl h))
  · exact Or.inr (Or.inr (Or.inr h))
theorem why_any {I : gM} {s : Nat} (hs : s = 2 ∨ s = 3) (a x y z x' y' z' : Int32) : fX9_whyNot (nI s) a x y z I = fX9_whyNot (nI s) a x' y' z' I := by
  unfold fX9_whyNot
  rcases hs with rfl | rfl
  · rw [if_neg (show ¬ nI 2 = 0 by decide), if_neg (show ¬ nI 2 = 1 by decide), if_neg (show ¬ nI 2 = 0 by decide), if_neg (show ¬ nI 2 = 1 by decide)]
  · rw [if_neg (show ¬ nI 3 = 0 by decide), if_neg (show ¬ nI 3 = 1 by decide), if_neg (show ¬ nI 3 = 0 by decide), if_neg (show ¬ nI 3 = 1 by decide)]
theorem ActA.pos {A A' : aT} {s a x y z : Int32} (h : ActA A s a x y z A') : 0 < A.1.length := by
  rcases h with ⟨_, t, _, ht, _⟩ | ⟨_, t, _, ht, _⟩ | ⟨_, t, ht, _⟩ | ⟨_, _, _, _, _, _, _, h, _⟩
  · omega
  · omega
  · omega
  · exact h
/-- the joins have as many rows -/
def JE : Prop := ∀ (A : aT) (I0 I0' I8 r8 I9 r9 : gM), WF A → 0 < A.1.length → MI true I0 I8 → CT I8 3 A → I8 22 0 = 0 → fX8_renew I8 = some r8 → MI false I0' I9 → RT I9 (I9 70) A → fX9_joinsNow I9 = some r9 → r8 18 0 = r9 62 26
theorem act_both {C : Nat} {I : gM} (hM : MI true I I) (hA9 : A9 I) {S : Nat → aT} {m nx : Nat} (h : InvS C I S m nx) (hC : C ≤ 3) (hJ : C = 3 → JE ∧ I 22 0 = 0) {s : Nat} (hs : s < 4) {num x y z x' y' z' : Int32} {A' : aT} {w' : Nat → Int32} (hk : kn x < 128 ∧ kn y < 128 ∧ kn z < 128) (hact : ActA (S m) (nI s) num x y z A') (hact9 : Act9 (S m).1.length (I 72) (I 70) (nI s) num x' y' z' w') (hR' : RT I w' A') (hw' : ∀ j, 150 ≤ j → w' j = I 70 j) (hr : fX5_refusal 3 (nI s) num x y z I = some (-1)) :
    ∃ a v b S', fX8_attempt (nI s) num x y z I = some (-1, a) ∧ fX9_act (nI s) num x' y' z' a = some (v, b) ∧ MI true I a ∧ MI false a b ∧ A9 b ∧ InvS C b S' (min (m + 1) 40) ((nx + 1) % 40) ∧ S' (min (m + 1) 40) = A' ∧ WF A' ∧ CT a 3 A' ∧ (∀ q, q = 0 ∨ q = 1 ∨ q = 2 ∨ 50 ≤ q ∧ q < 62 → a q = I q) ∧ (∀ j, j ≠ 19 → j ≠ 26 → j ≠ 27 → j ≠ 29 → b 62 j = a 62 j) ∧ (∀ k, k ≠ 62 → k ≠ 70 → k ≠ 74 → k ≠ 75 → k ≠ 76 → k ≠ 77 → k ≠ 78 → k ≠ 79 → k ≠ 80 → k ≠ 81 → b k = a k) ∧
      (s < 2 → ∃ t, t < (S m).1.length ∧ num = nI t ∧ v = nI (aK A' t).length) ∧ (s = 2 → ∃ t, t < (S m).1.length ∧ num = nI t ∧ v = if A'.2.1.testBit t then 1 else 0) ∧ (s = 3 → v = nI (S m).2.2) := by
  obtain ⟨⟨a1, a2, a3, a4, a5⟩, hW, ⟨b1, b2, b3⟩, hk9, ⟨c1, c2⟩, c3⟩ := h
  have hWm := hW m (Nat.le_refl _)
  have hWA := hWm.act hact
  have hn : A'.1.length = (S m).1.length := nI_inj (hR'.1.symm.trans b2.1) (by have := hWA.1; omega) (by have := hWm.1; omega)
  obtain ⟨nl, H, l1, l2, _, l4, l5, l6, _⟩ := id b3
  rw [Nat.sub_zero] at l6
  obtain ⟨r4, r5, a, e1, M4, C4, e5, Ma, Ca, p1, p2, p3, q1, q2, q3, fr, fj, f3, f22⟩ := c_attempt hM hs hk hWm b1 hact hr a2 a4 a1 a3 l1 l4 l2 l5
  have hi : ∀ k, 62 ≤ k → a k = I k := fun k hk => Ma.hi hk
  obtain ⟨I9, rj, v, b, j1, j2, j3, j4, j5, j6, j7, j8, j9, j10, j11, j12, j13, j14, v1, v2, v3⟩ := n_act (I0 := a) (I := a) Ma.re (A9.hi Ma hA9) (n := (S m).1.length) (A := m) (L := min H 60) hWm.1 (by rw [hi 62 (by omega)]; exact b2.1) a1 (by rw [hi 62 (by omega)]; exact a5) (by omega) (by rw [hi 70 (by omega)]; exact l6) (s := nI s) (a := num) (x := x') (y := y') (z := z') (w' := w') (by rw [hi 72 (by omega), hi 70 (by omega)]; exact hact9)
  have lo : ∀ k, k < 62 → b k = a k := fun k hk => j4.lo hk
  have b62 : ∀ j, j ≠ 19 → j ≠ 26 → j ≠ 27 → j ≠ 29 → b 62 j = I 62 j := fun j h1 h2 h3 h4 => by rw [j13 j h1 h2 h3 h4, hi 62 (by omega)]
  have bk : ∀ k, 71 ≤ k → k ≠ 74 → k ≠ 75 → k ≠ 76 → k ≠ 77 → k ≠ 78 → k ≠ 79 → k ≠ 80 → k ≠ 81 → b k = I k := fun k h1 h2 h3 h4 h5 h6 h7 h8 h9 => by rw [j14 k (by omega) (by omega) h2 h3 h4 h5 h6 h7 h8 h9, hi k (by omega)]
  -- the rows at a place: of the ones kept, or now
  let W : Nat → Nat → Int32 := fun j => if j < m then kept9 I j else I 70
  have hWj : ∀ j, j ≤ m → RT I (W j) (S j) ∧ LG C I 44 (m - j) (W j) := fun j hj => by
    rcases Nat.lt_or_ge j m with c | c
    · show RT I (if j < m then kept9 I j else I 70) _ ∧ LG C I 44 _ (if j < m then kept9 I j else I 70)
      rw [if_pos c]; exact ⟨(hk9 j c).1, (hk9 j c).2.1⟩
    · have : j = m := by omega
      subst this
      show RT I (if j < j then kept9 I j else I 70) _ ∧ LG C I 44 _ (if j < j then kept9 I j else I 70)
      rw [if_neg (by omega), Nat.sub_self]; exact ⟨b2, b3⟩
  let δ : Nat := if m = 40 then 1 else 0
  have hδ : (m = 40 ∧ δ = 1) ∨ (m < 40 ∧ δ = 0) := by
    by_cases c : m = 40
    · exact Or.inl ⟨c, if_pos c⟩
    · exact Or.inr ⟨by omega, if_neg c⟩
  have hkb : ∀ j, j < min (m + 1) 40 → ∀ x, x < 331 → kept9 b j x = W (j + δ) x := by
    intro j hj x hx
    show b 81 (331 * j + x) = (if j + δ < m then kept9 I (j + δ) else I 70) x
    rw [j11, hi 81 (by omega), hi 70 (by omega)]
    unfold kp9
    rcases hδ with ⟨c, d⟩ | ⟨c, d⟩
    · rw [if_pos c, d]
      by_cases f : j + 1 < m
      · rw [if_pos f, if_neg (by omega), if_pos (by omega)]
        exact congrArg (I 81) (by omega)
      · rw [if_neg f, if_pos (by omega)]
        exact congrArg (I 70) (by omega)
    · rw [if_neg (by omega), d]
      by_cases f : j + 0 < m
      · rw [if_pos f, if_neg (by omega)]; rfl
      · rw [if_neg f, if_pos (by omega)]
        exact congrArg (I 70) (by omega)
  generalize hδ' : δ = dl at *
  let S' : Nat → aT := fun j => if j + dl = m + 1 then A' else S (j + dl)
  have hS1 : ∀ j, j + dl = m + 1 → S' j = A' := fun j e => if_pos e
  have hS2 : ∀ j, j + dl ≠ m + 1 → S' j = S (j + dl) := fun j e => if_neg e
  have hmm : min (m + 1) 40 + dl = m + 1 := by omega
  have RTb : ∀ {A : aT} {w u : Nat → Int32}, WF A → RT I w A → (∀ x, x < 150 → u x = w x) → RT b u A := fun hA q e => q.cong (b62 17 (by omega) (by omega) (by omega) (by omega)) (bk 72 (by omega) (by omega) (by omega) (by omega) (by omega) (by omega) (by omega) (by omega) (by omega)) (bk 73 (by omega) (by omega) (by omega) (by omega) (by omega) (by omega) (by omega) (by omega) (by omega)) hA.1 hA.k12 e
  have CTb : CT b 3 A' := Ca.cong (fun j _ => by rw [lo 3 (by omega)]) (lo 4 (by omega)) (lo 5 (by omega)) (lo 6 (by omega)) (lo 7 (by omega))
  have hv : C = 3 → r5 18 0 = rj 62 26 := fun c => by
    refine (hJ c).1 A' I a r4 r5 I9 rj hWA (by rw [hn]; exact hact.pos) M4 C4 (by rw [f22]; exact (hJ c).2) e5 j2 ?_ j1
    exact hR'.cong (by rw [j7 17 (by omega), hi 62 (by omega)]) (by rw [j6 72 (by omega) (by omega) (by omega), hi 72 (by omega)]) (by rw [j6 73 (by omega) (by omega) (by omega), hi 73 (by omega)]) hWA.1 hWA.k12 j8
  refine ⟨a, v, b, S', e1, j3, Ma, j4, j5, ⟨⟨by omega, by omega, by rw [lo 48 (by omega)]; exact p2, by rw [lo 48 (by omega)]; exact p1, by rw [j12]; congr 1; split <;> omega⟩, fun j hj => ?_, ⟨?_, ?_, ?_⟩, fun j hj => ⟨?_, ?_, ?_⟩, ⟨?_, fun q => ?_⟩, fun j hj => ?_⟩, hS1 _ hmm, hWA, Ca, fun q hq => fr q (by omega), j13, j14, fun c => ?_, fun c => ?_, fun c => ?_⟩
  · by_cases c : j + dl = m + 1
    · rw [hS1 j c]; exact hWA
    · rw [hS2 j c]; exact hW _ (by omega)
  · rw [hS1 _ hmm]; exact CTb
  · rw [hS1 _ hmm]
    refine RTb hWA hR' (fun x hx => ?_)
    rw [j10]
    unfold lg9
    rw [if_neg (by omega), if_neg (by omega), if_neg (by omega), if_neg (by omega), if_neg (by omega)]
  · rw [j10]
    exact (b3.new hC hv l4 l1 l5 l2 q1 q2 q3 hw').cong hC (lo 44 (by omega)) (lo 45 (by omega)) (fun _ _ _ => rfl)
  · rw [hS2 j (by omega)]
    exact RTb (hW _ (by omega)) (hWj (j + dl) (by omega)).1 (fun x hx => hkb j hj x (by omega))
  · have q := ((hWj (j + dl) (by omega)).2.old hC (by omega) l4 l1 l5 l2 q1 q2 q3).cong (r := b) (w' := kept9 b j) hC (lo 44 (by omega)) (lo 45 (by omega)) (fun x _ hx => hkb j hj x hx)
    rw [show m - (j + dl) + 1 = min (m + 1) 40 - j by omega] at q
    exact q
  · rw [hS2 j (by omega)]
    by_cases c : j + 1 + dl = m + 1
    · rw [hS1 (j + 1) c, show j + dl = m by omega, show min (m + 1) 40 - 1 - j = 0 by omega]
      exact (stepA.new hs hact a2 p3).cong (lo 49 (by omega))
    · rw [hS2 (j + 1) c, show j + 1 + dl = j + dl + 1 by omega, show min (m + 1) 40 - 1 - j = m - 1 - (j + dl) + 1 by omega]
      exact ((hk9 (j + dl) (by omega)).2.2.old (by omega) a2 p3).cong (lo 49 (by omega))
  · rw [lo 0 (by omega), fr 0 (by omega), b62 42 (by omega) (by omega) (by omega) (by omega)]; exact c1
  · rw [b62 42 (by omega) (by omega) (by omega) (by omega)] at q
    obtain ⟨B, d1, d2, d3, d4⟩ := c2 q
    have l13 : ∀ k, 13 ≤ k → k ≤ 17 → b k = I k := fun k h1 h2 => by rw [lo k (by omega), fr k (by omega)]
    have l46 : ∀ k, 46 ≤ k → k ≤ 47 → b k = I k := fun k h1 h2 => by rw [lo k (by omega), fr k (by omega)]
    have l89 : b 89 = I 89 := bk 89 (by omega) (by omega) (by omega) (by omega) (by omega) (by omega) (by omega) (by omega) (by omega)
    exact ⟨B, d1, d2.cong (fun j _ => by rw [l13 13 (by omega) (by omega)]) (l13 14 (by omega) (by omega)) (l13 15 (by omega) (by omega)) (l13 16 (by omega) (by omega)) (l13 17 (by omega) (by omega)), RTb d1 d3 (fun x _ => by rw [l89]), by rw [l89]; exact d4.cong hC (l46 46 (by omega) (by omega)) (l46 47 (by omega) (by omega)) (fun _ _ _ => rfl)⟩
  · rw [lo 53 (by omega), fr 53 (by omega), bk 71 (by omega) (by omega) (by omega) (by omega) (by omega) (by omega) (by omega) (by omega) (by omega)]; exact c3 j hj
  · obtain ⟨t, t1, t2, t3⟩ := v1 (by rcases (by omega : s = 0 ∨ s = 1) with rfl | rfl; exact Or.inl rfl; exact Or.inr rfl)
    exact ⟨t, t1, t2, by rw [t3]; exact (hR'.2.2.2 t (by omega)).2.2.1⟩
  · obtain ⟨t, t1, t2, t3⟩ := v2 (by rw [c]; rfl)
    have h4 := hWm.1
    have hu : A'.2.1 < 16 := hWA.u
    refine ⟨t, t1, t2, ?_⟩
    rw [hR'.2.1, hs_nI hu (by omega)] at t3
    by_cases d : A'.2.1.testBit t = true
    · rw [if_pos d]
      rcases t3 with ⟨_, e⟩ | ⟨q, _⟩
      · exact e
      · exact absurd d q
    · rw [if_neg d]
      rcases t3 with ⟨q, _⟩ | ⟨_, e⟩
      · exact absurd q d
      · exact e
  · rw [v3 (by rw [c]; decide) (by rw [c]; decide) (by rw [c]; decide), hi 70 (by omega)]; exact b2.2.2.1
end P_35r_40i_act
section P_35r_40j_hand
/-- an act is tried by both -/
theorem try_both {C : Nat} {I : gM} (hM : MI true I I) (hA9 : A9 I) {S : Nat → aT} {m nx : Nat} (h : InvS C I S m nx) (hC : C ≤ 3) (hJ : C = 3 → JE ∧ I 22 0 = 0) {s : Nat} (hs : s < 4) (num x y z x' y' z' : Int32) (h2 : 2 ≤ s → x = -1 ∧ y = -1 ∧ z = -1) (h1 : s < 2 → x' = x ∧ y' = y ∧ z' = z) :
    (∃ r, r < 4 ∧ fX8_attempt (nI s) num x y z I = some (nI r, I) ∧ fX9_whyNot (nI s) num x' y' z' I = some (nI r)) ∨
    (∃ A' a v b S', ActA (S m) (nI s) num x y z A' ∧ fX9_whyNot (nI s) num x' y' z' a = some (-1) ∧ fX8_attempt (nI s) num x y z I = some (-1, a) ∧ fX9_act (nI s) num x' y' z' a = some (v, b) ∧ MI true I a ∧ MI false a b ∧ A9 b ∧ InvS C b S' (min (m + 1) 40) ((nx + 1) % 40) ∧ S' (min (m + 1) 40) = A' ∧ WF A' ∧ CT a 3 A' ∧ (∀ q, q = 0 ∨ q = 1 ∨ q = 2 ∨ 50 ≤ q ∧ q < 62 → a q = I q) ∧ (∀ j, j ≠ 19 → j ≠ 26 → j ≠ 27 → j ≠ 29 → b 62 j = a 62 j) ∧ (∀ k, k ≠ 62 → k ≠ 70 → k ≠ 74 → k ≠ 75 → k ≠ 76 → k ≠ 77 → k ≠ 78 → k ≠ 79 → k ≠ 80 → k ≠ 81 → b k = a k) ∧
      (s < 2 → ∃ t, t < (S m).1.length ∧ num = nI t ∧ v = nI (aK A' t).length) ∧ (s = 2 → ∃ t, t < (S m).1.length ∧ num = nI t ∧ v = if A'.2.1.testBit t then 1 else 0) ∧ (s = 3 → v = nI (S m).2.2)) := by
  have hWm := h.2.1 m (Nat.le_refl _)
  have hCm := h.2.2.1.1
  have hRm := h.2.2.1.2.1
  obtain ⟨r, e1, e2, e3, _⟩ := why_both hM.re hWm hCm hRm hs num x y z
  have e2' : fX9_whyNot (nI s) num x' y' z' I = some r := by
    rcases Nat.lt_or_ge s 2 with c | c
    · obtain ⟨f1, f2, f3⟩ := h1 c
      rw [f1, f2, f3]; exact e2
    · rw [← e2]; exact why_any (by omega) _ _ _ _ _ _ _
  by_cases hr : r = -1
  · subst hr
    refine Or.inr ?_
    obtain ⟨w', hact9⟩ := n_can hM.re hWm.1 hRm.1 e2'
    obtain ⟨A', hact', hR', hw'⟩ := act_abs hWm hRm hact9
    have hact : ActA (S m) (nI s) num x y z A' := by
      rcases Nat.lt_or_ge s 2 with c | c
      · obtain ⟨f1, f2, f3⟩ := h1 c
        rw [f1, f2, f3] at hact'; exact hact'
      · exact hact'.any (by omega) x y z
    have hk : kn x < 128 ∧ kn y < 128 ∧ kn z < 128 := by
      rcases Nat.lt_or_ge s 2 with c | c
      · rcases hact with ⟨_, _, _, _, _, _, q, _⟩ | ⟨_, _, _, _, _, q, _⟩ | ⟨q, _⟩ | ⟨q, _, _⟩
        · exact (row_k q).2.1
        · exact (row_k q).2.1
        · have := nI_inj (b := 2) q (by omega) (by omega)
          omega
        · rename_i q2 _ _
          rcases (by omega : s = 0 ∨ s = 1) with rfl | rfl
          · exact absurd rfl q
          · exact absurd rfl (by assumption)
      · obtain ⟨f1, f2, f3⟩ := h2 c
        rw [f1, f2, f3]; decide
    obtain ⟨a, v, b, S', g1, g2, g3, g4, g5, g6, g7, g8, g9, g10, g11, g12, g13, g14, g15⟩ := act_both hM hA9 h hC hJ hs hk hact hact9 hR' hw' e1
    refine ⟨A', a, v, b, S', hact, ?_, g1, g2, g3, g4, g5, g6, g7, g8, g9, g10, g11, g12, g13, g14, g15⟩
    rw [why_cong (I := I) (by rw [g3.hi (by omega)]) (g3.hi (by omega)) (g3.hi (by omega))]; exact e2'
  · refine Or.inl ?_
    have e4 : ∃ n, n < 4 ∧ r = nI n := by
      rcases e3 with q | q | q | q | q
      · exact ⟨0, by omega, q⟩
      · exact ⟨1, by omega, q⟩
      · exact ⟨2, by omega, q⟩
      · exact ⟨3, by omega, q⟩
      · exact absurd q hr
    obtain ⟨n, hn, rfl⟩ := e4
    refine ⟨n, hn, ?_, e2'⟩
    unfold fX8_attempt
    rw [e1, obs, if_neg hr]
/-- scripts, told alike -/
def stepOK (st : Nat × Nat × List Nat) : Prop := st.1 < 4 ∧ (2 ≤ st.1 → st.2.2 = [])
def SCR (I : gM) : Prop := I 0 14 = I 62 12 ∧ ∀ s, s < 4 → s < (I 62 12).toInt.toNat → ∃ ss, ScK I (54 + 2 * s) ss ∧ I 69 s = nI ss.length ∧ (∀ a, a < 5 * ss.length → I 68 (60 * s + a) = se (ss.getD (a / 5) (0, 0, [])) (a % 5)) ∧ ∀ i, i < ss.length → stepOK (ss.getD i (0, 0, []))
/-- all that the two objects keep in common -/
def InvA (C : Nat) (I : gM) : Prop := MI true I I ∧ A9 I ∧ TPR I ∧ SCR I ∧ InvR C I
theorem TPR.keep {I r : gM} (h : TPR I) (h1 : r 1 0 = I 1 0) (h2 : r 2 = I 2) (h62 : r 62 2 = I 62 2) (h63 : r 63 = I 63) : TPR r := by
  obtain ⟨n, hn, t1, t2, t3⟩ := h
  exact ⟨n, hn, by rw [h1]; exact t1, by rw [h62]; exact t2, fun j hj => by rw [h2, h63]; exact t3 j hj⟩
theorem SCR.keep {I r : gM} (h : SCR I) (h0 : r 0 14 = I 0 14) (h12 : r 62 12 = I 62 12) (h8 : ∀ k, 54 ≤ k → k ≤ 61 → r k = I k) (h68 : ∀ a, a < 240 → r 68 a = I 68 a) (h69 : ∀ s, s < 4 → r 69 s = I 69 s) : SCR r := by
  refine ⟨by rw [h0, h12]; exact h.1, fun s hs hc => ?_⟩
  rw [h12] at hc
  obtain ⟨ss, ⟨k1, k2, k3⟩, b, c, d⟩ := h.2 s hs hc
  exact ⟨ss, ⟨by rw [h8 _ (by omega) (by omega)]; exact k1, k2, fun a ha => by rw [h8 _ (by omega) (by omega)]; exact k3 a ha⟩, by rw [h69 s hs]; exact b, fun a ha => by rw [h68 _ (by omega)]; exact c a ha, d⟩
/-- an act called for: refused by both with one more told, or done -/
theorem hand_both {C : Nat} {I : gM} (h : InvA C I) (hC : C ≤ 3) (hJ : C = 3 → JE ∧ I 22 0 = 0) {s : Nat} (hs : s < 4) (num x y z x' y' z' : Int32) (h2 : 2 ≤ s → x = -1 ∧ y = -1 ∧ z = -1) (h1 : s < 2 → x' = x ∧ y' = y ∧ z' = z) :
    ∃ d a v b, fX8_isDone (nI s) num x y z I = some (d, a) ∧ fX9_hand (nI s) num x' y' z' a = some (v, b) ∧ InvA C b ∧
      ((d = 0 ∧ v = -1) ∨ (d = 1 ∧ ∃ A A', WF A ∧ CT I 3 A ∧ WF A' ∧ CT a 3 A' ∧ MI true I a ∧ A'.1.length = A.1.length ∧ (s < 2 → ∃ t, t < A.1.length ∧ num = nI t ∧ v = nI (aK A' t).length) ∧ (s = 2 → ∃ t, t < A.1.length ∧ num = nI t ∧ v = if A'.2.1.testBit t then 1 else 0) ∧ (s = 3 → v = nI A.2.2))) := by
  obtain ⟨hM, hA9, hT, hS, S, m, nx, hR⟩ := h
  rcases try_both hM hA9 hR hC hJ hs num x y z x' y' z' h2 h1 with ⟨r, hr, e1, e2⟩ | ⟨A', a, v, b, S', hact, e2, e1, e3, Ma, Mb, hAb, hRb, hSA, hWA, hCA, f8, f62, f9, v1, v2, v3⟩
  · have eD : fX8_isDone (nI s) num x y z I = some (0, g_up I 53 r (I 53 r + 1)) := by
      unfold fX8_isDone bX8_isDone_35
      rw [e1, obs]
      dsimp only
      rw [L0, if_neg (mt (nI_ltI (by omega) (by omega)).mp (by omega)), L4, if_neg (mt (nI_leI (by omega) (by omega)).mp (by omega)), rI_n hr (by omega), obs, wI_n hr (by omega), obs, if_neg (nI_m1 (by omega))]
    have Ma : MI true I (g_up I 53 r (I 53 r + 1)) := hM.up (k := 53) rfl (lo := -2147483648) (hi := 2147483647) rfl (tTop _).1 (tTop _).2
    generalize hg : g_up I 53 r (I 53 r + 1) = a at *
    have ak : ∀ k, k ≠ 53 → a k = I k := fun k hk => by rw [← hg, g_up_row hk]
    have eH : fX9_hand (nI s) num x' y' z' a = some (-1, g_up a 71 r (a 71 r + 1)) := by
      unfold fX9_hand
      rw [why_cong (I := I) (by rw [ak 62 (by decide)]) (ak 70 (by decide)) (ak 72 (by decide)), e2, obs, if_neg (nI_m1 (by omega)), rI_n hr (by omega), obs, wI_n hr (by omega), obs]
    have Mb : MI false a (g_up a 71 r (a 71 r + 1)) := (Ma.re (b' := false)).up (k := 71) rfl (lo := -2147483648) (hi := 2147483647) rfl (tTop _).1 (tTop _).2
    have bk : ∀ k, k ≠ 53 → k ≠ 71 → g_up a 71 r (a 71 r + 1) k = I k := fun k h1 h2 => by rw [g_up_row h2, ak k h1]
    refine ⟨0, a, -1, _, eD, eH, ⟨Ma.both Mb, ?_, ?_, ?_, S, m, nx, ?_⟩, Or.inl ⟨rfl, rfl⟩⟩
    · exact hA9.same (by rw [bk 62 (by decide) (by decide)]) (by rw [bk 62 (by decide) (by decide)]) (by rw [bk 62 (by decide) (by decide)]) (fun k hk => bk k (by omega) (by omega))
    · exact hT.keep (by rw [bk 1 (by decide) (by decide)]) (bk 2 (by decide) (by decide)) (by rw [bk 62 (by decide) (by decide)]) (bk 63 (by decide) (by decide))
    · exact hS.keep (by rw [bk 0 (by decide) (by decide)]) (by rw [bk 62 (by decide) (by decide)]) (fun k _ _ => bk k (by omega) (by omega)) (fun _ _ => by rw [bk 68 (by decide) (by decide)]) (fun _ _ => by rw [bk 69 (by decide) (by decide)])
    · refine hR.keepR hC (by rw [bk 0 (by decide) (by decide)]) (fun k _ => bk k (by omega) (by omega)) (fun j _ => by rw [bk 62 (by decide) (by decide)]) (fun k _ => bk k (by omega) (by omega)) (fun j hj => ?_)
      have q := hR.refs j hj
      rw [g_up_row (show 53 ≠ 71 by decide), ← hg, gu_in, gu_in, g_up_row (show 71 ≠ 53 by decide)]
      by_cases c : j = r
      · rw [if_pos c, if_pos c, ← c, q]
      · rw [if_neg c, if_neg c, q]
  · have eD : fX8_isDone (nI s) num x y z I = some (1, a) := by
      unfold fX8_isDone bX8_isDone_35
      rw [e1, obs]
      dsimp only
      rw [if_pos (by decide), if_pos rfl]
    have eH : fX9_hand (nI s) num x' y' z' a = some (v, b) := by
      unfold fX9_hand
      rw [e2, obs, if_pos rfl, e3, obs]
    have lo : ∀ k, k < 62 → b k = a k := fun k hk => Mb.lo hk
    have hi : ∀ k, 62 ≤ k → a k = I k := fun k hk => Ma.hi hk
    have hlen : A'.1.length = (S m).1.length := by
      have q1 := hRb.2.2.1.2.1.1
      rw [hSA, f62 17 (by omega) (by omega) (by omega) (by omega), hi 62 (by omega), hR.2.2.1.2.1.1] at q1
      exact (nI_inj q1 (by have := (hR.2.1 m (Nat.le_refl _)).1; omega) (by have := hWA.1; omega)).symm
    refine ⟨1, a, v, b, eD, eH, ⟨Ma.both Mb, hAb, ?_, ?_, S', _, _, hRb⟩, Or.inr ⟨rfl, S m, A', hR.2.1 m (Nat.le_refl _), hR.2.2.1.1, hWA, hCA, Ma, hlen, v1, v2, v3⟩⟩
    · exact hT.keep (by rw [lo 1 (by decide), f8 1 (by omega)]) (by rw [lo 2 (by decide), f8 2 (by omega)]) (by rw [f62 2 (by omega) (by omega) (by omega) (by omega), hi 62 (by omega)]) (by rw [f9 63 (by omega) (by omega) (by omega) (by omega) (by omega) (by omega) (by omega) (by omega) (by omega) (by omega), hi 63 (by omega)])
    · exact hS.keep (by rw [lo 0 (by decide), f8 0 (by omega)]) (by rw [f62 12 (by omega) (by omega) (by omega) (by omega), hi 62 (by omega)]) (fun k _ _ => by rw [lo k (by omega), f8 k (by omega)]) (fun _ _ => by rw [f9 68 (by omega) (by omega) (by omega) (by omega) (by omega) (by omega) (by omega) (by omega) (by omega) (by omega), hi 68 (by omega)]) (fun _ _ => by rw [f9 69 (by omega) (by omega) (by omega) (by omega) (by omega) (by omega) (by omega) (by omega) (by omega) (by omega), hi 69 (by omega)])
end P_35r_40j_hand
section P_35r_40k_calls
/-! put, take, use, order: answered alike -/
theorem all_put {C : Nat} {I : gM} (h : InvA C I) (hC : C ≤ 3) (hJ : C = 3 → JE ∧ I 22 0 = 0) (v1 v2 v3 v4 : Int32) : ∃ a b, fX8_put v1 v2 v3 v4 I = some a ∧ fX9_put v1 v2 v3 v4 a.2 = some b ∧ InvA C b.2 ∧ a.1 = b.1 := by
  obtain ⟨d, a, v, b, e1, e2, hI, hd⟩ := hand_both h hC hJ (s := 0) (by omega) v1 v2 v3 v4 v2 v3 v4 (fun q => absurd q (by omega)) (fun _ => ⟨rfl, rfl, rfl⟩)
  unfold fX8_put fX9_put
  rw [show (0 : Int32) = nI 0 from rfl, e1, obs]
  rcases hd with ⟨rfl, rfl⟩ | ⟨rfl, A, A', _, _, hW', hC', _, hl, hv, _, _⟩
  · exact ⟨(-1, a), (-1, b), if_pos rfl, by rw [e2, obs], hI, rfl⟩
  · obtain ⟨t, ht, rfl, rfl⟩ := hv (by omega)
    have h4 := hW'.1
    refine ⟨(nI (aK A' t).length, a), (nI (aK A' t).length, b), ?_, by rw [e2, obs], hI, rfl⟩
    rw [if_neg (show ¬ (1 : Int32) = nI 0 from n10)]
    dsimp only
    rw [rI_n (by omega) (by omega), obs, show a 5 t = a (3 + 2) t from rfl, (hC'.2.2.2 t (by omega)).2.2.1]
theorem all_take {C : Nat} {I : gM} (h : InvA C I) (hC : C ≤ 3) (hJ : C = 3 → JE ∧ I 22 0 = 0) (v1 v2 v3 v4 : Int32) : ∃ a b, fX8_take v1 v2 v3 v4 I = some a ∧ fX9_take v1 v2 v3 v4 a.2 = some b ∧ InvA C b.2 ∧ a.1 = b.1 := by
  obtain ⟨d, a, v, b, e1, e2, hI, hd⟩ := hand_both h hC hJ (s := 1) (by omega) v1 v2 v3 v4 v2 v3 v4 (fun q => absurd q (by omega)) (fun _ => ⟨rfl, rfl, rfl⟩)
  unfold fX8_take fX9_take
  rw [show (1 : Int32) = nI 1 from rfl, e1, obs]
  rcases hd with ⟨rfl, rfl⟩ | ⟨rfl, A, A', _, _, hW', hC', _, hl, hv, _, _⟩
  · exact ⟨(-1, a), (-1, b), if_pos rfl, by rw [e2, obs], hI, rfl⟩
  · obtain ⟨t, ht, rfl, rfl⟩ := hv (by omega)
    have h4 := hW'.1
    refine ⟨(nI (aK A' t).length, a), (nI (aK A' t).length, b), ?_, by rw [e2, obs], hI, rfl⟩
    rw [if_neg n10]
    dsimp only
    rw [rI_n (by omega) (by omega), obs, show a 5 t = a (3 + 2) t from rfl, (hC'.2.2.2 t (by omega)).2.2.1]
theorem hs0_bit : ∀ m, m < 16 → ∀ l, l < 4 → (((nI m >>> (nI l &&& 31)) &&& 1 = 0) ↔ ¬ m.testBit l = true) := by decide +kernel
theorem c_isUsed {I : gM} {k t : Nat} {A : aT} (hW : WF A) (hC : CT I k A) (ht : t < A.1.length) : fX5_isUsed k (nI t) I = some (if A.2.1.testBit t then 1 else 0) := by
  have h4 := hW.1
  have e1 : fX5_isTable k (nI t) I = some 1 := by
    rcases c_isTable h4 hC.1 (nI t) with ⟨_, _, _, z⟩ | ⟨z, _⟩
    · exact z
    · exact absurd rfl (z t ht)
  unfold fX5_isUsed
  rw [e1, obs, if_neg n10, hC.2.1]
  have q := hs0_bit _ hW.u t (by omega)
  by_cases c : A.2.1.testBit t = true
  · rw [if_pos c, if_neg (fun z => q.mp z c)]
  · rw [if_neg c, if_pos (q.mpr c)]
theorem all_use {C : Nat} {I : gM} (h : InvA C I) (hC : C ≤ 3) (hJ : C = 3 → JE ∧ I 22 0 = 0) (v1 : Int32) : ∃ a b, fX8_use v1 I = some a ∧ fX9_use v1 a.2 = some b ∧ InvA C b.2 ∧ a.1 = b.1 := by
  obtain ⟨d, a, v, b, e1, e2, hI, hd⟩ := hand_both h hC hJ (s := 2) (by omega) v1 (-1) (-1) (-1) 0 0 0 (fun _ => ⟨rfl, rfl, rfl⟩) (fun q => absurd q (by omega))
  unfold fX8_use fX9_use
  rw [show (2 : Int32) = nI 2 from rfl, e1, obs]
  rcases hd with ⟨rfl, rfl⟩ | ⟨rfl, A, A', _, _, hW', hC', _, hl, _, hv, _⟩
  · exact ⟨(-1, a), (-1, b), if_pos rfl, by rw [e2, obs], hI, rfl⟩
  · obtain ⟨t, ht, rfl, rfl⟩ := hv rfl
    refine ⟨(if A'.2.1.testBit t then 1 else 0, a), (if A'.2.1.testBit t then 1 else 0, b), ?_, by rw [e2, obs], hI, rfl⟩
    rw [if_neg n10]
    dsimp only
    rw [c_isUsed hW' hC' (by omega), obs]
    by_cases c : A'.2.1.testBit t = true
    · rw [if_pos c, if_neg n10]
    · rw [if_neg c, if_pos rfl]
theorem all_order {C : Nat} {I : gM} (h : InvA C I) (hC : C ≤ 3) (hJ : C = 3 → JE ∧ I 22 0 = 0) (v1 : Int32) : ∃ a b, fX8_order v1 I = some a ∧ fX9_order v1 a.2 = some b ∧ InvA C b.2 ∧ a.1 = b.1 := by
  obtain ⟨d, a, v, b, e1, e2, hI, hd⟩ := hand_both h hC hJ (s := 3) (by omega) v1 (-1) (-1) (-1) 0 0 0 (fun _ => ⟨rfl, rfl, rfl⟩) (fun q => absurd q (by omega))
  unfold fX8_order fX9_order
  rw [show (3 : Int32) = nI 3 from rfl, e1, obs]
  rcases hd with ⟨rfl, rfl⟩ | ⟨rfl, A, A', _, hCA, hW', hC', _, hl, _, _, hv⟩
  · exact ⟨(-1, a), (-1, b), if_pos rfl, by rw [e2, obs], hI, rfl⟩
  · refine ⟨(I 3 2, a), (v, b), if_neg n10, by rw [e2, obs], hI, ?_⟩
    rw [hv rfl]; exact hCA.2.2.1
end P_35r_40k_calls
section P_35r_40l_undo
/-! undo -/
theorem LG.undo {C e nl H : Nat} {I r : gM} {w : Nat → Int32} (h : LG C I 44 (e + 1) w) (hC : C ≤ 3) (el : I 44 1 = nI nl) (hl : nl < 100) (eH : I 44 2 = nI H) (hH : H ≤ 100) (r1 : r 44 1 = nI ((nl + 99) % 100)) (r2 : r 44 2 = nI (H - 1)) (r3 : r 45 = I 45) : LG C r 44 e w := by
  obtain ⟨nl', H', a1, a2, a3, a4, a5, a6, a7⟩ := h
  have : nl' = nl := nI_inj (a4.symm.trans el) (by omega) (by omega)
  subst this
  have : H' = H := nI_inj (a5.symm.trans eH) (by omega) (by omega)
  subst this
  have hm : min (H' - 1 - e) 60 = min (H' - (e + 1)) 60 := by omega
  refine ⟨(nl' + 99) % 100, H' - 1, by omega, by omega, by omega, r1, r2, by rw [hm]; exact a6, fun i hi c hc => ?_⟩
  rw [hm] at hi ⊢
  rw [a7 i hi c hc]
  show I 45 _ = r 45 _
  rw [r3, show ((nl' + 99) % 100 + 99 - (i + e)) % 100 = (nl' + 99 - (i + (e + 1))) % 100 by omega]
theorem stepA.undo {I r : gM} {A A' : aT} {d nx : Nat} (h : stepA I A A' (d + 1) nx) (hd : d ≤ 38) (hx : nx < 40) (e : r 49 = I 49) : stepA r A A' d ((nx + 39) % 40) := by
  obtain ⟨s, num, x, y, z, hs, h1, h2, h3, h4⟩ := h
  have hp : ((nx + 39) % 40 + 39 - d) % 40 = (nx + 39 - (d + 1)) % 40 := by omega
  exact ⟨s, num, x, y, z, hs, h1, by rw [hp, e]; exact h2, by rw [hp, e]; exact h3, by rw [hp, e]; exact h4⟩
theorem c_dropPast {I : gM} {nx m : Nat} (hx : nx < 40) (ex : I 48 2 = nI nx) (hm : m ≤ 40) (h0 : 0 < m) (em : I 48 0 = nI m) : ∃ r, fX3_dropLatest I = some r ∧ r 48 2 = nI ((nx + 39) % 40) ∧ r 48 0 = nI (m - 1) ∧ ∀ q, q ≠ 48 → r q = I q := by
  unfold fX3_dropLatest
  rw [em, if_neg (show ¬ nI m ≤ 0 from fun q => by have := (nI_leI (b := 0) (by omega) (by omega)).mp q; omega), ex, L40, nI_add, nI_s1 (by omega), iR_n (by omega) (by omega) (by omega), pU_n, obs, g_up_ne (Or.inr (by decide)), em, nI_s1 (by omega), pU_n, obs]
  refine ⟨_, rfl, ?_, by rw [g_up_self], fun q h => by rw [g_up_row h, g_up_row h]⟩
  rw [g_up_ne (Or.inr (by decide)), g_up_self, show nx + 40 - 1 = nx + 39 by omega]
theorem c_dropLog {I : gM} {k nl H : Nat} (hx : nl < 100) (ex : I k 1 = nI nl) (hH : H ≤ 100) (h0 : 0 < H) (eH : I k 2 = nI H) : ∃ r, fX2_dropLatest k I = some r ∧ r k 1 = nI ((nl + 99) % 100) ∧ r k 2 = nI (H - 1) ∧ ∀ q, q ≠ k → r q = I q := by
  unfold fX2_dropLatest
  rw [eH, if_neg (show ¬ nI H ≤ 0 from fun q => by have := (nI_leI (b := 0) (by omega) (by omega)).mp q; omega), ex, L100, nI_add, nI_s1 (by omega), iR_n (by omega) (by omega) (by omega), pU_n, obs, g_up_ne (Or.inr (by decide)), eH, nI_s1 (by omega), pU_n, obs]
  refine ⟨_, rfl, ?_, by rw [g_up_self], fun q h => by rw [g_up_row h, g_up_row h]⟩
  rw [g_up_ne (Or.inr (by decide)), g_up_self, show nl + 100 - 1 = nl + 99 by omega]
/-- what the join of now touches is none of the tables -/
theorem c_renewK {I r : gM} (e : fX8_renew I = some r) : ∀ q, q ≤ 17 ∨ 29 ≤ q ∧ q ≠ 43 → r q = I q := fun q hq => zfX8_renew _ e q (by omega) (by omega) (by omega) (by omega) (by omega) (by omega) (by omega) (by omega) (by omega) (by omega) (by omega) (by omega)
theorem all_undo {C : Nat} {I : gM} (h : InvA C I) (hC : C ≤ 3) : ∃ a b, fX8_undo I = some a ∧ fX9_undo a.2 = some b ∧ InvA C b.2 ∧ a.1 = b.1 := by
  obtain ⟨hM, hA9, hT, hS, S, m, nx, hR⟩ := id h
  obtain ⟨⟨a1, a2, a3, a4, a5⟩, hW, ⟨b1, b2, b3⟩, hk9, ⟨c1, c2⟩, c3⟩ := hR
  by_cases hm : m = 0
  · subst hm
    refine ⟨(-1, I), (-1, I), ?_, ?_, h, rfl⟩
    · unfold fX8_undo
      rw [if_pos (show I 48 0 = (0 : Int32) from a3)]
    · unfold fX9_undo
      rw [if_pos (show I 62 29 = (0 : Int32) from a5)]
  obtain ⟨p, ep, hp⟩ := tfX8_undo I hM
  obtain ⟨s, num, x, y, z, hs, hact, g1, g2, g3⟩ := (hk9 (m - 1) (by omega)).2.2
  obtain ⟨nl, H, l1, l2, l3, l4, l5, _⟩ := id (hk9 (m - 1) (by omega)).2.1
  rw [show m - 1 + 1 = m by omega] at hact
  have hnx : (nx + 39 - (m - 1 - (m - 1))) % 40 = (nx + 39) % 40 := by omega
  rw [hnx] at g1 g2 g3
  generalize hnn : (nx + 39) % 40 = n' at *
  obtain ⟨r1, e1, f1, f2, f3⟩ := c_dropPast a2 a4 a1 (by omega) a3
  rw [hnn] at f1
  have C1 : CT r1 3 (S m) := b1.cong (fun j _ => by rw [f3 3 (by decide)]) (f3 4 (by decide)) (f3 5 (by decide)) (f3 6 (by decide)) (f3 7 (by decide))
  obtain ⟨r5, e5, C5, k5, k5'⟩ := c_changeBack (hW (m - 1) (by omega)) hact C1
  have k44 : r5 44 = I 44 := by rw [k5 44 (by omega), f3 44 (by decide)]
  have k45 : r5 45 = I 45 := by rw [k5 45 (by omega), f3 45 (by decide)]
  obtain ⟨r6, e6, d1, d2, d3⟩ := c_dropLog (I := r5) (k := 44) l1 (by rw [k44]; exact l4) l2 (by omega) (by rw [k44]; exact l5)
  have em3 : ∀ c, c < 3 → rI 120 (r1 49) (nI n' * 3 + nI c) = some (I 49 (3 * n' + c)) := fun c hc => by
    rw [L3, nI_mul, nI_add, rI_n (by omega) (by omega), f3 49 (by decide), Nat.mul_comm]
  have eE : ∃ r7, fX8_renew r6 = some r7 ∧ fX8_undo I = some (r7 48 0, r7) := by
    have hu : fX8_undo I = (fX8_renew r6).bind fun r7 => some (r7 48 0, r7) := by
      unfold fX8_undo fX3_sortDropped fX3_numberDropped fX3_rowDropped
      have z0 := em3 0 (by omega)
      rw [show nI n' * 3 + nI 0 = nI n' * 3 from by rw [L3, nI_mul, nI_add, Nat.add_zero]] at z0
      rw [a3, if_neg (show ¬ nI m = 0 from fun q => by have := nI_inj (b := 0) q (by omega) (by omega); omega), e1, obs, f1, z0, obs, obs, show (1 : Int32) = nI 1 from rfl, em3 1 (by omega), obs, obs, show (2 : Int32) = nI 2 from rfl, em3 2 (by omega), obs, obs, Nat.add_zero, g1, g2, g3, e5, obs, e6, obs]
    cases hz : fX8_renew r6 with
    | none => rw [hu, hz] at ep; cases ep
    | some r7 => exact ⟨r7, rfl, by rw [hu, hz, obs]⟩
  obtain ⟨r7, e7, eU⟩ := eE
  rw [ep] at eU
  obtain rfl := Option.some.inj eU
  have Ma : MI true I r7 := hp.2
  have g7 := c_renewK e7
  have k8 : ∀ q, q ≠ 3 → q ≠ 4 → q ≠ 5 → q ≠ 6 → q ≠ 7 → q ≠ 48 → q ≠ 44 → q ≤ 17 ∨ 29 ≤ q ∧ q ≠ 43 → r7 q = I q := fun q h3 h4 h5 h6 h7 h48 h44 hq => by rw [g7 q hq, d3 q h44, k5 q (by omega), f3 q h48]
  have hi : ∀ k, 62 ≤ k → r7 k = I k := fun k hk => Ma.hi hk
  have A9a : A9 r7 := A9.hi Ma hA9
  obtain ⟨b, eb, Mb, b29, b70, b62, bk⟩ := n_undo (I0 := r7) Ma.re (A := m) a1 (by rw [hi 62 (by omega)]; exact a5) (by omega)
  obtain ⟨b', eb', _, hAb⟩ := n_undoA (I0 := r7) Ma.re A9a
  rw [eb] at eb'
  obtain rfl := Option.some.inj eb'
  have lo : ∀ k, k < 62 → b k = r7 k := fun k hk => bk k (by omega) (by omega)
  have t7 : ∀ q, 3 ≤ q → q ≤ 7 → b q = r5 q := fun q h1 h2 => by rw [lo q (by omega), g7 q (by omega), d3 q (by omega)]
  have w70 : ∀ x, x < 331 → b 70 x = kept9 I (m - 1) x := fun x hx => by
    rw [b70, if_pos hx, hi 81 (by omega)]; rfl
  have b81 : ∀ a, kept9 b a = kept9 I a := fun a => by unfold kept9; rw [bk 81 (by omega) (by omega), hi 81 (by omega)]
  have RTb : ∀ {A : aT} {w u : Nat → Int32}, WF A → RT I w A → (∀ x, x < 150 → u x = w x) → RT b u A := fun hA q e => q.cong (by rw [b62 17 (by omega), hi 62 (by omega)]) (by rw [bk 72 (by omega) (by omega), hi 72 (by omega)]) (by rw [bk 73 (by omega) (by omega), hi 73 (by omega)]) hA.1 hA.k12 e
  have b44 : b 44 1 = nI ((nl + 99) % 100) := by rw [lo 44 (by omega), g7 44 (by omega)]; exact d1
  have b442 : b 44 2 = nI (H - 1) := by rw [lo 44 (by omega), g7 44 (by omega)]; exact d2
  have b45 : b 45 = I 45 := by rw [lo 45 (by omega), g7 45 (by omega), d3 45 (by omega), k45]
  have b49 : b 49 = I 49 := by rw [lo 49 (by omega), k8 49 (by omega) (by omega) (by omega) (by omega) (by omega) (by omega) (by omega) (by omega)]
  have e48 : ∀ j, b 48 j = r1 48 j := fun j => by rw [lo 48 (by omega), g7 48 (by omega), d3 48 (by omega), k5 48 (by omega)]
  have k0 : ∀ q, q ≤ 2 ∨ 13 ≤ q ∧ q ≤ 17 ∨ 46 ≤ q ∧ q ≤ 47 ∨ 53 ≤ q ∧ q < 62 → b q = I q := fun q hq => by rw [lo q (by omega), k8 q (by omega) (by omega) (by omega) (by omega) (by omega) (by omega) (by omega) (by omega)]
  have hM0 : ∀ q, 62 ≤ q → q ≠ 62 → q ≠ 70 → b q = I q := fun q h0 h1 h2 => by rw [bk q h1 h2, hi q h0]
  have key : b 48 0 = nI (m - 1) := by rw [e48]; exact f2
  refine ⟨_, (nI (m - 1), b), ep, eb, (?_ : InvA C b), by rw [← key]; exact (congrFun (lo 48 (by omega)) 0).symm⟩
  refine ⟨Ma.both Mb, hAb, ?_, ?_, S, m - 1, n', ⟨by omega, by omega, by rw [e48]; exact f2, by rw [e48]; exact f1, b29⟩, fun a ha => hW a (by omega), ⟨?_, ?_, ?_⟩, fun a ha => ⟨?_, ?_, ?_⟩, ⟨?_, fun q => ?_⟩, fun j hj => ?_⟩
  · exact hT.keep (by rw [k0 1 (by omega)]) (k0 2 (by omega)) (by rw [b62 2 (by omega), hi 62 (by omega)]) (hM0 63 (by omega) (by omega) (by omega))
  · exact hS.keep (by rw [k0 0 (by omega)]) (by rw [b62 12 (by omega), hi 62 (by omega)]) (fun k _ _ => k0 k (by omega)) (fun _ _ => by rw [hM0 68 (by omega) (by omega) (by omega)]) (fun _ _ => by rw [hM0 69 (by omega) (by omega) (by omega)])
  · exact C5.cong (fun j _ => by rw [t7 3 (by omega) (by omega)]) (t7 4 (by omega) (by omega)) (t7 5 (by omega) (by omega)) (t7 6 (by omega) (by omega)) (t7 7 (by omega) (by omega))
  · exact RTb (hW _ (by omega)) (hk9 (m - 1) (by omega)).1 (fun x hx => w70 x (by omega))
  · have q := (hk9 (m - 1) (by omega)).2.1
    rw [show m - (m - 1) = 0 + 1 by omega] at q
    obtain ⟨nl', H', q1, q2, q3, q4, q5, q6, q7⟩ := q.undo hC l4 l1 l5 l2 b44 b442 b45
    refine ⟨nl', H', q1, q2, q3, q4, q5, ?_, fun i hi c hc => ?_⟩
    · rw [w70 150 (by omega)]; exact q6
    · rw [w70 _ (by omega)]; exact q7 i hi c hc
  · rw [b81]
    exact RTb (hW _ (by omega)) (hk9 a (by omega)).1 (fun x hx => rfl)
  · rw [b81]
    have q := (hk9 a (by omega)).2.1
    rw [show m - a = m - 1 - a + 1 by omega] at q
    exact q.undo hC l4 l1 l5 l2 b44 b442 b45
  · have q := (hk9 a (by omega)).2.2
    rw [show m - 1 - a = m - 1 - 1 - a + 1 by omega] at q
    rw [← hnn]
    exact q.undo (by omega) a2 b49
  · rw [k0 0 (by omega), b62 42 (by omega), hi 62 (by omega)]; exact c1
  · rw [b62 42 (by omega), hi 62 (by omega)] at q
    obtain ⟨B, d1, d2, d3, d4⟩ := c2 q
    have l89 : b 89 = I 89 := hM0 89 (by omega) (by omega) (by omega)
    exact ⟨B, d1, d2.cong (fun j _ => by rw [k0 13 (by omega)]) (k0 14 (by omega)) (k0 15 (by omega)) (k0 16 (by omega)) (k0 17 (by omega)), RTb d1 d3 (fun x _ => by rw [l89]), by rw [l89]; exact d4.cong hC (k0 46 (by omega)) (k0 47 (by omega)) (fun _ _ _ => rfl)⟩
  · rw [k0 53 (by omega), hM0 71 (by omega) (by omega) (by omega)]; exact c3 j hj
end P_35r_40l_undo
section P_35r_40m_image
/-! image and back -/
theorem cp_n {I : gM} {k0 n0 k1 n1 m : Nat} (h0 : m ≤ n0) (h1 : m ≤ n1) (hm : m < 1000) : ∃ r, cpI I k0 n0 k1 n1 (nI 0) (nI 0) (nI m) = some r ∧ (∀ q, q ≠ k1 → r q = I q) ∧ ∀ j, r k1 j = if j < m then I k0 j else I k1 j := by
  have e0 : (nI 0).toInt = 0 := rfl
  have em : (nI m).toInt = m := tnI (by omega)
  unfold cpI
  rw [if_pos (by rw [e0, em]; omega)]
  refine ⟨_, rfl, fun q hq => ?_, fun j => ?_⟩
  · funext j
    show (if q = k1 then _ else I q j) = I q j
    rw [if_neg hq]
  · show (if k1 = k1 then va_cpy (I k0) (I k1) (nI 0).toInt.toNat (nI 0).toInt.toNat (nI m).toInt.toNat j else I k1 j) = _
    rw [if_pos rfl, e0, em]
    unfold va_cpy
    by_cases c : j < m
    · rw [if_pos c, if_pos ⟨Nat.zero_le _, by show j < 0 + m; omega⟩]
      exact congrArg (I k0) (show 0 + (j - 0) = j by omega)
    · rw [if_neg c, if_neg (fun z => c (by have := z.2; rw [Int.toNat_natCast] at this; omega))]
theorem L48 : (48 : Int32) = nI 48 := rfl
theorem L300 : (300 : Int32) = nI 300 := rfl
theorem c_copyT {I : gM} {k k1 : Nat} {A : aT} (hd : k1 + 4 < k ∨ k + 4 < k1) (hW : WF A) (hC : CT I k1 A) : ∃ r, fX5_copyFrom k k1 I = some r ∧ CT r k A ∧ Fk k I r := by
  unfold fX5_copyFrom
  rw [pU_n, obs, pU_n, obs, pU_n, obs]
  generalize hN : g_up (g_up (g_up I k 0 _) k 1 _) k 2 _ = N
  have Nk : ∀ q, q ≠ k → N q = I q := fun q hq => by rw [← hN, g_up_row hq, g_up_row hq, g_up_row hq]
  have N0 : N k 0 = I k1 0 := by rw [← hN, g_up_ne (Or.inr (by decide)), g_up_ne (Or.inr (by decide)), g_up_self]
  have N1 : N k 1 = I k1 1 := by rw [← hN, g_up_ne (Or.inr (by decide)), g_up_self, g_up_row (show k1 ≠ k by omega)]
  have N2 : N k 2 = I k1 2 := by rw [← hN, g_up_self, g_up_row (show k1 ≠ k by omega), g_up_row (show k1 ≠ k by omega)]
  have N3 : ∀ j, 3 ≤ j → N k j = I k j := fun j hj => by rw [← hN, g_up_ne (Or.inr (by omega)), g_up_ne (Or.inr (by omega)), g_up_ne (Or.inr (by omega))]
  clear hN
  rw [L0, L4, L12, L48]
  obtain ⟨r4, e4, f4, g4⟩ := cp_n (I := N) (k0 := k1 + 1) (n0 := 4) (k1 := k + 1) (n1 := 4) (m := 4) (by omega) (by omega) (by omega)
  rw [e4, obs]
  obtain ⟨r5, e5, f5, g5⟩ := cp_n (I := r4) (k0 := k1 + 2) (n0 := 4) (k1 := k + 2) (n1 := 4) (m := 4) (by omega) (by omega) (by omega)
  rw [e5, obs]
  obtain ⟨r6, e6, f6, g6⟩ := cp_n (I := r5) (k0 := k1 + 3) (n0 := 12) (k1 := k + 3) (n1 := 12) (m := 12) (by omega) (by omega) (by omega)
  rw [e6, obs]
  obtain ⟨r7, e7, f7, g7⟩ := cp_n (I := r6) (k0 := k1 + 4) (n0 := 48) (k1 := k + 4) (n1 := 48) (m := 48) (by omega) (by omega) (by omega)
  rw [e7, obs]
  have hn := hW.1
  have r0 : ∀ j, r7 k j = N k j := fun j => by rw [f7 k (by omega), f6 k (by omega), f5 k (by omega), f4 k (by omega)]
  have r1 : ∀ j, j < 4 → r7 (k + 1) j = I (k1 + 1) j := fun j hj => by rw [f7 _ (by omega), f6 _ (by omega), f5 _ (by omega), g4, if_pos hj, Nk _ (by omega)]
  have r2 : ∀ j, j < 4 → r7 (k + 2) j = I (k1 + 2) j := fun j hj => by rw [f7 _ (by omega), f6 _ (by omega), g5, if_pos hj, f4 _ (by omega), Nk _ (by omega)]
  have r3 : ∀ j, j < 12 → r7 (k + 3) j = I (k1 + 3) j := fun j hj => by rw [f7 _ (by omega), g6, if_pos hj, f5 _ (by omega), f4 _ (by omega), Nk _ (by omega)]
  have r4' : ∀ j, j < 48 → r7 (k + 4) j = I (k1 + 4) j := fun j hj => by rw [g7, if_pos hj, f6 _ (by omega), f5 _ (by omega), f4 _ (by omega), Nk _ (by omega)]
  refine ⟨r7, rfl, ⟨by rw [r0, N0]; exact hC.1, by rw [r0, N1]; exact hC.2.1, by rw [r0, N2]; exact hC.2.2.1, fun t ht => ?_⟩, ⟨fun q hq => ?_, fun j hj => ?_⟩⟩
  · obtain ⟨c1, c2, c3, c4⟩ := hC.2.2.2 t ht
    have w := hW.2.2.2.2 t ht
    have w1 := w.1
    have w4 := w.2.2.2.1
    exact ⟨by rw [r1 t (by omega)]; exact c1, fun c hc => by rw [r3 _ (by omega)]; exact c2 c hc, by rw [r2 t (by omega)]; exact c3, fun i hi => by rw [r4' _ (by omega)]; exact c4 i hi⟩
  · rw [f7 q (by omega), f6 q (by omega), f5 q (by omega), f4 q (by omega), Nk q (by omega)]
  · rw [r0, N3 j hj]
theorem c_copyL {I : gM} {k k1 C e : Nat} {w : Nat → Int32} (hd : k1 + 1 < k ∨ k + 1 < k1) (hC : C ≤ 3) (h : LG C I k1 e w) : ∃ r, fX2_copyFrom k k1 I = some r ∧ LG C r k e w ∧ ∀ q, q ≠ k → q ≠ k + 1 → r q = I q := by
  obtain ⟨nl, H, a1, a2, a3, a4, a5, a6, a7⟩ := h
  unfold fX2_copyFrom
  rw [L0, L300]
  obtain ⟨r4, e4, f4, g4⟩ := cp_n (I := I) (k0 := k1 + 1) (n0 := 300) (k1 := k + 1) (n1 := 300) (m := 300) (by omega) (by omega) (by omega)
  rw [e4, obs, pU_n, obs, pU_n, obs]
  refine ⟨_, rfl, ⟨nl, H, a1, a2, a3, ?_, ?_, a6, fun i hi c hc => ?_⟩, fun q h1 h2 => ?_⟩
  · rw [g_up_ne (Or.inr (by decide)), g_up_self, f4 k1 (by omega)]; exact a4
  · rw [g_up_self, g_up_row (show k1 ≠ k by omega), f4 k1 (by omega)]; exact a5
  · rw [a7 i hi c hc, g_up_row (by omega), g_up_row (by omega), g4, if_pos (by omega)]
  · rw [g_up_row h1, g_up_row h1, f4 q h2]
theorem RT.of0 {I : gM} {w : Nat → Int32} {A : aT} (h : RT I w A) (hM : MI false I I) : A.1.length ≤ 4 → A.1.length = 0 → I 62 17 = 0 := fun _ e => by rw [h.1, e]; rfl
theorem all_image {C : Nat} {I : gM} (h : InvA C I) (hC : C ≤ 3) : ∃ a b, fX8_image I = some a ∧ fX9_image a.2 = some b ∧ InvA C b.2 := by
  obtain ⟨hM, hA9, hT, hS, S, m, nx, hR⟩ := id h
  obtain ⟨⟨a1, a2, a3, a4, a5⟩, hW, ⟨b1, b2, b3⟩, hk9, ⟨c1, c2⟩, c3⟩ := hR
  have hWm := hW m (Nat.le_refl _)
  have hn4 := hWm.1
  by_cases n0 : (S m).1.length = 0
  · refine ⟨(-1, I), (-1, I), ?_, ?_, h⟩
    · unfold fX8_image
      rw [b1.1, n0, if_pos (show nI 0 = 0 from rfl)]
    · unfold fX9_image
      rw [n_areTables hn4 b2.1, obs, if_pos n0, if_pos rfl]
  obtain ⟨p, ep, _, hp⟩ := tfX8_image I hM
  obtain ⟨r1, e1, C1, k1, k1'⟩ := c_copyT (k := 13) (k1 := 3) (by omega) hWm b1
  obtain ⟨r2, e2, L2', k2⟩ := c_copyL (I := r1) (k := 46) (k1 := 44) (w := I 70) (by omega) hC (b3.cong hC (k1 44 (by omega)) (k1 45 (by omega)) (fun _ _ _ => rfl))
  have ep' : fX8_image I = some ((g_up r2 0 15 1) 18 0, g_up r2 0 15 1) := by
    unfold fX8_image
    rw [b1.1, if_neg (show ¬ nI (S m).1.length = 0 from fun q => n0 (nI_inj (b := 0) q (by omega) (by omega))), e1, obs, e2, obs, pU_n, obs]
  rw [ep] at ep'
  obtain rfl := Option.some.inj ep'
  have Ma : MI true I (g_up r2 0 15 1) := hp
  generalize hN : g_up r2 0 15 1 = N at *
  have Nk : ∀ q, q ≠ 0 → (q < 13 ∨ 17 < q) → q ≠ 46 → q ≠ 47 → N q = I q := fun q h0 h1 h2 h3 => by rw [← hN, g_up_row h0, k2 q h2 h3, k1 q (by omega)]
  have N0 : ∀ j, j ≠ 15 → N 0 j = I 0 j := fun j hj => by rw [← hN, g_up_ne (Or.inr hj), k2 0 (by decide) (by decide), k1 0 (by omega)]
  have N15 : N 0 15 = 1 := by rw [← hN, g_up_self]
  have N13 : ∀ q, 13 ≤ q → q ≤ 17 → N q = r1 q := fun q h0 h1 => by rw [← hN, g_up_row (by omega), k2 q (by omega) (by omega)]
  have N46 : ∀ q, 46 ≤ q → q ≤ 47 → N q = r2 q := fun q h0 h1 => by rw [← hN, g_up_row (by omega)]
  have hi : ∀ k, 62 ≤ k → N k = I k := fun k hk => Ma.hi hk
  have A9a : A9 N := A9.hi Ma hA9
  obtain ⟨b, eb, Mb, hAb⟩ := n_image (I0 := N) Ma.re A9a
  have hb : ∃ w : gM, (∀ a, w 89 a = if a < 331 then N 70 a else N 89 a) ∧ (∀ q, q ≠ 89 → w q = N q) ∧ (∀ q, q ≠ 62 → q ≠ 74 → q ≠ 75 → q ≠ 76 → q ≠ 77 → q ≠ 78 → q ≠ 79 → q ≠ 80 → b.2 q = w q) ∧ b.2 62 42 = 1 ∧ ∀ j, j ≠ 19 → j ≠ 26 → j ≠ 27 → j ≠ 42 → b.2 62 j = N 62 j := by
    obtain ⟨w, ew, w1, w2, w3⟩ := n_lX9_image_11 (I0 := N) (I := N) Ma.re
    have M5 : MI false N (g_up w 62 42 1) := w1.up (k := 62) rfl (lo := 0) (hi := 1) rfl (by decide) (by decide)
    obtain ⟨r, _, er, _, _, r3, r4⟩ := n_rowsNow M5
    have e : fX9_image N = some (r 62 26, r) := by
      unfold fX9_image
      rw [n_areTables (n := (S m).1.length) hn4 (by rw [hi 62 (by omega)]; exact b2.1), obs, if_neg n0, if_neg (show ¬ (1 : Int32) = 0 from n10), show ((0 : Int32), N) = (nI 0, N) from rfl, ew, obs, pU_n, obs, er, obs]
    rw [eb] at e
    obtain rfl := Option.some.inj e
    refine ⟨w, fun a => ?_, w3, fun q h0 h1 h2 h3 h4 h5 h6 h7 => ?_, ?_, fun j h1 h2 h3 h4 => ?_⟩
    · rw [w2]
      by_cases c : a < 331
      · rw [if_pos c, if_pos (by omega)]
        exact congrArg (N 70) (by omega)
      · rw [if_neg c, if_neg (by omega)]
    · dsimp only
      rw [r3 q h0 h1 h2 h3 h4 h5 h6 h7, g_up_row h0]
    · dsimp only
      rw [r4 42 (by decide) (by decide) (by decide), g_up_self]
    · dsimp only
      rw [r4 j h1 h2 h3, g_up_ne (Or.inr h4), w3 62 (by decide)]
  obtain ⟨w, w89, wk, bk, b42, b62⟩ := hb
  have bN : ∀ q, q ≠ 62 → q ≠ 89 → (q < 74 ∨ 80 < q) → b.2 q = N q := fun q h1 h2 h3 => by rw [bk q h1 (by omega) (by omega) (by omega) (by omega) (by omega) (by omega) (by omega), wk q h2]
  have bI : ∀ q, q ≠ 62 → q ≠ 89 → (q < 74 ∨ 80 < q) → q ≠ 0 → (q < 13 ∨ 17 < q) → q ≠ 46 → q ≠ 47 → b.2 q = I q := fun q h1 h2 h3 h4 h5 h6 h7 => by rw [bN q h1 h2 h3, Nk q h4 h5 h6 h7]
  have bj : ∀ j, j ≠ 19 → j ≠ 26 → j ≠ 27 → j ≠ 42 → b.2 62 j = I 62 j := fun j h1 h2 h3 h4 => by rw [b62 j h1 h2 h3 h4, hi 62 (by omega)]
  have b89 : ∀ x, x < 331 → b.2 89 x = I 70 x := fun x hx => by rw [bk 89 (by omega) (by omega) (by omega) (by omega) (by omega) (by omega) (by omega) (by omega), w89, if_pos hx, hi 70 (by omega)]
  have kC : ∀ {A : aT} {w u : Nat → Int32}, WF A → RT I w A → (∀ x, x < 150 → u x = w x) → RT b.2 u A := fun hA q e => q.cong (bj 17 (by omega) (by omega) (by omega) (by omega)) (bI 72 (by omega) (by omega) (by omega) (by omega) (by omega) (by omega) (by omega)) (bI 73 (by omega) (by omega) (by omega) (by omega) (by omega) (by omega) (by omega)) hA.1 hA.k12 e
  have b70 : b.2 70 = I 70 := bI 70 (by omega) (by omega) (by omega) (by omega) (by omega) (by omega) (by omega)
  have b81 : ∀ a, kept9 b.2 a = kept9 I a := fun a => by unfold kept9; rw [bI 81 (by omega) (by omega) (by omega) (by omega) (by omega) (by omega) (by omega)]
  have lo : ∀ q, q < 62 → b.2 q = N q := fun q hq => bN q (by omega) (by omega) (by omega)
  refine ⟨_, b, ep, eb, Ma.both Mb, hAb, ?_, ?_, S, m, nx, ⟨a1, a2, by rw [lo 48 (by omega), Nk 48 (by omega) (by omega) (by omega) (by omega)]; exact a3, by rw [lo 48 (by omega), Nk 48 (by omega) (by omega) (by omega) (by omega)]; exact a4, by rw [bj 29 (by omega) (by omega) (by omega) (by omega)]; exact a5⟩, hW, ⟨?_, ?_, ?_⟩, fun a ha => ⟨?_, ?_, ?_⟩, ⟨?_, fun _ => ⟨S m, hWm, ?_, ?_, ?_⟩⟩, fun j hj => ?_⟩
  · exact hT.keep (by rw [bI 1 (by omega) (by omega) (by omega) (by omega) (by omega) (by omega) (by omega)]) (bI 2 (by omega) (by omega) (by omega) (by omega) (by omega) (by omega) (by omega)) (bj 2 (by omega) (by omega) (by omega) (by omega)) (bI 63 (by omega) (by omega) (by omega) (by omega) (by omega) (by omega) (by omega))
  · exact hS.keep (by rw [lo 0 (by omega), N0 14 (by omega)]) (bj 12 (by omega) (by omega) (by omega) (by omega)) (fun k h1 h2 => bI k (by omega) (by omega) (by omega) (by omega) (by omega) (by omega) (by omega)) (fun _ _ => by rw [bI 68 (by omega) (by omega) (by omega) (by omega) (by omega) (by omega) (by omega)]) (fun _ _ => by rw [bI 69 (by omega) (by omega) (by omega) (by omega) (by omega) (by omega) (by omega)])
  · have q := fun k (h1 : 3 ≤ k) (h2 : k ≤ 7) => bI k (by omega) (by omega) (by omega) (by omega) (by omega) (by omega) (by omega)
    exact b1.cong (fun j _ => by rw [q 3 (by omega) (by omega)]) (q 4 (by omega) (by omega)) (q 5 (by omega) (by omega)) (q 6 (by omega) (by omega)) (q 7 (by omega) (by omega))
  · exact kC hWm b2 (fun x _ => by rw [b70])
  · rw [b70]; exact b3.cong hC (bI 44 (by omega) (by omega) (by omega) (by omega) (by omega) (by omega) (by omega)) (bI 45 (by omega) (by omega) (by omega) (by omega) (by omega) (by omega) (by omega)) (fun _ _ _ => rfl)
  · rw [b81]; exact kC (hW a (by omega)) (hk9 a ha).1 (fun _ _ => rfl)
  · rw [b81]; exact (hk9 a ha).2.1.cong hC (bI 44 (by omega) (by omega) (by omega) (by omega) (by omega) (by omega) (by omega)) (bI 45 (by omega) (by omega) (by omega) (by omega) (by omega) (by omega) (by omega)) (fun _ _ _ => rfl)
  · exact (hk9 a ha).2.2.cong (bI 49 (by omega) (by omega) (by omega) (by omega) (by omega) (by omega) (by omega))
  · rw [lo 0 (by omega), N15, b42]
  · exact C1.cong (fun j _ => by rw [lo 13 (by omega), N13 13 (by omega) (by omega)]) (by rw [lo 14 (by omega), N13 14 (by omega) (by omega)]) (by rw [lo 15 (by omega), N13 15 (by omega) (by omega)]) (by rw [lo 16 (by omega), N13 16 (by omega) (by omega)]) (by rw [lo 17 (by omega), N13 17 (by omega) (by omega)])
  · exact kC hWm b2 (fun x hx => b89 x (by omega))
  · exact L2'.cong hC (by rw [lo 46 (by omega), N46 46 (by omega) (by omega)]) (by rw [lo 47 (by omega), N46 47 (by omega) (by omega)]) (fun x _ h2 => b89 x h2)
  · rw [bI 53 (by omega) (by omega) (by omega) (by omega) (by omega) (by omega) (by omega), bI 71 (by omega) (by omega) (by omega) (by omega) (by omega) (by omega) (by omega)]; exact c3 j hj
theorem c_clearPast {I : gM} : ∃ r, fX3_clear I = some r ∧ r 48 0 = 0 ∧ r 48 2 = 0 ∧ ∀ q, q ≠ 48 → r q = I q := by
  unfold fX3_clear
  rw [pU_n, obs, pU_n, obs]
  exact ⟨_, rfl, by rw [g_up_ne (Or.inr (by decide)), g_up_self], g_up_self, fun q h => by rw [g_up_row h, g_up_row h]⟩
theorem all_back {C : Nat} {I : gM} (h : InvA C I) (hC : C ≤ 3) : ∃ a b, fX8_back I = some a ∧ fX9_back a.2 = some b ∧ InvA C b.2 := by
  obtain ⟨hM, hA9, hT, hS, S, m, nx, hR⟩ := id h
  obtain ⟨⟨a1, a2, a3, a4, a5⟩, hW, ⟨b1, b2, b3⟩, hk9, ⟨c1, c2⟩, c3⟩ := hR
  by_cases i0 : I 62 42 = 0
  · refine ⟨(-1, I), (-1, I), ?_, ?_, h⟩
    · unfold fX8_back
      rw [if_pos (c1.trans i0)]
    · unfold fX9_back
      rw [if_pos i0]
  obtain ⟨B, d1, d2, d3, d4⟩ := c2 i0
  obtain ⟨p, ep, _, hp⟩ := tfX8_back I hM
  obtain ⟨r1, e1, C1, k1, k1'⟩ := c_copyT (k := 3) (k1 := 13) (by omega) d1 d2
  obtain ⟨r2, e2, L2', k2⟩ := c_copyL (I := r1) (k := 44) (k1 := 46) (w := I 89) (by omega) hC (d4.cong hC (k1 46 (by omega)) (k1 47 (by omega)) (fun _ _ _ => rfl))
  obtain ⟨r3, e3, p0, p2, k3⟩ := c_clearPast (I := r2)
  have eE : ∃ r4, fX8_renew r3 = some r4 ∧ fX8_back I = some (r4 18 0, r4) := by
    have hu : fX8_back I = (fX8_renew r3).bind fun r4 => some (r4 18 0, r4) := by
      unfold fX8_back
      rw [if_neg (fun q => i0 (c1.symm.trans q)), e1, obs, e2, obs, e3, obs]
    cases hz : fX8_renew r3 with
    | none => rw [hu, hz] at ep; cases ep
    | some r4 => exact ⟨r4, rfl, by rw [hu, hz, obs]⟩
  obtain ⟨N, e4, eU⟩ := eE
  rw [ep] at eU
  obtain rfl := Option.some.inj eU
  have Ma : MI true I N := hp
  have g4 := c_renewK e4
  have N37 : ∀ q, 3 ≤ q → q ≤ 7 → N q = r1 q := fun q h1 h2 => by rw [g4 q (by omega), k3 q (by omega), k2 q (by omega) (by omega)]
  have N44 : ∀ q, 44 ≤ q → q ≤ 45 → N q = r2 q := fun q h1 h2 => by rw [g4 q (by omega), k3 q (by omega)]
  have N48 : N 48 = r3 48 := g4 48 (by omega)
  have Nk : ∀ q, (q < 3 ∨ 7 < q) → q ≠ 44 → q ≠ 45 → q ≠ 48 → (q ≤ 17 ∨ 29 ≤ q ∧ q ≠ 43) → N q = I q := fun q h1 h2 h3 h4 h5 => by rw [g4 q h5, k3 q h4, k2 q h2 h3, k1 q (by omega)]
  have hi : ∀ k, 62 ≤ k → N k = I k := fun k hk => Ma.hi hk
  have A9a : A9 N := A9.hi Ma hA9
  obtain ⟨b, eb, Mb, hAb⟩ := n_back (I0 := N) Ma.re A9a
  have hb : (∀ a, b.2 70 a = if a < 331 then N 89 a else N 70 a) ∧ (∀ q, q ≠ 62 → q ≠ 70 → q ≠ 74 → q ≠ 75 → q ≠ 76 → q ≠ 77 → q ≠ 78 → q ≠ 79 → q ≠ 80 → b.2 q = N q) ∧ b.2 62 29 = 0 ∧ ∀ j, j ≠ 19 → j ≠ 26 → j ≠ 27 → j ≠ 29 → b.2 62 j = N 62 j := by
    obtain ⟨w, ew, w1, w2, w3⟩ := n_lX9_back_11 (I0 := N) (I := N) Ma.re
    have M5 : MI false N (g_up w 62 29 0) := w1.up (k := 62) rfl (lo := 0) (hi := 40) rfl (by decide) (by decide)
    obtain ⟨r, _, er, _, _, r3, r4⟩ := n_rowsNow M5
    have e : fX9_back N = some (r 62 26, r) := by
      unfold fX9_back
      rw [if_neg (show ¬ N 62 42 = 0 by rw [hi 62 (by omega)]; exact i0), show ((0 : Int32), N) = (nI 0, N) from rfl, ew, obs, pU_n, obs, er, obs]
    rw [eb] at e
    obtain rfl := Option.some.inj e
    refine ⟨fun a => ?_, fun q h0 h1 h2 h3 h4 h5 h6 h7 h8 => ?_, ?_, fun j h1 h2 h3 h4 => ?_⟩
    · dsimp only
      rw [r3 70 (by decide) (by decide) (by decide) (by decide) (by decide) (by decide) (by decide) (by decide), g_up_row (by decide), w2]
      by_cases c : a < 331
      · rw [if_pos c, if_pos (by omega)]
        exact congrArg (N 89) (by omega)
      · rw [if_neg c, if_neg (by omega)]
    · dsimp only
      rw [r3 q h0 h2 h3 h4 h5 h6 h7 h8, g_up_row h0, w3 q h1]
    · dsimp only
      rw [r4 29 (by decide) (by decide) (by decide), g_up_self]
    · dsimp only
      rw [r4 j h1 h2 h3, g_up_ne (Or.inr h4), w3 62 (by decide)]
  obtain ⟨b70, bk, b29, b62⟩ := hb
  have bN : ∀ q, q ≠ 62 → q ≠ 70 → (q < 74 ∨ 80 < q) → b.2 q = N q := fun q h1 h2 h3 => bk q h1 h2 (by omega) (by omega) (by omega) (by omega) (by omega) (by omega) (by omega)
  have bI : ∀ q, q ≠ 62 → q ≠ 70 → (q < 74 ∨ 80 < q) → (q < 3 ∨ 7 < q) → q ≠ 44 → q ≠ 45 → q ≠ 48 → (q ≤ 17 ∨ 29 ≤ q ∧ q ≠ 43) → b.2 q = I q := fun q h1 h2 h3 h4 h5 h6 h7 h8 => by rw [bN q h1 h2 h3, Nk q h4 h5 h6 h7 h8]
  have bj : ∀ j, j ≠ 19 → j ≠ 26 → j ≠ 27 → j ≠ 29 → b.2 62 j = I 62 j := fun j h1 h2 h3 h4 => by rw [b62 j h1 h2 h3 h4, hi 62 (by omega)]
  have w70 : ∀ x, x < 331 → b.2 70 x = I 89 x := fun x hx => by rw [b70, if_pos hx, hi 89 (by omega)]
  have kC : ∀ {A : aT} {w u : Nat → Int32}, WF A → RT I w A → (∀ x, x < 150 → u x = w x) → RT b.2 u A := fun hA q e => q.cong (bj 17 (by omega) (by omega) (by omega) (by omega)) (bI 72 (by omega) (by omega) (by omega) (by omega) (by omega) (by omega) (by omega) (by omega)) (bI 73 (by omega) (by omega) (by omega) (by omega) (by omega) (by omega) (by omega) (by omega)) hA.1 hA.k12 e
  have b89 : b.2 89 = I 89 := bI 89 (by omega) (by omega) (by omega) (by omega) (by omega) (by omega) (by omega) (by omega)
  have lo : ∀ q, q < 62 → b.2 q = N q := fun q hq => bN q (by omega) (by omega) (by omega)
  have CB : CT b.2 13 B := d2.cong (fun j _ => by rw [bI 13 (by omega) (by omega) (by omega) (by omega) (by omega) (by omega) (by omega) (by omega)]) (bI 14 (by omega) (by omega) (by omega) (by omega) (by omega) (by omega) (by omega) (by omega)) (bI 15 (by omega) (by omega) (by omega) (by omega) (by omega) (by omega) (by omega) (by omega)) (bI 16 (by omega) (by omega) (by omega) (by omega) (by omega) (by omega) (by omega) (by omega)) (bI 17 (by omega) (by omega) (by omega) (by omega) (by omega) (by omega) (by omega) (by omega))
  refine ⟨_, b, ep, eb, Ma.both Mb, hAb, ?_, ?_, fun _ => B, 0, 0, ⟨by omega, by omega, by rw [lo 48 (by omega), N48]; exact p0, by rw [lo 48 (by omega), N48]; exact p2, b29⟩, fun _ _ => d1, ⟨?_, kC d1 d3 (fun x hx => w70 x (by omega)), ?_⟩, fun a ha => absurd ha (Nat.not_lt_zero a), ⟨?_, fun _ => ⟨B, d1, CB, by rw [b89]; exact kC d1 d3 (fun _ _ => rfl), ?_⟩⟩, fun j hj => ?_⟩
  · exact hT.keep (by rw [bI 1 (by omega) (by omega) (by omega) (by omega) (by omega) (by omega) (by omega) (by omega)]) (bI 2 (by omega) (by omega) (by omega) (by omega) (by omega) (by omega) (by omega) (by omega)) (bj 2 (by omega) (by omega) (by omega) (by omega)) (bI 63 (by omega) (by omega) (by omega) (by omega) (by omega) (by omega) (by omega) (by omega))
  · exact hS.keep (by rw [bI 0 (by omega) (by omega) (by omega) (by omega) (by omega) (by omega) (by omega) (by omega)]) (bj 12 (by omega) (by omega) (by omega) (by omega)) (fun k h1 h2 => bI k (by omega) (by omega) (by omega) (by omega) (by omega) (by omega) (by omega) (by omega)) (fun _ _ => by rw [bI 68 (by omega) (by omega) (by omega) (by omega) (by omega) (by omega) (by omega) (by omega)]) (fun _ _ => by rw [bI 69 (by omega) (by omega) (by omega) (by omega) (by omega) (by omega) (by omega) (by omega)])
  · exact C1.cong (fun j _ => by rw [lo 3 (by omega), N37 3 (by omega) (by omega)]) (by rw [lo 4 (by omega), N37 4 (by omega) (by omega)]) (by rw [lo 5 (by omega), N37 5 (by omega) (by omega)]) (by rw [lo 6 (by omega), N37 6 (by omega) (by omega)]) (by rw [lo 7 (by omega), N37 7 (by omega) (by omega)])
  · exact L2'.cong hC (by rw [lo 44 (by omega), N44 44 (by omega) (by omega)]) (by rw [lo 45 (by omega), N44 45 (by omega) (by omega)]) (fun x _ h2 => w70 x h2)
  · rw [bI 0 (by omega) (by omega) (by omega) (by omega) (by omega) (by omega) (by omega) (by omega), bj 42 (by omega) (by omega) (by omega) (by omega)]; exact c1
  · rw [b89]
    exact d4.cong hC (bI 46 (by omega) (by omega) (by omega) (by omega) (by omega) (by omega) (by omega) (by omega)) (bI 47 (by omega) (by omega) (by omega) (by omega) (by omega) (by omega) (by omega) (by omega)) (fun _ _ _ => rfl)
  · rw [bI 53 (by omega) (by omega) (by omega) (by omega) (by omega) (by omega) (by omega) (by omega), bI 71 (by omega) (by omega) (by omega) (by omega) (by omega) (by omega) (by omega) (by omega)]; exact c3 j hj
end P_35r_40m_image
section P_35r_40n_told
/-! tables told: rows put in one by one -/
def insK (k : Nat) : List Nat → List Nat
  | [] => [k]
  | a :: l => if k = a then a :: l else if k < a then k :: a :: l else a :: insK k l
theorem srt_tl {a : Nat} {l : List Nat} (h : srt (a :: l)) : srt l := fun i j hij hj => h (i + 1) (j + 1) (by omega) (Nat.succ_lt_succ hj)
theorem insK_in {k : Nat} : ∀ {l : List Nat} {i : Nat}, srt l → i < l.length → l.getD i 0 = k → insK k l = l
  | [], _, _, hi, _ => absurd hi (Nat.not_lt_zero _)
  | a :: l, 0, _, _, e => by
    have e : a = k := e
    unfold insK
    rw [if_pos e.symm]
  | a :: l, i + 1, hs, hi, e => by
    have e : l.getD i 0 = k := e
    have hi' : i < l.length := Nat.lt_of_succ_lt_succ hi
    have q : a < l.getD i 0 := hs 0 (i + 1) (by omega) hi
    unfold insK
    rw [if_neg (by omega), if_neg (by omega), insK_in (srt_tl hs) hi' e]
theorem insK_no {k : Nat} : ∀ {l : List Nat} {i : Nat}, posK k l i → ¬ (i < l.length ∧ l.getD i 0 = k) → insK k l = insA i k l
  | [], 0, _, _ => rfl
  | [], i + 1, h, _ => absurd h.1 (Nat.not_succ_le_zero _)
  | a :: l, 0, h, hn => by
    have q : k ≤ a := h.2.2 0 (Nat.le_refl _) (Nat.succ_pos _)
    have q2 : ¬ a = k := fun z => hn ⟨Nat.succ_pos _, z⟩
    unfold insK
    rw [if_neg (fun z => q2 z.symm), if_pos (by omega)]
    rfl
  | a :: l, i + 1, h, hn => by
    have q : a < k := h.2.1 0 (by omega)
    have h' : posK k l i := ⟨Nat.le_of_succ_le_succ h.1, fun j hj => h.2.1 (j + 1) (by omega), fun j h1 h2 => h.2.2 (j + 1) (by omega) (Nat.succ_lt_succ h2)⟩
    unfold insK
    rw [if_neg (by omega), if_neg (by omega), insK_no h' (fun z => hn ⟨Nat.succ_lt_succ z.1, z.2⟩)]
    rfl
theorem posK_ex {k : Nat} : ∀ {l : List Nat}, srt l → ∃ i, posK k l i
  | [], _ => ⟨0, Nat.le_refl _, fun j hj => absurd hj (Nat.not_lt_zero _), fun j _ hj => absurd hj (Nat.not_lt_zero _)⟩
  | a :: l, hs => by
    by_cases c : k ≤ a
    · exact ⟨0, posK.of hs (Nat.zero_le _) (fun j hj => absurd hj (Nat.not_lt_zero _)) (fun _ => c)⟩
    · obtain ⟨i, h1, h2, h3⟩ := posK_ex (k := k) (srt_tl hs)
      refine ⟨i + 1, Nat.succ_le_succ h1, fun j hj => ?_, fun j h4 h5 => ?_⟩
      · cases j with
        | zero => show a < k; omega
        | succ j => exact h2 j (by omega)
      · cases j with
        | zero => omega
        | succ j => exact h3 j (by omega) (Nat.lt_of_succ_lt_succ h5)
/-- either it is there, or it comes to its place -/
theorem insK_or {k : Nat} {l : List Nat} (hs : srt l) : (inK l k ∧ insK k l = l) ∨ (¬ inK l k ∧ ∃ i, posK k l i ∧ ¬ (i < l.length ∧ l.getD i 0 = k) ∧ insK k l = insA i k l) := by
  by_cases c : inK l k
  · obtain ⟨i, hi, e⟩ := c
    exact Or.inl ⟨⟨i, hi, e⟩, insK_in hs hi e⟩
  · obtain ⟨i, hp⟩ := posK_ex (k := k) hs
    have hn : ¬ (i < l.length ∧ l.getD i 0 = k) := fun z => c ⟨i, z⟩
    exact Or.inr ⟨c, i, hp, hn, insK_no hp hn⟩
theorem insK_ok {P : Nat → Prop} {k : Nat} {l : List Nat} (hs : srt l) (hk : P k) (h : ∀ j, j < l.length → P (l.getD j 0)) : srt (insK k l) ∧ (insK k l).length ≤ l.length + 1 ∧ ∀ j, j < (insK k l).length → P ((insK k l).getD j 0) := by
  rcases insK_or (k := k) hs with ⟨_, e⟩ | ⟨_, i, hp, hn, e⟩
  · rw [e]; exact ⟨hs, by omega, h⟩
  · rw [e]; exact ⟨srt_ins hs hp hn, by rw [insA_len]; omega, insA_all hk h hp.1⟩
/-- a row told, as a number -/
def rK (r : List Nat) : Nat := pk3 (r.getD 0 0) (r.getD 1 0) (r.getD 2 0)
def ksOf (rs : List (List Nat)) : List Nat := rs.foldl (fun l r => insK (rK r) l) []
theorem ksOf_app (rs : List (List Nat)) (r : List Nat) : ksOf (rs ++ [r]) = insK (rK r) (ksOf rs) := by
  unfold ksOf
  rw [List.foldl_append]; rfl
theorem ce_kn {wd : Nat} {r : List Nat} (h : okRow wd r) (c : Nat) : kn (ce r c) = r.getD c 0 ∧ r.getD c 0 ≤ 99 := by
  unfold ce
  by_cases d : c < r.length
  · have := h.2 c (by rw [← h.1]; exact d)
    rw [if_pos d]
    exact ⟨by unfold kn; rw [nIt (by omega)], this⟩
  · rw [if_neg d, List.getD_eq_getElem?_getD, List.getElem?_eq_none (by omega)]
    exact ⟨nn_m1, Nat.zero_le _⟩
theorem kyz_ce {wd : Nat} {r : List Nat} (h : okRow wd r) : kyz (ce r 0) (ce r 1) (ce r 2) = rK r := by
  unfold kyz rK
  rw [(ce_kn h 0).1, (ce_kn h 1).1, (ce_kn h 2).1]
theorem rowOK_ce {wd : Nat} {r : List Nat} (h : okRow wd r) (h1 : 1 ≤ wd) : rowOK wd (ce r 0) (ce r 1) (ce r 2) := by
  have g : ∀ c, (c < wd → 0 ≤ (ce r c).toInt ∧ (ce r c).toInt ≤ 99) ∧ (wd ≤ c → ce r c = -1) := fun c => ⟨fun hc => by
    have := h.2 c hc
    unfold ce
    rw [if_pos (by rw [h.1]; exact hc), tnI (by omega)]; omega, fun hc => by unfold ce; rw [if_neg (by rw [h.1]; omega)]⟩
  exact ⟨(g 0).1 (by omega), g 1, g 2⟩
theorem kOK_rK {wd : Nat} {r : List Nat} (h : okRow wd r) (h1 : 1 ≤ wd) : kOK wd (rK r) := by
  rw [← kyz_ce h]; exact (row_k (rowOK_ce h h1)).1
theorem ksOf_ok {wd : Nat} (h1 : 1 ≤ wd) : ∀ (rs : List (List Nat)), (∀ r, r ∈ rs → okRow wd r) → srt (ksOf rs) ∧ (ksOf rs).length ≤ rs.length ∧ ∀ j, j < (ksOf rs).length → kOK wd ((ksOf rs).getD j 0) := by
  have key : ∀ (rs : List (List Nat)) (l : List Nat), srt l → (∀ j, j < l.length → kOK wd (l.getD j 0)) → (∀ r, r ∈ rs → okRow wd r) → srt (rs.foldl (fun l r => insK (rK r) l) l) ∧ (rs.foldl (fun l r => insK (rK r) l) l).length ≤ l.length + rs.length ∧ ∀ j, j < (rs.foldl (fun l r => insK (rK r) l) l).length → kOK wd ((rs.foldl (fun l r => insK (rK r) l) l).getD j 0) := by
    intro rs
    induction rs with
    | nil => intro l a b _; exact ⟨a, Nat.le_refl _, b⟩
    | cons r rs ih =>
      intro l a b c
      obtain ⟨i1, i2, i3⟩ := insK_ok a (kOK_rK (c r List.mem_cons_self) h1) b
      obtain ⟨j1, j2, j3⟩ := ih _ i1 i3 (fun x hx => c x (List.mem_cons_of_mem _ hx))
      refine ⟨j1, ?_, j3⟩
      show (List.foldl (fun l r => insK (rK r) l) (insK (rK r) l) rs).length ≤ l.length + (rs.length + 1)
      omega
  intro rs h
  have q := key rs [] (fun i j hij hj => absurd hj (Nat.not_lt_zero _)) (fun j hj => absurd hj (Nat.not_lt_zero _)) h
  exact ⟨q.1, by have := q.2.1; simp only [List.length_nil] at this; unfold ksOf; omega, q.2.2⟩
/-- the tables as told -/
def tOf (ts : List (List Nat × List (List Nat))) : aT := (ts.map (fun tb => (tb.1, ksOf tb.2)), 2 ^ ts.length - 1, 0)
theorem tOf_get (ts : List (List Nat × List (List Nat))) (t : Nat) : (tOf ts).1.getD t ([], []) = ((ts.getD t ([], [])).1, ksOf (ts.getD t ([], [])).2) := by
  unfold tOf
  rw [List.getD_eq_getElem?_getD, List.getElem?_map, List.getD_eq_getElem?_getD]
  cases ts[t]? with
  | none => rfl
  | some x => rfl
theorem tOf_L (ts : List (List Nat × List (List Nat))) (t : Nat) : aL (tOf ts) t = (ts.getD t ([], [])).1 := by unfold aL; rw [tOf_get]
theorem tOf_K (ts : List (List Nat × List (List Nat))) (t : Nat) : aK (tOf ts) t = ksOf (ts.getD t ([], [])).2 := by unfold aK; rw [tOf_get]
theorem tOf_n (ts : List (List Nat × List (List Nat))) : (tOf ts).1.length = ts.length := by unfold tOf; rw [List.length_map]
/-- letters of a table as told -/
def okL (ls : List Nat) : Prop := (∀ c, c < ls.length → ls.getD c 0 < 4) ∧ ∀ c d, c < d → d < ls.length → ls.getD c 0 ≠ ls.getD d 0
theorem okL_app {ls : List Nat} {l : Nat} (h : okL ls) (hl : l < 4) (hn : l ∉ ls) : okL (ls ++ [l]) := by
  have el : (ls ++ [l]).length = ls.length + 1 := by rw [List.length_append]; rfl
  have g : ∀ c, c < ls.length + 1 → (c < ls.length ∧ (ls ++ [l]).getD c 0 = ls.getD c 0) ∨ (c = ls.length ∧ (ls ++ [l]).getD c 0 = l) := fun c hc => by
    by_cases d : c < ls.length
    · exact Or.inl ⟨d, gd_lt d⟩
    · have : c = ls.length := by omega
      subst this
      exact Or.inr ⟨rfl, gd_eq⟩
  refine ⟨fun c hc => ?_, fun c d hcd hd => ?_⟩
  · rw [el] at hc
    rcases g c hc with ⟨a, b⟩ | ⟨a, b⟩
    · rw [b]; exact h.1 c a
    · rw [b]; exact hl
  · rw [el] at hd
    rcases g c (by omega) with ⟨a, b⟩ | ⟨a, b⟩
    · rcases g d hd with ⟨a', b'⟩ | ⟨a', b'⟩
      · rw [b, b']; exact h.2 c d hcd a'
      · rw [b, b']
        exact fun z => hn (z ▸ getD_mem a)
    · omega
theorem pHead_L {w : Nat → Int32} {n : Nat} : ∀ {k : Nat} {ls : List Nat} {p : Nat} {r : List Nat × Nat}, okL ls → pHead w n k ls p = some r → okL r.1
  | 0, ls, p, r, _, h => by cases h
  | k + 1, ls, p, r, hl, h => by
    unfold pHead at h
    by_cases c1 : lt_ (hr w n (sk w n p))
    · rw [if_pos c1] at h
      by_cases c2 : ls.length = 3 ∨ lv (hr w n (sk w n p)) ∈ ls
      · rw [if_pos c2] at h; cases h
      · rw [if_neg c2] at h
        exact pHead_L (okL_app hl (by have := (lt_v c1).1; omega) (fun z => c2 (Or.inr z))) h
    · rw [if_neg c1] at h
      by_cases c2 : ls = []
      · rw [if_pos c2] at h; cases h
      · rw [if_neg c2] at h
        by_cases c3 : hr w n (sk w n p) = 58
        · rw [if_pos c3] at h; cases h; exact hl
        · rw [if_neg c3] at h; cases h
theorem pTable_L {w : Nat → Int32} {n p : Nat} {r : (List Nat × List (List Nat)) × Nat} (h : pTable w n p = some r) : okL r.1.1 := by
  unfold pTable at h
  obtain ⟨x, e1, h⟩ := ob h
  have q := pHead_L ⟨fun c hc => absurd hc (Nat.not_lt_zero _), fun c d _ hd => absurd hd (Nat.not_lt_zero _)⟩ e1
  by_cases c : dg (hr w n (sk w n x.2))
  · rw [if_pos c] at h
    obtain ⟨y, _, h⟩ := ob h
    cases h; exact q
  · rw [if_neg c] at h
    cases h; exact q
theorem pTabs_L {w : Nat → Int32} {n : Nat} : ∀ {k : Nat} {ts : List (List Nat × List (List Nat))} {p : Nat} {x : List (List Nat × List (List Nat))}, (∀ tb, tb ∈ ts → okL tb.1) → pTabs w n k ts p = some x → ∀ tb, tb ∈ x → okL tb.1
  | 0, ts, p, x, _, h => by cases h
  | k + 1, ts, p, x, ht, h => by
    unfold pTabs at h
    obtain ⟨y, e1, h⟩ := ob h
    have q : ∀ tb, tb ∈ ts ++ [y.1] → okL tb.1 := fun tb hb => by
      rcases List.mem_append.mp hb with z | z
      · exact ht tb z
      · rw [List.mem_singleton.mp z]; exact pTable_L e1
    by_cases c1 : hr w n (sk w n y.2) = 59 ∧ k ≠ 0
    · rw [if_pos c1] at h
      exact pTabs_L q h
    · rw [if_neg c1] at h
      by_cases c2 : hr w n (sk w n y.2) = -1
      · rw [if_pos c2] at h; cases h; exact q
      · rw [if_neg c2] at h; cases h
theorem gd_get {α : Type} {l : List α} {d : α} {i : Nat} (h : i < l.length) : l[i]? = some (l.getD i d) := by
  rw [List.getD_eq_getElem?_getD, List.getElem?_eq_getElem h]; rfl
theorem WF_tOf {ts : List (List Nat × List (List Nat))} (h4 : ts.length ≤ 4) (h : ∀ tb, tb ∈ ts → okTab tb ∧ okL tb.1) : WF (tOf ts) := by
  have hp : 0 < 2 ^ ts.length := Nat.two_pow_pos _
  refine ⟨by rw [tOf_n]; exact h4, ?_, fun q => ?_, by show 0 < 24; omega, fun t ht => ?_⟩
  · rw [tOf_n]; show 2 ^ ts.length - 1 < 2 ^ ts.length; omega
  · rw [tOf_n] at q
    have : 2 ^ 1 ≤ 2 ^ ts.length := Nat.pow_le_pow_right (by decide) q
    show 0 < 2 ^ ts.length - 1
    omega
  · rw [tOf_n] at ht
    have hm : ts.getD t ([], []) ∈ ts := by rw [List.getD_eq_getElem?_getD, List.getElem?_eq_getElem ht]; exact List.getElem_mem ht
    obtain ⟨⟨o1, o3, o12, orow⟩, l1, l2⟩ := h _ hm
    obtain ⟨k1, k2, k3⟩ := ksOf_ok o1 _ orow
    unfold wfT
    rw [tOf_L, tOf_K]
    exact ⟨⟨o1, o3⟩, l1, l2, by omega, k1, k3⟩
end P_35r_40n_told
section P_35r_40o_takes9
/-! the reference takes what it read: just these tables -/
theorem n_takeR {I0 I : gM} {t : Nat} {tb : List Nat × List (List Nat)} (ht : t < 4) (hM : MI false I0 I) (hC : TbC I t tb) (hok : okTab tb) (e0 : I 70 (2 + t) = 0) :
    T (lX9_takeTables_101 (nI t) (nI 0, I)) (fun r => MI false I0 r ∧ (∀ q, q ≠ 70 → r q = I q) ∧ RTt (r 70) t tb.1.length (ksOf tb.2) ∧ ∀ a, a ≠ 2 + t → (a < 6 + 36 * t ∨ 42 + 36 * t ≤ a) → r 70 a = I 70 a) := by
  obtain ⟨r0, er0, g1, g2, _, g4⟩ := n_take101 ht hM hC hok e0
  obtain ⟨_, _, c66, c67⟩ := hC
  obtain ⟨o1, o3, o12, orow⟩ := hok
  have key : T (lX9_takeTables_101 (nI t) (nI 0, I)) (fun r => RTt (r 70) t tb.1.length (ksOf tb.2)) := by
    unfold lX9_takeTables_101
    refine t_it (P := fun s => ∃ i, s.1 = nI i ∧ i ≤ tb.2.length ∧ (∀ q, q ≠ 70 → s.2 q = I q) ∧ RTt (s.2 70) t tb.1.length (ksOf (tb.2.take i))) (μ := fun s => 20 - s.1.toInt.toNat) (fun s p => ?_) ⟨0, rfl, by omega, fun _ _ => rfl, by rw [List.take_zero]; exact ⟨e0, fun i hi => absurd hi (Nat.not_lt_zero _)⟩⟩
    obtain ⟨s1, s2⟩ := s
    obtain ⟨i, e1, hi, h2, hR⟩ := p
    dsimp only at e1 h2 hR
    subst e1
    dsimp only
    refine t_be (rI_n (by omega) (by omega)) ?_
    rw [h2 66 (by decide), c66]
    refine t_ite (fun c => ?_) (fun c => ?_)
    · have c := (nI_leI (by omega) (by omega)).mp c
      have : i = tb.2.length := by omega
      subst this
      rw [List.take_length] at hR
      exact t_ret hR
    · have c := mt (nI_leI (a := tb.2.length) (b := i) (by omega) (by omega)).mpr c
      have hil : i < tb.2.length := by omega
      have hrow : okRow tb.1.length (tb.2.getD i []) := orow _ (by rw [List.getD_eq_getElem?_getD, List.getElem?_eq_getElem hil]; exact List.getElem_mem _)
      have eT : tb.2.take (i + 1) = tb.2.take i ++ [tb.2.getD i []] := by
        rw [List.take_add_one, gd_get (d := []) hil]; rfl
      obtain ⟨ks1, ks2, ks3⟩ := ksOf_ok o1 (tb.2.take i) (fun r hr => orow r (List.mem_of_mem_take hr))
      rw [List.length_take] at ks2
      generalize hks : ksOf (tb.2.take i) = ks at *
      have eK : ksOf (tb.2.take (i + 1)) = insK (rK (tb.2.getD i [])) ks := by rw [eT, ksOf_app, hks]
      have hl12 : ks.length ≤ 11 := by omega
      have g : ∀ c, c < 3 → s2 67 (3 * (12 * t + i) + c) = ce (tb.2.getD i []) c := fun c hc => by
        rw [h2 67 (by decide), ← c67 i (by omega) c hc]
        congr 1; omega
      have b0 : (3 : Int32) * ((12 : Int32) * nI t + nI i) = nI (3 * (12 * t + i)) := by rw [a12, L3, nI_mul]
      rw [b0]
      have b1 : nI (3 * (12 * t + i)) + 1 = nI (3 * (12 * t + i) + 1) := nI_1 _
      have b2 : nI (3 * (12 * t + i)) + 2 = nI (3 * (12 * t + i) + 2) := by rw [L2, nI_add]
      rw [b1, b2]
      refine t_be (rI_n (by omega) (by omega)) ?_
      refine t_be (rI_n (by omega) (by omega)) ?_
      refine t_be (rI_n (by omega) (by omega)) ?_
      have g0 := g 0 (by omega)
      have g1 := g 1 (by omega)
      have g2 := g 2 (by omega)
      rw [Nat.add_zero] at g0
      rw [g0, g1, g2]
      have hro := rowOK_ce hrow o1
      have hky := kyz_ce hrow
      obtain ⟨i', hc', ei⟩ := n_hasRow ht (by omega) hR.1 (ce (tb.2.getD i []) 0) (ce (tb.2.getD i []) 1) (ce (tb.2.getD i []) 2)
      refine t_be ei ?_
      obtain ⟨p1, p2⟩ := cl_pos hR o1 ks3 ks1 hro hc'
      rw [hky] at p1 p2
      have mu : 20 - (nI (i + 1)).toInt.toNat < 20 - (nI i).toInt.toNat := by rw [nIt (by omega), nIt (by omega)]; omega
      by_cases c3 : i' < ks.length ∧ cm9 (s2 70) t i' (ce (tb.2.getD i []) 0) (ce (tb.2.getD i []) 1) (ce (tb.2.getD i []) 2) = 0
      · rw [if_pos c3, if_neg n10]
        unfold bX9_takeTables_178
        rw [nI_1]
        refine t_nx ?_ mu
        refine ⟨i + 1, rfl, by omega, h2, ?_⟩
        have z := p2.mp c3
        rw [eK, insK_in ks1 z.1 z.2]; exact hR
      · rw [if_neg c3, if_pos rfl]
        refine t_be (rI_n (by omega) (by omega)) ?_
        refine t_be (rI_n (by omega) (by omega)) ?_
        refine t_be (rI_n (by omega) (by omega)) ?_
        rw [g0, g1, g2]
        obtain ⟨i2, r, hcl, er, hk, h70⟩ := n_putsNow ht (by omega) hR.1 (ce (tb.2.getD i []) 0) (ce (tb.2.getD i []) 1) (ce (tb.2.getD i []) 2)
        refine t_be er ?_
        unfold bX9_takeTables_178
        rw [nI_1]
        refine t_nx ?_ mu
        obtain ⟨q1, q2⟩ := cl_pos hR o1 ks3 ks1 hro hcl
        rw [hky] at q1 q2
        have := p1.eq q1
        subst this
        refine ⟨i + 1, rfl, by omega, fun q hq => by dsimp only; rw [hk q hq]; exact h2 q hq, ?_⟩
        dsimp only
        rw [eK, insK_no q1 (fun z => c3 (p2.mpr z)), h70, ← hky]
        exact (insW_R ht hl12 hcl.1 hR o1 hro).1
  obtain ⟨r, er, hR⟩ := key
  rw [er0] at er
  obtain rfl := Option.some.inj er
  exact ⟨_, er0, g1, g2, hR, g4⟩
theorem used_nI : ∀ n, n < 5 → ((1 : Int32) <<< (nI n &&& 31)) - 1 = nI (2 ^ n - 1) := by decide +kernel
theorem n_takeTablesK {I0 I : gM} {ts : List (List Nat × List (List Nat))} (hM : MI false I0 I) (hC : TsC I ts) (hL : ∀ tb, tb ∈ ts → okL tb.1) : ∃ r, fX9_takeTables I = some (nI ts.length, r) ∧ MI false I0 r ∧ A9 r ∧ RT r (r 70) (tOf ts) ∧ r 70 150 = 0 ∧ r 62 29 = 0 ∧ r 62 42 = 0 := by
  obtain ⟨rr, err, M1, A1, _⟩ := n_takeTables hM hC
  have hh := err
  obtain ⟨h9, hl, hC⟩ := hC
  unfold fX9_takeTables at hh
  rw [pU_n, obs, h9] at hh
  have hM1 : MI false I0 (g_up I 62 17 (nI ts.length)) := hM.up (k := 62) rfl (lo := 0) (hi := 4) rfl (by rw [tnI (by omega)]; omega) (by rw [tnI (by omega)]; omega)
  obtain ⟨w3, e3, hM3, f3, z3⟩ := n_take10 hM1
  rw [show (((0 : Int32)), g_up I 62 17 (nI ts.length)) = (nI 0, g_up I 62 17 (nI ts.length)) from rfl, e3, obs] at hh
  rw [show wI w3 70 331 0 (((1 : Int32) <<< ((w3 62 17) &&& 31)) - 1) = some (g_up w3 70 0 (((1 : Int32) <<< ((w3 62 17) &&& 31)) - 1)) from wI_n (a := 0) (by omega) (by omega), obs] at hh
  have tp := tTop (((1 : Int32) <<< ((w3 62 17) &&& 31)) - 1)
  have hM4 : MI false I0 (g_up w3 70 0 (((1 : Int32) <<< ((w3 62 17) &&& 31)) - 1)) := hM3.up (k := 70) rfl (lo := top.1) (hi := top.2) rfl tp.1 tp.2
  have hv : ((1 : Int32) <<< ((w3 62 17) &&& 31)) - 1 = nI (2 ^ ts.length - 1) := by
    rw [f3 62 (by decide), g_up_self]; exact used_nI _ (by omega)
  rw [hv] at hM4 hh
  generalize hN : g_up w3 70 0 (nI (2 ^ ts.length - 1)) = N at *
  have Nk : ∀ q, q ≠ 70 → N q = g_up I 62 17 (nI ts.length) q := fun q hq => by rw [← hN, g_up_row hq]; exact f3 q hq
  have N70 : N 70 0 = nI (2 ^ ts.length - 1) := by rw [← hN, g_up_self]
  have N0 : ∀ a, 0 < a → a < 331 → N 70 a = 0 := fun a h1 h2 => by rw [← hN, g_up_ne (Or.inr (by omega))]; exact z3 a h2
  have N17 : N 62 17 = nI ts.length := by rw [Nk 62 (by decide), g_up_self]
  have NC : ∀ k, k ≠ 62 → k ≠ 70 → N k = I k := fun k h1 h2 => by rw [Nk k h2, g_up_row h1]
  have key : T (lX9_takeTables_46 (nI 0, N)) (fun r => r 62 = N 62 ∧ (∀ a, a < 2 ∨ 150 ≤ a → r 70 a = N 70 a) ∧ ∀ i, i < ts.length → r 72 i = nI (ts.getD i ([], [])).1.length ∧ (∀ c, c < (ts.getD i ([], [])).1.length → r 73 (3 * i + c) = nI ((ts.getD i ([], [])).1.getD c 0)) ∧ RTt (r 70) i (ts.getD i ([], [])).1.length (ksOf (ts.getD i ([], [])).2)) := by
    unfold lX9_takeTables_46
    refine t_it (P := fun s => ∃ t, s.1 = nI t ∧ t ≤ ts.length ∧ MI false I0 s.2 ∧ (∀ q, q ≠ 70 → q ≠ 72 → q ≠ 73 → s.2 q = N q) ∧ (∀ i, t ≤ i → i < 4 → s.2 70 (2 + i) = 0) ∧ (∀ a, a < 2 ∨ 150 ≤ a → s.2 70 a = N 70 a) ∧ ∀ i, i < t → s.2 72 i = nI (ts.getD i ([], [])).1.length ∧ (∀ c, c < (ts.getD i ([], [])).1.length → s.2 73 (3 * i + c) = nI ((ts.getD i ([], [])).1.getD c 0)) ∧ RTt (s.2 70) i (ts.getD i ([], [])).1.length (ksOf (ts.getD i ([], [])).2)) (μ := fun s => 20 - s.1.toInt.toNat) (fun s p => ?_) ⟨0, rfl, by omega, hM4, fun _ _ _ _ => rfl, fun i _ hi => N0 _ (by omega) (by omega), fun _ _ => rfl, fun t ht => absurd ht (by omega)⟩
    obtain ⟨s1, s2⟩ := s
    obtain ⟨t, e1, ht, h1, h2, h3, h4, h5⟩ := p
    dsimp only at e1 h1 h2 h3 h4 h5
    subst e1
    dsimp only
    have e17 : s2 62 17 = nI ts.length := by rw [h2 62 (by decide) (by decide) (by decide), N17]
    refine t_ite (fun c => ?_) (fun c => ?_)
    · rw [e17] at c
      have c := (nI_leI (by omega) (by omega)).mp c
      have : t = ts.length := by omega
      subst this
      exact t_ret (show s2 62 = N 62 ∧ _ from ⟨h2 62 (by decide) (by decide) (by decide), h4, h5⟩)
    · rw [e17] at c
      have c := mt (nI_leI (a := ts.length) (b := t) (by omega) (by omega)).mpr c
      have htl : t < ts.length := by omega
      obtain ⟨hok, c64, c65, c66, c67⟩ := hC t _ (gd_get (d := ([], [])) htl)
      generalize htb : ts.getD t ([], []) = tb at *
      have o3 := hok.2.1
      have o12 := hok.2.2.1
      refine t_be (rI_n (by omega) (by omega)) ?_
      refine t_be (wI_n (by omega) (by omega)) ?_
      have e64 : s2 64 t = nI tb.1.length := by rw [h2 64 (by decide) (by decide) (by decide), NC 64 (by decide) (by decide)]; exact c64
      have hM5 : MI false I0 (g_up s2 72 t (s2 64 t)) := h1.up (k := 72) rfl (lo := 0) (hi := 3) rfl (by rw [e64, tnI (by omega)]; omega) (by rw [e64, tnI (by omega)]; omega)
      rw [L0]
      refine t_bind (n_take68 (by omega) hM5) (fun w9 ⟨hM9, f9, f73⟩ => ?_)
      have hC9 : TbC w9 t tb := by
        refine ⟨?_, fun c hc => ?_, ?_, fun j hj c hc => ?_⟩
        · rw [f9 64 (by decide), g_up_row (by decide)]; exact e64
        · rw [f9 65 (by decide), g_up_row (by decide), h2 65 (by decide) (by decide) (by decide), NC 65 (by decide) (by decide)]; exact c65 c hc
        · rw [f9 66 (by decide), g_up_row (by decide), h2 66 (by decide) (by decide) (by decide), NC 66 (by decide) (by decide)]; exact c66
        · rw [f9 67 (by decide), g_up_row (by decide), h2 67 (by decide) (by decide) (by decide), NC 67 (by decide) (by decide)]; exact c67 j hj c hc
      have e70 : w9 70 = s2 70 := by rw [f9 70 (by decide), g_up_row (by decide)]
      refine t_bind (n_takeR (by omega) hM9 hC9 hok (by rw [e70]; exact h3 t (by omega) (by omega))) (fun w19 ⟨hM19, f19, r19, o19⟩ => ?_)
      rw [nI_1]
      refine t_nx ?_ (show 20 - (nI (t + 1)).toInt.toNat < 20 - (nI t).toInt.toNat by rw [nIt (by omega), nIt (by omega)]; omega)
      have e72 : ∀ a, w19 72 a = if a = t then nI tb.1.length else s2 72 a := fun a => by rw [f19 72 (by decide), f9 72 (by decide), gu_in, e64]
      have e65 : ∀ a, g_up s2 72 t (s2 64 t) 65 a = s2 65 a := fun a => by rw [g_up_row (by decide)]
      have e73 : ∀ a, w19 73 a = if 3 * t ≤ a ∧ a < 3 * t + 3 then s2 65 a else s2 73 a := fun a => by rw [f19 73 (by decide), f73, e65, g_up_row (show 73 ≠ 72 by decide)]
      refine ⟨t + 1, rfl, by omega, hM19, fun q h70 h72 h73 => ?_, fun i hi hi4 => ?_, fun a ha => ?_, fun i hi => ?_⟩
      · dsimp only
        rw [f19 q h70, f9 q h73, g_up_row h72]; exact h2 q h70 h72 h73
      · dsimp only
        rw [o19 _ (by omega) (by omega), e70]; exact h3 i (by omega) hi4
      · dsimp only
        rw [o19 _ (by omega) (by omega), e70]; exact h4 a ha
      · dsimp only
        by_cases d : i = t
        · subst d
          rw [htb]
          refine ⟨by rw [e72, if_pos rfl], fun c hc => ?_, r19⟩
          rw [e73, if_pos (by omega), h2 65 (by decide) (by decide) (by decide), NC 65 (by decide) (by decide)]; exact c65 c hc
        · have htt : ts.getD i ([], []) ∈ ts := by rw [List.getD_eq_getElem?_getD, List.getElem?_eq_getElem (by omega)]; exact List.getElem_mem _
          obtain ⟨⟨q1, q3, q12, qrow⟩, _⟩ := hC i _ (gd_get (d := ([], [])) (show i < ts.length by omega))
          obtain ⟨y1, y2, y3⟩ := h5 i (by omega)
          have kl := (ksOf_ok q1 _ qrow).2.1
          refine ⟨by rw [e72, if_neg d]; exact y1, fun c hc => ?_, y3.cong ?_ (fun j hj c hc => ?_)⟩
          · rw [e73, if_neg (by omega)]; exact y2 c hc
          · rw [o19 _ (by omega) (by omega), e70]
          · rw [o19 _ (by omega) (by omega), e70]
  obtain ⟨w20, e20, f20, o20, t20⟩ := key
  rw [show (((0 : Int32)), N) = (nI 0, N) from rfl, e20, obs, pU_n, obs, pU_n, obs] at hh
  have eL := err.symm.trans (show fX9_takeTables I = some (nI ts.length, rr) from err)
  have hr : rr = g_up (g_up w20 62 29 0) 62 42 0 := by
    unfold fX9_takeTables at err
    have := congrArg (Option.map Prod.snd) hh
    exact (Option.some.inj this).symm
  subst hr
  refine ⟨_, err, M1, A1, ⟨?_, ?_, ?_, fun t ht => ?_⟩, ?_, ?_, ?_⟩
  · rw [g_up_ne (Or.inr (by decide)), g_up_ne (Or.inr (by decide)), f20, N17, tOf_n]
  · rw [g_up_row (by decide), g_up_row (by decide), o20 0 (by omega), N70]; rfl
  · rw [g_up_row (by decide), g_up_row (by decide), o20 1 (by omega), N0 1 (by omega) (by omega)]; rfl
  · rw [tOf_n] at ht
    rw [tOf_L, tOf_K, g_up_row (by decide), g_up_row (by decide), g_up_row (by decide), g_up_row (by decide), g_up_row (by decide), g_up_row (by decide)]
    exact t20 t ht
  · rw [g_up_row (by decide), g_up_row (by decide), o20 150 (by omega), N0 150 (by omega) (by omega)]
  · rw [g_up_ne (Or.inr (by decide)), g_up_self]
  · rw [g_up_self]
/-- text(0) of the reference: these tables, or all as it was -/
theorem n_text0K {I0 I : gM} (hM : MI false I0 I) (hA : A9 I) {n : Nat} (hn : n ≤ 400) (e : I 62 2 = nI n) : ∃ r, fX9_text 0 I = some r ∧ MI false I0 r.2 ∧ A9 r.2 ∧ r.2 63 = I 63 ∧ r.2 62 12 = I 62 12 ∧
    ((pTabs (I 63) n 4 [] 0 = none ∧ r.1 = -1 ∧ r.2 62 2 = I 62 2 ∧ (∀ j, j = 17 ∨ j = 29 ∨ j = 42 → r.2 62 j = I 62 j) ∧ ∀ k, 68 ≤ k → r.2 k = I k) ∨ ∃ x, pTabs (I 63) n 4 [] 0 = some x ∧ r.1 = nI x.length ∧ r.2 62 2 = 0 ∧ WF (tOf x) ∧ RT r.2 (r.2 70) (tOf x) ∧ r.2 70 150 = 0 ∧ r.2 62 29 = 0 ∧ r.2 62 42 = 0 ∧ r.2 68 = I 68 ∧ r.2 69 = I 69 ∧ r.2 71 = I 71) := by
  obtain ⟨r0, er0, g1, g2, g3, g4, g5⟩ := n_text0 hM hA hn e
  refine ⟨r0, er0, g1, g2, g3, g4, ?_⟩
  obtain ⟨r, er, hMr, h⟩ := n_readAllM hM hn e
  have f := xfX9_readAll _ er
  have hh := er0
  unfold fX9_text at hh
  rw [if_pos rfl, er, obs] at hh
  rcases h with ⟨e1, h1⟩ | ⟨x, e1, h1, _, hC⟩
  · rcases g5 with ⟨_, q2, q3⟩ | ⟨y, q1, _⟩
    · rw [if_neg h1] at hh
      unfold bX9_text_22 at hh
      rw [if_neg (by decide)] at hh
      obtain rfl := Option.some.inj hh
      refine Or.inl ⟨e1, q2, q3, fun j hj => ?_, fun k hk => ?_⟩
      · exact f 62 j (Or.inr (by omega)) (Or.inr (by omega)) (Or.inr (by omega)) (by decide) (by decide) (by decide) (by decide)
      · exact funext fun j => f k j (Or.inl (by omega)) (Or.inl (by omega)) (Or.inl (by omega)) (by omega) (by omega) (by omega) (by omega)
    · rw [e1] at q1; cases q1
  · rcases g5 with ⟨q1, _⟩ | ⟨y, q1, q2, q3⟩
    · rw [e1] at q1; cases q1
    · rw [e1] at q1
      obtain rfl := Option.some.inj q1
      rw [if_pos h1, pU_n, obs] at hh
      have hL := pTabs_L (fun tb htb => by cases htb) e1
      have hM2 : MI false I0 (g_up r.2 62 2 0) := hMr.up (k := 62) rfl (lo := 0) (hi := 400) rfl (by decide) (by decide)
      have hC2 : TsC (g_up r.2 62 2 0) x := ⟨by rw [g_up_ne (Or.inr (by decide))]; exact hC.1, hC.2.1, fun i tb hi => by
        obtain ⟨o1, c1, c2, c3, c4⟩ := hC.2.2 i tb hi
        refine ⟨o1, ?_, fun c hc => ?_, ?_, fun j hj c hc => ?_⟩
        · rw [g_up_row (by decide)]; exact c1
        · rw [g_up_row (by decide)]; exact c2 c hc
        · rw [g_up_row (by decide)]; exact c3
        · rw [g_up_row (by decide)]; exact c4 j hj c hc⟩
      obtain ⟨s, es, hMs, hAs, s1, s2, s3, s4⟩ := n_takeTablesK hM2 hC2 hL
      have fs := xfX9_takeTables _ es
      rw [es, obs] at hh
      obtain rfl := Option.some.inj hh
      have hx : ∀ k, k = 68 ∨ k = 69 ∨ k = 71 → s k = I k := fun k hk => funext fun j => by
        have q := fs k j (Or.inl (by omega)) (by omega) (by omega) (by omega) (Or.inl (by omega)) (Or.inl (by omega))
        rw [g_up_row (by omega)] at q
        refine Eq.trans q ?_
        exact f k j (Or.inl (by omega)) (Or.inl (by omega)) (Or.inl (by omega)) (by omega) (by omega) (by omega) (by omega)
      refine Or.inr ⟨x, e1, q2, q3, WF_tOf hC.2.1 (fun tb htb => ?_), s1, s2, s3, s4, hx 68 (by omega), hx 69 (by omega), hx 71 (by omega)⟩
      obtain ⟨i, hi, ei⟩ := List.getElem_of_mem htb
      exact ⟨(hC.2.2 i tb (by rw [List.getElem?_eq_getElem hi, ei])).1, hL tb htb⟩
end P_35r_40o_takes9
