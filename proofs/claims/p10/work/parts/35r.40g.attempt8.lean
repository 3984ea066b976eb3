/-! an act of the class: what it keeps of it, the tables, the log -/
theorem iR_n {a b : Nat} (ha : a < 2 ^ 31) (hb : 0 < b) (hb2 : b < 2 ^ 31) : iR (nI a) (nI b) = nI (a % b) := by
  have e : (iR (nI a) (nI b)).toInt = (a : Int) % (b : Int) := tR (tnI ha) (tnI hb2) (by omega) (by omega)
  have hlt : a % b < 2 ^ 31 := Nat.lt_of_le_of_lt (Nat.mod_le a b) ha
  apply Int32.toInt_inj.mp
  rw [e, tnI hlt]; rfl
theorem mN_n {a b : Nat} (ha : a < 2 ^ 31) (hb : b < 2 ^ 31) : mN (nI a) (nI b) = nI (min a b) := by
  unfold mN
  by_cases c : b < a
  · rw [if_pos ((nI_ltI hb ha).mpr c), Nat.min_eq_right (by omega)]
  · rw [if_neg (mt (nI_ltI hb ha).mp c), Nat.min_eq_left (by omega)]
/-- three places of a row of entries -/
def w3 (w : Nat → Int32) (p : Nat) (a b c : Int32) : Nat → Int32 := fun j => if j = 3 * p + 2 then c else if j = 3 * p + 1 then b else if j = 3 * p then a else w j
theorem c_past {I : gM} {nx m : Nat} (hx : nx < 40) (ex : I 48 2 = nI nx) (hm : m ≤ 40) (em : I 48 0 = nI m) (a b c : Int32) : ∃ r, fX3_add a b c I = some r ∧ r 48 2 = nI ((nx + 1) % 40) ∧ r 48 0 = nI (min (m + 1) 40) ∧ r 49 = w3 (I 49) nx a b c ∧ ∀ q, q ≠ 48 → q ≠ 49 → r q = I q := by
  have h3 : nI nx * 3 = nI (3 * nx) := by rw [L3, nI_mul, Nat.mul_comm]
  have g : ∀ (M : gM) (j : Nat) (v : Int32), g_up M 49 j v 48 = M 48 := fun M j v => g_up_row (by decide)
  unfold fX3_add
  rw [ex, h3, wI_n (by omega) (by omega), obs, g, ex, h3, nI_1, wI_n (by omega) (by omega), obs, g, g, ex, h3, L2, nI_add, wI_n (by omega) (by omega), obs, g, g, g, ex, nI_1, L40, iR_n (by omega) (by omega) (by omega), pU_n, obs, g_up_ne (Or.inr (by decide)), g, g, g, em, nI_1, mN_n (by omega) (by omega), pU_n, obs]
  refine ⟨_, rfl, ?_, ?_, ?_, fun q h1 h2 => ?_⟩
  · rw [g_up_ne (Or.inr (by decide)), g_up_self]
  · rw [g_up_self]
  · funext j
    rw [g_up_row (by decide), g_up_row (by decide), gu_in, gu_in, gu_in]; rfl
  · rw [g_up_row h1, g_up_row h1, g_up_row h2, g_up_row h2, g_up_row h2]
theorem c_log {I : gM} {k nl H : Nat} (hx : nl < 100) (ex : I k 1 = nI nl) (hH : H ≤ 100) (eH : I k 2 = nI H) (a b c : Int32) : ∃ r, fX2_add k a b c I = some r ∧ r k 1 = nI ((nl + 1) % 100) ∧ r k 2 = nI (min (H + 1) 100) ∧ r (k + 1) = w3 (I (k + 1)) nl a b c ∧ ∀ q, q ≠ k → q ≠ k + 1 → r q = I q := by
  have h3 : nI nl * 3 = nI (3 * nl) := by rw [L3, nI_mul, Nat.mul_comm]
  have g : ∀ (M : gM) (j : Nat) (v : Int32), g_up M (k + 1) j v k = M k := fun M j v => g_up_row (by omega)
  unfold fX2_add
  rw [ex, h3, wI_n (by omega) (by omega), obs, g, ex, h3, nI_1, wI_n (by omega) (by omega), obs, g, g, ex, h3, L2, nI_add, wI_n (by omega) (by omega), obs, g, g, g, ex, nI_1, L100, iR_n (by omega) (by omega) (by omega), pU_n, obs, g_up_ne (Or.inr (by decide)), g, g, g, show I k 2 = nI H from eH, nI_1, mN_n (by omega) (by omega), pU_n, obs]
  refine ⟨_, rfl, ?_, ?_, ?_, fun q h1 h2 => ?_⟩
  · rw [g_up_ne (Or.inr (by decide)), g_up_self]
  · rw [g_up_self]
  · funext j
    rw [g_up_row (by omega), g_up_row (by omega), gu_in, gu_in, gu_in]; rfl
  · rw [g_up_row h1, g_up_row h1, g_up_row h2, g_up_row h2, g_up_row h2]
theorem c_attempt {I0 I : gM} {A A' : aT} {s nx m nl H : Nat} {num x y z : Int32} (hM : MI true I0 I) (hs : s < 4) (hk : kn x < 128 ∧ kn y < 128 ∧ kn z < 128) (hW : WF A) (hC : CT I 3 A) (hA : ActA A (nI s) num x y z A') (hr : fX5_refusal 3 (nI s) num x y z I = some (-1))
    (hx : nx < 40) (ex : I 48 2 = nI nx) (hm : m ≤ 40) (em : I 48 0 = nI m) (hl : nl < 100) (el : I 44 1 = nI nl) (hH : H ≤ 100) (eH : I 44 2 = nI H) :
    ∃ r4 r5 r, fX8_attempt (nI s) num x y z I = some (-1, r) ∧ MI true I0 r4 ∧ CT r4 3 A' ∧ fX8_renew r4 = some r5 ∧ MI true I0 r ∧ CT r 3 A' ∧ r 48 2 = nI ((nx + 1) % 40) ∧ r 48 0 = nI (min (m + 1) 40) ∧ r 49 = w3 (I 49) nx (nI s) (backN A (nI s) num) (nI (kyz x y z)) ∧
      r 44 1 = nI ((nl + 1) % 100) ∧ r 44 2 = nI (min (H + 1) 100) ∧ r 45 = w3 (I 45) nl (nI s) num (r5 18 0) ∧ (∀ q, q = 0 ∨ q = 1 ∨ q = 2 ∨ (13 ≤ q ∧ q ≤ 17) ∨ 46 ≤ q ∧ q ≤ 47 ∨ 50 ≤ q ∧ q < 62 → r q = I q) ∧ (∀ q, q ≠ 44 → q ≠ 45 → r q = r5 q) ∧ (∀ j, 3 ≤ j → r 3 j = I 3 j) ∧ r4 22 = I 22 := by
  obtain ⟨p, ep, hp⟩ := tfX8_attempt (nI s) num x y z I hM
  have hbk : (if nI s = (3 : Int32) then I 3 2 else num) = backN A (nI s) num := by
    unfold backN
    rcases (by omega : s = 0 ∨ s = 1 ∨ s = 2 ∨ s = 3) with rfl | rfl | rfl | rfl
    · rw [if_neg (by decide), if_pos (by decide)]
    · rw [if_neg (by decide), if_pos (by decide)]
    · rw [if_neg (by decide), if_pos (by decide)]
    · rw [if_pos (show nI 3 = 3 from rfl), if_neg (by decide)]; exact hC.2.2.1
  have e0 : fX8_attempt (nI s) num x y z I = bX8_attempt_56 (nI s) num (nI (kyz x y z)) (backN A (nI s) num) (nI s) I := by
    unfold fX8_attempt
    rw [hr, obs, if_pos rfl, n_packed hk.1 hk.2.1 hk.2.2, obs, ← hbk]
    by_cases c : nI s = (3 : Int32)
    · rw [if_pos c, if_pos c]
    · rw [if_neg c, if_neg c]
  obtain ⟨r3, e3, a1, a2, a3, a4⟩ := c_past hx ex hm em (nI s) (backN A (nI s) num) (nI (kyz x y z))
  have C3 : CT r3 3 A := hC.cong (fun j _ => by rw [a4 3 (by decide) (by decide)]) (a4 4 (by decide) (by decide)) (a4 5 (by decide) (by decide)) (a4 6 (by decide) (by decide)) (a4 7 (by decide) (by decide))
  obtain ⟨r4, e4, C4, b1, b2⟩ := c_change hW C3 hA
  -- the class's functions keep the ranges
  have M3 : MI true I0 r3 := by
    obtain ⟨r3', e3', M⟩ := tfX3_add (nI s) (backN A (nI s) num) (nI (kyz x y z)) I hM
    rw [e3] at e3'
    cases e3'
    exact M
  have M4 : MI true I0 r4 := by
    obtain ⟨r4', e4', M⟩ := tfX5_change 3 (nI s) num (nI (kyz x y z)) r3 kX5_3 M3
    rw [e4] at e4'
    cases e4'
    exact M
  obtain ⟨r5, e5, M5⟩ := tfX8_renew r4 M4
  have f5 := xfX8_renew _ e5
  have g5 : ∀ q, q ≠ 18 → q ≠ 19 → q ≠ 20 → q ≠ 21 → q ≠ 22 → q ≠ 23 → q ≠ 24 → q ≠ 25 → q ≠ 26 → q ≠ 27 → q ≠ 28 → q ≠ 43 → r5 q = r4 q := fun q h18 h19 h20 h21 h22 h23 h24 h25 h26 h27 h28 h43 => zfX8_renew _ e5 q (by assumption) (by assumption) (by assumption) (by assumption) (by assumption) (by assumption) (by assumption) (by assumption) (by assumption) (by assumption) (by assumption) (by assumption)
  have k44 : r5 44 = I 44 := by rw [g5 44 (by decide) (by decide) (by decide) (by decide) (by decide) (by decide) (by decide) (by decide) (by decide) (by decide) (by decide) (by decide), b1 44 (by omega), a4 44 (by decide) (by decide)]
  have k45 : r5 45 = I 45 := by rw [g5 45 (by decide) (by decide) (by decide) (by decide) (by decide) (by decide) (by decide) (by decide) (by decide) (by decide) (by decide) (by decide), b1 45 (by omega), a4 45 (by decide) (by decide)]
  obtain ⟨r6, e6, c1, c2, c3, c4⟩ := c_log (I := r5) (k := 44) hl (by rw [k44]; exact el) hH (by rw [k44]; exact eH) (nI s) num (r5 18 0)
  have er : fX8_attempt (nI s) num x y z I = some (-1, r6) := by
    rw [e0]
    unfold bX8_attempt_56
    rw [e3, obs, e4, obs, e5, obs, e6, obs]
  rw [ep] at er
  have hpe := Option.some.inj er
  rw [hpe] at hp
  rw [hpe] at ep
  have t5 : ∀ q, 3 ≤ q → q ≤ 7 → r6 q = r4 q := fun q h1 h2 => by rw [c4 q (by omega) (by omega), g5 q (by omega) (by omega) (by omega) (by omega) (by omega) (by omega) (by omega) (by omega) (by omega) (by omega) (by omega) (by omega)]
  refine ⟨r4, r5, r6, ep, M4, C4, e5, hp.2.1, C4.cong (fun j _ => by rw [t5 3 (by omega) (by omega)]) (t5 4 (by omega) (by omega)) (t5 5 (by omega) (by omega)) (t5 6 (by omega) (by omega)) (t5 7 (by omega) (by omega)), ?_, ?_, ?_, c1, c2, ?_, fun q hq => ?_, fun q h1 h2 => c4 q h1 h2, fun j hj => ?_, by rw [b1 22 (by omega), a4 22 (by decide) (by decide)]⟩
  · rw [c4 48 (by decide) (by decide), g5 48 (by decide) (by decide) (by decide) (by decide) (by decide) (by decide) (by decide) (by decide) (by decide) (by decide) (by decide) (by decide), b1 48 (by omega)]; exact a1
  · rw [c4 48 (by decide) (by decide), g5 48 (by decide) (by decide) (by decide) (by decide) (by decide) (by decide) (by decide) (by decide) (by decide) (by decide) (by decide) (by decide), b1 48 (by omega)]; exact a2
  · rw [c4 49 (by decide) (by decide), g5 49 (by decide) (by decide) (by decide) (by decide) (by decide) (by decide) (by decide) (by decide) (by decide) (by decide) (by decide) (by decide), b1 49 (by omega)]; exact a3
  · rw [show r6 45 = r6 (44 + 1) from rfl, c3, show r5 (44 + 1) = r5 45 from rfl, k45]
  · rw [c4 q (by omega) (by omega), g5 q (by omega) (by omega) (by omega) (by omega) (by omega) (by omega) (by omega) (by omega) (by omega) (by omega) (by omega) (by omega), b1 q (by omega), a4 q (by omega) (by omega)]
  · rw [t5 3 (by omega) (by omega), b2 j hj, a4 3 (by decide) (by decide)]
