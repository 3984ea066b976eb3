/-! the log of the class beside the log in the reference's rows -/
def LG (C : Nat) (I : gM) (k e : Nat) (w : Nat → Int32) : Prop := ∃ nl H, nl < 100 ∧ H ≤ 100 ∧ e ≤ H ∧ I k 1 = nI nl ∧ I k 2 = nI H ∧ w 150 = nI (min (H - e) 60) ∧ ∀ i, i < min (H - e) 60 → ∀ c, c < C → w (151 + 3 * (min (H - e) 60 - 1 - i) + c) = I (k + 1) (3 * ((nl + 99 - (i + e)) % 100) + c)
theorem LG.cong {C k e : Nat} {I r : gM} {w w' : Nat → Int32} (h : LG C I k e w) (hC : C ≤ 3) (h1 : r k = I k) (h2 : r (k + 1) = I (k + 1)) (hw : ∀ x, 150 ≤ x → x < 331 → w' x = w x) : LG C r k e w' := by
  obtain ⟨nl, H, a1, a2, a3, a4, a5, a6, a7⟩ := h
  refine ⟨nl, H, a1, a2, a3, by rw [h1]; exact a4, by rw [h1]; exact a5, by rw [hw 150 (by omega) (by omega)]; exact a6, fun i hi c hc => ?_⟩
  rw [hw _ (by omega) (by omega), h2]
  exact a7 i hi c hc
/-- behind one act more: the log of rows kept before -/
theorem LG.old {C e nl H : Nat} {I r : gM} {w : Nat → Int32} {a b v : Int32} (h : LG C I 44 e w) (hC : C ≤ 3) (he : e ≤ 39) (el : I 44 1 = nI nl) (hl : nl < 100) (eH : I 44 2 = nI H) (hH : H ≤ 100) (r1 : r 44 1 = nI ((nl + 1) % 100)) (r2 : r 44 2 = nI (min (H + 1) 100)) (r3 : r 45 = w3 (I 45) nl a b v) : LG C r 44 (e + 1) w := by
  obtain ⟨nl', H', a1, a2, a3, a4, a5, a6, a7⟩ := h
  have : nl' = nl := nI_inj (a4.symm.trans el) (by omega) (by omega)
  subst this
  have : H' = H := nI_inj (a5.symm.trans eH) (by omega) (by omega)
  subst this
  have hm : min (min (H' + 1) 100 - (e + 1)) 60 = min (H' - e) 60 := by omega
  refine ⟨(nl' + 1) % 100, min (H' + 1) 100, by omega, by omega, by omega, r1, r2, by rw [hm]; exact a6, fun i hi c hc => ?_⟩
  rw [hm] at hi ⊢
  rw [a7 i hi c hc]
  show I 45 _ = r 45 _
  rw [r3]
  unfold w3
  have hp : ((nl' + 1) % 100 + 99 - (i + (e + 1))) % 100 = (nl' + 99 - (i + e)) % 100 := by omega
  have hne : (nl' + 99 - (i + e)) % 100 ≠ nl' := by omega
  rw [hp, if_neg (by omega), if_neg (by omega), if_neg (by omega)]
/-- the log as it is then -/
theorem LG.new {C nl H : Nat} {I r : gM} {w w' : Nat → Int32} {a b v v9 : Int32} (h : LG C I 44 0 w) (hC : C ≤ 3) (hv : C = 3 → v = v9) (el : I 44 1 = nI nl) (hl : nl < 100) (eH : I 44 2 = nI H) (hH : H ≤ 100) (r1 : r 44 1 = nI ((nl + 1) % 100)) (r2 : r 44 2 = nI (min (H + 1) 100)) (r3 : r 45 = w3 (I 45) nl a b v) (hw : ∀ j, 150 ≤ j → w' j = w j) : LG C r 44 0 (lg9 w' (min H 60) a b v9) := by
  obtain ⟨nl', H', a1, a2, a3, a4, a5, a6, a7⟩ := h
  have : nl' = nl := nI_inj (a4.symm.trans el) (by omega) (by omega)
  subst this
  have : H' = H := nI_inj (a5.symm.trans eH) (by omega) (by omega)
  subst this
  refine ⟨(nl' + 1) % 100, min (H' + 1) 100, by omega, by omega, by omega, r1, r2, ?_, fun i hi c hc => ?_⟩
  · unfold lg9
    rw [if_pos rfl]
    congr 1
    split <;> omega
  · have hL : (if min H' 60 = 60 then 59 else min H' 60) = min (min (H' + 1) 100 - 0) 60 - 1 := by split <;> omega
    show _ = r 45 _
    rw [r3]
    unfold lg9
    rw [hL]
    generalize hM : min (min (H' + 1) 100 - 0) 60 = M at *
    by_cases c0 : i = 0
    · subst c0
      have hp : ((nl' + 1) % 100 + 99 - (0 + 0)) % 100 = nl' := by omega
      rw [hp]
      unfold w3
      rw [if_neg (by omega)]
      rcases (by omega : c = 0 ∨ c = 1 ∨ c = 2) with rfl | rfl | rfl
      · rw [if_neg (by omega), if_neg (by omega), if_pos (by omega), if_neg (by omega), if_neg (by omega), if_pos (by omega)]
      · rw [if_neg (by omega), if_pos (by omega), if_neg (by omega), if_pos (by omega)]
      · rw [if_pos (by omega), if_pos (by omega)]; exact (hv (by omega)).symm
    · have hp : ((nl' + 1) % 100 + 99 - (i + 0)) % 100 = (nl' + 99 - ((i - 1) + 0)) % 100 := by omega
      have hne : (nl' + 99 - ((i - 1) + 0)) % 100 ≠ nl' := by omega
      rw [hp]
      unfold w3
      rw [if_neg (by omega), if_neg (by omega), if_neg (by omega), if_neg (by omega)]
      rw [if_neg (show ¬ 3 * ((nl' + 99 - ((i - 1) + 0)) % 100) + c = 3 * nl' + 2 by omega), if_neg (show ¬ 3 * ((nl' + 99 - ((i - 1) + 0)) % 100) + c = 3 * nl' + 1 by omega), if_neg (show ¬ 3 * ((nl' + 99 - ((i - 1) + 0)) % 100) + c = 3 * nl' by omega)]
      have q := a7 (i - 1) (by omega) c hc
      by_cases c1 : min H' 60 = 60
      · rw [if_pos ⟨c1, by omega, by omega⟩, hw _ (by omega), ← show I (44 + 1) = I 45 from rfl, ← q]
        congr 1
        omega
      · rw [if_neg (fun z => c1 z.1), hw _ (by omega), ← show I (44 + 1) = I 45 from rfl, ← q]
        congr 1
        omega
/-- what the class keeps of the act from A to A', at depth d -/
def stepA (I : gM) (A A' : aT) (d nx : Nat) : Prop := ∃ s num x y z, s < 4 ∧ ActA A (nI s) num x y z A' ∧ I 49 (3 * ((nx + 39 - d) % 40)) = nI s ∧ I 49 (3 * ((nx + 39 - d) % 40) + 1) = backN A (nI s) num ∧ I 49 (3 * ((nx + 39 - d) % 40) + 2) = nI (kyz x y z)
theorem stepA.cong {I r : gM} {A A' : aT} {d nx : Nat} (h : stepA I A A' d nx) (e : r 49 = I 49) : stepA r A A' d nx := by
  unfold stepA
  rw [e]; exact h
theorem stepA.old {I r : gM} {A A' : aT} {d nx : Nat} {a b c : Int32} (h : stepA I A A' d nx) (hd : d ≤ 38) (hx : nx < 40) (e : r 49 = w3 (I 49) nx a b c) : stepA r A A' (d + 1) ((nx + 1) % 40) := by
  obtain ⟨s, num, x, y, z, hs, h1, h2, h3, h4⟩ := h
  have hp : ((nx + 1) % 40 + 39 - (d + 1)) % 40 = (nx + 39 - d) % 40 := by omega
  have hne : (nx + 39 - d) % 40 ≠ nx := by omega
  have hw : ∀ c, c < 3 → r 49 (3 * ((nx + 39 - d) % 40) + c) = I 49 (3 * ((nx + 39 - d) % 40) + c) := fun c hc => by
    rw [e]
    unfold w3
    rw [if_neg (by omega), if_neg (by omega), if_neg (by omega)]
  refine ⟨s, num, x, y, z, hs, h1, ?_, ?_, ?_⟩
  · rw [hp]; exact (hw 0 (by omega)).trans h2
  · rw [hp, hw 1 (by omega)]; exact h3
  · rw [hp, hw 2 (by omega)]; exact h4
theorem stepA.new {I r : gM} {A A' : aT} {nx s : Nat} {num x y z : Int32} (hs : s < 4) (h : ActA A (nI s) num x y z A') (hx : nx < 40) (e : r 49 = w3 (I 49) nx (nI s) (backN A (nI s) num) (nI (kyz x y z))) : stepA r A A' 0 ((nx + 1) % 40) := by
  have hp : ((nx + 1) % 40 + 39 - 0) % 40 = nx := by omega
  refine ⟨s, num, x, y, z, hs, h, ?_, ?_, ?_⟩
  · rw [hp, e]
    unfold w3
    rw [if_neg (by omega), if_neg (by omega), if_pos rfl]
  · rw [hp, e]
    unfold w3
    rw [if_neg (by omega), if_pos rfl]
  · rw [hp, e]
    unfold w3
    rw [if_pos rfl]
def kept9 (I : gM) (a : Nat) : Nat → Int32 := fun x => I 81 (331 * a + x)
/-- tables, acts, log, image, status of both objects -/
def InvS (C : Nat) (I : gM) (S : Nat → aT) (m nx : Nat) : Prop := (m ≤ 40 ∧ nx < 40 ∧ I 48 0 = nI m ∧ I 48 2 = nI nx ∧ I 62 29 = nI m) ∧ (∀ a, a ≤ m → WF (S a)) ∧ (CT I 3 (S m) ∧ RT I (I 70) (S m) ∧ LG C I 44 0 (I 70)) ∧ (∀ a, a < m → RT I (kept9 I a) (S a) ∧ LG C I 44 (m - a) (kept9 I a) ∧ stepA I (S a) (S (a + 1)) (m - 1 - a) nx) ∧ (I 0 15 = I 62 42 ∧ (I 62 42 ≠ 0 → ∃ B, WF B ∧ CT I 13 B ∧ RT I (I 89) B ∧ LG C I 46 0 (I 89))) ∧ ∀ j, j < 4 → I 53 j = I 71 j
def InvR (C : Nat) (I : gM) : Prop := ∃ S m nx, InvS C I S m nx
theorem WF.k12 {A : aT} (h : WF A) : ∀ t, t < A.1.length → (aK A t).length ≤ 12 := fun t ht => (h.2.2.2.2 t ht).2.2.2.1
/-- nothing of that is touched but the status, which stays the same -/
theorem InvS.keepR {C : Nat} {I r : gM} {S : Nat → aT} {m nx : Nat} (h : InvS C I S m nx) (hC : C ≤ 3) (h0 : r 0 15 = I 0 15) (h8 : ∀ k, (3 ≤ k ∧ k ≤ 7) ∨ (13 ≤ k ∧ k ≤ 17) ∨ (44 ≤ k ∧ k ≤ 49) → r k = I k) (h62 : ∀ j, j = 17 ∨ j = 29 ∨ j = 42 → r 62 j = I 62 j) (h9 : ∀ k, k = 70 ∨ k = 72 ∨ k = 73 ∨ k = 81 ∨ k = 89 → r k = I k) (h53 : ∀ j, j < 4 → r 53 j = r 71 j) : InvS C r S m nx := by
  obtain ⟨⟨a1, a2, a3, a4, a5⟩, hW, ⟨b1, b2, b3⟩, hk, ⟨c1, c2⟩, c3⟩ := h
  have kC : ∀ {A : aT}, WF A → ∀ {w}, RT I w A → RT r w A := fun hA _ q => q.cong (h62 17 (by omega)) (h9 72 (by omega)) (h9 73 (by omega)) hA.1 hA.k12 (fun _ _ => rfl)
  refine ⟨⟨a1, a2, by rw [h8 48 (by omega)]; exact a3, by rw [h8 48 (by omega)]; exact a4, by rw [h62 29 (by omega)]; exact a5⟩, hW, ⟨?_, ?_, ?_⟩, fun a ha => ⟨?_, ?_, ?_⟩, ⟨by rw [h0, h62 42 (by omega)]; exact c1, fun q => ?_⟩, h53⟩
  · exact b1.cong (fun j _ => by rw [h8 3 (by omega)]) (h8 4 (by omega)) (h8 5 (by omega)) (h8 6 (by omega)) (h8 7 (by omega))
  · rw [h9 70 (by omega)]; exact kC (hW m (Nat.le_refl _)) b2
  · rw [h9 70 (by omega)]; exact b3.cong hC (h8 44 (by omega)) (h8 45 (by omega)) (fun _ _ _ => rfl)
  · have e : kept9 r a = kept9 I a := by unfold kept9; rw [h9 81 (by omega)]
    rw [e]; exact kC (hW a (by omega)) (hk a ha).1
  · have e : kept9 r a = kept9 I a := by unfold kept9; rw [h9 81 (by omega)]
    rw [e]; exact (hk a ha).2.1.cong hC (h8 44 (by omega)) (h8 45 (by omega)) (fun _ _ _ => rfl)
  · exact (hk a ha).2.2.cong (h8 49 (by omega))
  · rw [h62 42 (by omega)] at q
    obtain ⟨B, d1, d2, d3, d4⟩ := c2 q
    refine ⟨B, d1, d2.cong (fun j _ => by rw [h8 13 (by omega)]) (h8 14 (by omega)) (h8 15 (by omega)) (h8 16 (by omega)) (h8 17 (by omega)), by rw [h9 89 (by omega)]; exact kC d1 d3, by rw [h9 89 (by omega)]; exact d4.cong hC (h8 46 (by omega)) (h8 47 (by omega)) (fun _ _ _ => rfl)⟩
theorem InvS.refs {C : Nat} {I : gM} {S : Nat → aT} {m nx : Nat} (h : InvS C I S m nx) : ∀ j, j < 4 → I 53 j = I 71 j := h.2.2.2.2.2
/-- nothing of that is touched -/
theorem InvS.keep {C : Nat} {I r : gM} {S : Nat → aT} {m nx : Nat} (h : InvS C I S m nx) (hC : C ≤ 3) (h0 : r 0 15 = I 0 15) (h8 : ∀ k, (3 ≤ k ∧ k ≤ 7) ∨ (13 ≤ k ∧ k ≤ 17) ∨ (44 ≤ k ∧ k ≤ 49) ∨ k = 53 → r k = I k) (h62 : ∀ j, j = 17 ∨ j = 29 ∨ j = 42 → r 62 j = I 62 j) (h9 : ∀ k, k = 70 ∨ k = 71 ∨ k = 72 ∨ k = 73 ∨ k = 81 ∨ k = 89 → r k = I k) : InvS C r S m nx :=
  h.keepR hC h0 (fun k hk => h8 k (by omega)) h62 (fun k hk => h9 k (by omega)) (fun j hj => by rw [h8 53 (by omega), h9 71 (by omega)]; exact h.refs j hj)
