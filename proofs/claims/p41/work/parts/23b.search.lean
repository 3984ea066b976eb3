/-! the search of the class, by hand -/
/-- at a depth each table that has the letter stands ahead of its end -/
def jB (k : Nat) (d : Int) (I : gM) : Prop := ∀ i : Nat, 4 * d ≤ (i : Int) → (i : Int) < 4 * d + 4 → ¬ (I (k + 7) i).toInt = -1 → (I (k + 10) i).toInt < (I (k + 9) i).toInt
theorem jB.same {k : Nat} {d : Int} {I I' : gM} (h : jB k d I) (h7 : I' (k + 7) = I (k + 7)) (h10 : ∀ i : Nat, (i : Int) < 4 * d + 4 → I' (k + 10) i = I (k + 10) i) (h9 : ∀ i : Nat, (i : Int) < 4 * d + 4 → I' (k + 9) i = I (k + 9) i) : jB k d I' := fun i a b c => by
  rw [h10 i b, h9 i b]; exact h i a b (by rw [← h7]; exact c)
set_option maxRecDepth 100000 in
set_option maxHeartbeats 1000000 in
theorem tfX1_isOpened {I0 : gM} (k : Nat) (v1 : Int32) (I : gM) (hk : kX1 k) (hM : MI true I0 I) (av1 : 0 ≤ v1.toInt ∧ v1.toInt ≤ 3) : T (fX1_isOpened k v1 I) (fun r => MI true I0 r.2 ∧ (r.1 = 0 ∨ jB k v1.toInt r.2) ∧ ∀ j : Nat, (j : Int) < 4 * v1.toInt → r.2 (k + 10) j = I (k + 10) j) := by
  have hk_1 := hk.1
  have hk_2 := hk.2.1
  unfold fX1_isOpened lX1_isOpened_4
  have n4 : (4 : Int32).toInt = 4 := by decide
  have e4 : (v1 * 4).toInt = v1.toInt * 4 := tM rfl n4 (by omega) (by omega)
  have e5 : (v1 + 1).toInt = v1.toInt + 1 := tA rfl (by decide : (1 : Int32).toInt = 1) (by omega) (by omega)
  have e6 : ((v1 + 1) * 4).toInt = (v1.toInt + 1) * 4 := tM e5 n4 (by omega) (by omega)
  refine t_bind (t_it (P := fun s : Int32 × gM => 4 * v1.toInt ≤ s.1.toInt ∧ s.1.toInt ≤ 4 * v1.toInt + 4 ∧ MI true I0 s.2 ∧ (∀ q, q ≠ k + 10 → s.2 q = I q) ∧ (∀ j : Nat, 4 * v1.toInt ≤ (j : Int) → (j : Int) < s.1.toInt → ¬ (I (k + 7) j).toInt = -1 → (s.2 (k + 10) j).toInt < (I (k + 9) j).toInt) ∧ (∀ j : Nat, (j : Int) < 4 * v1.toInt → s.2 (k + 10) j = I (k + 10) j))
    (μ := fun s : Int32 × gM => (17 - s.1.toInt).toNat) (Q := Sum.elim (fun r : gM => MI true I0 r ∧ ∀ j : Nat, (j : Int) < 4 * v1.toInt → r (k + 10) j = I (k + 10) j) (fun r : gM => MI true I0 r ∧ jB k v1.toInt r ∧ ∀ j : Nat, (j : Int) < 4 * v1.toInt → r (k + 10) j = I (k + 10) j)) (fun s p => ?_)
    ⟨by show 4 * v1.toInt ≤ (v1 * 4).toInt; omega, by show (v1 * 4).toInt ≤ 4 * v1.toInt + 4; omega, hM, fun _ _ => rfl, fun j a b => by have b : (j : Int) < (v1 * 4).toInt := b; omega, fun _ _ => rfl⟩) (fun w pw => ?_)
  · obtain ⟨p1, p2, hs, p4, p5, p6⟩ := p
    refine t_ite (fun c => ?_) (fun c => ?_)
    · have c1 := (iLE (a := (v1 + 1) * 4) (b := s.1) e6 rfl).mp c
      refine t_ret (show MI true I0 s.2 ∧ jB k v1.toInt s.2 ∧ ∀ j : Nat, (j : Int) < 4 * v1.toInt → s.2 (k + 10) j = I (k + 10) j from ⟨hs, fun i a b d => ?_, p6⟩)
      rw [p4 (k + 9) (by omega)]
      rw [p4 (k + 7) (by omega)] at d
      exact p5 i a (by omega) d
    · have c1 := mt (iLE (a := (v1 + 1) * 4) (b := s.1) e6 rfl).mpr c
      refine t_rI (lo := 0) (hi := 48) hs (fun j _ => hk.2.2.2.2.2.2.2.2.2.2.2.2.1 j) rfl (by omega) (by omega) (fun u1 eu1 bu1 => ?_)
      refine t_wI (lo := 0) (hi := 48) hs (ble_lt (by omega)) (fun j _ => hk.2.2.2.2.2.2.2.2.2.2.2.2.2.2 j) rfl (by omega) (by omega) bu1 (fun I2 eI2 hI2 => ?_)
      refine t_rI (lo := (-2147483648)) (hi := 2147483647) hI2 (fun j _ => hk.2.2.2.2.2.2.2.2.2.2.2.1 j) rfl (by omega) (by omega) (fun u3 eu3 bu3 => ?_)
      have f7 : I2 (k + 7) = I (k + 7) := by rw [eI2, g_up_row (by omega), p4 _ (by omega)]
      have f9 : I2 (k + 9) = I (k + 9) := by rw [eI2, g_up_row (by omega), p4 _ (by omega)]
      have f8 : I2 (k + 8) = s.2 (k + 8) := by rw [eI2, g_up_row (by omega)]
      have n1 : (s.1 + 1).toInt = s.1.toInt + 1 := tA rfl (by decide : (1 : Int32).toInt = 1) (by omega) (by omega)
      have low : ∀ j : Nat, (j : Int) < 4 * v1.toInt → I2 (k + 10) j = I (k + 10) j := fun j h => by
        rw [eI2, g_up_ne (Or.inr (by omega))]; exact p6 j h
      have next : ∀ (x : (I2 (k + 7) s.1.toInt.toNat).toInt = -1 ∨ u1.toInt < (I (k + 9) s.1.toInt.toNat).toInt), T (some (Sum.inl (s.1 + 1, I2)) : Option ((Int32 × gM) ⊕ (gM ⊕ gM))) (LQ (fun s : Int32 × gM => 4 * v1.toInt ≤ s.1.toInt ∧ s.1.toInt ≤ 4 * v1.toInt + 4 ∧ MI true I0 s.2 ∧ (∀ q, q ≠ k + 10 → s.2 q = I q) ∧ (∀ j : Nat, 4 * v1.toInt ≤ (j : Int) → (j : Int) < s.1.toInt → ¬ (I (k + 7) j).toInt = -1 → (s.2 (k + 10) j).toInt < (I (k + 9) j).toInt) ∧ (∀ j : Nat, (j : Int) < 4 * v1.toInt → s.2 (k + 10) j = I (k + 10) j)) (17 - s.1.toInt).toNat (fun s : Int32 × gM => (17 - s.1.toInt).toNat) (Sum.elim (fun r : gM => MI true I0 r ∧ ∀ j : Nat, (j : Int) < 4 * v1.toInt → r (k + 10) j = I (k + 10) j) (fun r : gM => MI true I0 r ∧ jB k v1.toInt r ∧ ∀ j : Nat, (j : Int) < 4 * v1.toInt → r (k + 10) j = I (k + 10) j))) := fun x => by
        refine t_ret ⟨⟨by show 4 * v1.toInt ≤ (s.1 + 1).toInt; omega, by show (s.1 + 1).toInt ≤ 4 * v1.toInt + 4; omega, hI2, fun q h => ?_, fun j a b d => ?_, low⟩, by show (17 - (s.1 + 1).toInt).toNat < (17 - s.1.toInt).toNat; omega⟩
        · show I2 q = I q
          rw [eI2, g_up_row h]; exact p4 q h
        · show (I2 (k + 10) j).toInt < (I (k + 9) j).toInt
          have b : (j : Int) < (s.1 + 1).toInt := b
          by_cases z : j = s.1.toInt.toNat
          · subst z
            rw [eI2, g_up_self]
            rcases x with x | x
            · rw [f7] at x; exact absurd x d
            · exact x
          · rw [eI2, g_up_ne (Or.inr z)]; exact p5 j a (by omega) d
      refine t_ite (fun c3 => ?_) (fun c3 => ?_)
      · have c3i := (iEQ (a := u3) (b := ((-1) : Int32)) rfl (by decide : ((-1) : Int32).toInt = -1)).mp c3
        unfold bX1_isOpened_52
        exact next (Or.inl (by rw [← eu3]; exact c3i))
      · refine t_rI (lo := 0) (hi := 48) hI2 (fun j _ => hk.2.2.2.2.2.2.2.2.2.2.2.2.1 j) rfl (by omega) (by omega) (fun u4 eu4 bu4 => ?_)
        refine t_rI (lo := 0) (hi := 48) hI2 (fun j _ => hk.2.2.2.2.2.2.2.2.2.2.2.2.2.1 j) rfl (by omega) (by omega) (fun u5 eu5 bu5 => ?_)
        refine t_ite (fun c5 => ?_) (fun c5 => ?_)
        · have c5i := (iLT (a := u4) (b := u5) rfl rfl).mp c5
          unfold bX1_isOpened_52
          refine next (Or.inr ?_)
          rw [eu4, f8, ← eu1, eu5, f9] at c5i
          exact c5i
        · exact t_ret (show MI true I0 I2 ∧ ∀ j : Nat, (j : Int) < 4 * v1.toInt → I2 (k + 10) j = I (k + 10) j from ⟨hI2, low⟩)
  · rcases w with w | w
    · obtain ⟨q1, q2⟩ := (show MI true I0 w ∧ ∀ j : Nat, (j : Int) < 4 * v1.toInt → w (k + 10) j = I (k + 10) j from pw)
      exact t_ret ⟨q1, Or.inl rfl, q2⟩
    · obtain ⟨q1, q2, q3⟩ := (show MI true I0 w ∧ jB k v1.toInt w ∧ ∀ j : Nat, (j : Int) < 4 * v1.toInt → w (k + 10) j = I (k + 10) j from pw)
      exact t_ret ⟨q1, Or.inr q2, q3⟩
set_option maxRecDepth 100000 in
set_option maxHeartbeats 1000000 in
theorem tfX1_greatestKey {I0 : gM} (k : Nat) (v1 : Int32) (I : gM) (hk : kX1 k) (hM : MI true I0 I) (av1 : 0 ≤ v1.toInt ∧ v1.toInt ≤ 3) (hB : jB k v1.toInt I) : T (fX1_greatestKey k v1 I) (fun r => -1 ≤ r.toInt ∧ r.toInt ≤ 127) := by
  have hk_1 := hk.1
  have hk_2 := hk.2.1
  unfold fX1_greatestKey lX1_greatestKey_6
  have n4 : (4 : Int32).toInt = 4 := by decide
  have e4 : (v1 * 4).toInt = v1.toInt * 4 := tM rfl n4 (by omega) (by omega)
  have e5 : (v1 + 1).toInt = v1.toInt + 1 := tA rfl (by decide : (1 : Int32).toInt = 1) (by omega) (by omega)
  have e6 : ((v1 + 1) * 4).toInt = (v1.toInt + 1) * 4 := tM e5 n4 (by omega) (by omega)
  refine t_bind (t_it (P := fun s : Int32 × Int32 => (4 * v1.toInt ≤ s.2.toInt ∧ s.2.toInt ≤ 4 * v1.toInt + 4) ∧ -1 ≤ s.1.toInt ∧ s.1.toInt ≤ 127) (μ := fun s : Int32 × Int32 => (17 - s.2.toInt).toNat) (Q := fun r : Int32 => -1 ≤ r.toInt ∧ r.toInt ≤ 127) (fun s p => ?_) ⟨⟨by show 4 * v1.toInt ≤ (v1 * 4).toInt; omega, by show (v1 * 4).toInt ≤ 4 * v1.toInt + 4; omega⟩, by show -1 ≤ ((-1) : Int32).toInt ∧ ((-1) : Int32).toInt ≤ 127; decide⟩) (fun w pw => t_ret pw)
  obtain ⟨p1, p2⟩ := p
  refine t_ite (fun c => ?_) (fun c => ?_)
  · exact t_ret (show -1 ≤ s.1.toInt ∧ s.1.toInt ≤ 127 from p2)
  · have c1 := mt (iLE (a := (v1 + 1) * 4) (b := s.2) e6 rfl).mpr c
    have n1 : (s.2 + 1).toInt = s.2.toInt + 1 := tA rfl (by decide : (1 : Int32).toInt = 1) (by omega) (by omega)
    refine t_rI (lo := (-2147483648)) (hi := 2147483647) hM (fun j _ => hk.2.2.2.2.2.2.2.2.2.2.2.1 j) rfl (by omega) (by omega) (fun u1 eu1 bu1 => ?_)
    refine t_ite (fun c2 => ?_) (fun c2 => ?_)
    · unfold bX1_greatestKey_51
      exact t_ret ⟨⟨⟨by show 4 * v1.toInt ≤ (s.2 + 1).toInt; omega, by show (s.2 + 1).toInt ≤ 4 * v1.toInt + 4; omega⟩, p2⟩, by show (17 - (s.2 + 1).toInt).toNat < (17 - s.2.toInt).toNat; omega⟩
    · have c2i := mt (iEQ (a := u1) (b := ((-1) : Int32)) rfl (by decide : ((-1) : Int32).toInt = -1)).mpr c2
      have hb := hB s.2.toInt.toNat (by omega) (by omega) (by rw [← eu1]; exact c2i)
      have h9 := hM.at (hk.2.2.2.2.2.2.2.2.2.2.2.2.2.1 s.2.toInt.toNat)
      refine t_rI (lo := 0) (hi := 48) hM (fun j _ => hk.2.2.2.2.2.2.2.2.2.2.2.2.2.2 j) rfl (by omega) (by omega) (fun u2 eu2 bu2 => ?_)
      rw [← eu2] at hb
      refine t_rI (lo := (-2147483648)) (hi := 2147483647) hM (fun j _ => hk.2.2.2.2.2.2.2.2.2.1 j) rfl (by omega) (by omega) (fun u3 eu3 bu3 => ?_)
      refine t_rI (lo := (-2147483648)) (hi := 2147483647) hM (fun j _ => hk.2.2.2.2.2.2.2.2.2.2.2.1 j) rfl (by omega) (by omega) (fun u4 eu4 bu4 => ?_)
      unfold bX1_greatestKey_51
      have hn := and_b (u3 >>> (u4 &&& 31)) (c := 127) (Or.inl rfl)
      have h127 : (127 : Int32).toInt = 127 := by decide
      rw [h127] at hn
      have hx := tX (a := s.1) (b := (u3 >>> (u4 &&& 31)) &&& 127) rfl rfl
      exact t_ret ⟨⟨⟨by show 4 * v1.toInt ≤ (s.2 + 1).toInt; omega, by show (s.2 + 1).toInt ≤ 4 * v1.toInt + 4; omega⟩, by show -1 ≤ (mX s.1 ((u3 >>> (u4 &&& 31)) &&& 127)).toInt ∧ (mX s.1 ((u3 >>> (u4 &&& 31)) &&& 127)).toInt ≤ 127; rw [hx]; omega⟩, by show (17 - (s.2 + 1).toInt).toNat < (17 - s.2.toInt).toNat; omega⟩
set_option maxRecDepth 100000 in
set_option maxHeartbeats 1000000 in
theorem tfX1_lowestBelow {I0 : gM} (k : Nat) (v1 v2 : Int32) (I : gM) (hk : kX1 k) (hM : MI true I0 I) (av1 : 0 ≤ v1.toInt ∧ v1.toInt ≤ 3) (hB : jB k v1.toInt I) : T (fX1_lowestBelow k v1 v2 I) (fun r => -1 ≤ r.toInt ∧ r.toInt ≤ 3) := by
  have hk_1 := hk.1
  have hk_2 := hk.2.1
  unfold fX1_lowestBelow lX1_lowestBelow_2
  have n4 : (4 : Int32).toInt = 4 := by decide
  have e4 : (v1 * 4).toInt = v1.toInt * 4 := tM rfl n4 (by omega) (by omega)
  refine t_bind (t_it (P := fun s : Int32 => 0 ≤ s.toInt ∧ s.toInt ≤ 4) (μ := fun s : Int32 => (5 - s.toInt).toNat) (Q := Sum.elim (fun r : Int32 => 0 ≤ r.toInt ∧ r.toInt ≤ 3) (fun _ : Unit => True)) (fun s p => ?_) (by show 0 ≤ (0 : Int32).toInt ∧ (0 : Int32).toInt ≤ 4; decide)) (fun w pw => ?_)
  · refine t_ite (fun c => ?_) (fun c => ?_)
    · exact t_ret (show True from trivial)
    · have c1 := mt (iLE (a := (4 : Int32)) (b := s) n4 rfl).mpr c
      have n1 : (s + 1).toInt = s.toInt + 1 := tA rfl (by decide : (1 : Int32).toInt = 1) (by omega) (by omega)
      have e7 : ((v1 * 4) + s).toInt = v1.toInt * 4 + s.toInt := tA e4 rfl (by omega) (by omega)
      have next : T (some (Sum.inl (s + 1)) : Option (Int32 ⊕ (Int32 ⊕ Unit))) (LQ (fun s : Int32 => 0 ≤ s.toInt ∧ s.toInt ≤ 4) (5 - s.toInt).toNat (fun s : Int32 => (5 - s.toInt).toNat) (Sum.elim (fun r : Int32 => 0 ≤ r.toInt ∧ r.toInt ≤ 3) (fun _ : Unit => True))) :=
        t_ret ⟨⟨by omega, by omega⟩, by show (5 - (s + 1).toInt).toNat < (5 - s.toInt).toNat; omega⟩
      refine t_rI (lo := (-2147483648)) (hi := 2147483647) hM (fun j _ => hk.2.2.2.2.2.2.2.2.2.2.2.1 j) e7 (by omega) (by omega) (fun u1 eu1 bu1 => ?_)
      refine t_ite (fun c2 => ?_) (fun c2 => ?_)
      · unfold bX1_lowestBelow_54; exact next
      · have c2i := mt (iEQ (a := u1) (b := ((-1) : Int32)) rfl (by decide : ((-1) : Int32).toInt = -1)).mpr c2
        have hb := hB (v1.toInt * 4 + s.toInt).toNat (by omega) (by omega) (by rw [← eu1]; exact c2i)
        have h9 := hM.at (hk.2.2.2.2.2.2.2.2.2.2.2.2.2.1 (v1.toInt * 4 + s.toInt).toNat)
        refine t_rI (lo := 0) (hi := 48) hM (fun j _ => hk.2.2.2.2.2.2.2.2.2.2.2.2.2.2 j) e7 (by omega) (by omega) (fun u2 eu2 bu2 => ?_)
        rw [← eu2] at hb
        refine t_rI (lo := (-2147483648)) (hi := 2147483647) hM (fun j _ => hk.2.2.2.2.2.2.2.2.2.1 j) rfl (by omega) (by omega) (fun u3 eu3 bu3 => ?_)
        refine t_rI (lo := (-2147483648)) (hi := 2147483647) hM (fun j _ => hk.2.2.2.2.2.2.2.2.2.2.2.1 j) e7 (by omega) (by omega) (fun u4 eu4 bu4 => ?_)
        refine t_ite (fun c3 => ?_) (fun c3 => ?_)
        · unfold bX1_lowestBelow_54; exact next
        · exact t_ret (show 0 ≤ s.toInt ∧ s.toInt ≤ 3 from ⟨p.1, by omega⟩)
  · rcases w with w | w
    · obtain ⟨q1, q2⟩ := (show 0 ≤ w.toInt ∧ w.toInt ≤ 3 from pw)
      exact t_ret ⟨by omega, q2⟩
    · exact t_ret (show -1 ≤ ((-1) : Int32).toInt ∧ ((-1) : Int32).toInt ≤ 3 from by decide)
theorem ynarrow {k : Nat} {v1 v2 : Int32} {I r : gM} (h : fX1_narrow k v1 v2 I = some r) (av1 : 0 ≤ v1.toInt ∧ v1.toInt ≤ 3) (j : Nat) (hj : (j : Int) < 4 * v1.toInt + 4) : r (k + 9) j = I (k + 9) j := by
  unfold fX1_narrow at h
  obtain ⟨w, e, h⟩ := ob h
  obtain rfl := Option.some.inj h
  have n4 : (4 : Int32).toInt = 4 := by decide
  have e4 : (v1 * 4).toInt = v1.toInt * 4 := tM rfl n4 (by omega) (by omega)
  have e5 : (v1 + 1).toInt = v1.toInt + 1 := tA rfl (by decide : (1 : Int32).toInt = 1) (by omega) (by omega)
  have e6 : ((v1 + 1) * 4).toInt = (v1.toInt + 1) * 4 := tM e5 n4 (by omega) (by omega)
  have key : ∀ s : Int32 × gM, lX1_narrow_4 k v1 v2 s = some w → 4 * v1.toInt ≤ s.1.toInt → w (k + 9) j = s.2 (k + 9) j := by
    unfold lX1_narrow_4
    refine itO_ind (P := fun s : Int32 × gM => 4 * v1.toInt ≤ s.1.toInt → w (k + 9) j = s.2 (k + 9) j) (fun s y h hl hr hs => ?_)
    rcases oi h with ⟨c, h⟩ | ⟨c, h⟩
    · obtain rfl := Option.some.inj h
      have hh := hr _ rfl
      subst hh; rfl
    · have c1 := mt (iLE (a := (v1 + 1) * 4) (b := s.1) e6 rfl).mpr c
      have m4 : (s.1 + 4).toInt = s.1.toInt + 4 := tA rfl n4 (by omega) (by omega)
      have n1 : (s.1 + 1).toInt = s.1.toInt + 1 := tA rfl (by decide : (1 : Int32).toInt = 1) (by omega) (by omega)
      obtain ⟨u1, -, h⟩ := ob h
      obtain ⟨I2, eI2, h⟩ := ob h
      obtain ⟨u3, -, h⟩ := ob h
      obtain ⟨I4, eI4, h⟩ := ob h
      obtain ⟨u5, -, h⟩ := ob h
      have f2 : I2 (k + 9) = s.2 (k + 9) := by rw [← (wI_some eI2).2.2]; exact g_up_row (by omega)
      have f4 : I4 (k + 9) j = s.2 (k + 9) j := by
        rw [← (wI_some eI4).2.2, m4, g_up_ne (Or.inr (by omega)), f2]
      rcases oi h with ⟨-, h⟩ | ⟨-, h⟩
      · unfold bX1_narrow_109 at h
        obtain rfl := Option.some.inj h
        exact (hl (s.1 + 1, I4) rfl (by show 4 * v1.toInt ≤ (s.1 + 1).toInt; omega)).trans f4
      · obtain ⟨u6, -, h⟩ := ob h
        obtain ⟨w10, -, h⟩ := ob h
        unfold bX1_narrow_100 at h
        obtain ⟨I11, eI11, h⟩ := ob h
        unfold bX1_narrow_109 at h
        obtain rfl := Option.some.inj h
        refine (hl (s.1 + 1, I11) rfl (by show 4 * v1.toInt ≤ (s.1 + 1).toInt; omega)).trans ?_
        show I11 (k + 9) j = s.2 (k + 9) j
        rw [← (wI_some eI11).2.2, m4, g_up_ne (Or.inr (by omega)), f4]
  exact key _ e (by show 4 * v1.toInt ≤ (v1 * 4).toInt; omega)
theorem yisLeapt {k : Nat} {v1 v2 : Int32} {I : gM} {r : Int32 × gM} (h : fX1_isLeapt k v1 v2 I = some r) (j : Nat) (hj : j ≠ v1.toInt.toNat) : r.2 (k + 10) j = I (k + 10) j := by
  unfold fX1_isLeapt at h
  obtain ⟨u1, -, h⟩ := ob h
  obtain ⟨w5, -, h⟩ := ob h
  unfold bX1_isLeapt_43 at h
  obtain ⟨I6, e6, h⟩ := ob h
  obtain ⟨I7, e7, h⟩ := ob h
  obtain ⟨u8, -, h⟩ := ob h
  have f6 : I6 (k + 10) j = I (k + 10) j := by rw [← (wI_some e6).2.2]; exact g_up_ne (Or.inr hj)
  have f7 : I7 (k + 10) j = I (k + 10) j := by rw [← pU_some e7, g_up_row (by omega)]; exact f6
  rcases oi h with ⟨-, h⟩ | ⟨-, h⟩
  · obtain rfl := Option.some.inj h; exact f7
  · obtain rfl := Option.some.inj h; exact f7
/-- what the search below a depth leaves: the shifts, how many letters, where tables stand below a and end below b -/
def jQ (I0 : gM) (k : Nat) (a b : Int) (I r : gM) : Prop := MI true I0 r ∧ r k 2 = I k 2 ∧ r (k + 7) = I (k + 7) ∧ (∀ j : Nat, (j : Int) < a → r (k + 10) j = I (k + 10) j) ∧ ∀ j : Nat, (j : Int) < b → r (k + 9) j = I (k + 9) j
theorem jQ.tr {I0 : gM} {k : Nat} {a b a' b' : Int} {I r r' : gM} (h : jQ I0 k a b I r) (h' : jQ I0 k a' b' r r') (ha : a ≤ a') (hb : b ≤ b') : jQ I0 k a b I r' := ⟨h'.1, h'.2.1.trans h.2.1, h'.2.2.1.trans h.2.2.1, fun j q => (h'.2.2.2.1 j (by omega)).trans (h.2.2.2.1 j q), fun j q => (h'.2.2.2.2 j (by omega)).trans (h.2.2.2.2 j q)⟩
theorem jQ.rf {I0 : gM} {k : Nat} {a b : Int} {I : gM} (h : MI true I0 I) : jQ I0 k a b I I := ⟨h, rfl, rfl, fun _ _ => rfl, fun _ _ => rfl⟩
abbrev jR (I0 : gM) (k : Nat) (rec : Int32 → gM → Option gM) (n : Int) : Prop := ∀ (d : Int32) (I : gM), MI true I0 I → 0 ≤ d.toInt → d.toInt ≤ (I k 2).toInt → (I k 2).toInt - d.toInt < n → T (rec d I) (fun r => jQ I0 k (4 * d.toInt) (4 * d.toInt + 4) I r)
set_option maxRecDepth 100000 in
set_option maxHeartbeats 1000000 in
theorem tfX1_deepen {I0 : gM} (rec : Int32 → gM → Option gM) (k : Nat) (v1 v2 : Int32) (I : gM) {n : Int} (hrec : jR I0 k rec n) (hk : kX1 k) (hM : MI true I0 I) (a1 : 0 ≤ v1.toInt ∧ v1.toInt < (I k 2).toInt) (hn : (I k 2).toInt - v1.toInt < n + 1) : T (fX1_deepen rec k v1 v2 I) (fun r => jQ I0 k (4 * v1.toInt + 4) (4 * v1.toInt + 4) I r) := by
  have hk_1 := hk.1
  have hk_2 := hk.2.1
  have hd := hM.at hk.2.2.2.2.1
  unfold fX1_deepen
  have e5 : (v1 + 1).toInt = v1.toInt + 1 := tA rfl (by decide : (1 : Int32).toInt = 1) (by omega) (by omega)
  refine t_rI (lo := (-2147483648)) (hi := 2147483647) hM (fun j _ => hk.2.2.2.2.2.1 j) rfl (by omega) (by omega) (fun u1 eu1 bu1 => ?_)
  refine t_wI (lo := (-2147483648)) (hi := 2147483647) hM (ble_lt (by omega)) (fun j _ => hk.2.2.2.2.2.1 j) rfl (by omega) (by omega) (tTop _) (fun I2 eI2 hI2 => ?_)
  refine t_rI (lo := (-2147483648)) (hi := 2147483647) hI2 (fun j _ => hk.2.2.2.2.2.2.2.2.1 j) rfl (by omega) (by omega) (fun u3 eu3 bu3 => ?_)
  refine t_rI (lo := 0) (hi := 3) hI2 (fun j _ => hk.2.2.2.2.2.2.1 j) rfl (by omega) (by omega) (fun u4 eu4 bu4 => ?_)
  refine t_wI (lo := (-2147483648)) (hi := 2147483647) hI2 (ble_lt (by omega)) (fun j _ => hk.2.2.2.2.2.2.2.2.1 j) e5 (by omega) (by omega) (tTop _) (fun I5 eI5 hI5 => ?_)
  have f5 : ∀ q, q ≠ k + 1 → q ≠ k + 4 → I5 q = I q := fun q a b => by rw [eI5, g_up_row b, eI2, g_up_row a]
  have q5 : jQ I0 k (4 * v1.toInt + 4) (4 * v1.toInt + 4) I I5 := ⟨hI5, by rw [f5 k (by omega) (by omega)], f5 _ (by omega) (by omega), fun j _ => by rw [f5 (k + 10) (by omega) (by omega)], fun j _ => by rw [f5 (k + 9) (by omega) (by omega)]⟩
  have d5 : (I5 k 2).toInt = (I k 2).toInt := by rw [q5.2.1]
  refine t_ite (fun c => ?_) (fun c => ?_)
  · refine t_ite (fun c2 => ?_) (fun c2 => ?_)
    · exact t_ret q5
    · have c2i := mt (iLE (a := (20736 : Int32)) (b := I5 k 0) (by decide : (20736 : Int32).toInt = 20736) rfl).mpr c2
      have b0 := hI5.at hk.2.2.1
      refine t_rI (lo := (-2147483648)) (hi := 2147483647) hI5 (fun j _ => hk.2.2.2.2.2.2.2.2.1 j) e5 (by omega) (by omega) (fun u6 eu6 bu6 => ?_)
      refine t_wI (lo := (-2147483648)) (hi := 2147483647) hI5 (ble_lt (by omega)) (fun j _ => hk.2.2.2.2.2.2.2.1 j) rfl (by omega) (by omega) bu6 (fun I7 eI7 hI7 => ?_)
      have g7 : I7 k 0 = I5 k 0 := by rw [eI7, g_up_row (by omega)]
      have n1 : ((I7 k 0) + 1).toInt = (I5 k 0).toInt + 1 := tA (by rw [g7]) (by decide : (1 : Int32).toInt = 1) (by omega) (by omega)
      refine t_pU (lo := 0) (hi := 20736) hI7 (ble_lt (by omega)) hk.2.2.1 (by rw [n1]; omega) (fun I8 eI8 hI8 => ?_)
      refine t_ret (q5.tr (a' := 4 * v1.toInt + 4) (b' := 4 * v1.toInt + 4) ⟨hI8, ?_, ?_, fun j _ => ?_, fun j _ => ?_⟩ (by omega) (by omega))
      · rw [eI8, g_up_ne (Or.inr (by decide)), eI7, g_up_row (by omega)]
      · rw [eI8, g_up_row (by omega), eI7, g_up_row (by omega)]
      · rw [eI8, g_up_row (by omega), eI7, g_up_row (by omega)]
      · rw [eI8, g_up_row (by omega), eI7, g_up_row (by omega)]
  · have c1 := mt (iLE (a := I5 k 2) (b := v1 + 1) rfl e5).mpr c
    refine t_bindE (tfX1_narrow k v1 v2 I5 hk hI5 (by omega)) (fun r9 e9 p9 => ?_)
    have hr9 : MI true I0 r9 := p9
    have g9 : ∀ q, q ≠ k + 8 → q ≠ k + 9 → r9 q = I5 q := fun q a b => zfX1_narrow k v1 v2 I5 e9 q a b
    have q9 : jQ I0 k (4 * v1.toInt + 4) (4 * v1.toInt + 4) I5 r9 := ⟨hr9, by rw [g9 k (by omega) (by omega)], g9 _ (by omega) (by omega), fun j _ => by rw [g9 (k + 10) (by omega) (by omega)], fun j q => ynarrow e9 (by omega) j q⟩
    have d9 : (r9 k 2).toInt = (I k 2).toInt := by rw [q9.2.1, d5]
    refine t_bind (hrec (v1 + 1) r9 hr9 (by omega) (by omega) (by omega)) (fun r10 p10 => ?_)
    rw [e5] at p10
    exact t_ret ((q5.tr q9 (by omega) (by omega)).tr p10 (by omega) (by omega))
set_option maxRecDepth 100000 in
set_option maxHeartbeats 1000000 in
theorem tfX1_searchB {I0 : gM} (rec : Int32 → gM → Option gM) (k : Nat) (v1 : Int32) (I : gM) {n : Int} (hrec : jR I0 k rec n) (hk : kX1 k) (hM : MI true I0 I) (a1 : 0 ≤ v1.toInt ∧ v1.toInt ≤ (I k 2).toInt) (hn : (I k 2).toInt - v1.toInt < n + 1) : T (fX1_searchB rec k v1 I) (fun r => jQ I0 k (4 * v1.toInt) (4 * v1.toInt + 4) I r) := by
  have hk_1 := hk.1
  have hk_2 := hk.2.1
  have hd := hM.at hk.2.2.2.2.1
  unfold fX1_searchB
  refine t_ite (fun c => ?_) (fun c => ?_)
  · exact t_ret (jQ.rf hM)
  have c1 := mt (iLE (a := I k 2) (b := v1) rfl rfl).mpr c
  refine t_bindE (tfX1_isOpened k v1 I hk hM (by omega)) (fun r1 e1 p1 => ?_)
  obtain ⟨h1, o1, f1⟩ := p1
  have g1 : ∀ q, q ≠ k + 10 → r1.2 q = I q := fun q a => zfX1_isOpened k v1 I e1 q a
  have q1 : jQ I0 k (4 * v1.toInt) (4 * v1.toInt + 4) I r1.2 := ⟨h1, by rw [g1 k (by omega)], g1 _ (by omega), f1, fun j _ => by rw [g1 (k + 9) (by omega)]⟩
  refine t_ite (fun c2 => ?_) (fun c2 => ?_)
  · exact t_ret q1
  have o2 : jB k v1.toInt r1.2 := o1.resolve_left c2
  have n4 : (4 : Int32).toInt = 4 := by decide
  have e4 : (v1 * 4).toInt = v1.toInt * 4 := tM rfl n4 (by omega) (by omega)
  unfold lX1_search_19
  refine t_bind (t_it (P := fun s : Int32 × gM => 0 ≤ s.1.toInt ∧ jQ I0 k (4 * v1.toInt) (4 * v1.toInt + 4) I s.2 ∧ jB k v1.toInt s.2) (μ := fun s : Int32 × gM => (2147483648 - s.1.toInt).toNat) (Q := Sum.elim (fun r : gM => jQ I0 k (4 * v1.toInt) (4 * v1.toInt + 4) I r) (fun r : gM => jQ I0 k (4 * v1.toInt) (4 * v1.toInt + 4) I r)) (fun s p => ?_) ⟨by show 0 ≤ (0 : Int32).toInt; decide, q1, o2⟩) (fun w pw => ?_)
  · obtain ⟨s0, sQ, sB⟩ := p
    refine t_ite (fun c3 => ?_) (fun c3 => ?_)
    · exact t_ret (show jQ I0 k (4 * v1.toInt) (4 * v1.toInt + 4) I s.2 from sQ)
    have c3i := mt (iLE (a := (48 : Int32)) (b := s.1) (by decide : (48 : Int32).toInt = 48) rfl).mpr c3
    have ns : (s.1 + 1).toInt = s.1.toInt + 1 := tA rfl (by decide : (1 : Int32).toInt = 1) (by omega) (by omega)
    have tail : ∀ (v3 v4 : Int32) (M : gM), jQ I0 k (4 * v1.toInt) (4 * v1.toInt + 4) I M → jB k v1.toInt M → -1 ≤ v4.toInt ∧ v4.toInt ≤ 3 → T (bX1_search_63 rec k v1 s.1 v3 v4 M) (LQ (fun s : Int32 × gM => 0 ≤ s.1.toInt ∧ jQ I0 k (4 * v1.toInt) (4 * v1.toInt + 4) I s.2 ∧ jB k v1.toInt s.2) (2147483648 - s.1.toInt).toNat (fun s : Int32 × gM => (2147483648 - s.1.toInt).toNat) (Sum.elim (fun r : gM => jQ I0 k (4 * v1.toInt) (4 * v1.toInt + 4) I r) (fun r : gM => jQ I0 k (4 * v1.toInt) (4 * v1.toInt + 4) I r))) := by
      intro v3 v4 M hQ hB hv
      unfold bX1_search_63
      refine t_ite (fun c4 => ?_) (fun c4 => ?_)
      · exact t_ret (show jQ I0 k (4 * v1.toInt) (4 * v1.toInt + 4) I M from hQ)
      have c4i := mt (iEQ (a := v4) (b := ((-1) : Int32)) rfl (by decide : ((-1) : Int32).toInt = -1)).mpr c4
      have ei : ((v1 * 4) + v4).toInt = v1.toInt * 4 + v4.toInt := tA e4 rfl (by omega) (by omega)
      refine t_bindE (tfX1_isLeapt k ((v1 * 4) + v4) v3 M hk hQ.1 (by omega)) (fun r6 e6 p6 => ?_)
      obtain ⟨b6, h6, x6⟩ := p6
      have g6 : ∀ q, q ≠ k + 10 → q ≠ k → r6.2 q = M q := fun q a b => zfX1_isLeapt k ((v1 * 4) + v4) v3 M e6 q a b
      have d6 : r6.2 k 2 = M k 2 := by
        have e := e6
        unfold fX1_isLeapt at e
        obtain ⟨z1, -, e⟩ := ob e
        obtain ⟨z2, -, e⟩ := ob e
        unfold bX1_isLeapt_43 at e
        obtain ⟨z3, y3, e⟩ := ob e
        obtain ⟨z4, y4, e⟩ := ob e
        obtain ⟨z5, -, e⟩ := ob e
        have f : z4 k 2 = M k 2 := by rw [← pU_some y4, g_up_ne (Or.inr (by decide)), ← (wI_some y3).2.2, g_up_row (by omega)]
        rcases oi e with ⟨-, e⟩ | ⟨-, e⟩
        · obtain rfl := Option.some.inj e; exact f
        · obtain rfl := Option.some.inj e; exact f
      have q6 : jQ I0 k (4 * v1.toInt) (4 * v1.toInt + 4) M r6.2 := ⟨h6, d6, g6 _ (by omega) (by omega), fun j q => yisLeapt e6 j (by omega), fun j _ => by rw [g6 (k + 9) (by omega) (by omega)]⟩
      refine t_ite (fun c5 => ?_) (fun c5 => ?_)
      · exact t_ret (show jQ I0 k (4 * v1.toInt) (4 * v1.toInt + 4) I r6.2 from hQ.tr q6 (by omega) (by omega))
      · have c5i := mt (iEQ (a := r6.1) (b := (0 : Int32)) rfl (by decide : (0 : Int32).toInt = 0)).mpr c5
        refine t_ret ⟨⟨by show 0 ≤ (s.1 + 1).toInt; omega, hQ.tr q6 (by omega) (by omega), fun i a b d => ?_⟩, by show (2147483648 - (s.1 + 1).toInt).toNat < (2147483648 - s.1.toInt).toNat; omega⟩
        have d : ¬ (r6.2 (k + 7) i).toInt = -1 := d
        show (r6.2 (k + 10) i).toInt < (r6.2 (k + 9) i).toInt
        by_cases z : i = ((v1 * 4) + v4).toInt.toNat
        · rw [z]; exact x6.resolve_left c5i
        · rw [yisLeapt e6 i z, g6 (k + 9) (by omega) (by omega)]
          rw [g6 (k + 7) (by omega) (by omega)] at d
          exact hB i a b d
    refine t_bind (tfX1_greatestKey k v1 s.2 hk sQ.1 (by omega) sB) (fun r2 p2 => ?_)
    refine t_bind (tfX1_lowestBelow k v1 r2 s.2 hk sQ.1 (by omega) sB) (fun r3 p3 => ?_)
    have dS : (s.2 k 2).toInt = (I k 2).toInt := by rw [sQ.2.1]
    refine t_ite (fun c4 => ?_) (fun c4 => ?_)
    · refine t_bind (tfX1_deepen rec k v1 r2 s.2 hrec hk sQ.1 (by omega) (by omega)) (fun r4 p4 => ?_)
      have B4 : jB k v1.toInt r4 := sB.same p4.2.2.1 p4.2.2.2.1 p4.2.2.2.2
      refine t_bind (tfX1_lowestBelow k v1 (100 : Int32) r4 hk p4.1 (by omega) B4) (fun r5 p5 => ?_)
      exact tail _ _ r4 (sQ.tr p4 (by omega) (by omega)) B4 p5
    · exact tail _ _ s.2 sQ sB p3
  · rcases w with w | w
    · exact t_ret (show jQ I0 k (4 * v1.toInt) (4 * v1.toInt + 4) I w from pw)
    · exact t_ret (show jQ I0 k (4 * v1.toInt) (4 * v1.toInt + 4) I w from pw)
theorem tfX1_search {I0 : gM} (k : Nat) (hk : kX1 k) : ∀ n : Nat, jR I0 k (fun d I => fX1_search n k d I) (n : Int) := by
  intro n
  induction n with
  | zero => intro d I hM h0 h4 hn; exfalso; omega
  | succ n ih => intro d I hM h0 h4 hn; exact tfX1_searchB _ k d I ih hk hM ⟨h0, h4⟩ (by omega)
set_option maxRecDepth 100000 in
set_option maxHeartbeats 1000000 in
theorem tfX1_findBy {I0 : gM} (k : Nat) (k1 : Nat) (v2 : Int32) (I : gM) (hk : kX1 k) (hk1 : kX5 k1) (hM : MI true I0 I) : T (fX1_findBy k k1 v2 I) (fun r => MI true I0 r) := by
  have hk_1 := hk.1
  have hk_2 := hk.2.1
  unfold fX1_findBy lX1_findBy_20
  refine t_bind (tfX5_asked k1 I hk1 hM) (fun r1 _ => ?_)
  refine t_pU (lo := 0) (hi := 4) hM (ble_lt (by omega)) hk.2.2.2.2.1 (by decide) (fun I2 eI2 hI2 => ?_)
  refine t_bind (t_it (P := fun s : Int32 × Int32 × Int32 × gM => (0 ≤ s.2.2.1.toInt ∧ s.2.2.1.toInt ≤ 4) ∧ MI true I0 s.2.2.2) (μ := fun s : Int32 × Int32 × Int32 × gM => (5 - s.2.2.1.toInt).toNat) (Q := fun r : gM => MI true I0 r) (fun s p => ?_) ⟨by show 0 ≤ (0 : Int32).toInt ∧ (0 : Int32).toInt ≤ 4; decide, hI2⟩) (fun w9 p9 => ?_)
  · obtain ⟨p1, hs⟩ := p
    refine t_ite (fun c => ?_) (fun c => ?_)
    · exact t_ret (show MI true I0 s.2.2.2 from hs)
    have c1 := mt (iLE (a := (4 : Int32)) (b := s.2.2.1) (by decide : (4 : Int32).toInt = 4) rfl).mpr c
    have n1 : (s.2.2.1 + 1).toInt = s.2.2.1.toInt + 1 := tA rfl (by decide : (1 : Int32).toInt = 1) (by omega) (by omega)
    refine t_blk (i := s.2.2.1) rfl p1.1 (by omega) (fun u3 e3 b3 => ?_)
    refine t_dV0 (b := u3) rfl (by omega) (fun u4 => ?_)
    refine t_bind (tfX1_letterOf s.1 u4) (fun r5 _ => ?_)
    refine t_blk (i := s.2.2.1) rfl p1.1 (by omega) (fun u6 e6 b6 => ?_)
    refine t_rM0 (b := u6) rfl (by omega) (fun u7 => ?_)
    refine t_bind (tfX1_addLetters k (r1 &&& ((1 : Int32) <<< (r5 &&& 31))) s.2.2.2 hk hs) (fun r8 h8 => ?_)
    exact t_ret ⟨⟨by show 0 ≤ (s.2.2.1 + 1).toInt ∧ (s.2.2.1 + 1).toInt ≤ 4; omega, h8⟩, by show (5 - (s.2.2.1 + 1).toInt).toNat < (5 - s.2.2.1.toInt).toNat; omega⟩
  · refine t_bind (tfX1_open k k1 w9 hk hk1 p9) (fun r10 h10 => ?_)
    have h10 : MI true I0 r10 := h10
    have hd := h10.at hk.2.2.2.2.1
    have z0 : (0 : Int32).toInt = 0 := by decide
    refine t_bind (tfX1_search (I0 := I0) k hk 6 (0 : Int32) r10 h10 (by omega) (by omega) (by show (r10 k 2).toInt - (0 : Int32).toInt < 6; omega)) (fun r11 p11 => t_ret p11.1)
set_option maxRecDepth 100000 in
set_option maxHeartbeats 1000000 in
theorem tfX1_findLeading {I0 : gM} (k : Nat) (k1 : Nat) (v2 : Int32) (I : gM) (hk : kX1 k) (hk1 : kX5 k1) (hM : MI true I0 I) : T (fX1_findLeading k k1 v2 I) (fun r => MI true I0 r) := by
  have hk_1 := hk.1
  have hk_2 := hk.2.1
  unfold fX1_findLeading
  refine t_bind (tfX5_asked k1 I hk1 hM) (fun r1 _ => ?_)
  refine t_pU (lo := 0) (hi := 4) hM (ble_lt (by omega)) hk.2.2.2.2.1 (by decide) (fun I2 eI2 hI2 => ?_)
  refine t_bind (tfX1_addLetters k (r1 &&& v2) I2 hk hI2) (fun r3 h3 => ?_)
  refine t_bind (tfX1_addLetters k (r1 &&& (v2 ^^^ (-1))) r3 hk h3) (fun r4 h4 => ?_)
  refine t_bind (tfX1_open k k1 r4 hk hk1 h4) (fun r10 h10 => ?_)
  have h10 : MI true I0 r10 := h10
  have hd := h10.at hk.2.2.2.2.1
  have z0 : (0 : Int32).toInt = 0 := by decide
  refine t_bind (tfX1_search (I0 := I0) k hk 6 (0 : Int32) r10 h10 (by omega) (by omega) (by show (r10 k 2).toInt - (0 : Int32).toInt < 6; omega)) (fun r11 p11 => t_ret p11.1)
