set_option maxRecDepth 100000 in
set_option maxHeartbeats 1000000 in
theorem tlX1_compareAt_3 {I0 : gM} (k : Nat) (v1 : Int32) (v2 : Int32) (v3 : Int32) (v4 : Int32) (v5 : Int32) (I : gM) (hk : kX1 k) (hM : MI true I0 I) (s : Int32) (hP : (0 ≤ (s).toInt ∧ (s).toInt ≤ 2147483647)) : T (lX1_compareAt_3 k v1 v2 v3 v4 v5 I s) (Sum.elim (fun r : Int32 × Int32 => True) (fun r : Unit => True)) := by
  have hk_1 := hk.1
  have hk_2 := hk.2.1
  unfold lX1_compareAt_3
  refine t_it (P := fun s : Int32 => (0 ≤ (s).toInt ∧ (s).toInt ≤ 2147483647)) (μ := fun s : Int32 => (2147483648 - s.toInt).toNat) (fun s p => ?_) hP
  have b0 : (0 ≤ (s).toInt ∧ (s).toInt ≤ 2147483647) := p
  have q1 := hM.at (k := k) (j := 2) (lo := 0) (hi := 4) hk.2.2.2.2.1
  refine t_ite (fun c2 => ?_) (fun c2 => ?_)
  · have c2i := (iLE (a := I k 2) (b := s) rfl rfl).mp c2
    exact t_ret (show True from trivial)
  · have c2i := mt (iLE (a := I k 2) (b := s) rfl rfl).mpr c2
    refine t_rI (lo := 0) (hi := 3) hM (fun j _ => hk.2.2.2.2.2.2.1 j) rfl (by omega) (by omega) (fun u1 eu1 bu1 => ?_)
    refine t_ite (fun c3 => ?_) (fun c3 => ?_)
    · have c3i := (iEQ (a := u1) (b := (0 : Int32)) rfl (by decide : (0 : Int32).toInt = 0)).mp c3
      unfold bX1_compareAt_53
      refine t_bindE (tfX1_numberAt k v1 u1 I hk hM) (fun r2 er2 pr2 => ?_)
      have br2_0 : (0 ≤ r2.toInt ∧ r2.toInt ≤ 127) := pr2
      refine t_ite (fun c4 => ?_) (fun c4 => ?_)
      · have c4i := (iEQ (a := r2) (b := v2) rfl rfl).mp c4
        have m0 := ((tA rfl (by decide : (1 : Int32).toInt = 1) (by omega) (by omega)) : (s + 1).toInt = (s.toInt + 1))
        have mm : (2147483648 - (s + 1).toInt).toNat < (2147483648 - s.toInt).toNat := by omega
        have pp : (0 ≤ ((s + 1)).toInt ∧ ((s + 1)).toInt ≤ 2147483647) := (by show (0 ≤ ((s + 1)).toInt ∧ ((s + 1)).toInt ≤ 2147483647); have q := ((tA rfl (by decide : (1 : Int32).toInt = 1) (by omega) (by omega)) : (s + 1).toInt = (s.toInt + 1)); omega)
        exact t_ret ⟨pp, mm⟩
      · have c4i := mt (iEQ (a := r2) (b := v2) rfl rfl).mpr c4
        exact t_ret (show True from trivial)
    · have c3i := mt (iEQ (a := u1) (b := (0 : Int32)) rfl (by decide : (0 : Int32).toInt = 0)).mpr c3
      refine t_ite (fun c5 => ?_) (fun c5 => ?_)
      · have c5i := (iEQ (a := u1) (b := (1 : Int32)) rfl (by decide : (1 : Int32).toInt = 1)).mp c5
        unfold bX1_compareAt_53
        refine t_bindE (tfX1_numberAt k v1 u1 I hk hM) (fun r2 er2 pr2 => ?_)
        have br2_0 : (0 ≤ r2.toInt ∧ r2.toInt ≤ 127) := pr2
        refine t_ite (fun c6 => ?_) (fun c6 => ?_)
        · have c6i := (iEQ (a := r2) (b := v3) rfl rfl).mp c6
          have m0 := ((tA rfl (by decide : (1 : Int32).toInt = 1) (by omega) (by omega)) : (s + 1).toInt = (s.toInt + 1))
          have mm : (2147483648 - (s + 1).toInt).toNat < (2147483648 - s.toInt).toNat := by omega
          have pp : (0 ≤ ((s + 1)).toInt ∧ ((s + 1)).toInt ≤ 2147483647) := (by show (0 ≤ ((s + 1)).toInt ∧ ((s + 1)).toInt ≤ 2147483647); have q := ((tA rfl (by decide : (1 : Int32).toInt = 1) (by omega) (by omega)) : (s + 1).toInt = (s.toInt + 1)); omega)
          exact t_ret ⟨pp, mm⟩
        · have c6i := mt (iEQ (a := r2) (b := v3) rfl rfl).mpr c6
          exact t_ret (show True from trivial)
      · have c5i := mt (iEQ (a := u1) (b := (1 : Int32)) rfl (by decide : (1 : Int32).toInt = 1)).mpr c5
        refine t_ite (fun c7 => ?_) (fun c7 => ?_)
        · have c7i := (iEQ (a := u1) (b := (2 : Int32)) rfl (by decide : (2 : Int32).toInt = 2)).mp c7
          unfold bX1_compareAt_53
          refine t_bindE (tfX1_numberAt k v1 u1 I hk hM) (fun r2 er2 pr2 => ?_)
          have br2_0 : (0 ≤ r2.toInt ∧ r2.toInt ≤ 127) := pr2
          refine t_ite (fun c8 => ?_) (fun c8 => ?_)
          · have c8i := (iEQ (a := r2) (b := v4) rfl rfl).mp c8
            have m0 := ((tA rfl (by decide : (1 : Int32).toInt = 1) (by omega) (by omega)) : (s + 1).toInt = (s.toInt + 1))
            have mm : (2147483648 - (s + 1).toInt).toNat < (2147483648 - s.toInt).toNat := by omega
            have pp : (0 ≤ ((s + 1)).toInt ∧ ((s + 1)).toInt ≤ 2147483647) := (by show (0 ≤ ((s + 1)).toInt ∧ ((s + 1)).toInt ≤ 2147483647); have q := ((tA rfl (by decide : (1 : Int32).toInt = 1) (by omega) (by omega)) : (s + 1).toInt = (s.toInt + 1)); omega)
            exact t_ret ⟨pp, mm⟩
          · have c8i := mt (iEQ (a := r2) (b := v4) rfl rfl).mpr c8
            exact t_ret (show True from trivial)
        · have c7i := mt (iEQ (a := u1) (b := (2 : Int32)) rfl (by decide : (2 : Int32).toInt = 2)).mpr c7
          unfold bX1_compareAt_53
          refine t_bindE (tfX1_numberAt k v1 u1 I hk hM) (fun r2 er2 pr2 => ?_)
          have br2_0 : (0 ≤ r2.toInt ∧ r2.toInt ≤ 127) := pr2
          refine t_ite (fun c9 => ?_) (fun c9 => ?_)
          · have c9i := (iEQ (a := r2) (b := v5) rfl rfl).mp c9
            have m0 := ((tA rfl (by decide : (1 : Int32).toInt = 1) (by omega) (by omega)) : (s + 1).toInt = (s.toInt + 1))
            have mm : (2147483648 - (s + 1).toInt).toNat < (2147483648 - s.toInt).toNat := by omega
            have pp : (0 ≤ ((s + 1)).toInt ∧ ((s + 1)).toInt ≤ 2147483647) := (by show (0 ≤ ((s + 1)).toInt ∧ ((s + 1)).toInt ≤ 2147483647); have q := ((tA rfl (by decide : (1 : Int32).toInt = 1) (by omega) (by omega)) : (s + 1).toInt = (s.toInt + 1)); omega)
            exact t_ret ⟨pp, mm⟩
          · have c9i := mt (iEQ (a := r2) (b := v5) rfl rfl).mpr c9
            exact t_ret (show True from trivial)
set_option maxRecDepth 100000 in
set_option maxHeartbeats 1000000 in
theorem tfX1_compareAt {I0 : gM} (k : Nat) (v1 : Int32) (v2 : Int32) (v3 : Int32) (v4 : Int32) (v5 : Int32) (I : gM) (hk : kX1 k) (hM : MI true I0 I) : T (fX1_compareAt k v1 v2 v3 v4 v5 I) (fun r => ((-1) ≤ r.toInt ∧ r.toInt ≤ 1)) := by
  have hk_1 := hk.1
  have hk_2 := hk.2.1
  unfold fX1_compareAt
  refine t_bindE (tlX1_compareAt_3 k v1 v2 v3 v4 v5 I hk hM (0 : Int32) (by show (0 ≤ ((0 : Int32)).toInt ∧ ((0 : Int32)).toInt ≤ 2147483647); decide)) (fun w3 ew3 pw3 => ?_)
  rcases w3 with w3_0 | w3_1
  · refine t_el ?_
    refine t_ite (fun c1 => ?_) (fun c1 => ?_)
    · have c1i := (iLE (a := w3_0.2) (b := w3_0.1) rfl rfl).mp c1
      exact t_ret (by show (-1) ≤ (((-1) : Int32)).toInt ∧ (((-1) : Int32)).toInt ≤ 1; decide)
    · have c1i := mt (iLE (a := w3_0.2) (b := w3_0.1) rfl rfl).mpr c1
      exact t_ret (by show (-1) ≤ ((1 : Int32)).toInt ∧ ((1 : Int32)).toInt ≤ 1; decide)
  · refine t_er ?_
    exact t_ret (by show (-1) ≤ ((0 : Int32)).toInt ∧ ((0 : Int32)).toInt ≤ 1; decide)
set_option maxRecDepth 100000 in
set_option maxHeartbeats 1000000 in
theorem tfX2_clear {I0 : gM} (k : Nat) (I : gM) (hk : kX2 k) (hM : MI true I0 I) : T (fX2_clear k I) (fun r => MI true I0 r) := by
  have hk_1 := hk.1
  have hk_2 := hk.2.1
  unfold fX2_clear
  refine t_pU (lo := 0) (hi := 99) hM (ble_lt (by omega)) hk.2.2.1 (by decide) (fun I1 eI1 hI1 => ?_)
  refine t_pU (lo := 0) (hi := 100) hI1 (ble_lt (by omega)) hk.2.2.2.1 (by decide) (fun I2 eI2 hI2 => ?_)
  exact t_ret hI2
set_option maxRecDepth 100000 in
set_option maxHeartbeats 1000000 in
theorem tfX2_copyFrom {I0 : gM} (k : Nat) (k1 : Nat) (I : gM) (hk : kX2 k) (hk1 : kX2 k1) (hM : MI true I0 I) : T (fX2_copyFrom k k1 I) (fun r => MI true I0 r) := by
  have hk_1 := hk.1
  have hk_2 := hk.2.1
  have hk1_1 := hk1.1
  have hk1_2 := hk1.2.1
  unfold fX2_copyFrom
  refine t_cp hM (ble_lt (by omega)) (fun i j => by rw [show rg (k1 + 1) i = _ from (hk1.2.2.2.2 _), show rg (k + 1) j = _ from (hk.2.2.2.2 _)]) (by decide) (fun I1 eI1 hI1 => ?_)
  have q1 := hI1.at (k := k1) (j := 1) (lo := 0) (hi := 99) hk1.2.2.1
  refine t_pU (lo := 0) (hi := 99) hI1 (ble_lt (by omega)) hk.2.2.1 (by omega) (fun I2 eI2 hI2 => ?_)
  have q2 := hI2.at (k := k1) (j := 2) (lo := 0) (hi := 100) hk1.2.2.2.1
  have q3 := hI1.at (k := k1) (j := 2) (lo := 0) (hi := 100) hk1.2.2.2.1
  have q4 : (I2 k1 2).toInt = (I1 k1 2).toInt := by rw [eI2, g_up_ne (Or.inr (by decide))]
  refine t_pU (lo := 0) (hi := 100) hI2 (ble_lt (by omega)) hk.2.2.2.1 (by omega) (fun I3 eI3 hI3 => ?_)
  exact t_ret hI3
set_option maxRecDepth 100000 in
set_option maxHeartbeats 1000000 in
theorem tfX2_add {I0 : gM} (k : Nat) (v1 : Int32) (v2 : Int32) (v3 : Int32) (I : gM) (hk : kX2 k) (hM : MI true I0 I) : T (fX2_add k v1 v2 v3 I) (fun r => MI true I0 r) := by
  have hk_1 := hk.1
  have hk_2 := hk.2.1
  unfold fX2_add
  have q1 := hM.at (k := k) (j := 1) (lo := 0) (hi := 99) hk.2.2.1
  refine t_wI (lo := (-2147483648)) (hi := 2147483647) hM (ble_lt (by omega)) (fun j _ => hk.2.2.2.2 j) (tM rfl (by decide : (3 : Int32).toInt = 3) (by omega) (by omega)) (by omega) (by omega) (tTop _) (fun I1 eI1 hI1 => ?_)
  have q2 := hI1.at (k := k) (j := 1) (lo := 0) (hi := 99) hk.2.2.1
  have q3 : (I1 k 1).toInt = (I k 1).toInt := by rw [eI1, g_up_row (by omega)]
  refine t_wI (lo := (-2147483648)) (hi := 2147483647) hI1 (ble_lt (by omega)) (fun j _ => hk.2.2.2.2 j) (tA (tM rfl (by decide : (3 : Int32).toInt = 3) (by omega) (by omega)) (by decide : (1 : Int32).toInt = 1) (by omega) (by omega)) (by omega) (by omega) (tTop _) (fun I2 eI2 hI2 => ?_)
  have q4 := hI2.at (k := k) (j := 1) (lo := 0) (hi := 99) hk.2.2.1
  have q5 : (I2 k 1).toInt = (I1 k 1).toInt := by rw [eI2, g_up_row (by omega)]
  refine t_wI (lo := (-2147483648)) (hi := 2147483647) hI2 (ble_lt (by omega)) (fun j _ => hk.2.2.2.2 j) (tA (tM rfl (by decide : (3 : Int32).toInt = 3) (by omega) (by omega)) (by decide : (2 : Int32).toInt = 2) (by omega) (by omega)) (by omega) (by omega) (tTop _) (fun I3 eI3 hI3 => ?_)
  have q6 := hI3.at (k := k) (j := 1) (lo := 0) (hi := 99) hk.2.2.1
  have q7 : (I3 k 1).toInt = (I2 k 1).toInt := by rw [eI3, g_up_row (by omega)]
  refine t_pU (lo := 0) (hi := 99) hI3 (ble_lt (by omega)) hk.2.2.1 (by have q := ((tR (tA rfl (by decide : (1 : Int32).toInt = 1) (by omega) (by omega)) (by decide : (100 : Int32).toInt = 100) (by omega) (by omega)) : (iR ((I3 k 1) + 1) 100).toInt = (((I3 k 1).toInt + 1) % 100)); omega) (fun I4 eI4 hI4 => ?_)
  have q8 := hI4.at (k := k) (j := 2) (lo := 0) (hi := 100) hk.2.2.2.1
  have q9 := hI3.at (k := k) (j := 2) (lo := 0) (hi := 100) hk.2.2.2.1
  have q10 := hI2.at (k := k) (j := 2) (lo := 0) (hi := 100) hk.2.2.2.1
  have q11 := hI1.at (k := k) (j := 2) (lo := 0) (hi := 100) hk.2.2.2.1
  have q12 := hM.at (k := k) (j := 2) (lo := 0) (hi := 100) hk.2.2.2.1
  have q13 : (I1 k 2).toInt = (I k 2).toInt := by rw [eI1, g_up_row (by omega)]
  have q14 : (I2 k 2).toInt = (I1 k 2).toInt := by rw [eI2, g_up_row (by omega)]
  have q15 : (I3 k 2).toInt = (I2 k 2).toInt := by rw [eI3, g_up_row (by omega)]
  have q16 : (I4 k 2).toInt = (I3 k 2).toInt := by rw [eI4, g_up_ne (Or.inr (by decide))]
  refine t_pU (lo := 0) (hi := 100) hI4 (ble_lt (by omega)) hk.2.2.2.1 (by have q := ((tN (tA rfl (by decide : (1 : Int32).toInt = 1) (by omega) (by omega)) (by decide : (100 : Int32).toInt = 100)) : (mN ((I4 k 2) + 1) 100).toInt = (min ((I4 k 2).toInt + 1) 100)); omega) (fun I5 eI5 hI5 => ?_)
  exact t_ret hI5
set_option maxRecDepth 100000 in
set_option maxHeartbeats 1000000 in
theorem tfX2_dropLatest {I0 : gM} (k : Nat) (I : gM) (hk : kX2 k) (hM : MI true I0 I) : T (fX2_dropLatest k I) (fun r => MI true I0 r) := by
  have hk_1 := hk.1
  have hk_2 := hk.2.1
  unfold fX2_dropLatest
  have q1 := hM.at (k := k) (j := 2) (lo := 0) (hi := 100) hk.2.2.2.1
  refine t_ite (fun c2 => ?_) (fun c2 => ?_)
  · have c2i := (iLE (a := I k 2) (b := (0 : Int32)) rfl (by decide : (0 : Int32).toInt = 0)).mp c2
    exact t_ret hM
  · have c2i := mt (iLE (a := I k 2) (b := (0 : Int32)) rfl (by decide : (0 : Int32).toInt = 0)).mpr c2
    have q3 := hM.at (k := k) (j := 1) (lo := 0) (hi := 99) hk.2.2.1
    refine t_pU (lo := 0) (hi := 99) hM (ble_lt (by omega)) hk.2.2.1 (by have q := ((tR (tS (tA rfl (by decide : (100 : Int32).toInt = 100) (by omega) (by omega)) (by decide : (1 : Int32).toInt = 1) (by omega) (by omega)) (by decide : (100 : Int32).toInt = 100) (by omega) (by omega)) : (iR (((I k 1) + 100) - 1) 100).toInt = ((((I k 1).toInt + 100) - 1) % 100)); omega) (fun I1 eI1 hI1 => ?_)
    have q4 := hI1.at (k := k) (j := 2) (lo := 0) (hi := 100) hk.2.2.2.1
    have q5 : (I1 k 2).toInt = (I k 2).toInt := by rw [eI1, g_up_ne (Or.inr (by decide))]
    refine t_pU (lo := 0) (hi := 100) hI1 (ble_lt (by omega)) hk.2.2.2.1 (by have q := ((tS rfl (by decide : (1 : Int32).toInt = 1) (by omega) (by omega)) : ((I1 k 2) - 1).toInt = ((I1 k 2).toInt - 1)); omega) (fun I2 eI2 hI2 => ?_)
    exact t_ret hI2
set_option maxRecDepth 100000 in
set_option maxHeartbeats 1000000 in
theorem tfX2_shown {I0 : gM} (k : Nat) (I : gM) (hk : kX2 k) (hM : MI true I0 I) : T (fX2_shown k I) (fun r => (0 ≤ r.toInt ∧ r.toInt ≤ 60)) := by
  have hk_1 := hk.1
  have hk_2 := hk.2.1
  unfold fX2_shown
  have q1 := hM.at (k := k) (j := 2) (lo := 0) (hi := 100) hk.2.2.2.1
  exact t_ret (by show 0 ≤ ((mN (I k 2) 60)).toInt ∧ ((mN (I k 2) 60)).toInt ≤ 60; have q := ((tN rfl (by decide : (60 : Int32).toInt = 60)) : (mN (I k 2) 60).toInt = (min (I k 2).toInt 60)); omega)
set_option maxRecDepth 100000 in
set_option maxHeartbeats 1000000 in
theorem tfX2_partOf {I0 : gM} (k : Nat) (v1 : Int32) (v2 : Int32) (I : gM) (hk : kX2 k) (hM : MI true I0 I) (av1 : 0 ≤ v1.toInt ∧ v1.toInt ≤ 59) (av2 : 0 ≤ v2.toInt ∧ v2.toInt ≤ 2) : T (fX2_partOf k v1 v2 I) (fun r => True) := by
  have hk_1 := hk.1
  have hk_2 := hk.2.1
  unfold fX2_partOf
  have q1 := hM.at (k := k) (j := 1) (lo := 0) (hi := 99) hk.2.2.1
  refine t_rI (lo := (-2147483648)) (hi := 2147483647) hM (fun j _ => hk.2.2.2.2 j) (tA (tM (tR (tS (tS (tA rfl (by decide : (100 : Int32).toInt = 100) (by omega) (by omega)) (by decide : (1 : Int32).toInt = 1) (by omega) (by omega)) rfl (by omega) (by omega)) (by decide : (100 : Int32).toInt = 100) (by omega) (by omega)) (by decide : (3 : Int32).toInt = 3) (by omega) (by omega)) rfl (by omega) (by omega)) (by omega) (by omega) (fun u1 eu1 bu1 => ?_)
  exact t_ret trivial
set_option maxRecDepth 100000 in
set_option maxHeartbeats 1000000 in
theorem tfX3_clear {I0 : gM} (I : gM) (hM : MI true I0 I) : T (fX3_clear I) (fun r => MI true I0 r) := by
  unfold fX3_clear
  refine t_pU (lo := 0) (hi := 40) hM rfl rfl (by decide) (fun I1 eI1 hI1 => ?_)
  refine t_pU (lo := 0) (hi := 39) hI1 rfl rfl (by decide) (fun I2 eI2 hI2 => ?_)
  exact t_ret hI2
set_option maxRecDepth 100000 in
set_option maxHeartbeats 1000000 in
theorem tfX3_add {I0 : gM} (v1 : Int32) (v2 : Int32) (v3 : Int32) (I : gM) (hM : MI true I0 I) : T (fX3_add v1 v2 v3 I) (fun r => MI true I0 r) := by
  unfold fX3_add
  have q1 := hM.at (k := 48) (j := 2) (lo := 0) (hi := 39) rfl
  refine t_wI (lo := (-2147483648)) (hi := 2147483647) hM rfl (fun _ _ => rfl) (tM rfl (by decide : (3 : Int32).toInt = 3) (by omega) (by omega)) (by omega) (by omega) (tTop _) (fun I1 eI1 hI1 => ?_)
  have q2 := hI1.at (k := 48) (j := 2) (lo := 0) (hi := 39) rfl
  have q3 : (I1 48 2).toInt = (I 48 2).toInt := by rw [eI1, g_up_row (by decide)]
  refine t_wI (lo := (-2147483648)) (hi := 2147483647) hI1 rfl (fun _ _ => rfl) (tA (tM rfl (by decide : (3 : Int32).toInt = 3) (by omega) (by omega)) (by decide : (1 : Int32).toInt = 1) (by omega) (by omega)) (by omega) (by omega) (tTop _) (fun I2 eI2 hI2 => ?_)
  have q4 := hI2.at (k := 48) (j := 2) (lo := 0) (hi := 39) rfl
  have q5 : (I2 48 2).toInt = (I1 48 2).toInt := by rw [eI2, g_up_row (by decide)]
  refine t_wI (lo := (-2147483648)) (hi := 2147483647) hI2 rfl (fun _ _ => rfl) (tA (tM rfl (by decide : (3 : Int32).toInt = 3) (by omega) (by omega)) (by decide : (2 : Int32).toInt = 2) (by omega) (by omega)) (by omega) (by omega) (tTop _) (fun I3 eI3 hI3 => ?_)
  have q6 := hI3.at (k := 48) (j := 2) (lo := 0) (hi := 39) rfl
  have q7 : (I3 48 2).toInt = (I2 48 2).toInt := by rw [eI3, g_up_row (by decide)]
  refine t_pU (lo := 0) (hi := 39) hI3 rfl rfl (by have q := ((tR (tA rfl (by decide : (1 : Int32).toInt = 1) (by omega) (by omega)) (by decide : (40 : Int32).toInt = 40) (by omega) (by omega)) : (iR ((I3 48 2) + 1) 40).toInt = (((I3 48 2).toInt + 1) % 40)); omega) (fun I4 eI4 hI4 => ?_)
  have q8 := hI4.at (k := 48) (j := 0) (lo := 0) (hi := 40) rfl
  have q9 := hI3.at (k := 48) (j := 0) (lo := 0) (hi := 40) rfl
  have q10 := hI2.at (k := 48) (j := 0) (lo := 0) (hi := 40) rfl
  have q11 := hI1.at (k := 48) (j := 0) (lo := 0) (hi := 40) rfl
  have q12 := hM.at (k := 48) (j := 0) (lo := 0) (hi := 40) rfl
  have q13 : (I1 48 0).toInt = (I 48 0).toInt := by rw [eI1, g_up_row (by decide)]
  have q14 : (I2 48 0).toInt = (I1 48 0).toInt := by rw [eI2, g_up_row (by decide)]
  have q15 : (I3 48 0).toInt = (I2 48 0).toInt := by rw [eI3, g_up_row (by decide)]
  have q16 : (I4 48 0).toInt = (I3 48 0).toInt := by rw [eI4, g_up_ne (Or.inr (by decide))]
  refine t_pU (lo := 0) (hi := 40) hI4 rfl rfl (by have q := ((tN (tA rfl (by decide : (1 : Int32).toInt = 1) (by omega) (by omega)) (by decide : (40 : Int32).toInt = 40)) : (mN ((I4 48 0) + 1) 40).toInt = (min ((I4 48 0).toInt + 1) 40)); omega) (fun I5 eI5 hI5 => ?_)
  exact t_ret hI5
set_option maxRecDepth 100000 in
set_option maxHeartbeats 1000000 in
theorem tfX3_dropLatest {I0 : gM} (I : gM) (hM : MI true I0 I) : T (fX3_dropLatest I) (fun r => MI true I0 r) := by
  unfold fX3_dropLatest
  have q1 := hM.at (k := 48) (j := 0) (lo := 0) (hi := 40) rfl
  refine t_ite (fun c2 => ?_) (fun c2 => ?_)
  · have c2i := (iLE (a := I 48 0) (b := (0 : Int32)) rfl (by decide : (0 : Int32).toInt = 0)).mp c2
    exact t_ret hM
  · have c2i := mt (iLE (a := I 48 0) (b := (0 : Int32)) rfl (by decide : (0 : Int32).toInt = 0)).mpr c2
    have q3 := hM.at (k := 48) (j := 2) (lo := 0) (hi := 39) rfl
    refine t_pU (lo := 0) (hi := 39) hM rfl rfl (by have q := ((tR (tS (tA rfl (by decide : (40 : Int32).toInt = 40) (by omega) (by omega)) (by decide : (1 : Int32).toInt = 1) (by omega) (by omega)) (by decide : (40 : Int32).toInt = 40) (by omega) (by omega)) : (iR (((I 48 2) + 40) - 1) 40).toInt = ((((I 48 2).toInt + 40) - 1) % 40)); omega) (fun I1 eI1 hI1 => ?_)
    have q4 := hI1.at (k := 48) (j := 0) (lo := 0) (hi := 40) rfl
    have q5 : (I1 48 0).toInt = (I 48 0).toInt := by rw [eI1, g_up_ne (Or.inr (by decide))]
    refine t_pU (lo := 0) (hi := 40) hI1 rfl rfl (by have q := ((tS rfl (by decide : (1 : Int32).toInt = 1) (by omega) (by omega)) : ((I1 48 0) - 1).toInt = ((I1 48 0).toInt - 1)); omega) (fun I2 eI2 hI2 => ?_)
    exact t_ret hI2
set_option maxRecDepth 100000 in
set_option maxHeartbeats 1000000 in
theorem tfX3_sortDropped {I0 : gM} (I : gM) (hM : MI true I0 I) : T (fX3_sortDropped I) (fun r => True) := by
  unfold fX3_sortDropped
  have q1 := hM.at (k := 48) (j := 2) (lo := 0) (hi := 39) rfl
  refine t_rI (lo := (-2147483648)) (hi := 2147483647) hM (fun _ _ => rfl) (tM rfl (by decide : (3 : Int32).toInt = 3) (by omega) (by omega)) (by omega) (by omega) (fun u1 eu1 bu1 => ?_)
  exact t_ret trivial
set_option maxRecDepth 100000 in
set_option maxHeartbeats 1000000 in
theorem tfX3_numberDropped {I0 : gM} (I : gM) (hM : MI true I0 I) : T (fX3_numberDropped I) (fun r => True) := by
  unfold fX3_numberDropped
  have q1 := hM.at (k := 48) (j := 2) (lo := 0) (hi := 39) rfl
  refine t_rI (lo := (-2147483648)) (hi := 2147483647) hM (fun _ _ => rfl) (tA (tM rfl (by decide : (3 : Int32).toInt = 3) (by omega) (by omega)) (by decide : (1 : Int32).toInt = 1) (by omega) (by omega)) (by omega) (by omega) (fun u1 eu1 bu1 => ?_)
  exact t_ret trivial
set_option maxRecDepth 100000 in
set_option maxHeartbeats 1000000 in
theorem tfX3_rowDropped {I0 : gM} (I : gM) (hM : MI true I0 I) : T (fX3_rowDropped I) (fun r => True) := by
  unfold fX3_rowDropped
  have q1 := hM.at (k := 48) (j := 2) (lo := 0) (hi := 39) rfl
  refine t_rI (lo := (-2147483648)) (hi := 2147483647) hM (fun _ _ => rfl) (tA (tM rfl (by decide : (3 : Int32).toInt = 3) (by omega) (by omega)) (by decide : (2 : Int32).toInt = 2) (by omega) (by omega)) (by omega) (by omega) (fun u1 eu1 bu1 => ?_)
  exact t_ret trivial
set_option maxRecDepth 100000 in
set_option maxHeartbeats 1000000 in
theorem tfX4_clear {I0 : gM} (k : Nat) (I : gM) (hk : kX4 k) (hM : MI true I0 I) : T (fX4_clear k I) (fun r => MI true I0 r) := by
  have hk_1 := hk.1
  have hk_2 := hk.2.1
  unfold fX4_clear
  refine t_pU (lo := 0) (hi := 12) hM (ble_lt (by omega)) hk.2.2.1 (by decide) (fun I1 eI1 hI1 => ?_)
  exact t_ret hI1
set_option maxRecDepth 100000 in
set_option maxHeartbeats 1000000 in
theorem tfX4_copyFrom {I0 : gM} (k : Nat) (k1 : Nat) (I : gM) (hk : kX4 k) (hk1 : kX4 k1) (hM : MI true I0 I) : T (fX4_copyFrom k k1 I) (fun r => MI true I0 r) := by
  have hk_1 := hk.1
  have hk_2 := hk.2.1
  have hk1_1 := hk1.1
  have hk1_2 := hk1.2.1
  unfold fX4_copyFrom
  have q1 := hM.at (k := k1) (j := 0) (lo := 0) (hi := 12) hk1.2.2.1
  refine t_pU (lo := 0) (hi := 12) hM (ble_lt (by omega)) hk.2.2.1 (by omega) (fun I1 eI1 hI1 => ?_)
  refine t_cp hI1 (ble_lt (by omega)) (fun i j => by rw [show rg (k1 + 1) i = _ from (hk1.2.2.2 _), show rg (k + 1) j = _ from (hk.2.2.2 _)]) (by decide) (fun I2 eI2 hI2 => ?_)
  exact t_ret hI2
set_option maxRecDepth 100000 in
set_option maxHeartbeats 1000000 in
theorem tfX4_add {I0 : gM} (k : Nat) (v1 : Int32) (v2 : Int32) (I : gM) (hk : kX4 k) (hM : MI true I0 I) : T (fX4_add k v1 v2 I) (fun r => MI true I0 r) := by
  have hk_1 := hk.1
  have hk_2 := hk.2.1
  unfold fX4_add
  have q1 := hM.at (k := k) (j := 0) (lo := 0) (hi := 12) hk.2.2.1
  refine t_ite (fun c2 => ?_) (fun c2 => ?_)
  · have c2i := (iLE (a := (12 : Int32)) (b := I k 0) (by decide : (12 : Int32).toInt = 12) rfl).mp c2
    exact t_ret hM
  · have c2i := mt (iLE (a := (12 : Int32)) (b := I k 0) (by decide : (12 : Int32).toInt = 12) rfl).mpr c2
    refine t_wI (lo := (-2147483648)) (hi := 2147483647) hM (ble_lt (by omega)) (fun j _ => hk.2.2.2 j) (tM rfl (by decide : (5 : Int32).toInt = 5) (by omega) (by omega)) (by omega) (by omega) (tTop _) (fun I1 eI1 hI1 => ?_)
    refine t_wI (lo := (-2147483648)) (hi := 2147483647) hI1 (ble_lt (by omega)) (fun j _ => hk.2.2.2 j) (tA (tM rfl (by decide : (5 : Int32).toInt = 5) (by omega) (by omega)) (by decide : (1 : Int32).toInt = 1) (by omega) (by omega)) (by omega) (by omega) (tTop _) (fun I2 eI2 hI2 => ?_)
    refine t_bind (t_fill2 (k + 1) 60 (((I k 0) * 5) + 2) (((I k 0) * 5) + 5) ((-1) : Int32) I2 (lo := (-2147483648)) (hi := 2147483647) hI2 (ble_lt (by omega)) (fun j _ => hk.2.2.2 j) (by decide) (tTop _) (tA (tM rfl (by decide : (5 : Int32).toInt = 5) (by omega) (by omega)) (by decide : (2 : Int32).toInt = 2) (by omega) (by omega)) (tA (tM rfl (by decide : (5 : Int32).toInt = 5) (by omega) (by omega)) (by decide : (5 : Int32).toInt = 5) (by omega) (by omega)) (by omega) (by omega) (by omega)) (fun r3 pr3 => ?_)
    obtain ⟨hr3, yr3, zr3⟩ := pr3
    have q3 := hr3.at (k := k) (j := 0) (lo := 0) (hi := 12) hk.2.2.1
    have q4 := hI2.at (k := k) (j := 0) (lo := 0) (hi := 12) hk.2.2.1
    have q5 := hI1.at (k := k) (j := 0) (lo := 0) (hi := 12) hk.2.2.1
    have q6 : (I1 k 0).toInt = (I k 0).toInt := by rw [eI1, g_up_row (by omega)]
    have q7 : (I2 k 0).toInt = (I1 k 0).toInt := by rw [eI2, g_up_row (by omega)]
    have q8 : (r3 k 0).toInt = (I2 k 0).toInt := by rw [yr3 k (by omega)]
    refine t_pU (lo := 0) (hi := 12) hr3 (ble_lt (by omega)) hk.2.2.1 (by have q := ((tA rfl (by decide : (1 : Int32).toInt = 1) (by omega) (by omega)) : ((r3 k 0) + 1).toInt = ((r3 k 0).toInt + 1)); omega) (fun I4 eI4 hI4 => ?_)
    exact t_ret hI4
set_option maxRecDepth 100000 in
set_option maxHeartbeats 1000000 in
theorem tfX4_setNumber {I0 : gM} (k : Nat) (v1 : Int32) (v2 : Int32) (I : gM) (hk : kX4 k) (hM : MI true I0 I) : T (fX4_setNumber k v1 v2 I) (fun r => MI true I0 r) := by
  have hk_1 := hk.1
  have hk_2 := hk.2.1
  unfold fX4_setNumber
  have q1 := hM.at (k := k) (j := 0) (lo := 0) (hi := 12) hk.2.2.1
  refine t_ite (fun c2 => ?_) (fun c2 => ?_)
  · have c2i := (iLE (a := I k 0) (b := (0 : Int32)) rfl (by decide : (0 : Int32).toInt = 0)).mp c2
    exact t_ret hM
  · have c2i := mt (iLE (a := I k 0) (b := (0 : Int32)) rfl (by decide : (0 : Int32).toInt = 0)).mpr c2
    refine t_ite (fun c3 => ?_) (fun c3 => ?_)
    · have c3i := (iLT (a := v1) (b := (0 : Int32)) rfl (by decide : (0 : Int32).toInt = 0)).mp c3
      exact t_ret hM
    · have c3i := mt (iLT (a := v1) (b := (0 : Int32)) rfl (by decide : (0 : Int32).toInt = 0)).mpr c3
      refine t_ite (fun c4 => ?_) (fun c4 => ?_)
      · have c4i := (iLE (a := (3 : Int32)) (b := v1) (by decide : (3 : Int32).toInt = 3) rfl).mp c4
        exact t_ret hM
      · have c4i := mt (iLE (a := (3 : Int32)) (b := v1) (by decide : (3 : Int32).toInt = 3) rfl).mpr c4
        refine t_wI (lo := (-2147483648)) (hi := 2147483647) hM (ble_lt (by omega)) (fun j _ => hk.2.2.2 j) (tA (tA (tM (tS rfl (by decide : (1 : Int32).toInt = 1) (by omega) (by omega)) (by decide : (5 : Int32).toInt = 5) (by omega) (by omega)) (by decide : (2 : Int32).toInt = 2) (by omega) (by omega)) rfl (by omega) (by omega)) (by omega) (by omega) (tTop _) (fun I1 eI1 hI1 => ?_)
        exact t_ret hI1
set_option maxRecDepth 100000 in
set_option maxHeartbeats 1000000 in
theorem tfX4_partOf {I0 : gM} (k : Nat) (v1 : Int32) (v2 : Int32) (I : gM) (hk : kX4 k) (hM : MI true I0 I) (av1 : 0 ≤ v1.toInt ∧ v1.toInt ≤ 11) (av2 : 0 ≤ v2.toInt ∧ v2.toInt ≤ 4) : T (fX4_partOf k v1 v2 I) (fun r => True) := by
  have hk_1 := hk.1
  have hk_2 := hk.2.1
  unfold fX4_partOf
  refine t_rI (lo := (-2147483648)) (hi := 2147483647) hM (fun j _ => hk.2.2.2 j) (tA (tM rfl (by decide : (5 : Int32).toInt = 5) (by omega) (by omega)) rfl (by omega) (by omega)) (by omega) (by omega) (fun u1 eu1 bu1 => ?_)
  exact t_ret trivial
set_option maxRecDepth 100000 in
set_option maxHeartbeats 1000000 in
theorem tfX5_isFitting {I0 : gM} (k : Nat) (v1 : Int32) (v2 : Int32) (v3 : Int32) (I : gM) (hk : kX5 k) (hM : MI true I0 I) (av1 : 0 ≤ v1.toInt ∧ v1.toInt ≤ 3) : T (fX5_isFitting k v1 v2 v3 I) (fun r => (0 ≤ r.toInt ∧ r.toInt ≤ 1)) := by
  have hk_1 := hk.1
  have hk_2 := hk.2.1
  unfold fX5_isFitting
  refine t_rI (lo := 0) (hi := 3) hM (fun j _ => hk.2.2.2.2.2.1 j) rfl (by omega) (by omega) (fun u1 eu1 bu1 => ?_)
  refine t_ite (fun c1 => ?_) (fun c1 => ?_)
  · have c1i := (iLE (a := u1) (b := v2) rfl rfl).mp c1
    refine t_ite (fun c2 => ?_) (fun c2 => ?_)
    · have c2i := (iEQ (a := v3) (b := ((-1) : Int32)) rfl (by decide : ((-1) : Int32).toInt = (-1))).mp c2
      exact t_ret (by show 0 ≤ ((1 : Int32)).toInt ∧ ((1 : Int32)).toInt ≤ 1; decide)
    · have c2i := mt (iEQ (a := v3) (b := ((-1) : Int32)) rfl (by decide : ((-1) : Int32).toInt = (-1))).mpr c2
      exact t_ret (by show 0 ≤ ((0 : Int32)).toInt ∧ ((0 : Int32)).toInt ≤ 1; decide)
  · have c1i := mt (iLE (a := u1) (b := v2) rfl rfl).mpr c1
    refine t_ite (fun c3 => ?_) (fun c3 => ?_)
    · have c3i := (iLT (a := v3) (b := (0 : Int32)) rfl (by decide : (0 : Int32).toInt = 0)).mp c3
      unfold bX5_isFitting_24
      exact t_ret (by show 0 ≤ ((0 : Int32)).toInt ∧ ((0 : Int32)).toInt ≤ 1; decide)
    · have c3i := mt (iLT (a := v3) (b := (0 : Int32)) rfl (by decide : (0 : Int32).toInt = 0)).mpr c3
      refine t_ite (fun c4 => ?_) (fun c4 => ?_)
      · have c4i := (iLE (a := (100 : Int32)) (b := v3) (by decide : (100 : Int32).toInt = 100) rfl).mp c4
        unfold bX5_isFitting_24
        exact t_ret (by show 0 ≤ ((0 : Int32)).toInt ∧ ((0 : Int32)).toInt ≤ 1; decide)
      · have c4i := mt (iLE (a := (100 : Int32)) (b := v3) (by decide : (100 : Int32).toInt = 100) rfl).mpr c4
        exact t_ret (by show 0 ≤ ((1 : Int32)).toInt ∧ ((1 : Int32)).toInt ≤ 1; decide)
set_option maxRecDepth 100000 in
set_option maxHeartbeats 1000000 in
theorem tfX5_packed (v0 : Int32) (v1 : Int32) (v2 : Int32)  : T (fX5_packed v0 v1 v2) (fun r => True) := by
  unfold fX5_packed
  exact t_ret trivial
set_option maxRecDepth 100000 in
set_option maxHeartbeats 1000000 in
theorem tfX5_refusal {I0 : gM} (k : Nat) (v1 : Int32) (v2 : Int32) (v3 : Int32) (v4 : Int32) (v5 : Int32) (I : gM) (hk : kX5 k) (hM : MI true I0 I) : T (fX5_refusal k v1 v2 v3 v4 v5 I) (fun r => ((-1) ≤ r.toInt ∧ r.toInt ≤ 3) ∧ (¬ r.toInt = (-1) ∨ v1.toInt = 3 ∨ (0 ≤ v2.toInt ∧ v2.toInt < (I k 0).toInt))) := by
  have hk_1 := hk.1
  have hk_2 := hk.2.1
  unfold fX5_refusal
  have q1 := hM.at (k := k) (j := 0) (lo := 0) (hi := 4) hk.2.2.1
  refine t_ite (fun c2 => ?_) (fun c2 => ?_)
  · have c2i := (iEQ (a := I k 0) (b := (0 : Int32)) rfl (by decide : (0 : Int32).toInt = 0)).mp c2
    exact t_ret ⟨(by show (-1) ≤ ((0 : Int32)).toInt ∧ ((0 : Int32)).toInt ≤ 3; decide), (by show ¬ (0 : Int32).toInt = (-1) ∨ v1.toInt = 3 ∨ (0 ≤ v2.toInt ∧ v2.toInt < (I k 0).toInt); have q0 : (0 : Int32).toInt = 0 := (by decide); omega)⟩
  · have c2i := mt (iEQ (a := I k 0) (b := (0 : Int32)) rfl (by decide : (0 : Int32).toInt = 0)).mpr c2
    refine t_ite (fun c3 => ?_) (fun c3 => ?_)
    · have c3i := (iEQ (a := v1) (b := (3 : Int32)) rfl (by decide : (3 : Int32).toInt = 3)).mp c3
      refine t_ite (fun c4 => ?_) (fun c4 => ?_)
      · have c4i := (iLT (a := v2) (b := (0 : Int32)) rfl (by decide : (0 : Int32).toInt = 0)).mp c4
        exact t_ret ⟨(by show (-1) ≤ ((1 : Int32)).toInt ∧ ((1 : Int32)).toInt ≤ 3; decide), (by show ¬ (1 : Int32).toInt = (-1) ∨ v1.toInt = 3 ∨ (0 ≤ v2.toInt ∧ v2.toInt < (I k 0).toInt); have q0 : (1 : Int32).toInt = 1 := (by decide); omega)⟩
      · have c4i := mt (iLT (a := v2) (b := (0 : Int32)) rfl (by decide : (0 : Int32).toInt = 0)).mpr c4
        refine t_ite (fun c5 => ?_) (fun c5 => ?_)
        · have c5i := (iLT (a := v2) (b := (24 : Int32)) rfl (by decide : (24 : Int32).toInt = 24)).mp c5
          refine t_ite (fun c6 => ?_) (fun c6 => ?_)
          · have c6i := (iEQ (a := v2) (b := I k 2) rfl rfl).mp c6
            exact t_ret ⟨(by show (-1) ≤ ((2 : Int32)).toInt ∧ ((2 : Int32)).toInt ≤ 3; decide), (by show ¬ (2 : Int32).toInt = (-1) ∨ v1.toInt = 3 ∨ (0 ≤ v2.toInt ∧ v2.toInt < (I k 0).toInt); have q0 : (2 : Int32).toInt = 2 := (by decide); omega)⟩
          · have c6i := mt (iEQ (a := v2) (b := I k 2) rfl rfl).mpr c6
            exact t_ret ⟨(by show (-1) ≤ (((-1) : Int32)).toInt ∧ (((-1) : Int32)).toInt ≤ 3; decide), (by show ¬ ((-1) : Int32).toInt = (-1) ∨ v1.toInt = 3 ∨ (0 ≤ v2.toInt ∧ v2.toInt < (I k 0).toInt); have q0 : ((-1) : Int32).toInt = (-1) := (by decide); omega)⟩
        · have c5i := mt (iLT (a := v2) (b := (24 : Int32)) rfl (by decide : (24 : Int32).toInt = 24)).mpr c5
          exact t_ret ⟨(by show (-1) ≤ ((1 : Int32)).toInt ∧ ((1 : Int32)).toInt ≤ 3; decide), (by show ¬ (1 : Int32).toInt = (-1) ∨ v1.toInt = 3 ∨ (0 ≤ v2.toInt ∧ v2.toInt < (I k 0).toInt); have q0 : (1 : Int32).toInt = 1 := (by decide); omega)⟩
    · have c3i := mt (iEQ (a := v1) (b := (3 : Int32)) rfl (by decide : (3 : Int32).toInt = 3)).mpr c3
      refine t_bindE (tfX5_isTable k v2 I hk hM) (fun r1 er1 pr1 => ?_)
      obtain ⟨br1_0, xr1_0⟩ := (show (0 ≤ r1.toInt ∧ r1.toInt ≤ 1) ∧ (r1.toInt = 0 ∨ (0 ≤ v2.toInt ∧ v2.toInt < (I k 0).toInt)) from pr1)
      refine t_ite (fun c7 => ?_) (fun c7 => ?_)
      · have c7i := (iEQ (a := r1) (b := (0 : Int32)) rfl (by decide : (0 : Int32).toInt = 0)).mp c7
        exact t_ret ⟨(by show (-1) ≤ ((0 : Int32)).toInt ∧ ((0 : Int32)).toInt ≤ 3; decide), (by show ¬ (0 : Int32).toInt = (-1) ∨ v1.toInt = 3 ∨ (0 ≤ v2.toInt ∧ v2.toInt < (I k 0).toInt); have q0 : (0 : Int32).toInt = 0 := (by decide); omega)⟩
      · have c7i := mt (iEQ (a := r1) (b := (0 : Int32)) rfl (by decide : (0 : Int32).toInt = 0)).mpr c7
        refine t_ite (fun c8 => ?_) (fun c8 => ?_)
        · have c8i := (iEQ (a := v1) (b := (2 : Int32)) rfl (by decide : (2 : Int32).toInt = 2)).mp c8
          refine t_ite (fun c9 => ?_) (fun c9 => ?_)
          · have c9i := (iEQ (a := I k 1) (b := (1 : Int32) <<< (v2 &&& 31)) rfl rfl).mp c9
            exact t_ret ⟨(by show (-1) ≤ ((2 : Int32)).toInt ∧ ((2 : Int32)).toInt ≤ 3; decide), (by show ¬ (2 : Int32).toInt = (-1) ∨ v1.toInt = 3 ∨ (0 ≤ v2.toInt ∧ v2.toInt < (I k 0).toInt); have q0 : (2 : Int32).toInt = 2 := (by decide); omega)⟩
          · have c9i := mt (iEQ (a := I k 1) (b := (1 : Int32) <<< (v2 &&& 31)) rfl rfl).mpr c9
            exact t_ret ⟨(by show (-1) ≤ (((-1) : Int32)).toInt ∧ (((-1) : Int32)).toInt ≤ 3; decide), (by show ¬ ((-1) : Int32).toInt = (-1) ∨ v1.toInt = 3 ∨ (0 ≤ v2.toInt ∧ v2.toInt < (I k 0).toInt); have q0 : ((-1) : Int32).toInt = (-1) := (by decide); omega)⟩
        · have c8i := mt (iEQ (a := v1) (b := (2 : Int32)) rfl (by decide : (2 : Int32).toInt = 2)).mpr c8
          refine t_bindE (tfX5_isFitting k v2 (0 : Int32) v3 I hk hM (by omega)) (fun r2 er2 pr2 => ?_)
          have br2_0 : (0 ≤ r2.toInt ∧ r2.toInt ≤ 1) := pr2
          refine t_ite (fun c10 => ?_) (fun c10 => ?_)
          · have c10i := (iEQ (a := r2) (b := (0 : Int32)) rfl (by decide : (0 : Int32).toInt = 0)).mp c10
            exact t_ret ⟨(by show (-1) ≤ ((1 : Int32)).toInt ∧ ((1 : Int32)).toInt ≤ 3; decide), (by show ¬ (1 : Int32).toInt = (-1) ∨ v1.toInt = 3 ∨ (0 ≤ v2.toInt ∧ v2.toInt < (I k 0).toInt); have q0 : (1 : Int32).toInt = 1 := (by decide); omega)⟩
          · have c10i := mt (iEQ (a := r2) (b := (0 : Int32)) rfl (by decide : (0 : Int32).toInt = 0)).mpr c10
            refine t_bindE (tfX5_isFitting k v2 (1 : Int32) v4 I hk hM (by omega)) (fun r3 er3 pr3 => ?_)
            have br3_0 : (0 ≤ r3.toInt ∧ r3.toInt ≤ 1) := pr3
            refine t_ite (fun c11 => ?_) (fun c11 => ?_)
            · have c11i := (iEQ (a := r3) (b := (0 : Int32)) rfl (by decide : (0 : Int32).toInt = 0)).mp c11
              exact t_ret ⟨(by show (-1) ≤ ((1 : Int32)).toInt ∧ ((1 : Int32)).toInt ≤ 3; decide), (by show ¬ (1 : Int32).toInt = (-1) ∨ v1.toInt = 3 ∨ (0 ≤ v2.toInt ∧ v2.toInt < (I k 0).toInt); have q0 : (1 : Int32).toInt = 1 := (by decide); omega)⟩
            · have c11i := mt (iEQ (a := r3) (b := (0 : Int32)) rfl (by decide : (0 : Int32).toInt = 0)).mpr c11
              refine t_bindE (tfX5_isFitting k v2 (2 : Int32) v5 I hk hM (by omega)) (fun r4 er4 pr4 => ?_)
              have br4_0 : (0 ≤ r4.toInt ∧ r4.toInt ≤ 1) := pr4
              refine t_ite (fun c12 => ?_) (fun c12 => ?_)
              · have c12i := (iEQ (a := r4) (b := (0 : Int32)) rfl (by decide : (0 : Int32).toInt = 0)).mp c12
                exact t_ret ⟨(by show (-1) ≤ ((1 : Int32)).toInt ∧ ((1 : Int32)).toInt ≤ 3; decide), (by show ¬ (1 : Int32).toInt = (-1) ∨ v1.toInt = 3 ∨ (0 ≤ v2.toInt ∧ v2.toInt < (I k 0).toInt); have q0 : (1 : Int32).toInt = 1 := (by decide); omega)⟩
              · have c12i := mt (iEQ (a := r4) (b := (0 : Int32)) rfl (by decide : (0 : Int32).toInt = 0)).mpr c12
                refine t_bindE (tfX5_packed v3 v4 v5) (fun r5 er5 pr5 => ?_)
                refine t_bindE (tfX5_placeOf k v2 r5 I hk hM (by omega)) (fun r6 er6 pr6 => ?_)
                obtain ⟨br6_0, xr6_0⟩ := (show ((-1) ≤ r6.toInt ∧ r6.toInt ≤ 11) ∧ (r6.toInt = (-1) ∨ r6.toInt < (I (k + 2) v2.toInt.toNat).toInt) from pr6)
                refine t_ite (fun c13 => ?_) (fun c13 => ?_)
                · have c13i := (iEQ (a := r6) (b := ((-1) : Int32)) rfl (by decide : ((-1) : Int32).toInt = (-1))).mp c13
                  unfold bX5_refusal_127
                  refine t_ite (fun c14 => ?_) (fun c14 => ?_)
                  · have c14i := (iEQ (a := v1) (b := (1 : Int32)) rfl (by decide : (1 : Int32).toInt = 1)).mp c14
                    unfold bX5_refusal_141
                    refine t_ite (fun c15 => ?_) (fun c15 => ?_)
                    · have c15i := (iEQ (a := (0 : Int32)) (b := (1 : Int32)) (by decide : (0 : Int32).toInt = 0) (by decide : (1 : Int32).toInt = 1)).mp c15
                      omega
                    · have c15i := mt (iEQ (a := (0 : Int32)) (b := (1 : Int32)) (by decide : (0 : Int32).toInt = 0) (by decide : (1 : Int32).toInt = 1)).mpr c15
                      exact t_ret ⟨(by show (-1) ≤ ((2 : Int32)).toInt ∧ ((2 : Int32)).toInt ≤ 3; decide), (by show ¬ (2 : Int32).toInt = (-1) ∨ v1.toInt = 3 ∨ (0 ≤ v2.toInt ∧ v2.toInt < (I k 0).toInt); have q0 : (2 : Int32).toInt = 2 := (by decide); omega)⟩
                  · have c14i := mt (iEQ (a := v1) (b := (1 : Int32)) rfl (by decide : (1 : Int32).toInt = 1)).mpr c14
                    unfold bX5_refusal_141
                    refine t_ite (fun c16 => ?_) (fun c16 => ?_)
                    · have c16i := (iEQ (a := (0 : Int32)) (b := (0 : Int32)) (by decide : (0 : Int32).toInt = 0) (by decide : (0 : Int32).toInt = 0)).mp c16
                      refine t_ite (fun c17 => ?_) (fun c17 => ?_)
                      · have c17i := (iEQ (a := v1) (b := (0 : Int32)) rfl (by decide : (0 : Int32).toInt = 0)).mp c17
                        refine t_rI (lo := 0) (hi := 12) hM (fun j _ => hk.2.2.2.2.2.2.1 j) rfl (by omega) (by omega) (fun u7 eu7 bu7 => ?_)
                        refine t_ite (fun c18 => ?_) (fun c18 => ?_)
                        · have c18i := (iLT (a := u7) (b := (12 : Int32)) rfl (by decide : (12 : Int32).toInt = 12)).mp c18
                          exact t_ret ⟨(by show (-1) ≤ (((-1) : Int32)).toInt ∧ (((-1) : Int32)).toInt ≤ 3; decide), (by show ¬ ((-1) : Int32).toInt = (-1) ∨ v1.toInt = 3 ∨ (0 ≤ v2.toInt ∧ v2.toInt < (I k 0).toInt); have q0 : ((-1) : Int32).toInt = (-1) := (by decide); omega)⟩
                        · have c18i := mt (iLT (a := u7) (b := (12 : Int32)) rfl (by decide : (12 : Int32).toInt = 12)).mpr c18
                          exact t_ret ⟨(by show (-1) ≤ ((3 : Int32)).toInt ∧ ((3 : Int32)).toInt ≤ 3; decide), (by show ¬ (3 : Int32).toInt = (-1) ∨ v1.toInt = 3 ∨ (0 ≤ v2.toInt ∧ v2.toInt < (I k 0).toInt); have q0 : (3 : Int32).toInt = 3 := (by decide); omega)⟩
                      · have c17i := mt (iEQ (a := v1) (b := (0 : Int32)) rfl (by decide : (0 : Int32).toInt = 0)).mpr c17
                        exact t_ret ⟨(by show (-1) ≤ (((-1) : Int32)).toInt ∧ (((-1) : Int32)).toInt ≤ 3; decide), (by show ¬ ((-1) : Int32).toInt = (-1) ∨ v1.toInt = 3 ∨ (0 ≤ v2.toInt ∧ v2.toInt < (I k 0).toInt); have q0 : ((-1) : Int32).toInt = (-1) := (by decide); omega)⟩
                    · have c16i := mt (iEQ (a := (0 : Int32)) (b := (0 : Int32)) (by decide : (0 : Int32).toInt = 0) (by decide : (0 : Int32).toInt = 0)).mpr c16
                      omega
                · have c13i := mt (iEQ (a := r6) (b := ((-1) : Int32)) rfl (by decide : ((-1) : Int32).toInt = (-1))).mpr c13
                  unfold bX5_refusal_127
                  refine t_ite (fun c19 => ?_) (fun c19 => ?_)
                  · have c19i := (iEQ (a := v1) (b := (1 : Int32)) rfl (by decide : (1 : Int32).toInt = 1)).mp c19
                    unfold bX5_refusal_141
                    refine t_ite (fun c20 => ?_) (fun c20 => ?_)
                    · have c20i := (iEQ (a := (1 : Int32)) (b := (1 : Int32)) (by decide : (1 : Int32).toInt = 1) (by decide : (1 : Int32).toInt = 1)).mp c20
                      refine t_ite (fun c21 => ?_) (fun c21 => ?_)
                      · have c21i := (iEQ (a := v1) (b := (0 : Int32)) rfl (by decide : (0 : Int32).toInt = 0)).mp c21
                        omega
                      · have c21i := mt (iEQ (a := v1) (b := (0 : Int32)) rfl (by decide : (0 : Int32).toInt = 0)).mpr c21
                        exact t_ret ⟨(by show (-1) ≤ (((-1) : Int32)).toInt ∧ (((-1) : Int32)).toInt ≤ 3; decide), (by show ¬ ((-1) : Int32).toInt = (-1) ∨ v1.toInt = 3 ∨ (0 ≤ v2.toInt ∧ v2.toInt < (I k 0).toInt); have q0 : ((-1) : Int32).toInt = (-1) := (by decide); omega)⟩
                    · have c20i := mt (iEQ (a := (1 : Int32)) (b := (1 : Int32)) (by decide : (1 : Int32).toInt = 1) (by decide : (1 : Int32).toInt = 1)).mpr c20
                      omega
                  · have c19i := mt (iEQ (a := v1) (b := (1 : Int32)) rfl (by decide : (1 : Int32).toInt = 1)).mpr c19
                    unfold bX5_refusal_141
                    refine t_ite (fun c22 => ?_) (fun c22 => ?_)
                    · have c22i := (iEQ (a := (1 : Int32)) (b := (0 : Int32)) (by decide : (1 : Int32).toInt = 1) (by decide : (0 : Int32).toInt = 0)).mp c22
                      omega
                    · have c22i := mt (iEQ (a := (1 : Int32)) (b := (0 : Int32)) (by decide : (1 : Int32).toInt = 1) (by decide : (0 : Int32).toInt = 0)).mpr c22
                      exact t_ret ⟨(by show (-1) ≤ ((2 : Int32)).toInt ∧ ((2 : Int32)).toInt ≤ 3; decide), (by show ¬ (2 : Int32).toInt = (-1) ∨ v1.toInt = 3 ∨ (0 ≤ v2.toInt ∧ v2.toInt < (I k 0).toInt); have q0 : (2 : Int32).toInt = 2 := (by decide); omega)⟩
set_option maxRecDepth 100000 in
set_option maxHeartbeats 1000000 in
theorem tlX5_insert_45 {I0 : gM} (k : Nat) (v2 : Int32) (v3 : Int32) (hk : kX5 k) (av3 : 0 ≤ v3.toInt ∧ v3.toInt ≤ 36) (s : (Int32 × gM)) (hP : (0 ≤ (s.1).toInt ∧ (s.1).toInt ≤ 47) ∧ MI true I0 s.2 ∧ (v3.toInt ≤ s.1.toInt)) : T (lX5_insert_45 k v2 v3 s) (fun r : Int32 × gM => (0 ≤ r.1.toInt ∧ r.1.toInt ≤ 47) ∧ MI true I0 r.2) := by
  have hk_1 := hk.1
  have hk_2 := hk.2.1
  unfold lX5_insert_45
  refine t_it (P := fun s : (Int32 × gM) => (0 ≤ (s.1).toInt ∧ (s.1).toInt ≤ 47) ∧ MI true I0 s.2 ∧ (v3.toInt ≤ s.1.toInt)) (μ := fun s : (Int32 × gM) => (s.1.toInt + 1).toNat) (fun s p => ?_) hP
  obtain ⟨b0, hs, x2⟩ := p
  refine t_ite (fun c1 => ?_) (fun c1 => ?_)
  · have c1i := (iLE (a := s.1) (b := v3) rfl rfl).mp c1
    exact t_ret (show (0 ≤ (s.1).toInt ∧ (s.1).toInt ≤ 47) ∧ MI true I0 s.2 from ⟨(by omega), hs⟩)
  · have c1i := mt (iLE (a := s.1) (b := v3) rfl rfl).mpr c1
    refine t_rI (lo := (-2147483648)) (hi := 2147483647) hs (fun j _ => hk.2.2.2.2.2.2.2.2 j) (tS rfl (by decide : (1 : Int32).toInt = 1) (by omega) (by omega)) (by omega) (by omega) (fun u5 eu5 bu5 => ?_)
    refine t_ite (fun c2 => ?_) (fun c2 => ?_)
    · have c2i := (iLE (a := u5) (b := v2) rfl rfl).mp c2
      exact t_ret (show (0 ≤ (s.1).toInt ∧ (s.1).toInt ≤ 47) ∧ MI true I0 s.2 from ⟨(by omega), hs⟩)
    · have c2i := mt (iLE (a := u5) (b := v2) rfl rfl).mpr c2
      refine t_rI (lo := (-2147483648)) (hi := 2147483647) hs (fun j _ => hk.2.2.2.2.2.2.2.2 j) (tS rfl (by decide : (1 : Int32).toInt = 1) (by omega) (by omega)) (by omega) (by omega) (fun u6 eu6 bu6 => ?_)
      refine t_wI (lo := (-2147483648)) (hi := 2147483647) hs (ble_lt (by omega)) (fun j _ => hk.2.2.2.2.2.2.2.2 j) rfl (by omega) (by omega) (tTop _) (fun I7 eI7 hI7 => ?_)
      have m0 := ((tA rfl (by decide : ((-1) : Int32).toInt = (-1)) (by omega) (by omega)) : (s.1 + (-1)).toInt = (s.1.toInt + (-1)))
      have mm : ((s.1 + (-1)).toInt + 1).toNat < (s.1.toInt + 1).toNat := by omega
      have pp : (0 ≤ (s.1 + (-1)).toInt ∧ (s.1 + (-1)).toInt ≤ 47) ∧ MI true I0 I7 ∧ (v3.toInt ≤ (s.1 + (-1)).toInt) := ⟨(by show (0 ≤ (s.1 + (-1)).toInt ∧ (s.1 + (-1)).toInt ≤ 47); have q := ((tA rfl (by decide : ((-1) : Int32).toInt = (-1)) (by omega) (by omega)) : (s.1 + (-1)).toInt = (s.1.toInt + (-1))); omega), hI7, (by show (v3.toInt ≤ (s.1 + (-1)).toInt); have q0 := ((tA rfl (by decide : ((-1) : Int32).toInt = (-1)) (by omega) (by omega)) : (s.1 + (-1)).toInt = (s.1.toInt + (-1))); omega)⟩
      exact t_ret ⟨pp, mm⟩
set_option maxRecDepth 100000 in
set_option maxHeartbeats 1000000 in
theorem tfX5_insert {I0 : gM} (k : Nat) (v1 : Int32) (v2 : Int32) (I : gM) (hk : kX5 k) (hM : MI true I0 I) : T (fX5_insert k v1 v2 I) (fun r => MI true I0 r) := by
  have hk_1 := hk.1
  have hk_2 := hk.2.1
  unfold fX5_insert
  refine t_bindE (tfX5_isTable k v1 I hk hM) (fun r1 er1 pr1 => ?_)
  obtain ⟨br1_0, xr1_0⟩ := (show (0 ≤ r1.toInt ∧ r1.toInt ≤ 1) ∧ (r1.toInt = 0 ∨ (0 ≤ v1.toInt ∧ v1.toInt < (I k 0).toInt)) from pr1)
  have q1 := hM.at (k := k) (j := 0) (lo := 0) (hi := 4) hk.2.2.1
  refine t_ite (fun c2 => ?_) (fun c2 => ?_)
  · have c2i := (iEQ (a := r1) (b := (0 : Int32)) rfl (by decide : (0 : Int32).toInt = 0)).mp c2
    exact t_ret hM
  · have c2i := mt (iEQ (a := r1) (b := (0 : Int32)) rfl (by decide : (0 : Int32).toInt = 0)).mpr c2
    refine t_rI (lo := 0) (hi := 12) hM (fun j _ => hk.2.2.2.2.2.2.1 j) rfl (by omega) (by omega) (fun u2 eu2 bu2 => ?_)
    have q3 : u2.toInt = (I (k + 2) (v1.toInt).toNat).toInt := by rw [eu2]
    refine t_ite (fun c4 => ?_) (fun c4 => ?_)
    · have c4i := (iLE (a := (12 : Int32)) (b := u2) (by decide : (12 : Int32).toInt = 12) rfl).mp c4
      exact t_ret hM
    · have c4i := mt (iLE (a := (12 : Int32)) (b := u2) (by decide : (12 : Int32).toInt = 12) rfl).mpr c4
      refine t_bindE (tfX5_placeOf k v1 v2 I hk hM (by omega)) (fun r3 er3 pr3 => ?_)
      obtain ⟨br3_0, xr3_0⟩ := (show ((-1) ≤ r3.toInt ∧ r3.toInt ≤ 11) ∧ (r3.toInt = (-1) ∨ r3.toInt < (I (k + 2) v1.toInt.toNat).toInt) from pr3)
      refine t_ite (fun c5 => ?_) (fun c5 => ?_)
      · have c5i := (iEQ (a := r3) (b := ((-1) : Int32)) rfl (by decide : ((-1) : Int32).toInt = (-1))).mp c5
        refine t_rI (lo := 0) (hi := 12) hM (fun j _ => hk.2.2.2.2.2.2.1 j) rfl (by omega) (by omega) (fun u4 eu4 bu4 => ?_)
        have q6 : u4.toInt = (I (k + 2) (v1.toInt).toNat).toInt := by rw [eu4]
        have q7 := ((tM rfl (by decide : (12 : Int32).toInt = 12) (by omega) (by omega)) : (v1 * 12).toInt = (v1.toInt * 12))
        refine t_bindE (tlX5_insert_45 k v2 (v1 * 12) hk (by have q := ((tM rfl (by decide : (12 : Int32).toInt = 12) (by omega) (by omega)) : (v1 * 12).toInt = (v1.toInt * 12)); omega) ((v1 * 12) + u4, I) ⟨(by show (0 ≤ ((v1 * 12) + u4).toInt ∧ ((v1 * 12) + u4).toInt ≤ 47); have q := ((tA (tM rfl (by decide : (12 : Int32).toInt = 12) (by omega) (by omega)) rfl (by omega) (by omega)) : ((v1 * 12) + u4).toInt = ((v1.toInt * 12) + u4.toInt)); omega), hM, (by show ((v1 * 12).toInt ≤ ((v1 * 12) + u4).toInt); have q0 := ((tA (tM rfl (by decide : (12 : Int32).toInt = 12) (by omega) (by omega)) rfl (by omega) (by omega)) : ((v1 * 12) + u4).toInt = ((v1.toInt * 12) + u4.toInt)); omega)⟩) (fun w8 ew8 pw8 => ?_)
        obtain ⟨bw8_0, hw8_1⟩ := (show (0 ≤ w8.1.toInt ∧ w8.1.toInt ≤ 47) ∧ MI true I0 w8.2 from pw8)
        unfold bX5_insert_86
        refine t_wI (lo := (-2147483648)) (hi := 2147483647) hw8_1 (ble_lt (by omega)) (fun j _ => hk.2.2.2.2.2.2.2.2 j) rfl (by omega) (by omega) (tTop _) (fun I9 eI9 hI9 => ?_)
        refine t_rI (lo := 0) (hi := 12) hI9 (fun j _ => hk.2.2.2.2.2.2.1 j) rfl (by omega) (by omega) (fun u10 eu10 bu10 => ?_)
        have q8 : u10.toInt = (I9 (k + 2) (v1.toInt).toNat).toInt := by rw [eu10]
        have q9 : (I9 (k + 2) (v1.toInt).toNat).toInt = (w8.2 (k + 2) (v1.toInt).toNat).toInt := congrArg (fun g : Nat → Int32 => (g (v1.toInt).toNat).toInt) (show I9 (k + 2) = w8.2 (k + 2) from by rw [eI9]; exact g_up_row (by omega))
        have q10 : (w8.2 (k + 2) (v1.toInt).toNat).toInt = (I (k + 2) (v1.toInt).toNat).toInt := congrArg (fun g : Nat → Int32 => (g (v1.toInt).toNat).toInt) (show w8.2 (k + 2) = I (k + 2) from zlX5_insert_45 k v2 (v1 * 12) ((v1 * 12) + u4, I) ew8 (k + 2) (by omega))
        refine t_wI (lo := 0) (hi := 12) hI9 (ble_lt (by omega)) (fun j _ => hk.2.2.2.2.2.2.1 j) rfl (by omega) (by omega) (by have q := ((tA rfl (by decide : (1 : Int32).toInt = 1) (by omega) (by omega)) : (u10 + 1).toInt = (u10.toInt + 1)); omega) (fun I11 eI11 hI11 => ?_)
        exact t_ret hI11
      · have c5i := mt (iEQ (a := r3) (b := ((-1) : Int32)) rfl (by decide : ((-1) : Int32).toInt = (-1))).mpr c5
        exact t_ret hM
set_option maxRecDepth 100000 in
set_option maxHeartbeats 1000000 in
theorem tlX5_remove_56 {I0 : gM} (k : Nat) (v4 : Int32) (hk : kX5 k) (av4 : 0 ≤ v4.toInt ∧ v4.toInt ≤ 47) (s : (Int32 × gM)) (hP : (0 ≤ (s.1).toInt ∧ (s.1).toInt ≤ 2147483647) ∧ MI true I0 s.2) : T (lX5_remove_56 k v4 s) (fun r : gM => MI true I0 r) := by
  have hk_1 := hk.1
  have hk_2 := hk.2.1
  unfold lX5_remove_56
  refine t_it (P := fun s : (Int32 × gM) => (0 ≤ (s.1).toInt ∧ (s.1).toInt ≤ 2147483647) ∧ MI true I0 s.2) (μ := fun s : (Int32 × gM) => (2147483648 - s.1.toInt).toNat) (fun s p => ?_) hP
  obtain ⟨b0, hs⟩ := p
  refine t_ite (fun c1 => ?_) (fun c1 => ?_)
  · have c1i := (iLE (a := v4) (b := s.1) rfl rfl).mp c1
    exact t_ret (show MI true I0 s.2 from hs)
  · have c1i := mt (iLE (a := v4) (b := s.1) rfl rfl).mpr c1
    refine t_rI (lo := (-2147483648)) (hi := 2147483647) hs (fun j _ => hk.2.2.2.2.2.2.2.2 j) (tA rfl (by decide : (1 : Int32).toInt = 1) (by omega) (by omega)) (by omega) (by omega) (fun u5 eu5 bu5 => ?_)
    refine t_wI (lo := (-2147483648)) (hi := 2147483647) hs (ble_lt (by omega)) (fun j _ => hk.2.2.2.2.2.2.2.2 j) rfl (by omega) (by omega) (tTop _) (fun I6 eI6 hI6 => ?_)
    have m0 := ((tA rfl (by decide : (1 : Int32).toInt = 1) (by omega) (by omega)) : (s.1 + 1).toInt = (s.1.toInt + 1))
    have mm : (2147483648 - (s.1 + 1).toInt).toNat < (2147483648 - s.1.toInt).toNat := by omega
    have pp : (0 ≤ (s.1 + 1).toInt ∧ (s.1 + 1).toInt ≤ 2147483647) ∧ MI true I0 I6 := ⟨(by show (0 ≤ (s.1 + 1).toInt ∧ (s.1 + 1).toInt ≤ 2147483647); have q := ((tA rfl (by decide : (1 : Int32).toInt = 1) (by omega) (by omega)) : (s.1 + 1).toInt = (s.1.toInt + 1)); omega), hI6⟩
    exact t_ret ⟨pp, mm⟩
set_option maxRecDepth 100000 in
set_option maxHeartbeats 1000000 in
theorem tfX5_remove {I0 : gM} (k : Nat) (v1 : Int32) (v2 : Int32) (I : gM) (hk : kX5 k) (hM : MI true I0 I) : T (fX5_remove k v1 v2 I) (fun r => MI true I0 r) := by
  have hk_1 := hk.1
  have hk_2 := hk.2.1
  unfold fX5_remove
  refine t_bindE (tfX5_isTable k v1 I hk hM) (fun r1 er1 pr1 => ?_)
  obtain ⟨br1_0, xr1_0⟩ := (show (0 ≤ r1.toInt ∧ r1.toInt ≤ 1) ∧ (r1.toInt = 0 ∨ (0 ≤ v1.toInt ∧ v1.toInt < (I k 0).toInt)) from pr1)
  have q1 := hM.at (k := k) (j := 0) (lo := 0) (hi := 4) hk.2.2.1
  refine t_ite (fun c2 => ?_) (fun c2 => ?_)
  · have c2i := (iEQ (a := r1) (b := (0 : Int32)) rfl (by decide : (0 : Int32).toInt = 0)).mp c2
    unfold bX5_remove_18
    refine t_ite (fun c3 => ?_) (fun c3 => ?_)
    · have c3i := (iEQ (a := ((-1) : Int32)) (b := ((-1) : Int32)) (by decide : ((-1) : Int32).toInt = (-1)) (by decide : ((-1) : Int32).toInt = (-1))).mp c3
      exact t_ret hM
    · have c3i := mt (iEQ (a := ((-1) : Int32)) (b := ((-1) : Int32)) (by decide : ((-1) : Int32).toInt = (-1)) (by decide : ((-1) : Int32).toInt = (-1))).mpr c3
      omega
  · have c2i := mt (iEQ (a := r1) (b := (0 : Int32)) rfl (by decide : (0 : Int32).toInt = 0)).mpr c2
    refine t_bindE (tfX5_placeOf k v1 v2 I hk hM (by omega)) (fun r8 er8 pr8 => ?_)
    obtain ⟨br8_0, xr8_0⟩ := (show ((-1) ≤ r8.toInt ∧ r8.toInt ≤ 11) ∧ (r8.toInt = (-1) ∨ r8.toInt < (I (k + 2) v1.toInt.toNat).toInt) from pr8)
    unfold bX5_remove_18
    refine t_ite (fun c4 => ?_) (fun c4 => ?_)
    · have c4i := (iEQ (a := r8) (b := ((-1) : Int32)) rfl (by decide : ((-1) : Int32).toInt = (-1))).mp c4
      exact t_ret hM
    · have c4i := mt (iEQ (a := r8) (b := ((-1) : Int32)) rfl (by decide : ((-1) : Int32).toInt = (-1))).mpr c4
      refine t_rI (lo := 0) (hi := 12) hM (fun j _ => hk.2.2.2.2.2.2.1 j) rfl (by omega) (by omega) (fun u2 eu2 bu2 => ?_)
      have q5 : u2.toInt = (I (k + 2) (v1.toInt).toNat).toInt := by rw [eu2]
      refine t_wI (lo := 0) (hi := 12) hM (ble_lt (by omega)) (fun j _ => hk.2.2.2.2.2.2.1 j) rfl (by omega) (by omega) (by have q := ((tS rfl (by decide : (1 : Int32).toInt = 1) (by omega) (by omega)) : (u2 - 1).toInt = (u2.toInt - 1)); omega) (fun I3 eI3 hI3 => ?_)
      refine t_rI (lo := 0) (hi := 12) hI3 (fun j _ => hk.2.2.2.2.2.2.1 j) rfl (by omega) (by omega) (fun u4 eu4 bu4 => ?_)
      have q6 : u4.toInt = (I3 (k + 2) (v1.toInt).toNat).toInt := by rw [eu4]
      have q7 : (I3 (k + 2) (v1.toInt).toNat).toInt = (u2.toInt - 1) := by rw [eI3, g_up_self]; exact (tS rfl (by decide : (1 : Int32).toInt = 1) (by omega) (by omega))
      have q8 : u4.toInt = (u2.toInt - 1) := by rw [eu4, eI3, g_up_self]; exact (tS rfl (by decide : (1 : Int32).toInt = 1) (by omega) (by omega))
      refine t_bindE (tlX5_remove_56 k ((v1 * 12) + u4) hk (by have q := ((tA (tM rfl (by decide : (12 : Int32).toInt = 12) (by omega) (by omega)) rfl (by omega) (by omega)) : ((v1 * 12) + u4).toInt = ((v1.toInt * 12) + u4.toInt)); omega) ((v1 * 12) + r8, I3) ⟨(by show (0 ≤ ((v1 * 12) + r8).toInt ∧ ((v1 * 12) + r8).toInt ≤ 2147483647); have q := ((tA (tM rfl (by decide : (12 : Int32).toInt = 12) (by omega) (by omega)) rfl (by omega) (by omega)) : ((v1 * 12) + r8).toInt = ((v1.toInt * 12) + r8.toInt)); omega), hI3⟩) (fun w7 ew7 pw7 => ?_)
      have hw7_0 : MI true I0 w7 := pw7
      exact t_ret hw7_0
set_option maxRecDepth 100000 in
set_option maxHeartbeats 1000000 in
theorem tfX5_change {I0 : gM} (k : Nat) (v1 : Int32) (v2 : Int32) (v3 : Int32) (I : gM) (hk : kX5 k) (hM : MI true I0 I) : T (fX5_change k v1 v2 v3 I) (fun r => MI true I0 r) := by
  have hk_1 := hk.1
  have hk_2 := hk.2.1
  unfold fX5_change
  refine t_ite (fun c1 => ?_) (fun c1 => ?_)
  · have c1i := (iEQ (a := v1) (b := (0 : Int32)) rfl (by decide : (0 : Int32).toInt = 0)).mp c1
    refine t_bindE (tfX5_insert k v2 v3 I hk hM) (fun r1 er1 pr1 => ?_)
    have hr1_0 : MI true I0 r1 := pr1
    exact t_ret hr1_0
  · have c1i := mt (iEQ (a := v1) (b := (0 : Int32)) rfl (by decide : (0 : Int32).toInt = 0)).mpr c1
    refine t_ite (fun c2 => ?_) (fun c2 => ?_)
    · have c2i := (iEQ (a := v1) (b := (1 : Int32)) rfl (by decide : (1 : Int32).toInt = 1)).mp c2
      refine t_bindE (tfX5_remove k v2 v3 I hk hM) (fun r2 er2 pr2 => ?_)
      have hr2_0 : MI true I0 r2 := pr2
      exact t_ret hr2_0
    · have c2i := mt (iEQ (a := v1) (b := (1 : Int32)) rfl (by decide : (1 : Int32).toInt = 1)).mpr c2
      refine t_ite (fun c3 => ?_) (fun c3 => ?_)
      · have c3i := (iEQ (a := v1) (b := (2 : Int32)) rfl (by decide : (2 : Int32).toInt = 2)).mp c3
        refine t_pU (lo := (-2147483648)) (hi := 2147483647) hM (ble_lt (by omega)) hk.2.2.2.1 (tTop _) (fun I3 eI3 hI3 => ?_)
        exact t_ret hI3
      · have c3i := mt (iEQ (a := v1) (b := (2 : Int32)) rfl (by decide : (2 : Int32).toInt = 2)).mpr c3
        refine t_pU (lo := (-2147483648)) (hi := 2147483647) hM (ble_lt (by omega)) hk.2.2.2.2.1 (tTop _) (fun I4 eI4 hI4 => ?_)
        exact t_ret hI4
set_option maxRecDepth 100000 in
set_option maxHeartbeats 1000000 in
theorem tlX4_rehearse_2 {I0 : gM} (k : Nat) (k1 : Nat) (hk : kX4 k) (hk1 : kX5 k1) (s : (Int32 × gM)) (hP : (0 ≤ (s.1).toInt ∧ (s.1).toInt ≤ 2147483647) ∧ MI true I0 s.2) : T (lX4_rehearse_2 k k1 s) (Sum.elim (fun r : Int32 × gM => MI true I0 r.2) (fun r : gM => MI true I0 r)) := by
  have hk_1 := hk.1
  have hk_2 := hk.2.1
  have hk1_1 := hk1.1
  have hk1_2 := hk1.2.1
  unfold lX4_rehearse_2
  refine t_it (P := fun s : (Int32 × gM) => (0 ≤ (s.1).toInt ∧ (s.1).toInt ≤ 2147483647) ∧ MI true I0 s.2) (μ := fun s : (Int32 × gM) => (2147483648 - s.1.toInt).toNat) (fun s p => ?_) hP
  obtain ⟨b0, hs⟩ := p
  have q1 := hs.at (k := k) (j := 0) (lo := 0) (hi := 12) hk.2.2.1
  refine t_ite (fun c2 => ?_) (fun c2 => ?_)
  · have c2i := (iLE (a := s.2 k 0) (b := s.1) rfl rfl).mp c2
    exact t_ret (show MI true I0 s.2 from hs)
  · have c2i := mt (iLE (a := s.2 k 0) (b := s.1) rfl rfl).mpr c2
    refine t_bindE (tfX4_partOf k s.1 (0 : Int32) s.2 hk hs (by omega) (by decide)) (fun r1 er1 pr1 => ?_)
    refine t_bindE (tfX4_partOf k s.1 (1 : Int32) s.2 hk hs (by omega) (by decide)) (fun r2 er2 pr2 => ?_)
    refine t_bindE (tfX4_partOf k s.1 (2 : Int32) s.2 hk hs (by omega) (by decide)) (fun r3 er3 pr3 => ?_)
    refine t_bindE (tfX4_partOf k s.1 (3 : Int32) s.2 hk hs (by omega) (by decide)) (fun r4 er4 pr4 => ?_)
    refine t_bindE (tfX4_partOf k s.1 (4 : Int32) s.2 hk hs (by omega) (by decide)) (fun r5 er5 pr5 => ?_)
    refine t_bindE (tfX5_refusal k1 r1 r2 r3 r4 r5 s.2 hk1 hs) (fun r6 er6 pr6 => ?_)
    obtain ⟨br6_0, xr6_0⟩ := (show ((-1) ≤ r6.toInt ∧ r6.toInt ≤ 3) ∧ (¬ r6.toInt = (-1) ∨ r1.toInt = 3 ∨ (0 ≤ r2.toInt ∧ r2.toInt < (s.2 k1 0).toInt)) from pr6)
    have q3 := hs.at (k := k1) (j := 0) (lo := 0) (hi := 4) hk1.2.2.1
    refine t_ite (fun c4 => ?_) (fun c4 => ?_)
    · have c4i := (iEQ (a := r6) (b := ((-1) : Int32)) rfl (by decide : ((-1) : Int32).toInt = (-1))).mp c4
      refine t_bindE (tfX5_packed r3 r4 r5) (fun r7 er7 pr7 => ?_)
      refine t_bindE (tfX5_change k1 r1 r2 r7 s.2 hk1 hs) (fun r8 er8 pr8 => ?_)
      have hr8_0 : MI true I0 r8 := pr8
      have m0 := ((tA rfl (by decide : (1 : Int32).toInt = 1) (by omega) (by omega)) : (s.1 + 1).toInt = (s.1.toInt + 1))
      have mm : (2147483648 - (s.1 + 1).toInt).toNat < (2147483648 - s.1.toInt).toNat := by omega
      have pp : (0 ≤ (s.1 + 1).toInt ∧ (s.1 + 1).toInt ≤ 2147483647) ∧ MI true I0 r8 := ⟨(by show (0 ≤ (s.1 + 1).toInt ∧ (s.1 + 1).toInt ≤ 2147483647); have q := ((tA rfl (by decide : (1 : Int32).toInt = 1) (by omega) (by omega)) : (s.1 + 1).toInt = (s.1.toInt + 1)); omega), hr8_0⟩
      exact t_ret ⟨pp, mm⟩
    · have c4i := mt (iEQ (a := r6) (b := ((-1) : Int32)) rfl (by decide : ((-1) : Int32).toInt = (-1))).mpr c4
      exact t_ret (show MI true I0 s.2 from hs)
set_option maxRecDepth 100000 in
set_option maxHeartbeats 1000000 in
theorem tfX4_rehearse {I0 : gM} (k : Nat) (k1 : Nat) (I : gM) (hk : kX4 k) (hk1 : kX5 k1) (hM : MI true I0 I) : T (fX4_rehearse k k1 I) (fun r => MI true I0 r.2) := by
  have hk_1 := hk.1
  have hk_2 := hk.2.1
  have hk1_1 := hk1.1
  have hk1_2 := hk1.2.1
  unfold fX4_rehearse
  refine t_bindE (tlX4_rehearse_2 k k1 hk hk1 ((0 : Int32), I) ⟨(by show (0 ≤ ((0 : Int32)).toInt ∧ ((0 : Int32)).toInt ≤ 2147483647); decide), hM⟩) (fun w9 ew9 pw9 => ?_)
  rcases w9 with w9_0 | w9_1
  · refine t_el ?_
    have hw9_0_1 : MI true I0 w9_0.2 := pw9
    exact t_ret hw9_0_1
  · refine t_er ?_
    have hw9_1_0 : MI true I0 w9_1 := pw9
    exact t_ret hw9_1_0
set_option maxRecDepth 100000 in
set_option maxHeartbeats 1000000 in
theorem tfX5_clear {I0 : gM} (k : Nat) (I : gM) (hk : kX5 k) (hM : MI true I0 I) : T (fX5_clear k I) (fun r => MI true I0 r) := by
  have hk_1 := hk.1
  have hk_2 := hk.2.1
  unfold fX5_clear
  refine t_pU (lo := 0) (hi := 4) hM (ble_lt (by omega)) hk.2.2.1 (by decide) (fun I1 eI1 hI1 => ?_)
  refine t_pU (lo := (-2147483648)) (hi := 2147483647) hI1 (ble_lt (by omega)) hk.2.2.2.1 (tTop _) (fun I2 eI2 hI2 => ?_)
  refine t_pU (lo := (-2147483648)) (hi := 2147483647) hI2 (ble_lt (by omega)) hk.2.2.2.2.1 (tTop _) (fun I3 eI3 hI3 => ?_)
  refine t_bind (t_fill (k + 1) 4 (0 : Int32) I3 (lo := 0) (hi := 3) hI3 (ble_lt (by omega)) (fun j _ => hk.2.2.2.2.2.1 j) (by decide) (by decide)) (fun r4 pr4 => ?_)
  obtain ⟨hr4, yr4, zr4⟩ := pr4
  refine t_bind (t_fill (k + 2) 4 (0 : Int32) r4 (lo := 0) (hi := 12) hr4 (ble_lt (by omega)) (fun j _ => hk.2.2.2.2.2.2.1 j) (by decide) (by decide)) (fun r5 pr5 => ?_)
  obtain ⟨hr5, yr5, zr5⟩ := pr5
  exact t_ret hr5
set_option maxRecDepth 100000 in
set_option maxHeartbeats 1000000 in
theorem tfX5_copyFrom {I0 : gM} (k : Nat) (k1 : Nat) (I : gM) (hk : kX5 k) (hk1 : kX5 k1) (hM : MI true I0 I) : T (fX5_copyFrom k k1 I) (fun r => MI true I0 r) := by
  have hk_1 := hk.1
  have hk_2 := hk.2.1
  have hk1_1 := hk1.1
  have hk1_2 := hk1.2.1
  unfold fX5_copyFrom
  have q1 := hM.at (k := k1) (j := 0) (lo := 0) (hi := 4) hk1.2.2.1
  refine t_pU (lo := 0) (hi := 4) hM (ble_lt (by omega)) hk.2.2.1 (by omega) (fun I1 eI1 hI1 => ?_)
  refine t_pU (lo := (-2147483648)) (hi := 2147483647) hI1 (ble_lt (by omega)) hk.2.2.2.1 (tTop _) (fun I2 eI2 hI2 => ?_)
  refine t_pU (lo := (-2147483648)) (hi := 2147483647) hI2 (ble_lt (by omega)) hk.2.2.2.2.1 (tTop _) (fun I3 eI3 hI3 => ?_)
  refine t_cp hI3 (ble_lt (by omega)) (fun i j => by rw [show rg (k1 + 1) i = _ from (hk1.2.2.2.2.2.1 _), show rg (k + 1) j = _ from (hk.2.2.2.2.2.1 _)]) (by decide) (fun I4 eI4 hI4 => ?_)
  refine t_cp hI4 (ble_lt (by omega)) (fun i j => by rw [show rg (k1 + 2) i = _ from (hk1.2.2.2.2.2.2.1 _), show rg (k + 2) j = _ from (hk.2.2.2.2.2.2.1 _)]) (by decide) (fun I5 eI5 hI5 => ?_)
  refine t_cp hI5 (ble_lt (by omega)) (fun i j => by rw [show rg (k1 + 3) i = _ from (hk1.2.2.2.2.2.2.2.1 _), show rg (k + 3) j = _ from (hk.2.2.2.2.2.2.2.1 _)]) (by decide) (fun I6 eI6 hI6 => ?_)
  refine t_cp hI6 (ble_lt (by omega)) (fun i j => by rw [show rg (k1 + 4) i = _ from (hk1.2.2.2.2.2.2.2.2 _), show rg (k + 4) j = _ from (hk.2.2.2.2.2.2.2.2 _)]) (by decide) (fun I7 eI7 hI7 => ?_)
  exact t_ret hI7
set_option maxRecDepth 100000 in
set_option maxHeartbeats 1000000 in
theorem tfX5_open {I0 : gM} (k : Nat) (I : gM) (hk : kX5 k) (hM : MI true I0 I) : T (fX5_open k I) (fun r => MI true I0 r) := by
  have hk_1 := hk.1
  have hk_2 := hk.2.1
  unfold fX5_open
  have q1 := hM.at (k := k) (j := 0) (lo := 0) (hi := 4) hk.2.2.1
  refine t_ite (fun c2 => ?_) (fun c2 => ?_)
  · have c2i := (iLE (a := (4 : Int32)) (b := I k 0) (by decide : (4 : Int32).toInt = 4) rfl).mp c2
    exact t_ret hM
  · have c2i := mt (iLE (a := (4 : Int32)) (b := I k 0) (by decide : (4 : Int32).toInt = 4) rfl).mpr c2
    refine t_wI (lo := 0) (hi := 3) hM (ble_lt (by omega)) (fun j _ => hk.2.2.2.2.2.1 j) rfl (by omega) (by omega) (by decide) (fun I1 eI1 hI1 => ?_)
    have q3 := hI1.at (k := k) (j := 0) (lo := 0) (hi := 4) hk.2.2.1
    have q4 : (I1 k 0).toInt = (I k 0).toInt := by rw [eI1, g_up_row (by omega)]
    refine t_wI (lo := 0) (hi := 12) hI1 (ble_lt (by omega)) (fun j _ => hk.2.2.2.2.2.2.1 j) rfl (by omega) (by omega) (by decide) (fun I2 eI2 hI2 => ?_)
    refine t_pU (lo := (-2147483648)) (hi := 2147483647) hI2 (ble_lt (by omega)) hk.2.2.2.1 (tTop _) (fun I3 eI3 hI3 => ?_)
    have q5 := hI3.at (k := k) (j := 0) (lo := 0) (hi := 4) hk.2.2.1
    have q6 := hI2.at (k := k) (j := 0) (lo := 0) (hi := 4) hk.2.2.1
    have q7 : (I2 k 0).toInt = (I1 k 0).toInt := by rw [eI2, g_up_row (by omega)]
    have q8 : (I3 k 0).toInt = (I2 k 0).toInt := by rw [eI3, g_up_ne (Or.inr (by decide))]
    refine t_pU (lo := 0) (hi := 4) hI3 (ble_lt (by omega)) hk.2.2.1 (by have q := ((tA rfl (by decide : (1 : Int32).toInt = 1) (by omega) (by omega)) : ((I3 k 0) + 1).toInt = ((I3 k 0).toInt + 1)); omega) (fun I4 eI4 hI4 => ?_)
    exact t_ret hI4
set_option maxRecDepth 100000 in
set_option maxHeartbeats 1000000 in
theorem tfX5_addLetter {I0 : gM} (k : Nat) (v1 : Int32) (I : gM) (hk : kX5 k) (hM : MI true I0 I) (av1 : 0 ≤ v1.toInt ∧ v1.toInt ≤ 3) : T (fX5_addLetter k v1 I) (fun r => (0 ≤ r.1.toInt ∧ r.1.toInt ≤ 1) ∧ MI true I0 r.2 ∧ ((r.2 1 2).toInt = (I 1 2).toInt)) := by
  have hk_1 := hk.1
  have hk_2 := hk.2.1
  unfold fX5_addLetter
  have q1 := hM.at (k := 1) (j := 2) (lo := 0) (hi := 400) rfl
  refine t_bindE (tfX5_isTable k ((I k 0) - 1) I hk hM) (fun r1 er1 pr1 => ?_)
  obtain ⟨br1_0, xr1_0⟩ := (show (0 ≤ r1.toInt ∧ r1.toInt ≤ 1) ∧ (r1.toInt = 0 ∨ (0 ≤ ((I k 0) - 1).toInt ∧ ((I k 0) - 1).toInt < (I k 0).toInt)) from pr1)
  have q2 := hM.at (k := k) (j := 0) (lo := 0) (hi := 4) hk.2.2.1
  have q3 := ((tS rfl (by decide : (1 : Int32).toInt = 1) (by omega) (by omega)) : ((I k 0) - 1).toInt = ((I k 0).toInt - 1))
  refine t_ite (fun c4 => ?_) (fun c4 => ?_)
  · have c4i := (iEQ (a := r1) (b := (0 : Int32)) rfl (by decide : (0 : Int32).toInt = 0)).mp c4
    exact t_ret ⟨(by show 0 ≤ ((0 : Int32)).toInt ∧ ((0 : Int32)).toInt ≤ 1; decide), hM, (by show (I 1 2).toInt = (I 1 2).toInt; have q0 : (0 : Int32).toInt = 0 := (by decide); omega)⟩
  · have c4i := mt (iEQ (a := r1) (b := (0 : Int32)) rfl (by decide : (0 : Int32).toInt = 0)).mpr c4
    refine t_rI (lo := 0) (hi := 3) hM (fun j _ => hk.2.2.2.2.2.1 j) (tS rfl (by decide : (1 : Int32).toInt = 1) (by omega) (by omega)) (by omega) (by omega) (fun u2 eu2 bu2 => ?_)
    have q5 : u2.toInt = (I (k + 1) (((I k 0).toInt - 1)).toNat).toInt := by rw [eu2]
    refine t_ite (fun c6 => ?_) (fun c6 => ?_)
    · have c6i := (iLE (a := (3 : Int32)) (b := u2) (by decide : (3 : Int32).toInt = 3) rfl).mp c6
      exact t_ret ⟨(by show 0 ≤ ((0 : Int32)).toInt ∧ ((0 : Int32)).toInt ≤ 1; decide), hM, (by show (I 1 2).toInt = (I 1 2).toInt; have q0 : (0 : Int32).toInt = 0 := (by decide); omega)⟩
    · have c6i := mt (iLE (a := (3 : Int32)) (b := u2) (by decide : (3 : Int32).toInt = 3) rfl).mpr c6
      refine t_bindE (tfX5_columnOf k ((I k 0) - 1) v1 I hk hM (by have q := ((tS rfl (by decide : (1 : Int32).toInt = 1) (by omega) (by omega)) : ((I k 0) - 1).toInt = ((I k 0).toInt - 1)); omega)) (fun r3 er3 pr3 => ?_)
      have br3_0 : ((-1) ≤ r3.toInt ∧ r3.toInt ≤ 2) := pr3
      refine t_ite (fun c7 => ?_) (fun c7 => ?_)
      · have c7i := (iEQ (a := r3) (b := ((-1) : Int32)) rfl (by decide : ((-1) : Int32).toInt = (-1))).mp c7
        refine t_rI (lo := 0) (hi := 3) hM (fun j _ => hk.2.2.2.2.2.1 j) (tS rfl (by decide : (1 : Int32).toInt = 1) (by omega) (by omega)) (by omega) (by omega) (fun u4 eu4 bu4 => ?_)
        have q8 : u4.toInt = (I (k + 1) (((I k 0).toInt - 1)).toNat).toInt := by rw [eu4]
        refine t_wI (lo := 0) (hi := 3) hM (ble_lt (by omega)) (fun j _ => hk.2.2.2.2.2.2.2.1 j) (tA (tM (tS rfl (by decide : (1 : Int32).toInt = 1) (by omega) (by omega)) (by decide : (3 : Int32).toInt = 3) (by omega) (by omega)) rfl (by omega) (by omega)) (by omega) (by omega) (by omega) (fun I5 eI5 hI5 => ?_)
        refine t_rI (lo := 0) (hi := 3) hI5 (fun j _ => hk.2.2.2.2.2.1 j) (tS rfl (by decide : (1 : Int32).toInt = 1) (by omega) (by omega)) (by omega) (by omega) (fun u6 eu6 bu6 => ?_)
        have q9 : u6.toInt = (I5 (k + 1) (((I k 0).toInt - 1)).toNat).toInt := by rw [eu6]
        have q10 : (I5 (k + 1) (((I k 0).toInt - 1)).toNat).toInt = (I (k + 1) (((I k 0).toInt - 1)).toNat).toInt := congrArg (fun g : Nat → Int32 => (g (((I k 0).toInt - 1)).toNat).toInt) (show I5 (k + 1) = I (k + 1) from by rw [eI5]; exact g_up_row (by omega))
        refine t_wI (lo := 0) (hi := 3) hI5 (ble_lt (by omega)) (fun j _ => hk.2.2.2.2.2.1 j) (tS rfl (by decide : (1 : Int32).toInt = 1) (by omega) (by omega)) (by omega) (by omega) (by have q := ((tA rfl (by decide : (1 : Int32).toInt = 1) (by omega) (by omega)) : (u6 + 1).toInt = (u6.toInt + 1)); omega) (fun I7 eI7 hI7 => ?_)
        have q11 := hI7.at (k := 1) (j := 2) (lo := 0) (hi := 400) rfl
        have q12 := hI5.at (k := 1) (j := 2) (lo := 0) (hi := 400) rfl
        have q13 : (I5 1 2).toInt = (I 1 2).toInt := by rw [eI5, g_up_row (by omega)]
        have q14 : (I7 1 2).toInt = (I5 1 2).toInt := by rw [eI7, g_up_row (by omega)]
        exact t_ret ⟨(by show 0 ≤ ((1 : Int32)).toInt ∧ ((1 : Int32)).toInt ≤ 1; decide), hI7, (by show (I7 1 2).toInt = (I 1 2).toInt; have q0 : (1 : Int32).toInt = 1 := (by decide); omega)⟩
      · have c7i := mt (iEQ (a := r3) (b := ((-1) : Int32)) rfl (by decide : ((-1) : Int32).toInt = (-1))).mpr c7
        exact t_ret ⟨(by show 0 ≤ ((0 : Int32)).toInt ∧ ((0 : Int32)).toInt ≤ 1; decide), hM, (by show (I 1 2).toInt = (I 1 2).toInt; have q0 : (0 : Int32).toInt = 0 := (by decide); omega)⟩
set_option maxRecDepth 100000 in
set_option maxHeartbeats 1000000 in
theorem tlX5_allRows_4 {I0 : gM} (k : Nat) (I : gM) (hk : kX5 k) (hM : MI true I0 I) (s : (Int32 × Int32)) (hP : (0 ≤ (s.2).toInt ∧ (s.2).toInt ≤ 2147483647)) : T (lX5_allRows_4 k I s) (fun r : Int32 => True) := by
  have hk_1 := hk.1
  have hk_2 := hk.2.1
  unfold lX5_allRows_4
  refine t_it (P := fun s : (Int32 × Int32) => (0 ≤ (s.2).toInt ∧ (s.2).toInt ≤ 2147483647)) (μ := fun s : (Int32 × Int32) => (2147483648 - s.2.toInt).toNat) (fun s p => ?_) hP
  have b1 : (0 ≤ (s.2).toInt ∧ (s.2).toInt ≤ 2147483647) := p
  have q1 := hM.at (k := k) (j := 0) (lo := 0) (hi := 4) hk.2.2.1
  refine t_ite (fun c2 => ?_) (fun c2 => ?_)
  · have c2i := (iLE (a := I k 0) (b := s.2) rfl rfl).mp c2
    exact t_ret (show True from trivial)
  · have c2i := mt (iLE (a := I k 0) (b := s.2) rfl rfl).mpr c2
    refine t_rI (lo := 0) (hi := 12) hM (fun j _ => hk.2.2.2.2.2.2.1 j) rfl (by omega) (by omega) (fun u1 eu1 bu1 => ?_)
    have m1 := ((tA rfl (by decide : (1 : Int32).toInt = 1) (by omega) (by omega)) : (s.2 + 1).toInt = (s.2.toInt + 1))
    have mm : (2147483648 - (s.2 + 1).toInt).toNat < (2147483648 - s.2.toInt).toNat := by omega
    have pp : (0 ≤ (s.2 + 1).toInt ∧ (s.2 + 1).toInt ≤ 2147483647) := (by show (0 ≤ (s.2 + 1).toInt ∧ (s.2 + 1).toInt ≤ 2147483647); have q := ((tA rfl (by decide : (1 : Int32).toInt = 1) (by omega) (by omega)) : (s.2 + 1).toInt = (s.2.toInt + 1)); omega)
    exact t_ret ⟨pp, mm⟩
set_option maxRecDepth 100000 in
set_option maxHeartbeats 1000000 in
theorem tfX5_allRows {I0 : gM} (k : Nat) (I : gM) (hk : kX5 k) (hM : MI true I0 I) : T (fX5_allRows k I) (fun r => True) := by
  have hk_1 := hk.1
  have hk_2 := hk.2.1
  unfold fX5_allRows
  refine t_bindE (tlX5_allRows_4 k I hk hM ((0 : Int32), (0 : Int32)) (by show (0 ≤ ((0 : Int32)).toInt ∧ ((0 : Int32)).toInt ≤ 2147483647); decide)) (fun w2 ew2 pw2 => ?_)
  exact t_ret trivial
set_option maxRecDepth 100000 in
set_option maxHeartbeats 1000000 in
theorem tlX5_allNumbers_14 {I0 : gM} (k : Nat) (v2 : Int32) (I : gM) (hk : kX5 k) (hM : MI true I0 I) (av2 : 0 ≤ v2.toInt ∧ v2.toInt ≤ 3) (s : (Int32 × Int32)) (hP : (0 ≤ (s.2).toInt ∧ (s.2).toInt ≤ 2147483647)) : T (lX5_allNumbers_14 k v2 I s) (fun r : Int32 => True) := by
  have hk_1 := hk.1
  have hk_2 := hk.2.1
  unfold lX5_allNumbers_14
  refine t_it (P := fun s : (Int32 × Int32) => (0 ≤ (s.2).toInt ∧ (s.2).toInt ≤ 2147483647)) (μ := fun s : (Int32 × Int32) => (2147483648 - s.2.toInt).toNat) (fun s p => ?_) hP
  have b1 : (0 ≤ (s.2).toInt ∧ (s.2).toInt ≤ 2147483647) := p
  refine t_rI (lo := 0) (hi := 12) hM (fun j _ => hk.2.2.2.2.2.2.1 j) rfl (by omega) (by omega) (fun u1 eu1 bu1 => ?_)
  refine t_ite (fun c1 => ?_) (fun c1 => ?_)
  · have c1i := (iLE (a := u1) (b := s.2) rfl rfl).mp c1
    exact t_ret (show True from trivial)
  · have c1i := mt (iLE (a := u1) (b := s.2) rfl rfl).mpr c1
    refine t_bindE (tfX5_rowAt k v2 s.2 I hk hM (by omega) (by omega)) (fun r2 er2 pr2 => ?_)
    have m1 := ((tA rfl (by decide : (1 : Int32).toInt = 1) (by omega) (by omega)) : (s.2 + 1).toInt = (s.2.toInt + 1))
    have mm : (2147483648 - (s.2 + 1).toInt).toNat < (2147483648 - s.2.toInt).toNat := by omega
    have pp : (0 ≤ (s.2 + 1).toInt ∧ (s.2 + 1).toInt ≤ 2147483647) := (by show (0 ≤ (s.2 + 1).toInt ∧ (s.2 + 1).toInt ≤ 2147483647); have q := ((tA rfl (by decide : (1 : Int32).toInt = 1) (by omega) (by omega)) : (s.2 + 1).toInt = (s.2.toInt + 1)); omega)
    exact t_ret ⟨pp, mm⟩
set_option maxRecDepth 100000 in
set_option maxHeartbeats 1000000 in
theorem tlX5_allNumbers_4 {I0 : gM} (k : Nat) (I : gM) (hk : kX5 k) (hM : MI true I0 I) (s : (Int32 × Int32)) (hP : (0 ≤ (s.2).toInt ∧ (s.2).toInt ≤ 2147483647)) : T (lX5_allNumbers_4 k I s) (fun r : Int32 => True) := by
  have hk_1 := hk.1
  have hk_2 := hk.2.1
  unfold lX5_allNumbers_4
  refine t_it (P := fun s : (Int32 × Int32) => (0 ≤ (s.2).toInt ∧ (s.2).toInt ≤ 2147483647)) (μ := fun s : (Int32 × Int32) => (2147483648 - s.2.toInt).toNat) (fun s p => ?_) hP
  have b1 : (0 ≤ (s.2).toInt ∧ (s.2).toInt ≤ 2147483647) := p
  have q1 := hM.at (k := k) (j := 0) (lo := 0) (hi := 4) hk.2.2.1
  refine t_ite (fun c2 => ?_) (fun c2 => ?_)
  · have c2i := (iLE (a := I k 0) (b := s.2) rfl rfl).mp c2
    exact t_ret (show True from trivial)
  · have c2i := mt (iLE (a := I k 0) (b := s.2) rfl rfl).mpr c2
    refine t_bindE (tlX5_allNumbers_14 k s.2 I hk hM (by omega) (s.1, (0 : Int32)) (by show (0 ≤ ((0 : Int32)).toInt ∧ ((0 : Int32)).toInt ≤ 2147483647); decide)) (fun w3 ew3 pw3 => ?_)
    have m1 := ((tA rfl (by decide : (1 : Int32).toInt = 1) (by omega) (by omega)) : (s.2 + 1).toInt = (s.2.toInt + 1))
    have mm : (2147483648 - (s.2 + 1).toInt).toNat < (2147483648 - s.2.toInt).toNat := by omega
    have pp : (0 ≤ (s.2 + 1).toInt ∧ (s.2 + 1).toInt ≤ 2147483647) := (by show (0 ≤ (s.2 + 1).toInt ∧ (s.2 + 1).toInt ≤ 2147483647); have q := ((tA rfl (by decide : (1 : Int32).toInt = 1) (by omega) (by omega)) : (s.2 + 1).toInt = (s.2.toInt + 1)); omega)
    exact t_ret ⟨pp, mm⟩
set_option maxRecDepth 100000 in
set_option maxHeartbeats 1000000 in
theorem tfX5_allNumbers {I0 : gM} (k : Nat) (I : gM) (hk : kX5 k) (hM : MI true I0 I) : T (fX5_allNumbers k I) (fun r => True) := by
  have hk_1 := hk.1
  have hk_2 := hk.2.1
  unfold fX5_allNumbers
  refine t_bindE (tlX5_allNumbers_4 k I hk hM ((0 : Int32), (0 : Int32)) (by show (0 ≤ ((0 : Int32)).toInt ∧ ((0 : Int32)).toInt ≤ 2147483647); decide)) (fun w4 ew4 pw4 => ?_)
  exact t_ret trivial
set_option maxRecDepth 100000 in
set_option maxHeartbeats 1000000 in
theorem tfX5_changeBack {I0 : gM} (k : Nat) (v1 : Int32) (v2 : Int32) (v3 : Int32) (I : gM) (hk : kX5 k) (hM : MI true I0 I) : T (fX5_changeBack k v1 v2 v3 I) (fun r => MI true I0 r) := by
  have hk_1 := hk.1
  have hk_2 := hk.2.1
  unfold fX5_changeBack
  refine t_ite (fun c1 => ?_) (fun c1 => ?_)
  · have c1i := (iEQ (a := v1) (b := (0 : Int32)) rfl (by decide : (0 : Int32).toInt = 0)).mp c1
    refine t_bindE (tfX5_remove k v2 v3 I hk hM) (fun r1 er1 pr1 => ?_)
    have hr1_0 : MI true I0 r1 := pr1
    exact t_ret hr1_0
  · have c1i := mt (iEQ (a := v1) (b := (0 : Int32)) rfl (by decide : (0 : Int32).toInt = 0)).mpr c1
    refine t_ite (fun c2 => ?_) (fun c2 => ?_)
    · have c2i := (iEQ (a := v1) (b := (1 : Int32)) rfl (by decide : (1 : Int32).toInt = 1)).mp c2
      refine t_bindE (tfX5_insert k v2 v3 I hk hM) (fun r2 er2 pr2 => ?_)
      have hr2_0 : MI true I0 r2 := pr2
      exact t_ret hr2_0
    · have c2i := mt (iEQ (a := v1) (b := (1 : Int32)) rfl (by decide : (1 : Int32).toInt = 1)).mpr c2
      refine t_bindE (tfX5_change k v1 v2 v3 I hk hM) (fun r3 er3 pr3 => ?_)
      have hr3_0 : MI true I0 r3 := pr3
      exact t_ret hr3_0
set_option maxRecDepth 100000 in
set_option maxHeartbeats 1000000 in
theorem tlX6_bytesIn_5 (v0 : Int32)  (s : (Int32 × Int32)) (hP : ((-8) ≤ (s.2).toInt ∧ (s.2).toInt ≤ 24)) : T (lX6_bytesIn_5 v0 s) (fun r : Int32 => True) := by
  unfold lX6_bytesIn_5
  refine t_it (P := fun s : (Int32 × Int32) => ((-8) ≤ (s.2).toInt ∧ (s.2).toInt ≤ 24)) (μ := fun s : (Int32 × Int32) => (s.2.toInt + 9).toNat) (fun s p => ?_) hP
  have b1 : ((-8) ≤ (s.2).toInt ∧ (s.2).toInt ≤ 24) := p
  refine t_ite (fun c1 => ?_) (fun c1 => ?_)
  · have c1i := (iLT (a := s.2) (b := (0 : Int32)) rfl (by decide : (0 : Int32).toInt = 0)).mp c1
    exact t_ret (show True from trivial)
  · have c1i := mt (iLT (a := s.2) (b := (0 : Int32)) rfl (by decide : (0 : Int32).toInt = 0)).mpr c1
    have q2 : 0 ≤ ((v0 >>> (s.2 &&& 31)) &&& 255).toInt ∧ ((v0 >>> (s.2 &&& 31)) &&& 255).toInt ≤ 255 := and_b (v0 >>> (s.2 &&& 31)) (Or.inr (Or.inr (Or.inl rfl)))
    refine t_ite (fun c3 => ?_) (fun c3 => ?_)
    · have c3i := (iEQ (a := (v0 >>> (s.2 &&& 31)) &&& 255) (b := (0 : Int32)) rfl (by decide : (0 : Int32).toInt = 0)).mp c3
      unfold bX6_bytesIn_22
      have m1 := ((tA rfl (by decide : ((-8) : Int32).toInt = (-8)) (by omega) (by omega)) : (s.2 + (-8)).toInt = (s.2.toInt + (-8)))
      have mm : ((s.2 + (-8)).toInt + 9).toNat < (s.2.toInt + 9).toNat := by omega
      have pp : ((-8) ≤ (s.2 + (-8)).toInt ∧ (s.2 + (-8)).toInt ≤ 24) := (by show ((-8) ≤ (s.2 + (-8)).toInt ∧ (s.2 + (-8)).toInt ≤ 24); have q := ((tA rfl (by decide : ((-8) : Int32).toInt = (-8)) (by omega) (by omega)) : (s.2 + (-8)).toInt = (s.2.toInt + (-8))); omega)
      exact t_ret ⟨pp, mm⟩
    · have c3i := mt (iEQ (a := (v0 >>> (s.2 &&& 31)) &&& 255) (b := (0 : Int32)) rfl (by decide : (0 : Int32).toInt = 0)).mpr c3
      unfold bX6_bytesIn_22
      have m1 := ((tA rfl (by decide : ((-8) : Int32).toInt = (-8)) (by omega) (by omega)) : (s.2 + (-8)).toInt = (s.2.toInt + (-8)))
      have mm : ((s.2 + (-8)).toInt + 9).toNat < (s.2.toInt + 9).toNat := by omega
      have pp : ((-8) ≤ (s.2 + (-8)).toInt ∧ (s.2 + (-8)).toInt ≤ 24) := (by show ((-8) ≤ (s.2 + (-8)).toInt ∧ (s.2 + (-8)).toInt ≤ 24); have q := ((tA rfl (by decide : ((-8) : Int32).toInt = (-8)) (by omega) (by omega)) : (s.2 + (-8)).toInt = (s.2.toInt + (-8))); omega)
      exact t_ret ⟨pp, mm⟩
set_option maxRecDepth 100000 in
set_option maxHeartbeats 1000000 in
theorem tfX6_bytesIn (v0 : Int32)  : T (fX6_bytesIn v0) (fun r => True) := by
  unfold fX6_bytesIn
  refine t_bindE (tlX6_bytesIn_5 v0 ((0 : Int32), (24 : Int32)) (by show ((-8) ≤ ((24 : Int32)).toInt ∧ ((24 : Int32)).toInt ≤ 24); decide)) (fun w1 ew1 pw1 => ?_)
  exact t_ret trivial
set_option maxRecDepth 100000 in
set_option maxHeartbeats 1000000 in
theorem tlX6_append_3 {I0 : gM} (v1 : Int32)  (s : (Int32 × gM)) (hP : ((-8) ≤ (s.1).toInt ∧ (s.1).toInt ≤ 24) ∧ MI true I0 s.2) : T (lX6_append_3 v1 s) (fun r : gM => MI true I0 r) := by
  unfold lX6_append_3
  refine t_it (P := fun s : (Int32 × gM) => ((-8) ≤ (s.1).toInt ∧ (s.1).toInt ≤ 24) ∧ MI true I0 s.2) (μ := fun s : (Int32 × gM) => (s.1.toInt + 9).toNat) (fun s p => ?_) hP
  obtain ⟨b0, hs⟩ := p
  refine t_ite (fun c1 => ?_) (fun c1 => ?_)
  · have c1i := (iLT (a := s.1) (b := (0 : Int32)) rfl (by decide : (0 : Int32).toInt = 0)).mp c1
    exact t_ret (show MI true I0 s.2 from hs)
  · have c1i := mt (iLT (a := s.1) (b := (0 : Int32)) rfl (by decide : (0 : Int32).toInt = 0)).mpr c1
    have q2 : 0 ≤ ((v1 >>> (s.1 &&& 31)) &&& 255).toInt ∧ ((v1 >>> (s.1 &&& 31)) &&& 255).toInt ≤ 255 := and_b (v1 >>> (s.1 &&& 31)) (Or.inr (Or.inr (Or.inl rfl)))
    refine t_ite (fun c3 => ?_) (fun c3 => ?_)
    · have c3i := (iEQ (a := (v1 >>> (s.1 &&& 31)) &&& 255) (b := (0 : Int32)) rfl (by decide : (0 : Int32).toInt = 0)).mp c3
      unfold bX6_append_50
      have m0 := ((tA rfl (by decide : ((-8) : Int32).toInt = (-8)) (by omega) (by omega)) : (s.1 + (-8)).toInt = (s.1.toInt + (-8)))
      have mm : ((s.1 + (-8)).toInt + 9).toNat < (s.1.toInt + 9).toNat := by omega
      have pp : ((-8) ≤ (s.1 + (-8)).toInt ∧ (s.1 + (-8)).toInt ≤ 24) ∧ MI true I0 s.2 := ⟨(by show ((-8) ≤ (s.1 + (-8)).toInt ∧ (s.1 + (-8)).toInt ≤ 24); have q := ((tA rfl (by decide : ((-8) : Int32).toInt = (-8)) (by omega) (by omega)) : (s.1 + (-8)).toInt = (s.1.toInt + (-8))); omega), hs⟩
      exact t_ret ⟨pp, mm⟩
    · have c3i := mt (iEQ (a := (v1 >>> (s.1 &&& 31)) &&& 255) (b := (0 : Int32)) rfl (by decide : (0 : Int32).toInt = 0)).mpr c3
      have q4 := hs.at (k := 1) (j := 0) (lo := 0) (hi := 400) rfl
      refine t_ite (fun c5 => ?_) (fun c5 => ?_)
      · have c5i := (iLE (a := (400 : Int32)) (b := s.2 1 0) (by decide : (400 : Int32).toInt = 400) rfl).mp c5
        unfold bX6_append_50
        have m0 := ((tA rfl (by decide : ((-8) : Int32).toInt = (-8)) (by omega) (by omega)) : (s.1 + (-8)).toInt = (s.1.toInt + (-8)))
        have mm : ((s.1 + (-8)).toInt + 9).toNat < (s.1.toInt + 9).toNat := by omega
        have pp : ((-8) ≤ (s.1 + (-8)).toInt ∧ (s.1 + (-8)).toInt ≤ 24) ∧ MI true I0 s.2 := ⟨(by show ((-8) ≤ (s.1 + (-8)).toInt ∧ (s.1 + (-8)).toInt ≤ 24); have q := ((tA rfl (by decide : ((-8) : Int32).toInt = (-8)) (by omega) (by omega)) : (s.1 + (-8)).toInt = (s.1.toInt + (-8))); omega), hs⟩
        exact t_ret ⟨pp, mm⟩
      · have c5i := mt (iLE (a := (400 : Int32)) (b := s.2 1 0) (by decide : (400 : Int32).toInt = 400) rfl).mpr c5
        refine t_wI (lo := (-128)) (hi := 127) hs rfl (fun _ _ => rfl) rfl (by omega) (by omega) (vb_b _) (fun I1 eI1 hI1 => ?_)
        have q6 := hI1.at (k := 1) (j := 0) (lo := 0) (hi := 400) rfl
        have q7 : (I1 1 0).toInt = (s.2 1 0).toInt := by rw [eI1, g_up_row (by decide)]
        refine t_pU (lo := 0) (hi := 400) hI1 rfl rfl (by have q := ((tA rfl (by decide : (1 : Int32).toInt = 1) (by omega) (by omega)) : ((I1 1 0) + 1).toInt = ((I1 1 0).toInt + 1)); omega) (fun I2 eI2 hI2 => ?_)
        unfold bX6_append_50
        have m0 := ((tA rfl (by decide : ((-8) : Int32).toInt = (-8)) (by omega) (by omega)) : (s.1 + (-8)).toInt = (s.1.toInt + (-8)))
        have mm : ((s.1 + (-8)).toInt + 9).toNat < (s.1.toInt + 9).toNat := by omega
        have pp : ((-8) ≤ (s.1 + (-8)).toInt ∧ (s.1 + (-8)).toInt ≤ 24) ∧ MI true I0 I2 := ⟨(by show ((-8) ≤ (s.1 + (-8)).toInt ∧ (s.1 + (-8)).toInt ≤ 24); have q := ((tA rfl (by decide : ((-8) : Int32).toInt = (-8)) (by omega) (by omega)) : (s.1 + (-8)).toInt = (s.1.toInt + (-8))); omega), hI2⟩
        exact t_ret ⟨pp, mm⟩
set_option maxRecDepth 100000 in
set_option maxHeartbeats 1000000 in
theorem tfX6_append {I0 : gM} (v1 : Int32) (I : gM) (hM : MI true I0 I) : T (fX6_append v1 I) (fun r => MI true I0 r) := by
  unfold fX6_append
  refine t_bindE (tlX6_append_3 v1 ((24 : Int32), I) ⟨(by show ((-8) ≤ ((24 : Int32)).toInt ∧ ((24 : Int32)).toInt ≤ 24); decide), hM⟩) (fun w3 ew3 pw3 => ?_)
  have hw3_0 : MI true I0 w3 := pw3
  exact t_ret hw3_0
set_option maxRecDepth 100000 in
set_option maxHeartbeats 1000000 in
theorem tlX6_peek_0 {I0 : gM}   (s : gM) (hP : MI true I0 s) : T (lX6_peek_0 s) (fun r : gM => MI true I0 r) := by
  unfold lX6_peek_0
  refine t_it (P := fun s : gM => MI true I0 s) (μ := fun s : gM => (400 - (s 1 2).toInt).toNat) (fun s p => ?_) hP
  have hs : MI true I0 s := p
  have q1 := hs.at (k := 1) (j := 0) (lo := 0) (hi := 400) rfl
  have q2 := hs.at (k := 1) (j := 2) (lo := 0) (hi := 400) rfl
  refine t_ite (fun c3 => ?_) (fun c3 => ?_)
  · have c3i := (iLE (a := s 1 0) (b := s 1 2) rfl rfl).mp c3
    exact t_ret (show MI true I0 s from hs)
  · have c3i := mt (iLE (a := s 1 0) (b := s 1 2) rfl rfl).mpr c3
    refine t_ite (fun c4 => ?_) (fun c4 => ?_)
    · have c4i := (iLE (a := (400 : Int32)) (b := s 1 2) (by decide : (400 : Int32).toInt = 400) rfl).mp c4
      omega
    · have c4i := mt (iLE (a := (400 : Int32)) (b := s 1 2) (by decide : (400 : Int32).toInt = 400) rfl).mpr c4
      refine t_rI (lo := (-128)) (hi := 127) hs (fun _ _ => rfl) rfl (by omega) (by omega) (fun u1 eu1 bu1 => ?_)
      refine t_ite (fun c5 => ?_) (fun c5 => ?_)
      · have c5i := (iEQ (a := u1) (b := (32 : Int32)) rfl (by decide : (32 : Int32).toInt = 32)).mp c5
        refine t_pU (lo := 0) (hi := 400) hs rfl rfl (by have q := ((tA rfl (by decide : (1 : Int32).toInt = 1) (by omega) (by omega)) : ((s 1 2) + 1).toInt = ((s 1 2).toInt + 1)); omega) (fun I2 eI2 hI2 => ?_)
        have q6 := hI2.at (k := 1) (j := 2) (lo := 0) (hi := 400) rfl
        have q7 : (I2 1 2).toInt = ((s 1 2).toInt + 1) := by rw [eI2, g_up_self]; exact (tA rfl (by decide : (1 : Int32).toInt = 1) (by omega) (by omega))
        have mm : (400 - (I2 1 2).toInt).toNat < (400 - (s 1 2).toInt).toNat := by omega
        have pp : MI true I0 I2 := hI2
        exact t_ret ⟨pp, mm⟩
      · have c5i := mt (iEQ (a := u1) (b := (32 : Int32)) rfl (by decide : (32 : Int32).toInt = 32)).mpr c5
        exact t_ret (show MI true I0 s from hs)
set_option maxRecDepth 100000 in
set_option maxHeartbeats 1000000 in
theorem tfX6_peek {I0 : gM} (I : gM) (hM : MI true I0 I) : T (fX6_peek I) (fun r => ((-1) ≤ r.1.toInt ∧ r.1.toInt ≤ 255) ∧ MI true I0 r.2 ∧ (r.1.toInt = (-1) ∨ (r.2 1 2).toInt < 400)) := by
  unfold fX6_peek
  refine t_bindE (tlX6_peek_0 I hM) (fun w3 ew3 pw3 => ?_)
  have hw3_0 : MI true I0 w3 := pw3
  unfold bX6_peek_48
  have q1 := hw3_0.at (k := 1) (j := 0) (lo := 0) (hi := 400) rfl
  have q2 := hM.at (k := 1) (j := 0) (lo := 0) (hi := 400) rfl
  have q3 : (w3 1 0).toInt = (I 1 0).toInt := congrArg Int32.toInt (show w3 1 0 = I 1 0 from xlX6_peek_0 I ew3 1 0 (Or.inr (by decide)))
  have q4 := hw3_0.at (k := 1) (j := 2) (lo := 0) (hi := 400) rfl
  refine t_ite (fun c5 => ?_) (fun c5 => ?_)
  · have c5i := (iLE (a := w3 1 0) (b := w3 1 2) rfl rfl).mp c5
    exact t_ret ⟨(by show (-1) ≤ (((-1) : Int32)).toInt ∧ (((-1) : Int32)).toInt ≤ 255; decide), hw3_0, (by show ((-1) : Int32).toInt = (-1) ∨ (w3 1 2).toInt < 400; have q0 : ((-1) : Int32).toInt = (-1) := (by decide); omega)⟩
  · have c5i := mt (iLE (a := w3 1 0) (b := w3 1 2) rfl rfl).mpr c5
    refine t_ite (fun c6 => ?_) (fun c6 => ?_)
    · have c6i := (iLE (a := (400 : Int32)) (b := w3 1 2) (by decide : (400 : Int32).toInt = 400) rfl).mp c6
      omega
    · have c6i := mt (iLE (a := (400 : Int32)) (b := w3 1 2) (by decide : (400 : Int32).toInt = 400) rfl).mpr c6
      refine t_rI (lo := (-128)) (hi := 127) hw3_0 (fun _ _ => rfl) rfl (by omega) (by omega) (fun u4 eu4 bu4 => ?_)
      have q7 : 0 ≤ (u4 &&& 255).toInt ∧ (u4 &&& 255).toInt ≤ 255 := and_b (u4) (Or.inr (Or.inr (Or.inl rfl)))
      exact t_ret ⟨(by show (-1) ≤ (u4 &&& 255).toInt ∧ (u4 &&& 255).toInt ≤ 255; omega), hw3_0, (by show (u4 &&& 255).toInt = (-1) ∨ (w3 1 2).toInt < 400; skip; omega)⟩
set_option maxRecDepth 100000 in
set_option maxHeartbeats 1000000 in
theorem tfX6_isDigit (v0 : Int32)  : T (fX6_isDigit v0) (fun r => (0 ≤ r.toInt ∧ r.toInt ≤ 1) ∧ (r.toInt = 0 ∨ (48 ≤ v0.toInt ∧ v0.toInt ≤ 57))) := by
  unfold fX6_isDigit
  refine t_ite (fun c1 => ?_) (fun c1 => ?_)
  · have c1i := (iLT (a := v0) (b := (48 : Int32)) rfl (by decide : (48 : Int32).toInt = 48)).mp c1
    exact t_ret ⟨(by show 0 ≤ ((0 : Int32)).toInt ∧ ((0 : Int32)).toInt ≤ 1; decide), (by show (0 : Int32).toInt = 0 ∨ (48 ≤ v0.toInt ∧ v0.toInt ≤ 57); have q0 : (0 : Int32).toInt = 0 := (by decide); omega)⟩
  · have c1i := mt (iLT (a := v0) (b := (48 : Int32)) rfl (by decide : (48 : Int32).toInt = 48)).mpr c1
    refine t_ite (fun c2 => ?_) (fun c2 => ?_)
    · have c2i := (iLT (a := (57 : Int32)) (b := v0) (by decide : (57 : Int32).toInt = 57) rfl).mp c2
      exact t_ret ⟨(by show 0 ≤ ((0 : Int32)).toInt ∧ ((0 : Int32)).toInt ≤ 1; decide), (by show (0 : Int32).toInt = 0 ∨ (48 ≤ v0.toInt ∧ v0.toInt ≤ 57); have q0 : (0 : Int32).toInt = 0 := (by decide); omega)⟩
    · have c2i := mt (iLT (a := (57 : Int32)) (b := v0) (by decide : (57 : Int32).toInt = 57) rfl).mpr c2
      exact t_ret ⟨(by show 0 ≤ ((1 : Int32)).toInt ∧ ((1 : Int32)).toInt ≤ 1; decide), (by show (1 : Int32).toInt = 0 ∨ (48 ≤ v0.toInt ∧ v0.toInt ≤ 57); have q0 : (1 : Int32).toInt = 1 := (by decide); omega)⟩
set_option maxRecDepth 100000 in
set_option maxHeartbeats 1000000 in
theorem tfX6_number {I0 : gM} (I : gM) (hM : MI true I0 I) : T (fX6_number I) (fun r => ((-176) ≤ r.1.toInt ∧ r.1.toInt ≤ 169) ∧ MI true I0 r.2 ∧ (r.1.toInt = (-1) ∨ 1 ≤ (r.2 1 2).toInt)) := by
  unfold fX6_number
  refine t_bindE (tfX6_peek I hM) (fun r1 er1 pr1 => ?_)
  obtain ⟨br1_0, hr1_1, xr1_0⟩ := (show ((-1) ≤ r1.1.toInt ∧ r1.1.toInt ≤ 255) ∧ MI true I0 r1.2 ∧ (r1.1.toInt = (-1) ∨ (r1.2 1 2).toInt < 400) from pr1)
  have q1 := hr1_1.at (k := 1) (j := 2) (lo := 0) (hi := 400) rfl
  refine t_bindE (tfX6_isDigit r1.1) (fun r2 er2 pr2 => ?_)
  obtain ⟨br2_0, xr2_0⟩ := (show (0 ≤ r2.toInt ∧ r2.toInt ≤ 1) ∧ (r2.toInt = 0 ∨ (48 ≤ r1.1.toInt ∧ r1.1.toInt ≤ 57)) from pr2)
  refine t_ite (fun c2 => ?_) (fun c2 => ?_)
  · have c2i := (iEQ (a := r2) (b := (0 : Int32)) rfl (by decide : (0 : Int32).toInt = 0)).mp c2
    exact t_ret ⟨(by show (-176) ≤ (((-1) : Int32)).toInt ∧ (((-1) : Int32)).toInt ≤ 169; decide), hr1_1, (by show ((-1) : Int32).toInt = (-1) ∨ 1 ≤ (r1.2 1 2).toInt; have q0 : ((-1) : Int32).toInt = (-1) := (by decide); omega)⟩
  · have c2i := mt (iEQ (a := r2) (b := (0 : Int32)) rfl (by decide : (0 : Int32).toInt = 0)).mpr c2
    refine t_pU (lo := 0) (hi := 400) hr1_1 rfl rfl (by have q := ((tA rfl (by decide : (1 : Int32).toInt = 1) (by omega) (by omega)) : ((r1.2 1 2) + 1).toInt = ((r1.2 1 2).toInt + 1)); omega) (fun I3 eI3 hI3 => ?_)
    have q3 := hI3.at (k := 1) (j := 0) (lo := 0) (hi := 400) rfl
    have q4 := hr1_1.at (k := 1) (j := 0) (lo := 0) (hi := 400) rfl
    have q5 := hM.at (k := 1) (j := 0) (lo := 0) (hi := 400) rfl
    have q6 : (r1.2 1 0).toInt = (I 1 0).toInt := congrArg Int32.toInt (show r1.2 1 0 = I 1 0 from xfX6_peek I er1 1 0 (Or.inr (by decide)))
    have q7 : (I3 1 0).toInt = (r1.2 1 0).toInt := by rw [eI3, g_up_ne (Or.inr (by decide))]
    have q8 := hI3.at (k := 1) (j := 2) (lo := 0) (hi := 400) rfl
    have q9 : (I3 1 2).toInt = ((r1.2 1 2).toInt + 1) := by rw [eI3, g_up_self]; exact (tA rfl (by decide : (1 : Int32).toInt = 1) (by omega) (by omega))
    refine t_ite (fun c10 => ?_) (fun c10 => ?_)
    · have c10i := (iLE (a := I3 1 0) (b := I3 1 2) rfl rfl).mp c10
      exact t_ret ⟨(by show (-176) ≤ (r1.1 - 48).toInt ∧ (r1.1 - 48).toInt ≤ 169; have q := ((tS rfl (by decide : (48 : Int32).toInt = 48) (by omega) (by omega)) : (r1.1 - 48).toInt = (r1.1.toInt - 48)); omega), hI3, (by show (r1.1 - 48).toInt = (-1) ∨ 1 ≤ (I3 1 2).toInt; have q0 := ((tS rfl (by decide : (48 : Int32).toInt = 48) (by omega) (by omega)) : (r1.1 - 48).toInt = (r1.1.toInt - 48)); omega)⟩
    · have c10i := mt (iLE (a := I3 1 0) (b := I3 1 2) rfl rfl).mpr c10
      refine t_ite (fun c11 => ?_) (fun c11 => ?_)
      · have c11i := (iLE (a := (400 : Int32)) (b := I3 1 2) (by decide : (400 : Int32).toInt = 400) rfl).mp c11
        omega
      · have c11i := mt (iLE (a := (400 : Int32)) (b := I3 1 2) (by decide : (400 : Int32).toInt = 400) rfl).mpr c11
        refine t_rI (lo := (-128)) (hi := 127) hI3 (fun _ _ => rfl) rfl (by omega) (by omega) (fun u4 eu4 bu4 => ?_)
        refine t_bindE (tfX6_isDigit u4) (fun r5 er5 pr5 => ?_)
        obtain ⟨br5_0, xr5_0⟩ := (show (0 ≤ r5.toInt ∧ r5.toInt ≤ 1) ∧ (r5.toInt = 0 ∨ (48 ≤ u4.toInt ∧ u4.toInt ≤ 57)) from pr5)
        refine t_ite (fun c12 => ?_) (fun c12 => ?_)
        · have c12i := (iEQ (a := r5) (b := (0 : Int32)) rfl (by decide : (0 : Int32).toInt = 0)).mp c12
          exact t_ret ⟨(by show (-176) ≤ (r1.1 - 48).toInt ∧ (r1.1 - 48).toInt ≤ 169; have q := ((tS rfl (by decide : (48 : Int32).toInt = 48) (by omega) (by omega)) : (r1.1 - 48).toInt = (r1.1.toInt - 48)); omega), hI3, (by show (r1.1 - 48).toInt = (-1) ∨ 1 ≤ (I3 1 2).toInt; have q0 := ((tS rfl (by decide : (48 : Int32).toInt = 48) (by omega) (by omega)) : (r1.1 - 48).toInt = (r1.1.toInt - 48)); omega)⟩
        · have c12i := mt (iEQ (a := r5) (b := (0 : Int32)) rfl (by decide : (0 : Int32).toInt = 0)).mpr c12
          refine t_rI (lo := (-128)) (hi := 127) hI3 (fun _ _ => rfl) rfl (by omega) (by omega) (fun u6 eu6 bu6 => ?_)
          refine t_pU (lo := 0) (hi := 400) hI3 rfl rfl (by have q := ((tA rfl (by decide : (1 : Int32).toInt = 1) (by omega) (by omega)) : ((I3 1 2) + 1).toInt = ((I3 1 2).toInt + 1)); omega) (fun I7 eI7 hI7 => ?_)
          have q13 := hI7.at (k := 1) (j := 2) (lo := 0) (hi := 400) rfl
          have q14 : (I7 1 2).toInt = ((I3 1 2).toInt + 1) := by rw [eI7, g_up_self]; exact (tA rfl (by decide : (1 : Int32).toInt = 1) (by omega) (by omega))
          exact t_ret ⟨(by show (-176) ≤ ((((r1.1 - 48) * 10) + u6) - 48).toInt ∧ ((((r1.1 - 48) * 10) + u6) - 48).toInt ≤ 169; have q := ((tS (tA (tM (tS rfl (by decide : (48 : Int32).toInt = 48) (by omega) (by omega)) (by decide : (10 : Int32).toInt = 10) (by omega) (by omega)) rfl (by omega) (by omega)) (by decide : (48 : Int32).toInt = 48) (by omega) (by omega)) : ((((r1.1 - 48) * 10) + u6) - 48).toInt = ((((r1.1.toInt - 48) * 10) + u6.toInt) - 48)); omega), hI7, (by show ((((r1.1 - 48) * 10) + u6) - 48).toInt = (-1) ∨ 1 ≤ (I7 1 2).toInt; have q0 := ((tS (tA (tM (tS rfl (by decide : (48 : Int32).toInt = 48) (by omega) (by omega)) (by decide : (10 : Int32).toInt = 10) (by omega) (by omega)) rfl (by omega) (by omega)) (by decide : (48 : Int32).toInt = 48) (by omega) (by omega)) : ((((r1.1 - 48) * 10) + u6) - 48).toInt = ((((r1.1.toInt - 48) * 10) + u6.toInt) - 48)); omega)⟩
set_option maxRecDepth 100000 in
set_option maxHeartbeats 1000000 in
theorem tlX6_isRow_5 {I0 : gM} (k1 : Nat) (v2 : Int32) (hk1 : kX5 k1) (av2 : 0 ≤ v2.toInt ∧ v2.toInt ≤ 3) (s : (Int32 × Int32 × gM)) (hP : (0 ≤ (s.2.1).toInt ∧ (s.2.1).toInt ≤ 2147483647) ∧ MI true I0 s.2.2) : T (lX6_isRow_5 k1 v2 s) (Sum.elim (fun r : gM => MI true I0 r) (Sum.elim (fun r : gM => MI true I0 r) (fun r : Int32 × gM => MI true I0 r.2))) := by
  have hk1_1 := hk1.1
  have hk1_2 := hk1.2.1
  unfold lX6_isRow_5
  refine t_it (P := fun s : (Int32 × Int32 × gM) => (0 ≤ (s.2.1).toInt ∧ (s.2.1).toInt ≤ 2147483647) ∧ MI true I0 s.2.2) (μ := fun s : (Int32 × Int32 × gM) => (2147483648 - s.2.1.toInt).toNat) (fun s p => ?_) hP
  obtain ⟨b1, hs⟩ := p
  refine t_rI (lo := 0) (hi := 3) hs (fun j _ => hk1.2.2.2.2.2.1 j) rfl (by omega) (by omega) (fun u1 eu1 bu1 => ?_)
  refine t_ite (fun c1 => ?_) (fun c1 => ?_)
  · have c1i := (iLE (a := u1) (b := s.2.1) rfl rfl).mp c1
    exact t_ret (show MI true I0 s.2.2 from hs)
  · have c1i := mt (iLE (a := u1) (b := s.2.1) rfl rfl).mpr c1
    refine t_ite (fun c2 => ?_) (fun c2 => ?_)
    · have c2i := (iLE (a := s.2.1) (b := (0 : Int32)) rfl (by decide : (0 : Int32).toInt = 0)).mp c2
      unfold bX6_isRow_42
      refine t_bindE (tfX6_number s.2.2 hs) (fun r2 er2 pr2 => ?_)
      obtain ⟨br2_0, hr2_1, xr2_0⟩ := (show ((-176) ≤ r2.1.toInt ∧ r2.1.toInt ≤ 169) ∧ MI true I0 r2.2 ∧ (r2.1.toInt = (-1) ∨ 1 ≤ (r2.2 1 2).toInt) from pr2)
      have q3 := hr2_1.at (k := 1) (j := 2) (lo := 0) (hi := 400) rfl
      refine t_ite (fun c4 => ?_) (fun c4 => ?_)
      · have c4i := (iEQ (a := r2.1) (b := ((-1) : Int32)) rfl (by decide : ((-1) : Int32).toInt = (-1))).mp c4
        exact t_ret (show MI true I0 r2.2 from hr2_1)
      · have c4i := mt (iEQ (a := r2.1) (b := ((-1) : Int32)) rfl (by decide : ((-1) : Int32).toInt = (-1))).mpr c4
        have m1 := ((tA rfl (by decide : (1 : Int32).toInt = 1) (by omega) (by omega)) : (s.2.1 + 1).toInt = (s.2.1.toInt + 1))
        have mm : (2147483648 - (s.2.1 + 1).toInt).toNat < (2147483648 - s.2.1.toInt).toNat := by omega
        have pp : (0 ≤ (s.2.1 + 1).toInt ∧ (s.2.1 + 1).toInt ≤ 2147483647) ∧ MI true I0 r2.2 := ⟨(by show (0 ≤ (s.2.1 + 1).toInt ∧ (s.2.1 + 1).toInt ≤ 2147483647); have q := ((tA rfl (by decide : (1 : Int32).toInt = 1) (by omega) (by omega)) : (s.2.1 + 1).toInt = (s.2.1.toInt + 1)); omega), hr2_1⟩
        exact t_ret ⟨pp, mm⟩
    · have c2i := mt (iLE (a := s.2.1) (b := (0 : Int32)) rfl (by decide : (0 : Int32).toInt = 0)).mpr c2
      refine t_bindE (tfX6_peek s.2.2 hs) (fun r3 er3 pr3 => ?_)
      obtain ⟨br3_0, hr3_1, xr3_0⟩ := (show ((-1) ≤ r3.1.toInt ∧ r3.1.toInt ≤ 255) ∧ MI true I0 r3.2 ∧ (r3.1.toInt = (-1) ∨ (r3.2 1 2).toInt < 400) from pr3)
      have q5 := hr3_1.at (k := 1) (j := 2) (lo := 0) (hi := 400) rfl
      refine t_ite (fun c6 => ?_) (fun c6 => ?_)
      · have c6i := (iEQ (a := r3.1) (b := (44 : Int32)) rfl (by decide : (44 : Int32).toInt = 44)).mp c6
        refine t_pU (lo := 0) (hi := 400) hr3_1 rfl rfl (by have q := ((tA rfl (by decide : (1 : Int32).toInt = 1) (by omega) (by omega)) : ((r3.2 1 2) + 1).toInt = ((r3.2 1 2).toInt + 1)); omega) (fun I4 eI4 hI4 => ?_)
        unfold bX6_isRow_42
        refine t_bindE (tfX6_number I4 hI4) (fun r2 er2 pr2 => ?_)
        obtain ⟨br2_0, hr2_1, xr2_0⟩ := (show ((-176) ≤ r2.1.toInt ∧ r2.1.toInt ≤ 169) ∧ MI true I0 r2.2 ∧ (r2.1.toInt = (-1) ∨ 1 ≤ (r2.2 1 2).toInt) from pr2)
        have q7 := hr2_1.at (k := 1) (j := 2) (lo := 0) (hi := 400) rfl
        refine t_ite (fun c8 => ?_) (fun c8 => ?_)
        · have c8i := (iEQ (a := r2.1) (b := ((-1) : Int32)) rfl (by decide : ((-1) : Int32).toInt = (-1))).mp c8
          exact t_ret (show MI true I0 r2.2 from hr2_1)
        · have c8i := mt (iEQ (a := r2.1) (b := ((-1) : Int32)) rfl (by decide : ((-1) : Int32).toInt = (-1))).mpr c8
          have m1 := ((tA rfl (by decide : (1 : Int32).toInt = 1) (by omega) (by omega)) : (s.2.1 + 1).toInt = (s.2.1.toInt + 1))
          have mm : (2147483648 - (s.2.1 + 1).toInt).toNat < (2147483648 - s.2.1.toInt).toNat := by omega
          have pp : (0 ≤ (s.2.1 + 1).toInt ∧ (s.2.1 + 1).toInt ≤ 2147483647) ∧ MI true I0 r2.2 := ⟨(by show (0 ≤ (s.2.1 + 1).toInt ∧ (s.2.1 + 1).toInt ≤ 2147483647); have q := ((tA rfl (by decide : (1 : Int32).toInt = 1) (by omega) (by omega)) : (s.2.1 + 1).toInt = (s.2.1.toInt + 1)); omega), hr2_1⟩
          exact t_ret ⟨pp, mm⟩
      · have c6i := mt (iEQ (a := r3.1) (b := (44 : Int32)) rfl (by decide : (44 : Int32).toInt = 44)).mpr c6
        exact t_ret (show MI true I0 r3.2 from hr3_1)
set_option maxRecDepth 100000 in
set_option maxHeartbeats 1000000 in
theorem tfX6_isRow {I0 : gM} (k1 : Nat) (v2 : Int32) (I : gM) (hk1 : kX5 k1) (hM : MI true I0 I) (av2 : 0 ≤ v2.toInt ∧ v2.toInt ≤ 3) : T (fX6_isRow k1 v2 I) (fun r => (0 ≤ r.1.toInt ∧ r.1.toInt ≤ 1) ∧ MI true I0 r.2) := by
  have hk1_1 := hk1.1
  have hk1_2 := hk1.2.1
  unfold fX6_isRow
  refine t_bindE (tlX6_isRow_5 k1 v2 hk1 (by omega) ((0 : Int32), (0 : Int32), I) ⟨(by show (0 ≤ ((0 : Int32)).toInt ∧ ((0 : Int32)).toInt ≤ 2147483647); decide), hM⟩) (fun w5 ew5 pw5 => ?_)
  rcases w5 with w5_0 | w5r
  · refine t_el ?_
    have hw5_0_0 : MI true I0 w5_0 := pw5
    exact t_ret ⟨(by show 0 ≤ ((0 : Int32)).toInt ∧ ((0 : Int32)).toInt ≤ 1; decide), hw5_0_0⟩
  · refine t_er ?_
    rcases w5r with w5_1 | w5_2
    · refine t_el ?_
      have hw5_1_0 : MI true I0 w5_1 := pw5
      exact t_ret ⟨(by show 0 ≤ ((0 : Int32)).toInt ∧ ((0 : Int32)).toInt ≤ 1; decide), hw5_1_0⟩
    · refine t_er ?_
      have hw5_2_1 : MI true I0 w5_2.2 := pw5
      refine t_bindE (tfX5_insert k1 v2 w5_2.1 w5_2.2 hk1 hw5_2_1) (fun r6 er6 pr6 => ?_)
      have hr6_0 : MI true I0 r6 := pr6
      exact t_ret ⟨(by show 0 ≤ ((1 : Int32)).toInt ∧ ((1 : Int32)).toInt ≤ 1; decide), hr6_0⟩
set_option maxRecDepth 100000 in
set_option maxHeartbeats 1000000 in
theorem tlX6_isClause_13 {I0 : gM} (k1 : Nat) (hk1 : kX5 k1) (s : (Int32 × gM)) (hP : (0 ≤ (s.1).toInt ∧ (s.1).toInt ≤ 2147483647) ∧ MI true I0 s.2) : T (lX6_isClause_13 k1 s) (Sum.elim (fun r : gM => MI true I0 r) (fun r : gM => MI true I0 r)) := by
  have hk1_1 := hk1.1
  have hk1_2 := hk1.2.1
  unfold lX6_isClause_13
  refine t_it (P := fun s : (Int32 × gM) => (0 ≤ (s.1).toInt ∧ (s.1).toInt ≤ 2147483647) ∧ MI true I0 s.2) (μ := fun s : (Int32 × gM) => (2147483648 - s.1.toInt).toNat) (fun s p => ?_) hP
  obtain ⟨b0, hs⟩ := p
  refine t_ite (fun c1 => ?_) (fun c1 => ?_)
  · have c1i := (iLE (a := (3 : Int32)) (b := s.1) (by decide : (3 : Int32).toInt = 3) rfl).mp c1
    exact t_ret (show MI true I0 s.2 from hs)
  · have c1i := mt (iLE (a := (3 : Int32)) (b := s.1) (by decide : (3 : Int32).toInt = 3) rfl).mpr c1
    refine t_bindE (tfX6_peek s.2 hs) (fun r2 er2 pr2 => ?_)
    obtain ⟨br2_0, hr2_1, xr2_0⟩ := (show ((-1) ≤ r2.1.toInt ∧ r2.1.toInt ≤ 255) ∧ MI true I0 r2.2 ∧ (r2.1.toInt = (-1) ∨ (r2.2 1 2).toInt < 400) from pr2)
    have q2 := hr2_1.at (k := 1) (j := 2) (lo := 0) (hi := 400) rfl
    refine t_ite (fun c3 => ?_) (fun c3 => ?_)
    · have c3i := (iLT (a := r2.1 - 97) (b := (0 : Int32)) (tS rfl (by decide : (97 : Int32).toInt = 97) (by omega) (by omega)) (by decide : (0 : Int32).toInt = 0)).mp c3
      exact t_ret (show MI true I0 r2.2 from hr2_1)
    · have c3i := mt (iLT (a := r2.1 - 97) (b := (0 : Int32)) (tS rfl (by decide : (97 : Int32).toInt = 97) (by omega) (by omega)) (by decide : (0 : Int32).toInt = 0)).mpr c3
      refine t_ite (fun c4 => ?_) (fun c4 => ?_)
      · have c4i := (iLE (a := (4 : Int32)) (b := r2.1 - 97) (by decide : (4 : Int32).toInt = 4) (tS rfl (by decide : (97 : Int32).toInt = 97) (by omega) (by omega))).mp c4
        exact t_ret (show MI true I0 r2.2 from hr2_1)
      · have c4i := mt (iLE (a := (4 : Int32)) (b := r2.1 - 97) (by decide : (4 : Int32).toInt = 4) (tS rfl (by decide : (97 : Int32).toInt = 97) (by omega) (by omega))).mpr c4
        refine t_bindE (tfX5_addLetter k1 (r2.1 - 97) r2.2 hk1 hr2_1 (by have q := ((tS rfl (by decide : (97 : Int32).toInt = 97) (by omega) (by omega)) : (r2.1 - 97).toInt = (r2.1.toInt - 97)); omega)) (fun r3 er3 pr3 => ?_)
        obtain ⟨br3_0, hr3_1, xr3_0⟩ := (show (0 ≤ r3.1.toInt ∧ r3.1.toInt ≤ 1) ∧ MI true I0 r3.2 ∧ ((r3.2 1 2).toInt = (r2.2 1 2).toInt) from pr3)
        have q5 := hr3_1.at (k := 1) (j := 2) (lo := 0) (hi := 400) rfl
        have q6 : (r3.2 1 2).toInt = (r2.2 1 2).toInt := congrArg (fun g : Nat → Int32 => (g 2).toInt) (show r3.2 1 = r2.2 1 from zfX5_addLetter k1 (r2.1 - 97) r2.2 er3 1 (by omega) (by omega))
        refine t_ite (fun c7 => ?_) (fun c7 => ?_)
        · have c7i := (iEQ (a := r3.1) (b := (0 : Int32)) rfl (by decide : (0 : Int32).toInt = 0)).mp c7
          exact t_ret (show MI true I0 r3.2 from hr3_1)
        · have c7i := mt (iEQ (a := r3.1) (b := (0 : Int32)) rfl (by decide : (0 : Int32).toInt = 0)).mpr c7
          refine t_pU (lo := 0) (hi := 400) hr3_1 rfl rfl (by have q := ((tA rfl (by decide : (1 : Int32).toInt = 1) (by omega) (by omega)) : ((r3.2 1 2) + 1).toInt = ((r3.2 1 2).toInt + 1)); omega) (fun I4 eI4 hI4 => ?_)
          have m0 := ((tA rfl (by decide : (1 : Int32).toInt = 1) (by omega) (by omega)) : (s.1 + 1).toInt = (s.1.toInt + 1))
          have mm : (2147483648 - (s.1 + 1).toInt).toNat < (2147483648 - s.1.toInt).toNat := by omega
          have pp : (0 ≤ (s.1 + 1).toInt ∧ (s.1 + 1).toInt ≤ 2147483647) ∧ MI true I0 I4 := ⟨(by show (0 ≤ (s.1 + 1).toInt ∧ (s.1 + 1).toInt ≤ 2147483647); have q := ((tA rfl (by decide : (1 : Int32).toInt = 1) (by omega) (by omega)) : (s.1 + 1).toInt = (s.1.toInt + 1)); omega), hI4⟩
          exact t_ret ⟨pp, mm⟩
set_option maxRecDepth 100000 in
set_option maxHeartbeats 1000000 in
theorem tlX6_isClause_114 {I0 : gM} (k1 : Nat) (v2 : Int32) (hk1 : kX5 k1) (av2 : 0 ≤ v2.toInt ∧ v2.toInt ≤ 3) (s : (Int32 × gM)) (hP : (0 ≤ (s.1).toInt ∧ (s.1).toInt ≤ 2147483647) ∧ MI true I0 s.2) : T (lX6_isClause_114 k1 v2 s) (Sum.elim (fun r : gM => MI true I0 r) (Sum.elim (fun r : gM => MI true I0 r) (fun r : gM => MI true I0 r))) := by
  have hk1_1 := hk1.1
  have hk1_2 := hk1.2.1
  unfold lX6_isClause_114
  refine t_it (P := fun s : (Int32 × gM) => (0 ≤ (s.1).toInt ∧ (s.1).toInt ≤ 2147483647) ∧ MI true I0 s.2) (μ := fun s : (Int32 × gM) => (2147483648 - s.1.toInt).toNat) (fun s p => ?_) hP
  obtain ⟨b0, hs⟩ := p
  refine t_ite (fun c1 => ?_) (fun c1 => ?_)
  · have c1i := (iLE (a := (12 : Int32)) (b := s.1) (by decide : (12 : Int32).toInt = 12) rfl).mp c1
    exact t_ret (show MI true I0 s.2 from hs)
  · have c1i := mt (iLE (a := (12 : Int32)) (b := s.1) (by decide : (12 : Int32).toInt = 12) rfl).mpr c1
    refine t_bindE (tfX6_isRow k1 v2 s.2 hk1 hs (by omega)) (fun r11 er11 pr11 => ?_)
    obtain ⟨br11_0, hr11_1⟩ := (show (0 ≤ r11.1.toInt ∧ r11.1.toInt ≤ 1) ∧ MI true I0 r11.2 from pr11)
    refine t_ite (fun c2 => ?_) (fun c2 => ?_)
    · have c2i := (iEQ (a := r11.1) (b := (0 : Int32)) rfl (by decide : (0 : Int32).toInt = 0)).mp c2
      exact t_ret (show MI true I0 r11.2 from hr11_1)
    · have c2i := mt (iEQ (a := r11.1) (b := (0 : Int32)) rfl (by decide : (0 : Int32).toInt = 0)).mpr c2
      refine t_bindE (tfX6_peek r11.2 hr11_1) (fun r12 er12 pr12 => ?_)
      obtain ⟨br12_0, hr12_1, xr12_0⟩ := (show ((-1) ≤ r12.1.toInt ∧ r12.1.toInt ≤ 255) ∧ MI true I0 r12.2 ∧ (r12.1.toInt = (-1) ∨ (r12.2 1 2).toInt < 400) from pr12)
      have q3 := hr12_1.at (k := 1) (j := 2) (lo := 0) (hi := 400) rfl
      refine t_ite (fun c4 => ?_) (fun c4 => ?_)
      · have c4i := (iEQ (a := r12.1) (b := (47 : Int32)) rfl (by decide : (47 : Int32).toInt = 47)).mp c4
        refine t_pU (lo := 0) (hi := 400) hr12_1 rfl rfl (by have q := ((tA rfl (by decide : (1 : Int32).toInt = 1) (by omega) (by omega)) : ((r12.2 1 2) + 1).toInt = ((r12.2 1 2).toInt + 1)); omega) (fun I13 eI13 hI13 => ?_)
        have m0 := ((tA rfl (by decide : (1 : Int32).toInt = 1) (by omega) (by omega)) : (s.1 + 1).toInt = (s.1.toInt + 1))
        have mm : (2147483648 - (s.1 + 1).toInt).toNat < (2147483648 - s.1.toInt).toNat := by omega
        have pp : (0 ≤ (s.1 + 1).toInt ∧ (s.1 + 1).toInt ≤ 2147483647) ∧ MI true I0 I13 := ⟨(by show (0 ≤ (s.1 + 1).toInt ∧ (s.1 + 1).toInt ≤ 2147483647); have q := ((tA rfl (by decide : (1 : Int32).toInt = 1) (by omega) (by omega)) : (s.1 + 1).toInt = (s.1.toInt + 1)); omega), hI13⟩
        exact t_ret ⟨pp, mm⟩
      · have c4i := mt (iEQ (a := r12.1) (b := (47 : Int32)) rfl (by decide : (47 : Int32).toInt = 47)).mpr c4
        exact t_ret (show MI true I0 r12.2 from hr12_1)
set_option maxRecDepth 100000 in
set_option maxHeartbeats 1000000 in
theorem tfX6_isClause {I0 : gM} (k1 : Nat) (I : gM) (hk1 : kX5 k1) (hM : MI true I0 I) : T (fX6_isClause k1 I) (fun r => (0 ≤ r.1.toInt ∧ r.1.toInt ≤ 1) ∧ MI true I0 r.2) := by
  have hk1_1 := hk1.1
  have hk1_2 := hk1.2.1
  unfold fX6_isClause
  refine t_bindE (tfX5_open k1 I hk1 hM) (fun r1 er1 pr1 => ?_)
  have hr1_0 : MI true I0 r1 := pr1
  refine t_bindE (tlX6_isClause_13 k1 hk1 ((0 : Int32), r1) ⟨(by show (0 ≤ ((0 : Int32)).toInt ∧ ((0 : Int32)).toInt ≤ 2147483647); decide), hr1_0⟩) (fun w5 ew5 pw5 => ?_)
  rcases w5 with w5_0 | w5_1
  · refine t_el ?_
    have hw5_0_0 : MI true I0 w5_0 := pw5
    unfold bX6_isClause_66
    have q1 := hr1_0.at (k := k1) (j := 0) (lo := 0) (hi := 4) hk1.2.2.1
    refine t_ite (fun c2 => ?_) (fun c2 => ?_)
    · have c2i := (iLT (a := (r1 k1 0) - 1) (b := (0 : Int32)) (tS rfl (by decide : (1 : Int32).toInt = 1) (by omega) (by omega)) (by decide : (0 : Int32).toInt = 0)).mp c2
      exact t_ret ⟨(by show 0 ≤ ((0 : Int32)).toInt ∧ ((0 : Int32)).toInt ≤ 1; decide), hw5_0_0⟩
    · have c2i := mt (iLT (a := (r1 k1 0) - 1) (b := (0 : Int32)) (tS rfl (by decide : (1 : Int32).toInt = 1) (by omega) (by omega)) (by decide : (0 : Int32).toInt = 0)).mpr c2
      refine t_rI (lo := 0) (hi := 3) hw5_0_0 (fun j _ => hk1.2.2.2.2.2.1 j) (tS rfl (by decide : (1 : Int32).toInt = 1) (by omega) (by omega)) (by omega) (by omega) (fun u6 eu6 bu6 => ?_)
      refine t_ite (fun c3 => ?_) (fun c3 => ?_)
      · have c3i := (iEQ (a := u6) (b := (0 : Int32)) rfl (by decide : (0 : Int32).toInt = 0)).mp c3
        exact t_ret ⟨(by show 0 ≤ ((0 : Int32)).toInt ∧ ((0 : Int32)).toInt ≤ 1; decide), hw5_0_0⟩
      · have c3i := mt (iEQ (a := u6) (b := (0 : Int32)) rfl (by decide : (0 : Int32).toInt = 0)).mpr c3
        refine t_bindE (tfX6_peek w5_0 hw5_0_0) (fun r7 er7 pr7 => ?_)
        obtain ⟨br7_0, hr7_1, xr7_0⟩ := (show ((-1) ≤ r7.1.toInt ∧ r7.1.toInt ≤ 255) ∧ MI true I0 r7.2 ∧ (r7.1.toInt = (-1) ∨ (r7.2 1 2).toInt < 400) from pr7)
        have q4 := hr7_1.at (k := 1) (j := 2) (lo := 0) (hi := 400) rfl
        refine t_ite (fun c5 => ?_) (fun c5 => ?_)
        · have c5i := (iEQ (a := r7.1) (b := (58 : Int32)) rfl (by decide : (58 : Int32).toInt = 58)).mp c5
          refine t_pU (lo := 0) (hi := 400) hr7_1 rfl rfl (by have q := ((tA rfl (by decide : (1 : Int32).toInt = 1) (by omega) (by omega)) : ((r7.2 1 2) + 1).toInt = ((r7.2 1 2).toInt + 1)); omega) (fun I8 eI8 hI8 => ?_)
          refine t_bindE (tfX6_peek I8 hI8) (fun r9 er9 pr9 => ?_)
          obtain ⟨br9_0, hr9_1, xr9_0⟩ := (show ((-1) ≤ r9.1.toInt ∧ r9.1.toInt ≤ 255) ∧ MI true I0 r9.2 ∧ (r9.1.toInt = (-1) ∨ (r9.2 1 2).toInt < 400) from pr9)
          have q6 := hr9_1.at (k := 1) (j := 2) (lo := 0) (hi := 400) rfl
          refine t_bindE (tfX6_isDigit r9.1) (fun r10 er10 pr10 => ?_)
          obtain ⟨br10_0, xr10_0⟩ := (show (0 ≤ r10.toInt ∧ r10.toInt ≤ 1) ∧ (r10.toInt = 0 ∨ (48 ≤ r9.1.toInt ∧ r9.1.toInt ≤ 57)) from pr10)
          refine t_ite (fun c7 => ?_) (fun c7 => ?_)
          · have c7i := (iEQ (a := r10) (b := (0 : Int32)) rfl (by decide : (0 : Int32).toInt = 0)).mp c7
            exact t_ret ⟨(by show 0 ≤ ((1 : Int32)).toInt ∧ ((1 : Int32)).toInt ≤ 1; decide), hr9_1⟩
          · have c7i := mt (iEQ (a := r10) (b := (0 : Int32)) rfl (by decide : (0 : Int32).toInt = 0)).mpr c7
            refine t_bindE (tlX6_isClause_114 k1 ((r1 k1 0) - 1) hk1 (by have q := ((tS rfl (by decide : (1 : Int32).toInt = 1) (by omega) (by omega)) : ((r1 k1 0) - 1).toInt = ((r1 k1 0).toInt - 1)); omega) ((1 : Int32), r9.2) ⟨(by show (0 ≤ ((1 : Int32)).toInt ∧ ((1 : Int32)).toInt ≤ 2147483647); decide), hr9_1⟩) (fun w14 ew14 pw14 => ?_)
            rcases w14 with w14_0 | w14r
            · refine t_el ?_
              have hw14_0_0 : MI true I0 w14_0 := pw14
              exact t_ret ⟨(by show 0 ≤ ((0 : Int32)).toInt ∧ ((0 : Int32)).toInt ≤ 1; decide), hw14_0_0⟩
            · refine t_er ?_
              rcases w14r with w14_1 | w14_2
              · refine t_el ?_
                have hw14_1_0 : MI true I0 w14_1 := pw14
                exact t_ret ⟨(by show 0 ≤ ((1 : Int32)).toInt ∧ ((1 : Int32)).toInt ≤ 1; decide), hw14_1_0⟩
              · refine t_er ?_
                have hw14_2_0 : MI true I0 w14_2 := pw14
                refine t_bindE (tfX6_isRow k1 ((r1 k1 0) - 1) w14_2 hk1 hw14_2_0 (by have q := ((tS rfl (by decide : (1 : Int32).toInt = 1) (by omega) (by omega)) : ((r1 k1 0) - 1).toInt = ((r1 k1 0).toInt - 1)); omega)) (fun r15 er15 pr15 => ?_)
                obtain ⟨br15_0, hr15_1⟩ := (show (0 ≤ r15.1.toInt ∧ r15.1.toInt ≤ 1) ∧ MI true I0 r15.2 from pr15)
                refine t_bO (by omega) ?_
                exact t_ret ⟨(by show 0 ≤ (r15.1).toInt ∧ (r15.1).toInt ≤ 1; omega), hr15_1⟩
        · have c5i := mt (iEQ (a := r7.1) (b := (58 : Int32)) rfl (by decide : (58 : Int32).toInt = 58)).mpr c5
          exact t_ret ⟨(by show 0 ≤ ((0 : Int32)).toInt ∧ ((0 : Int32)).toInt ≤ 1; decide), hr7_1⟩
  · refine t_er ?_
    have hw5_1_0 : MI true I0 w5_1 := pw5
    unfold bX6_isClause_66
    have q8 := hr1_0.at (k := k1) (j := 0) (lo := 0) (hi := 4) hk1.2.2.1
    refine t_ite (fun c9 => ?_) (fun c9 => ?_)
    · have c9i := (iLT (a := (r1 k1 0) - 1) (b := (0 : Int32)) (tS rfl (by decide : (1 : Int32).toInt = 1) (by omega) (by omega)) (by decide : (0 : Int32).toInt = 0)).mp c9
      exact t_ret ⟨(by show 0 ≤ ((0 : Int32)).toInt ∧ ((0 : Int32)).toInt ≤ 1; decide), hw5_1_0⟩
    · have c9i := mt (iLT (a := (r1 k1 0) - 1) (b := (0 : Int32)) (tS rfl (by decide : (1 : Int32).toInt = 1) (by omega) (by omega)) (by decide : (0 : Int32).toInt = 0)).mpr c9
      refine t_rI (lo := 0) (hi := 3) hw5_1_0 (fun j _ => hk1.2.2.2.2.2.1 j) (tS rfl (by decide : (1 : Int32).toInt = 1) (by omega) (by omega)) (by omega) (by omega) (fun u6 eu6 bu6 => ?_)
      refine t_ite (fun c10 => ?_) (fun c10 => ?_)
      · have c10i := (iEQ (a := u6) (b := (0 : Int32)) rfl (by decide : (0 : Int32).toInt = 0)).mp c10
        exact t_ret ⟨(by show 0 ≤ ((0 : Int32)).toInt ∧ ((0 : Int32)).toInt ≤ 1; decide), hw5_1_0⟩
      · have c10i := mt (iEQ (a := u6) (b := (0 : Int32)) rfl (by decide : (0 : Int32).toInt = 0)).mpr c10
        refine t_bindE (tfX6_peek w5_1 hw5_1_0) (fun r7 er7 pr7 => ?_)
        obtain ⟨br7_0, hr7_1, xr7_0⟩ := (show ((-1) ≤ r7.1.toInt ∧ r7.1.toInt ≤ 255) ∧ MI true I0 r7.2 ∧ (r7.1.toInt = (-1) ∨ (r7.2 1 2).toInt < 400) from pr7)
        have q11 := hr7_1.at (k := 1) (j := 2) (lo := 0) (hi := 400) rfl
        refine t_ite (fun c12 => ?_) (fun c12 => ?_)
        · have c12i := (iEQ (a := r7.1) (b := (58 : Int32)) rfl (by decide : (58 : Int32).toInt = 58)).mp c12
          refine t_pU (lo := 0) (hi := 400) hr7_1 rfl rfl (by have q := ((tA rfl (by decide : (1 : Int32).toInt = 1) (by omega) (by omega)) : ((r7.2 1 2) + 1).toInt = ((r7.2 1 2).toInt + 1)); omega) (fun I8 eI8 hI8 => ?_)
          refine t_bindE (tfX6_peek I8 hI8) (fun r9 er9 pr9 => ?_)
          obtain ⟨br9_0, hr9_1, xr9_0⟩ := (show ((-1) ≤ r9.1.toInt ∧ r9.1.toInt ≤ 255) ∧ MI true I0 r9.2 ∧ (r9.1.toInt = (-1) ∨ (r9.2 1 2).toInt < 400) from pr9)
          have q13 := hr9_1.at (k := 1) (j := 2) (lo := 0) (hi := 400) rfl
          refine t_bindE (tfX6_isDigit r9.1) (fun r10 er10 pr10 => ?_)
          obtain ⟨br10_0, xr10_0⟩ := (show (0 ≤ r10.toInt ∧ r10.toInt ≤ 1) ∧ (r10.toInt = 0 ∨ (48 ≤ r9.1.toInt ∧ r9.1.toInt ≤ 57)) from pr10)
          refine t_ite (fun c14 => ?_) (fun c14 => ?_)
          · have c14i := (iEQ (a := r10) (b := (0 : Int32)) rfl (by decide : (0 : Int32).toInt = 0)).mp c14
            exact t_ret ⟨(by show 0 ≤ ((1 : Int32)).toInt ∧ ((1 : Int32)).toInt ≤ 1; decide), hr9_1⟩
          · have c14i := mt (iEQ (a := r10) (b := (0 : Int32)) rfl (by decide : (0 : Int32).toInt = 0)).mpr c14
            refine t_bindE (tlX6_isClause_114 k1 ((r1 k1 0) - 1) hk1 (by have q := ((tS rfl (by decide : (1 : Int32).toInt = 1) (by omega) (by omega)) : ((r1 k1 0) - 1).toInt = ((r1 k1 0).toInt - 1)); omega) ((1 : Int32), r9.2) ⟨(by show (0 ≤ ((1 : Int32)).toInt ∧ ((1 : Int32)).toInt ≤ 2147483647); decide), hr9_1⟩) (fun w14 ew14 pw14 => ?_)
            rcases w14 with w14_0 | w14r
            · refine t_el ?_
              have hw14_0_0 : MI true I0 w14_0 := pw14
              exact t_ret ⟨(by show 0 ≤ ((0 : Int32)).toInt ∧ ((0 : Int32)).toInt ≤ 1; decide), hw14_0_0⟩
            · refine t_er ?_
              rcases w14r with w14_1 | w14_2
              · refine t_el ?_
                have hw14_1_0 : MI true I0 w14_1 := pw14
                exact t_ret ⟨(by show 0 ≤ ((1 : Int32)).toInt ∧ ((1 : Int32)).toInt ≤ 1; decide), hw14_1_0⟩
              · refine t_er ?_
                have hw14_2_0 : MI true I0 w14_2 := pw14
                refine t_bindE (tfX6_isRow k1 ((r1 k1 0) - 1) w14_2 hk1 hw14_2_0 (by have q := ((tS rfl (by decide : (1 : Int32).toInt = 1) (by omega) (by omega)) : ((r1 k1 0) - 1).toInt = ((r1 k1 0).toInt - 1)); omega)) (fun r15 er15 pr15 => ?_)
                obtain ⟨br15_0, hr15_1⟩ := (show (0 ≤ r15.1.toInt ∧ r15.1.toInt ≤ 1) ∧ MI true I0 r15.2 from pr15)
                refine t_bO (by omega) ?_
                exact t_ret ⟨(by show 0 ≤ (r15.1).toInt ∧ (r15.1).toInt ≤ 1; omega), hr15_1⟩
        · have c12i := mt (iEQ (a := r7.1) (b := (58 : Int32)) rfl (by decide : (58 : Int32).toInt = 58)).mpr c12
          exact t_ret ⟨(by show 0 ≤ ((0 : Int32)).toInt ∧ ((0 : Int32)).toInt ≤ 1; decide), hr7_1⟩
set_option maxRecDepth 100000 in
set_option maxHeartbeats 1000000 in
theorem tlX6_readTables_17 {I0 : gM} (k1 : Nat) (hk1 : kX5 k1) (s : (Int32 × Int32 × gM)) (hP : (0 ≤ (s.2.1).toInt ∧ (s.2.1).toInt ≤ 2147483647) ∧ MI true I0 s.2.2) : T (lX6_readTables_17 k1 s) (fun r : Int32 × gM => MI true I0 r.2) := by
  have hk1_1 := hk1.1
  have hk1_2 := hk1.2.1
  unfold lX6_readTables_17
  refine t_it (P := fun s : (Int32 × Int32 × gM) => (0 ≤ (s.2.1).toInt ∧ (s.2.1).toInt ≤ 2147483647) ∧ MI true I0 s.2.2) (μ := fun s : (Int32 × Int32 × gM) => (2147483648 - s.2.1.toInt).toNat) (fun s p => ?_) hP
  obtain ⟨b1, hs⟩ := p
  refine t_ite (fun c1 => ?_) (fun c1 => ?_)
  · have c1i := (iEQ (a := s.1) (b := (0 : Int32)) rfl (by decide : (0 : Int32).toInt = 0)).mp c1
    exact t_ret (show MI true I0 s.2.2 from hs)
  · have c1i := mt (iEQ (a := s.1) (b := (0 : Int32)) rfl (by decide : (0 : Int32).toInt = 0)).mpr c1
    refine t_ite (fun c2 => ?_) (fun c2 => ?_)
    · have c2i := (iLE (a := (4 : Int32)) (b := s.2.1) (by decide : (4 : Int32).toInt = 4) rfl).mp c2
      exact t_ret (show MI true I0 s.2.2 from hs)
    · have c2i := mt (iLE (a := (4 : Int32)) (b := s.2.1) (by decide : (4 : Int32).toInt = 4) rfl).mpr c2
      refine t_bindE (tfX6_peek s.2.2 hs) (fun r4 er4 pr4 => ?_)
      obtain ⟨br4_0, hr4_1, xr4_0⟩ := (show ((-1) ≤ r4.1.toInt ∧ r4.1.toInt ≤ 255) ∧ MI true I0 r4.2 ∧ (r4.1.toInt = (-1) ∨ (r4.2 1 2).toInt < 400) from pr4)
      have q3 := hr4_1.at (k := 1) (j := 2) (lo := 0) (hi := 400) rfl
      refine t_ite (fun c4 => ?_) (fun c4 => ?_)
      · have c4i := (iEQ (a := r4.1) (b := (59 : Int32)) rfl (by decide : (59 : Int32).toInt = 59)).mp c4
        refine t_pU (lo := 0) (hi := 400) hr4_1 rfl rfl (by have q := ((tA rfl (by decide : (1 : Int32).toInt = 1) (by omega) (by omega)) : ((r4.2 1 2) + 1).toInt = ((r4.2 1 2).toInt + 1)); omega) (fun I5 eI5 hI5 => ?_)
        refine t_bindE (tfX6_isClause k1 I5 hk1 hI5) (fun r6 er6 pr6 => ?_)
        obtain ⟨br6_0, hr6_1⟩ := (show (0 ≤ r6.1.toInt ∧ r6.1.toInt ≤ 1) ∧ MI true I0 r6.2 from pr6)
        have m1 := ((tA rfl (by decide : (1 : Int32).toInt = 1) (by omega) (by omega)) : (s.2.1 + 1).toInt = (s.2.1.toInt + 1))
        have mm : (2147483648 - (s.2.1 + 1).toInt).toNat < (2147483648 - s.2.1.toInt).toNat := by omega
        have pp : (0 ≤ (s.2.1 + 1).toInt ∧ (s.2.1 + 1).toInt ≤ 2147483647) ∧ MI true I0 r6.2 := ⟨(by show (0 ≤ (s.2.1 + 1).toInt ∧ (s.2.1 + 1).toInt ≤ 2147483647); have q := ((tA rfl (by decide : (1 : Int32).toInt = 1) (by omega) (by omega)) : (s.2.1 + 1).toInt = (s.2.1.toInt + 1)); omega), hr6_1⟩
        exact t_ret ⟨pp, mm⟩
      · have c4i := mt (iEQ (a := r4.1) (b := (59 : Int32)) rfl (by decide : (59 : Int32).toInt = 59)).mpr c4
        exact t_ret (show MI true I0 r4.2 from hr4_1)
set_option maxRecDepth 100000 in
set_option maxHeartbeats 1000000 in
theorem tfX6_readTables {I0 : gM} (k1 : Nat) (I : gM) (hk1 : kX5 k1) (hM : MI true I0 I) : T (fX6_readTables k1 I) (fun r => ((-1) ≤ r.1.toInt ∧ r.1.toInt ≤ 400) ∧ MI true I0 r.2) := by
  have hk1_1 := hk1.1
  have hk1_2 := hk1.2.1
  unfold fX6_readTables
  refine t_pU (lo := 0) (hi := 400) hM rfl rfl (by decide) (fun I1 eI1 hI1 => ?_)
  refine t_bindE (tfX5_clear k1 I1 hk1 hI1) (fun r2 er2 pr2 => ?_)
  have hr2_0 : MI true I0 r2 := pr2
  refine t_bindE (tfX6_isClause k1 r2 hk1 hr2_0) (fun r3 er3 pr3 => ?_)
  obtain ⟨br3_0, hr3_1⟩ := (show (0 ≤ r3.1.toInt ∧ r3.1.toInt ≤ 1) ∧ MI true I0 r3.2 from pr3)
  refine t_bindE (tlX6_readTables_17 k1 hk1 (r3.1, (1 : Int32), r3.2) ⟨(by show (0 ≤ ((1 : Int32)).toInt ∧ ((1 : Int32)).toInt ≤ 2147483647); decide), hr3_1⟩) (fun w7 ew7 pw7 => ?_)
  have hw7_1 : MI true I0 w7.2 := pw7
  unfold bX6_readTables_57
  refine t_ite (fun c1 => ?_) (fun c1 => ?_)
  · have c1i := (iEQ (a := w7.1) (b := (0 : Int32)) rfl (by decide : (0 : Int32).toInt = 0)).mp c1
    have q2 := hw7_1.at (k := 1) (j := 2) (lo := 0) (hi := 400) rfl
    exact t_ret ⟨(by show (-1) ≤ (w7.2 1 2).toInt ∧ (w7.2 1 2).toInt ≤ 400; omega), hw7_1⟩
  · have c1i := mt (iEQ (a := w7.1) (b := (0 : Int32)) rfl (by decide : (0 : Int32).toInt = 0)).mpr c1
    refine t_bindE (tfX6_peek w7.2 hw7_1) (fun r8 er8 pr8 => ?_)
    obtain ⟨br8_0, hr8_1, xr8_0⟩ := (show ((-1) ≤ r8.1.toInt ∧ r8.1.toInt ≤ 255) ∧ MI true I0 r8.2 ∧ (r8.1.toInt = (-1) ∨ (r8.2 1 2).toInt < 400) from pr8)
    have q3 := hr8_1.at (k := 1) (j := 2) (lo := 0) (hi := 400) rfl
    refine t_ite (fun c4 => ?_) (fun c4 => ?_)
    · have c4i := (iEQ (a := r8.1) (b := ((-1) : Int32)) rfl (by decide : ((-1) : Int32).toInt = (-1))).mp c4
      exact t_ret ⟨(by show (-1) ≤ (((-1) : Int32)).toInt ∧ (((-1) : Int32)).toInt ≤ 400; decide), hr8_1⟩
    · have c4i := mt (iEQ (a := r8.1) (b := ((-1) : Int32)) rfl (by decide : ((-1) : Int32).toInt = (-1))).mpr c4
      exact t_ret ⟨(by show (-1) ≤ (r8.2 1 2).toInt ∧ (r8.2 1 2).toInt ≤ 400; omega), hr8_1⟩
set_option maxRecDepth 100000 in
set_option maxHeartbeats 1000000 in
theorem tfX6_isOrder {I0 : gM} (k1 : Nat) (I : gM) (hk1 : kX4 k1) (hM : MI true I0 I) : T (fX6_isOrder k1 I) (fun r => (0 ≤ r.1.toInt ∧ r.1.toInt ≤ 1) ∧ MI true I0 r.2) := by
  have hk1_1 := hk1.1
  have hk1_2 := hk1.2.1
  unfold fX6_isOrder
  refine t_bindE (tfX6_number I hM) (fun r1 er1 pr1 => ?_)
  obtain ⟨br1_0, hr1_1, xr1_0⟩ := (show ((-176) ≤ r1.1.toInt ∧ r1.1.toInt ≤ 169) ∧ MI true I0 r1.2 ∧ (r1.1.toInt = (-1) ∨ 1 ≤ (r1.2 1 2).toInt) from pr1)
  have q1 := hr1_1.at (k := 1) (j := 2) (lo := 0) (hi := 400) rfl
  refine t_ite (fun c2 => ?_) (fun c2 => ?_)
  · have c2i := (iEQ (a := r1.1) (b := ((-1) : Int32)) rfl (by decide : ((-1) : Int32).toInt = (-1))).mp c2
    exact t_ret ⟨(by show 0 ≤ ((0 : Int32)).toInt ∧ ((0 : Int32)).toInt ≤ 1; decide), hr1_1⟩
  · have c2i := mt (iEQ (a := r1.1) (b := ((-1) : Int32)) rfl (by decide : ((-1) : Int32).toInt = (-1))).mpr c2
    refine t_ite (fun c3 => ?_) (fun c3 => ?_)
    · have c3i := (iLT (a := r1.1) (b := (24 : Int32)) rfl (by decide : (24 : Int32).toInt = 24)).mp c3
      refine t_bindE (tfX4_add k1 (3 : Int32) r1.1 r1.2 hk1 hr1_1) (fun r2 er2 pr2 => ?_)
      have hr2_0 : MI true I0 r2 := pr2
      exact t_ret ⟨(by show 0 ≤ ((1 : Int32)).toInt ∧ ((1 : Int32)).toInt ≤ 1; decide), hr2_0⟩
    · have c3i := mt (iLT (a := r1.1) (b := (24 : Int32)) rfl (by decide : (24 : Int32).toInt = 24)).mpr c3
      refine t_pU (lo := 0) (hi := 400) hr1_1 rfl rfl (by have q := ((tS rfl (by decide : (1 : Int32).toInt = 1) (by omega) (by omega)) : ((r1.2 1 2) - 1).toInt = ((r1.2 1 2).toInt - 1)); omega) (fun I3 eI3 hI3 => ?_)
      exact t_ret ⟨(by show 0 ≤ ((0 : Int32)).toInt ∧ ((0 : Int32)).toInt ≤ 1; decide), hI3⟩
set_option maxRecDepth 100000 in
set_option maxHeartbeats 1000000 in
theorem tlX6_isRowOfStep_13 {I0 : gM} (k1 : Nat) (hk1 : kX4 k1) (s : (Int32 × gM)) (hP : (0 ≤ (s.1).toInt ∧ (s.1).toInt ≤ 2147483647) ∧ MI true I0 s.2 ∧ ((s.2 1 2).toInt < 400)) : T (lX6_isRowOfStep_13 k1 s) (Sum.elim (fun r : gM => MI true I0 r) (Sum.elim (fun r : gM => MI true I0 r) (fun r : gM => MI true I0 r))) := by
  have hk1_1 := hk1.1
  have hk1_2 := hk1.2.1
  unfold lX6_isRowOfStep_13
  refine t_it (P := fun s : (Int32 × gM) => (0 ≤ (s.1).toInt ∧ (s.1).toInt ≤ 2147483647) ∧ MI true I0 s.2 ∧ ((s.2 1 2).toInt < 400)) (μ := fun s : (Int32 × gM) => (2147483648 - s.1.toInt).toNat) (fun s p => ?_) hP
  obtain ⟨b0, hs, x2⟩ := p
  have q1 := hs.at (k := 1) (j := 2) (lo := 0) (hi := 400) rfl
  refine t_ite (fun c2 => ?_) (fun c2 => ?_)
  · have c2i := (iLE (a := (3 : Int32)) (b := s.1) (by decide : (3 : Int32).toInt = 3) rfl).mp c2
    exact t_ret (show MI true I0 s.2 from hs)
  · have c2i := mt (iLE (a := (3 : Int32)) (b := s.1) (by decide : (3 : Int32).toInt = 3) rfl).mpr c2
    refine t_pU (lo := 0) (hi := 400) hs rfl rfl (by have q := ((tA rfl (by decide : (1 : Int32).toInt = 1) (by omega) (by omega)) : ((s.2 1 2) + 1).toInt = ((s.2 1 2).toInt + 1)); omega) (fun I2 eI2 hI2 => ?_)
    refine t_bindE (tfX6_number I2 hI2) (fun r3 er3 pr3 => ?_)
    obtain ⟨br3_0, hr3_1, xr3_0⟩ := (show ((-176) ≤ r3.1.toInt ∧ r3.1.toInt ≤ 169) ∧ MI true I0 r3.2 ∧ (r3.1.toInt = (-1) ∨ 1 ≤ (r3.2 1 2).toInt) from pr3)
    have q3 := hr3_1.at (k := 1) (j := 2) (lo := 0) (hi := 400) rfl
    refine t_ite (fun c4 => ?_) (fun c4 => ?_)
    · have c4i := (iEQ (a := r3.1) (b := ((-1) : Int32)) rfl (by decide : ((-1) : Int32).toInt = (-1))).mp c4
      exact t_ret (show MI true I0 r3.2 from hr3_1)
    · have c4i := mt (iEQ (a := r3.1) (b := ((-1) : Int32)) rfl (by decide : ((-1) : Int32).toInt = (-1))).mpr c4
      refine t_bindE (tfX4_setNumber k1 s.1 r3.1 r3.2 hk1 hr3_1) (fun r4 er4 pr4 => ?_)
      have hr4_0 : MI true I0 r4 := pr4
      refine t_bindE (tfX6_peek r4 hr4_0) (fun r5 er5 pr5 => ?_)
      obtain ⟨br5_0, hr5_1, xr5_0⟩ := (show ((-1) ≤ r5.1.toInt ∧ r5.1.toInt ≤ 255) ∧ MI true I0 r5.2 ∧ (r5.1.toInt = (-1) ∨ (r5.2 1 2).toInt < 400) from pr5)
      have q5 := hr5_1.at (k := 1) (j := 2) (lo := 0) (hi := 400) rfl
      refine t_ite (fun c6 => ?_) (fun c6 => ?_)
      · have c6i := (iEQ (a := r5.1) (b := (44 : Int32)) rfl (by decide : (44 : Int32).toInt = 44)).mp c6
        have m0 := ((tA rfl (by decide : (1 : Int32).toInt = 1) (by omega) (by omega)) : (s.1 + 1).toInt = (s.1.toInt + 1))
        have mm : (2147483648 - (s.1 + 1).toInt).toNat < (2147483648 - s.1.toInt).toNat := by omega
        have pp : (0 ≤ (s.1 + 1).toInt ∧ (s.1 + 1).toInt ≤ 2147483647) ∧ MI true I0 r5.2 ∧ ((r5.2 1 2).toInt < 400) := ⟨(by show (0 ≤ (s.1 + 1).toInt ∧ (s.1 + 1).toInt ≤ 2147483647); have q := ((tA rfl (by decide : (1 : Int32).toInt = 1) (by omega) (by omega)) : (s.1 + 1).toInt = (s.1.toInt + 1)); omega), hr5_1, (by show ((r5.2 1 2).toInt < 400); have q0 := ((tA rfl (by decide : (1 : Int32).toInt = 1) (by omega) (by omega)) : (s.1 + 1).toInt = (s.1.toInt + 1)); omega)⟩
        exact t_ret ⟨pp, mm⟩
      · have c6i := mt (iEQ (a := r5.1) (b := (44 : Int32)) rfl (by decide : (44 : Int32).toInt = 44)).mpr c6
        exact t_ret (show MI true I0 r5.2 from hr5_1)
set_option maxRecDepth 100000 in
set_option maxHeartbeats 1000000 in
theorem tfX6_isRowOfStep {I0 : gM} (k1 : Nat) (I : gM) (hk1 : kX4 k1) (hM : MI true I0 I) : T (fX6_isRowOfStep k1 I) (fun r => (0 ≤ r.1.toInt ∧ r.1.toInt ≤ 1) ∧ MI true I0 r.2) := by
  have hk1_1 := hk1.1
  have hk1_2 := hk1.2.1
  unfold fX6_isRowOfStep
  refine t_bindE (tfX6_peek I hM) (fun r1 er1 pr1 => ?_)
  obtain ⟨br1_0, hr1_1, xr1_0⟩ := (show ((-1) ≤ r1.1.toInt ∧ r1.1.toInt ≤ 255) ∧ MI true I0 r1.2 ∧ (r1.1.toInt = (-1) ∨ (r1.2 1 2).toInt < 400) from pr1)
  have q1 := hr1_1.at (k := 1) (j := 2) (lo := 0) (hi := 400) rfl
  refine t_ite (fun c2 => ?_) (fun c2 => ?_)
  · have c2i := (iEQ (a := r1.1) (b := (58 : Int32)) rfl (by decide : (58 : Int32).toInt = 58)).mp c2
    refine t_bindE (tlX6_isRowOfStep_13 k1 hk1 ((0 : Int32), r1.2) ⟨(by show (0 ≤ ((0 : Int32)).toInt ∧ ((0 : Int32)).toInt ≤ 2147483647); decide), hr1_1, (by show ((r1.2 1 2).toInt < 400); have q0 : (0 : Int32).toInt = 0 := (by decide); omega)⟩) (fun w6 ew6 pw6 => ?_)
    rcases w6 with w6_0 | w6r
    · refine t_el ?_
      have hw6_0_0 : MI true I0 w6_0 := pw6
      exact t_ret ⟨(by show 0 ≤ ((0 : Int32)).toInt ∧ ((0 : Int32)).toInt ≤ 1; decide), hw6_0_0⟩
    · refine t_er ?_
      rcases w6r with w6_1 | w6_2
      · refine t_el ?_
        have hw6_1_0 : MI true I0 w6_1 := pw6
        exact t_ret ⟨(by show 0 ≤ ((1 : Int32)).toInt ∧ ((1 : Int32)).toInt ≤ 1; decide), hw6_1_0⟩
      · refine t_er ?_
        have hw6_2_0 : MI true I0 w6_2 := pw6
        exact t_ret ⟨(by show 0 ≤ ((1 : Int32)).toInt ∧ ((1 : Int32)).toInt ≤ 1; decide), hw6_2_0⟩
  · have c2i := mt (iEQ (a := r1.1) (b := (58 : Int32)) rfl (by decide : (58 : Int32).toInt = 58)).mpr c2
    exact t_ret ⟨(by show 0 ≤ ((0 : Int32)).toInt ∧ ((0 : Int32)).toInt ≤ 1; decide), hr1_1⟩
set_option maxRecDepth 100000 in
set_option maxHeartbeats 1000000 in
theorem tfX6_isStep {I0 : gM} (k1 : Nat) (I : gM) (hk1 : kX4 k1) (hM : MI true I0 I) : T (fX6_isStep k1 I) (fun r => (0 ≤ r.1.toInt ∧ r.1.toInt ≤ 1) ∧ MI true I0 r.2) := by
  have hk1_1 := hk1.1
  have hk1_2 := hk1.2.1
  unfold fX6_isStep
  refine t_bindE (tfX6_peek I hM) (fun r1 er1 pr1 => ?_)
  obtain ⟨br1_0, hr1_1, xr1_0⟩ := (show ((-1) ≤ r1.1.toInt ∧ r1.1.toInt ≤ 255) ∧ MI true I0 r1.2 ∧ (r1.1.toInt = (-1) ∨ (r1.2 1 2).toInt < 400) from pr1)
  have q1 := hr1_1.at (k := 1) (j := 2) (lo := 0) (hi := 400) rfl
  refine t_ite (fun c2 => ?_) (fun c2 => ?_)
  · have c2i := (iEQ (a := r1.1) (b := (112 : Int32)) rfl (by decide : (112 : Int32).toInt = 112)).mp c2
    unfold bX6_isStep_31
    refine t_pU (lo := 0) (hi := 400) hr1_1 rfl rfl (by have q := ((tA rfl (by decide : (1 : Int32).toInt = 1) (by omega) (by omega)) : ((r1.2 1 2) + 1).toInt = ((r1.2 1 2).toInt + 1)); omega) (fun I2 eI2 hI2 => ?_)
    refine t_ite (fun c3 => ?_) (fun c3 => ?_)
    · have c3i := (iEQ (a := r1.1) (b := (111 : Int32)) rfl (by decide : (111 : Int32).toInt = 111)).mp c3
      omega
    · have c3i := mt (iEQ (a := r1.1) (b := (111 : Int32)) rfl (by decide : (111 : Int32).toInt = 111)).mpr c3
      refine t_bindE (tfX6_peek I2 hI2) (fun r5 er5 pr5 => ?_)
      obtain ⟨br5_0, hr5_1, xr5_0⟩ := (show ((-1) ≤ r5.1.toInt ∧ r5.1.toInt ≤ 255) ∧ MI true I0 r5.2 ∧ (r5.1.toInt = (-1) ∨ (r5.2 1 2).toInt < 400) from pr5)
      have q4 := hr5_1.at (k := 1) (j := 2) (lo := 0) (hi := 400) rfl
      refine t_bindE (tfX6_isDigit r5.1) (fun r6 er6 pr6 => ?_)
      obtain ⟨br6_0, xr6_0⟩ := (show (0 ≤ r6.toInt ∧ r6.toInt ≤ 1) ∧ (r6.toInt = 0 ∨ (48 ≤ r5.1.toInt ∧ r5.1.toInt ≤ 57)) from pr6)
      refine t_ite (fun c5 => ?_) (fun c5 => ?_)
      · have c5i := (iEQ (a := r6) (b := (0 : Int32)) rfl (by decide : (0 : Int32).toInt = 0)).mp c5
        exact t_ret ⟨(by show 0 ≤ ((0 : Int32)).toInt ∧ ((0 : Int32)).toInt ≤ 1; decide), hr5_1⟩
      · have c5i := mt (iEQ (a := r6) (b := (0 : Int32)) rfl (by decide : (0 : Int32).toInt = 0)).mpr c5
        refine t_pU (lo := 0) (hi := 400) hr5_1 rfl rfl (by have q := ((tA rfl (by decide : (1 : Int32).toInt = 1) (by omega) (by omega)) : ((r5.2 1 2) + 1).toInt = ((r5.2 1 2).toInt + 1)); omega) (fun I7 eI7 hI7 => ?_)
        refine t_ite (fun c6 => ?_) (fun c6 => ?_)
        · have c6i := (iEQ (a := r1.1) (b := (112 : Int32)) rfl (by decide : (112 : Int32).toInt = 112)).mp c6
          unfold bX6_isStep_99
          refine t_bindE (tfX4_add k1 (0 : Int32) (r5.1 - 48) I7 hk1 hI7) (fun r8 er8 pr8 => ?_)
          have hr8_0 : MI true I0 r8 := pr8
          refine t_ite (fun c7 => ?_) (fun c7 => ?_)
          · have c7i := (iEQ (a := r1.1) (b := (117 : Int32)) rfl (by decide : (117 : Int32).toInt = 117)).mp c7
            omega
          · have c7i := mt (iEQ (a := r1.1) (b := (117 : Int32)) rfl (by decide : (117 : Int32).toInt = 117)).mpr c7
            refine t_bindE (tfX6_isRowOfStep k1 r8 hk1 hr8_0) (fun r9 er9 pr9 => ?_)
            obtain ⟨br9_0, hr9_1⟩ := (show (0 ≤ r9.1.toInt ∧ r9.1.toInt ≤ 1) ∧ MI true I0 r9.2 from pr9)
            refine t_ite (fun c8 => ?_) (fun c8 => ?_)
            · have c8i := (iEQ (a := r9.1) (b := (0 : Int32)) rfl (by decide : (0 : Int32).toInt = 0)).mp c8
              exact t_ret ⟨(by show 0 ≤ ((0 : Int32)).toInt ∧ ((0 : Int32)).toInt ≤ 1; decide), hr9_1⟩
            · have c8i := mt (iEQ (a := r9.1) (b := (0 : Int32)) rfl (by decide : (0 : Int32).toInt = 0)).mpr c8
              unfold bX6_isStep_120
              exact t_ret ⟨(by show 0 ≤ ((1 : Int32)).toInt ∧ ((1 : Int32)).toInt ≤ 1; decide), hr9_1⟩
        · have c6i := mt (iEQ (a := r1.1) (b := (112 : Int32)) rfl (by decide : (112 : Int32).toInt = 112)).mpr c6
          omega
  · have c2i := mt (iEQ (a := r1.1) (b := (112 : Int32)) rfl (by decide : (112 : Int32).toInt = 112)).mpr c2
    refine t_ite (fun c9 => ?_) (fun c9 => ?_)
    · have c9i := (iEQ (a := r1.1) (b := (116 : Int32)) rfl (by decide : (116 : Int32).toInt = 116)).mp c9
      unfold bX6_isStep_31
      refine t_pU (lo := 0) (hi := 400) hr1_1 rfl rfl (by have q := ((tA rfl (by decide : (1 : Int32).toInt = 1) (by omega) (by omega)) : ((r1.2 1 2) + 1).toInt = ((r1.2 1 2).toInt + 1)); omega) (fun I2 eI2 hI2 => ?_)
      refine t_ite (fun c10 => ?_) (fun c10 => ?_)
      · have c10i := (iEQ (a := r1.1) (b := (111 : Int32)) rfl (by decide : (111 : Int32).toInt = 111)).mp c10
        omega
      · have c10i := mt (iEQ (a := r1.1) (b := (111 : Int32)) rfl (by decide : (111 : Int32).toInt = 111)).mpr c10
        refine t_bindE (tfX6_peek I2 hI2) (fun r5 er5 pr5 => ?_)
        obtain ⟨br5_0, hr5_1, xr5_0⟩ := (show ((-1) ≤ r5.1.toInt ∧ r5.1.toInt ≤ 255) ∧ MI true I0 r5.2 ∧ (r5.1.toInt = (-1) ∨ (r5.2 1 2).toInt < 400) from pr5)
        have q11 := hr5_1.at (k := 1) (j := 2) (lo := 0) (hi := 400) rfl
        refine t_bindE (tfX6_isDigit r5.1) (fun r6 er6 pr6 => ?_)
        obtain ⟨br6_0, xr6_0⟩ := (show (0 ≤ r6.toInt ∧ r6.toInt ≤ 1) ∧ (r6.toInt = 0 ∨ (48 ≤ r5.1.toInt ∧ r5.1.toInt ≤ 57)) from pr6)
        refine t_ite (fun c12 => ?_) (fun c12 => ?_)
        · have c12i := (iEQ (a := r6) (b := (0 : Int32)) rfl (by decide : (0 : Int32).toInt = 0)).mp c12
          exact t_ret ⟨(by show 0 ≤ ((0 : Int32)).toInt ∧ ((0 : Int32)).toInt ≤ 1; decide), hr5_1⟩
        · have c12i := mt (iEQ (a := r6) (b := (0 : Int32)) rfl (by decide : (0 : Int32).toInt = 0)).mpr c12
          refine t_pU (lo := 0) (hi := 400) hr5_1 rfl rfl (by have q := ((tA rfl (by decide : (1 : Int32).toInt = 1) (by omega) (by omega)) : ((r5.2 1 2) + 1).toInt = ((r5.2 1 2).toInt + 1)); omega) (fun I7 eI7 hI7 => ?_)
          refine t_ite (fun c13 => ?_) (fun c13 => ?_)
          · have c13i := (iEQ (a := r1.1) (b := (112 : Int32)) rfl (by decide : (112 : Int32).toInt = 112)).mp c13
            omega
          · have c13i := mt (iEQ (a := r1.1) (b := (112 : Int32)) rfl (by decide : (112 : Int32).toInt = 112)).mpr c13
            refine t_ite (fun c14 => ?_) (fun c14 => ?_)
            · have c14i := (iEQ (a := r1.1) (b := (116 : Int32)) rfl (by decide : (116 : Int32).toInt = 116)).mp c14
              unfold bX6_isStep_99
              refine t_bindE (tfX4_add k1 (1 : Int32) (r5.1 - 48) I7 hk1 hI7) (fun r8 er8 pr8 => ?_)
              have hr8_0 : MI true I0 r8 := pr8
              refine t_ite (fun c15 => ?_) (fun c15 => ?_)
              · have c15i := (iEQ (a := r1.1) (b := (117 : Int32)) rfl (by decide : (117 : Int32).toInt = 117)).mp c15
                omega
              · have c15i := mt (iEQ (a := r1.1) (b := (117 : Int32)) rfl (by decide : (117 : Int32).toInt = 117)).mpr c15
                refine t_bindE (tfX6_isRowOfStep k1 r8 hk1 hr8_0) (fun r9 er9 pr9 => ?_)
                obtain ⟨br9_0, hr9_1⟩ := (show (0 ≤ r9.1.toInt ∧ r9.1.toInt ≤ 1) ∧ MI true I0 r9.2 from pr9)
                refine t_ite (fun c16 => ?_) (fun c16 => ?_)
                · have c16i := (iEQ (a := r9.1) (b := (0 : Int32)) rfl (by decide : (0 : Int32).toInt = 0)).mp c16
                  exact t_ret ⟨(by show 0 ≤ ((0 : Int32)).toInt ∧ ((0 : Int32)).toInt ≤ 1; decide), hr9_1⟩
                · have c16i := mt (iEQ (a := r9.1) (b := (0 : Int32)) rfl (by decide : (0 : Int32).toInt = 0)).mpr c16
                  unfold bX6_isStep_120
                  exact t_ret ⟨(by show 0 ≤ ((1 : Int32)).toInt ∧ ((1 : Int32)).toInt ≤ 1; decide), hr9_1⟩
            · have c14i := mt (iEQ (a := r1.1) (b := (116 : Int32)) rfl (by decide : (116 : Int32).toInt = 116)).mpr c14
              omega
    · have c9i := mt (iEQ (a := r1.1) (b := (116 : Int32)) rfl (by decide : (116 : Int32).toInt = 116)).mpr c9
      refine t_ite (fun c17 => ?_) (fun c17 => ?_)
      · have c17i := (iEQ (a := r1.1) (b := (117 : Int32)) rfl (by decide : (117 : Int32).toInt = 117)).mp c17
        unfold bX6_isStep_31
        refine t_pU (lo := 0) (hi := 400) hr1_1 rfl rfl (by have q := ((tA rfl (by decide : (1 : Int32).toInt = 1) (by omega) (by omega)) : ((r1.2 1 2) + 1).toInt = ((r1.2 1 2).toInt + 1)); omega) (fun I2 eI2 hI2 => ?_)
        refine t_ite (fun c18 => ?_) (fun c18 => ?_)
        · have c18i := (iEQ (a := r1.1) (b := (111 : Int32)) rfl (by decide : (111 : Int32).toInt = 111)).mp c18
          omega
        · have c18i := mt (iEQ (a := r1.1) (b := (111 : Int32)) rfl (by decide : (111 : Int32).toInt = 111)).mpr c18
          refine t_bindE (tfX6_peek I2 hI2) (fun r5 er5 pr5 => ?_)
          obtain ⟨br5_0, hr5_1, xr5_0⟩ := (show ((-1) ≤ r5.1.toInt ∧ r5.1.toInt ≤ 255) ∧ MI true I0 r5.2 ∧ (r5.1.toInt = (-1) ∨ (r5.2 1 2).toInt < 400) from pr5)
          have q19 := hr5_1.at (k := 1) (j := 2) (lo := 0) (hi := 400) rfl
          refine t_bindE (tfX6_isDigit r5.1) (fun r6 er6 pr6 => ?_)
          obtain ⟨br6_0, xr6_0⟩ := (show (0 ≤ r6.toInt ∧ r6.toInt ≤ 1) ∧ (r6.toInt = 0 ∨ (48 ≤ r5.1.toInt ∧ r5.1.toInt ≤ 57)) from pr6)
          refine t_ite (fun c20 => ?_) (fun c20 => ?_)
          · have c20i := (iEQ (a := r6) (b := (0 : Int32)) rfl (by decide : (0 : Int32).toInt = 0)).mp c20
            exact t_ret ⟨(by show 0 ≤ ((0 : Int32)).toInt ∧ ((0 : Int32)).toInt ≤ 1; decide), hr5_1⟩
          · have c20i := mt (iEQ (a := r6) (b := (0 : Int32)) rfl (by decide : (0 : Int32).toInt = 0)).mpr c20
            refine t_pU (lo := 0) (hi := 400) hr5_1 rfl rfl (by have q := ((tA rfl (by decide : (1 : Int32).toInt = 1) (by omega) (by omega)) : ((r5.2 1 2) + 1).toInt = ((r5.2 1 2).toInt + 1)); omega) (fun I7 eI7 hI7 => ?_)
            refine t_ite (fun c21 => ?_) (fun c21 => ?_)
            · have c21i := (iEQ (a := r1.1) (b := (112 : Int32)) rfl (by decide : (112 : Int32).toInt = 112)).mp c21
              omega
            · have c21i := mt (iEQ (a := r1.1) (b := (112 : Int32)) rfl (by decide : (112 : Int32).toInt = 112)).mpr c21
              refine t_ite (fun c22 => ?_) (fun c22 => ?_)
              · have c22i := (iEQ (a := r1.1) (b := (116 : Int32)) rfl (by decide : (116 : Int32).toInt = 116)).mp c22
                omega
              · have c22i := mt (iEQ (a := r1.1) (b := (116 : Int32)) rfl (by decide : (116 : Int32).toInt = 116)).mpr c22
                unfold bX6_isStep_99
                refine t_bindE (tfX4_add k1 (2 : Int32) (r5.1 - 48) I7 hk1 hI7) (fun r8 er8 pr8 => ?_)
                have hr8_0 : MI true I0 r8 := pr8
                refine t_ite (fun c23 => ?_) (fun c23 => ?_)
                · have c23i := (iEQ (a := r1.1) (b := (117 : Int32)) rfl (by decide : (117 : Int32).toInt = 117)).mp c23
                  unfold bX6_isStep_120
                  exact t_ret ⟨(by show 0 ≤ ((1 : Int32)).toInt ∧ ((1 : Int32)).toInt ≤ 1; decide), hr8_0⟩
                · have c23i := mt (iEQ (a := r1.1) (b := (117 : Int32)) rfl (by decide : (117 : Int32).toInt = 117)).mpr c23
                  omega
      · have c17i := mt (iEQ (a := r1.1) (b := (117 : Int32)) rfl (by decide : (117 : Int32).toInt = 117)).mpr c17
        refine t_ite (fun c24 => ?_) (fun c24 => ?_)
        · have c24i := (iEQ (a := r1.1) (b := (111 : Int32)) rfl (by decide : (111 : Int32).toInt = 111)).mp c24
          unfold bX6_isStep_31
          refine t_pU (lo := 0) (hi := 400) hr1_1 rfl rfl (by have q := ((tA rfl (by decide : (1 : Int32).toInt = 1) (by omega) (by omega)) : ((r1.2 1 2) + 1).toInt = ((r1.2 1 2).toInt + 1)); omega) (fun I2 eI2 hI2 => ?_)
          refine t_ite (fun c25 => ?_) (fun c25 => ?_)
          · have c25i := (iEQ (a := r1.1) (b := (111 : Int32)) rfl (by decide : (111 : Int32).toInt = 111)).mp c25
            refine t_bindE (tfX6_isOrder k1 I2 hk1 hI2) (fun r3 er3 pr3 => ?_)
            obtain ⟨br3_0, hr3_1⟩ := (show (0 ≤ r3.1.toInt ∧ r3.1.toInt ≤ 1) ∧ MI true I0 r3.2 from pr3)
            refine t_bO (by omega) ?_
            exact t_ret ⟨(by show 0 ≤ (r3.1).toInt ∧ (r3.1).toInt ≤ 1; omega), hr3_1⟩
          · have c25i := mt (iEQ (a := r1.1) (b := (111 : Int32)) rfl (by decide : (111 : Int32).toInt = 111)).mpr c25
            omega
        · have c24i := mt (iEQ (a := r1.1) (b := (111 : Int32)) rfl (by decide : (111 : Int32).toInt = 111)).mpr c24
          exact t_ret ⟨(by show 0 ≤ ((0 : Int32)).toInt ∧ ((0 : Int32)).toInt ≤ 1; decide), hr1_1⟩
set_option maxRecDepth 100000 in
set_option maxHeartbeats 1000000 in
theorem tlX6_readScript_17 {I0 : gM} (k1 : Nat) (hk1 : kX4 k1) (s : (Int32 × Int32 × gM)) (hP : (0 ≤ (s.2.1).toInt ∧ (s.2.1).toInt ≤ 2147483647) ∧ MI true I0 s.2.2) : T (lX6_readScript_17 k1 s) (fun r : Int32 × gM => MI true I0 r.2) := by
  have hk1_1 := hk1.1
  have hk1_2 := hk1.2.1
  unfold lX6_readScript_17
  refine t_it (P := fun s : (Int32 × Int32 × gM) => (0 ≤ (s.2.1).toInt ∧ (s.2.1).toInt ≤ 2147483647) ∧ MI true I0 s.2.2) (μ := fun s : (Int32 × Int32 × gM) => (2147483648 - s.2.1.toInt).toNat) (fun s p => ?_) hP
  obtain ⟨b1, hs⟩ := p
  refine t_ite (fun c1 => ?_) (fun c1 => ?_)
  · have c1i := (iEQ (a := s.1) (b := (0 : Int32)) rfl (by decide : (0 : Int32).toInt = 0)).mp c1
    exact t_ret (show MI true I0 s.2.2 from hs)
  · have c1i := mt (iEQ (a := s.1) (b := (0 : Int32)) rfl (by decide : (0 : Int32).toInt = 0)).mpr c1
    refine t_ite (fun c2 => ?_) (fun c2 => ?_)
    · have c2i := (iLE (a := (12 : Int32)) (b := s.2.1) (by decide : (12 : Int32).toInt = 12) rfl).mp c2
      exact t_ret (show MI true I0 s.2.2 from hs)
    · have c2i := mt (iLE (a := (12 : Int32)) (b := s.2.1) (by decide : (12 : Int32).toInt = 12) rfl).mpr c2
      refine t_bindE (tfX6_peek s.2.2 hs) (fun r4 er4 pr4 => ?_)
      obtain ⟨br4_0, hr4_1, xr4_0⟩ := (show ((-1) ≤ r4.1.toInt ∧ r4.1.toInt ≤ 255) ∧ MI true I0 r4.2 ∧ (r4.1.toInt = (-1) ∨ (r4.2 1 2).toInt < 400) from pr4)
      have q3 := hr4_1.at (k := 1) (j := 2) (lo := 0) (hi := 400) rfl
      refine t_ite (fun c4 => ?_) (fun c4 => ?_)
      · have c4i := (iEQ (a := r4.1) (b := (59 : Int32)) rfl (by decide : (59 : Int32).toInt = 59)).mp c4
        refine t_pU (lo := 0) (hi := 400) hr4_1 rfl rfl (by have q := ((tA rfl (by decide : (1 : Int32).toInt = 1) (by omega) (by omega)) : ((r4.2 1 2) + 1).toInt = ((r4.2 1 2).toInt + 1)); omega) (fun I5 eI5 hI5 => ?_)
        refine t_bindE (tfX6_isStep k1 I5 hk1 hI5) (fun r6 er6 pr6 => ?_)
        obtain ⟨br6_0, hr6_1⟩ := (show (0 ≤ r6.1.toInt ∧ r6.1.toInt ≤ 1) ∧ MI true I0 r6.2 from pr6)
        have m1 := ((tA rfl (by decide : (1 : Int32).toInt = 1) (by omega) (by omega)) : (s.2.1 + 1).toInt = (s.2.1.toInt + 1))
        have mm : (2147483648 - (s.2.1 + 1).toInt).toNat < (2147483648 - s.2.1.toInt).toNat := by omega
        have pp : (0 ≤ (s.2.1 + 1).toInt ∧ (s.2.1 + 1).toInt ≤ 2147483647) ∧ MI true I0 r6.2 := ⟨(by show (0 ≤ (s.2.1 + 1).toInt ∧ (s.2.1 + 1).toInt ≤ 2147483647); have q := ((tA rfl (by decide : (1 : Int32).toInt = 1) (by omega) (by omega)) : (s.2.1 + 1).toInt = (s.2.1.toInt + 1)); omega), hr6_1⟩
        exact t_ret ⟨pp, mm⟩
      · have c4i := mt (iEQ (a := r4.1) (b := (59 : Int32)) rfl (by decide : (59 : Int32).toInt = 59)).mpr c4
        exact t_ret (show MI true I0 r4.2 from hr4_1)
set_option maxRecDepth 100000 in
set_option maxHeartbeats 1000000 in
theorem tfX6_readScript {I0 : gM} (k1 : Nat) (I : gM) (hk1 : kX4 k1) (hM : MI true I0 I) : T (fX6_readScript k1 I) (fun r => ((-1) ≤ r.1.toInt ∧ r.1.toInt ≤ 400) ∧ MI true I0 r.2) := by
  have hk1_1 := hk1.1
  have hk1_2 := hk1.2.1
  unfold fX6_readScript
  refine t_pU (lo := 0) (hi := 400) hM rfl rfl (by decide) (fun I1 eI1 hI1 => ?_)
  refine t_bindE (tfX4_clear k1 I1 hk1 hI1) (fun r2 er2 pr2 => ?_)
  have hr2_0 : MI true I0 r2 := pr2
  refine t_bindE (tfX6_isStep k1 r2 hk1 hr2_0) (fun r3 er3 pr3 => ?_)
  obtain ⟨br3_0, hr3_1⟩ := (show (0 ≤ r3.1.toInt ∧ r3.1.toInt ≤ 1) ∧ MI true I0 r3.2 from pr3)
  refine t_bindE (tlX6_readScript_17 k1 hk1 (r3.1, (1 : Int32), r3.2) ⟨(by show (0 ≤ ((1 : Int32)).toInt ∧ ((1 : Int32)).toInt ≤ 2147483647); decide), hr3_1⟩) (fun w7 ew7 pw7 => ?_)
  have hw7_1 : MI true I0 w7.2 := pw7
  unfold bX6_readScript_58
  refine t_ite (fun c1 => ?_) (fun c1 => ?_)
  · have c1i := (iEQ (a := w7.1) (b := (0 : Int32)) rfl (by decide : (0 : Int32).toInt = 0)).mp c1
    have q2 := hw7_1.at (k := 1) (j := 2) (lo := 0) (hi := 400) rfl
    exact t_ret ⟨(by show (-1) ≤ (w7.2 1 2).toInt ∧ (w7.2 1 2).toInt ≤ 400; omega), hw7_1⟩
  · have c1i := mt (iEQ (a := w7.1) (b := (0 : Int32)) rfl (by decide : (0 : Int32).toInt = 0)).mpr c1
    refine t_bindE (tfX6_peek w7.2 hw7_1) (fun r8 er8 pr8 => ?_)
    obtain ⟨br8_0, hr8_1, xr8_0⟩ := (show ((-1) ≤ r8.1.toInt ∧ r8.1.toInt ≤ 255) ∧ MI true I0 r8.2 ∧ (r8.1.toInt = (-1) ∨ (r8.2 1 2).toInt < 400) from pr8)
    have q3 := hr8_1.at (k := 1) (j := 2) (lo := 0) (hi := 400) rfl
    refine t_ite (fun c4 => ?_) (fun c4 => ?_)
    · have c4i := (iEQ (a := r8.1) (b := ((-1) : Int32)) rfl (by decide : ((-1) : Int32).toInt = (-1))).mp c4
      exact t_ret ⟨(by show (-1) ≤ (((-1) : Int32)).toInt ∧ (((-1) : Int32)).toInt ≤ 400; decide), hr8_1⟩
    · have c4i := mt (iEQ (a := r8.1) (b := ((-1) : Int32)) rfl (by decide : ((-1) : Int32).toInt = (-1))).mpr c4
      exact t_ret ⟨(by show (-1) ≤ (r8.2 1 2).toInt ∧ (r8.2 1 2).toInt ≤ 400; omega), hr8_1⟩
set_option maxRecDepth 100000 in
set_option maxHeartbeats 1000000 in
theorem tlX7_weigh_10 {I0 : gM} (k1 : Nat) (k2 : Nat) (hk1 : kX5 k1) (hk2 : kX1 k2) (s : (Int32 × gM)) (hP : (0 ≤ (s.1).toInt ∧ (s.1).toInt ≤ 2147483647) ∧ MI true I0 s.2) : T (lX7_weigh_10 k1 k2 s) (fun r : gM => MI true I0 r) := by
  have hk1_1 := hk1.1
  have hk1_2 := hk1.2.1
  have hk2_1 := hk2.1
  have hk2_2 := hk2.2.1
  unfold lX7_weigh_10
  refine t_it (P := fun s : (Int32 × gM) => (0 ≤ (s.1).toInt ∧ (s.1).toInt ≤ 2147483647) ∧ MI true I0 s.2) (μ := fun s : (Int32 × gM) => (2147483648 - s.1.toInt).toNat) (fun s p => ?_) hP
  obtain ⟨b0, hs⟩ := p
  refine t_ite (fun c1 => ?_) (fun c1 => ?_)
  · have c1i := (iLE (a := (24 : Int32)) (b := s.1) (by decide : (24 : Int32).toInt = 24) rfl).mp c1
    exact t_ret (show MI true I0 s.2 from hs)
  · have c1i := mt (iLE (a := (24 : Int32)) (b := s.1) (by decide : (24 : Int32).toInt = 24) rfl).mpr c1
    refine t_bindE (tfX1_findBy k2 k1 s.1 s.2 hk2 hk1 hs) (fun r1 er1 pr1 => ?_)
    have hr1_0 : MI true I0 r1 := pr1
    refine t_ite (fun c2 => ?_) (fun c2 => ?_)
    · have c2i := (iEQ (a := s.1) (b := (0 : Int32)) rfl (by decide : (0 : Int32).toInt = 0)).mp c2
      unfold bX7_weigh_37
      refine t_pU (lo := (-2147483648)) (hi := 2147483647) hr1_0 rfl rfl (tTop _) (fun I2 eI2 hI2 => ?_)
      refine t_pU (lo := (-2147483648)) (hi := 2147483647) hI2 rfl rfl (tTop _) (fun I3 eI3 hI3 => ?_)
      unfold bX7_weigh_50
      refine t_ite (fun c3 => ?_) (fun c3 => ?_)
      · have c3i := (iEQ (a := s.1) (b := (0 : Int32)) rfl (by decide : (0 : Int32).toInt = 0)).mp c3
        unfold bX7_weigh_65
        refine t_pU (lo := (-2147483648)) (hi := 2147483647) hI3 rfl rfl (tTop _) (fun I4 eI4 hI4 => ?_)
        unfold bX7_weigh_73
        have m0 := ((tA rfl (by decide : (1 : Int32).toInt = 1) (by omega) (by omega)) : (s.1 + 1).toInt = (s.1.toInt + 1))
        have mm : (2147483648 - (s.1 + 1).toInt).toNat < (2147483648 - s.1.toInt).toNat := by omega
        have pp : (0 ≤ (s.1 + 1).toInt ∧ (s.1 + 1).toInt ≤ 2147483647) ∧ MI true I0 I4 := ⟨(by show (0 ≤ (s.1 + 1).toInt ∧ (s.1 + 1).toInt ≤ 2147483647); have q := ((tA rfl (by decide : (1 : Int32).toInt = 1) (by omega) (by omega)) : (s.1 + 1).toInt = (s.1.toInt + 1)); omega), hI4⟩
        exact t_ret ⟨pp, mm⟩
      · have c3i := mt (iEQ (a := s.1) (b := (0 : Int32)) rfl (by decide : (0 : Int32).toInt = 0)).mpr c3
        omega
    · have c2i := mt (iEQ (a := s.1) (b := (0 : Int32)) rfl (by decide : (0 : Int32).toInt = 0)).mpr c2
      have q4 : (r1 43 2).toInt = (s.2 43 2).toInt := congrArg (fun g : Nat → Int32 => (g 2).toInt) (show r1 43 = s.2 43 from zfX1_findBy k2 k1 s.1 s.2 er1 43 (by omega) (by omega) (by omega) (by omega) (by omega) (by omega) (by omega) (by omega) (by omega) (by omega) (by omega))
      refine t_ite (fun c5 => ?_) (fun c5 => ?_)
      · have c5i := (iLE (a := r1 43 2) (b := r1 k2 1) rfl rfl).mp c5
        unfold bX7_weigh_50
        refine t_ite (fun c6 => ?_) (fun c6 => ?_)
        · have c6i := (iEQ (a := s.1) (b := (0 : Int32)) rfl (by decide : (0 : Int32).toInt = 0)).mp c6
          omega
        · have c6i := mt (iEQ (a := s.1) (b := (0 : Int32)) rfl (by decide : (0 : Int32).toInt = 0)).mpr c6
          have q7 : (r1 43 3).toInt = (s.2 43 3).toInt := congrArg (fun g : Nat → Int32 => (g 3).toInt) (show r1 43 = s.2 43 from zfX1_findBy k2 k1 s.1 s.2 er1 43 (by omega) (by omega) (by omega) (by omega) (by omega) (by omega) (by omega) (by omega) (by omega) (by omega) (by omega))
          refine t_ite (fun c8 => ?_) (fun c8 => ?_)
          · have c8i := (iLE (a := r1 k2 1) (b := r1 43 3) rfl rfl).mp c8
            unfold bX7_weigh_73
            have m0 := ((tA rfl (by decide : (1 : Int32).toInt = 1) (by omega) (by omega)) : (s.1 + 1).toInt = (s.1.toInt + 1))
            have mm : (2147483648 - (s.1 + 1).toInt).toNat < (2147483648 - s.1.toInt).toNat := by omega
            have pp : (0 ≤ (s.1 + 1).toInt ∧ (s.1 + 1).toInt ≤ 2147483647) ∧ MI true I0 r1 := ⟨(by show (0 ≤ (s.1 + 1).toInt ∧ (s.1 + 1).toInt ≤ 2147483647); have q := ((tA rfl (by decide : (1 : Int32).toInt = 1) (by omega) (by omega)) : (s.1 + 1).toInt = (s.1.toInt + 1)); omega), hr1_0⟩
            exact t_ret ⟨pp, mm⟩
          · have c8i := mt (iLE (a := r1 k2 1) (b := r1 43 3) rfl rfl).mpr c8
            unfold bX7_weigh_65
            refine t_pU (lo := (-2147483648)) (hi := 2147483647) hr1_0 rfl rfl (tTop _) (fun I4 eI4 hI4 => ?_)
            unfold bX7_weigh_73
            have m0 := ((tA rfl (by decide : (1 : Int32).toInt = 1) (by omega) (by omega)) : (s.1 + 1).toInt = (s.1.toInt + 1))
            have mm : (2147483648 - (s.1 + 1).toInt).toNat < (2147483648 - s.1.toInt).toNat := by omega
            have pp : (0 ≤ (s.1 + 1).toInt ∧ (s.1 + 1).toInt ≤ 2147483647) ∧ MI true I0 I4 := ⟨(by show (0 ≤ (s.1 + 1).toInt ∧ (s.1 + 1).toInt ≤ 2147483647); have q := ((tA rfl (by decide : (1 : Int32).toInt = 1) (by omega) (by omega)) : (s.1 + 1).toInt = (s.1.toInt + 1)); omega), hI4⟩
            exact t_ret ⟨pp, mm⟩
      · have c5i := mt (iLE (a := r1 43 2) (b := r1 k2 1) rfl rfl).mpr c5
        unfold bX7_weigh_37
        refine t_pU (lo := (-2147483648)) (hi := 2147483647) hr1_0 rfl rfl (tTop _) (fun I2 eI2 hI2 => ?_)
        refine t_pU (lo := (-2147483648)) (hi := 2147483647) hI2 rfl rfl (tTop _) (fun I3 eI3 hI3 => ?_)
        unfold bX7_weigh_50
        refine t_ite (fun c9 => ?_) (fun c9 => ?_)
        · have c9i := (iEQ (a := s.1) (b := (0 : Int32)) rfl (by decide : (0 : Int32).toInt = 0)).mp c9
          omega
        · have c9i := mt (iEQ (a := s.1) (b := (0 : Int32)) rfl (by decide : (0 : Int32).toInt = 0)).mpr c9
          have q10 : (I2 k2 1).toInt = (r1 k2 1).toInt := by rw [eI2, g_up_ne (Or.inl (by omega))]
          have q11 : (I3 k2 1).toInt = (I2 k2 1).toInt := by rw [eI3, g_up_ne (Or.inr (by decide))]
          have q12 : (r1 43 3).toInt = (s.2 43 3).toInt := congrArg (fun g : Nat → Int32 => (g 3).toInt) (show r1 43 = s.2 43 from zfX1_findBy k2 k1 s.1 s.2 er1 43 (by omega) (by omega) (by omega) (by omega) (by omega) (by omega) (by omega) (by omega) (by omega) (by omega) (by omega))
          have q13 : (I2 43 3).toInt = (r1 43 3).toInt := by rw [eI2, g_up_ne (Or.inr (by decide))]
          have q14 : (I3 43 3).toInt = (I2 43 3).toInt := by rw [eI3, g_up_ne (Or.inr (by decide))]
          refine t_ite (fun c15 => ?_) (fun c15 => ?_)
          · have c15i := (iLE (a := I3 k2 1) (b := I3 43 3) rfl rfl).mp c15
            unfold bX7_weigh_73
            have m0 := ((tA rfl (by decide : (1 : Int32).toInt = 1) (by omega) (by omega)) : (s.1 + 1).toInt = (s.1.toInt + 1))
            have mm : (2147483648 - (s.1 + 1).toInt).toNat < (2147483648 - s.1.toInt).toNat := by omega
            have pp : (0 ≤ (s.1 + 1).toInt ∧ (s.1 + 1).toInt ≤ 2147483647) ∧ MI true I0 I3 := ⟨(by show (0 ≤ (s.1 + 1).toInt ∧ (s.1 + 1).toInt ≤ 2147483647); have q := ((tA rfl (by decide : (1 : Int32).toInt = 1) (by omega) (by omega)) : (s.1 + 1).toInt = (s.1.toInt + 1)); omega), hI3⟩
            exact t_ret ⟨pp, mm⟩
          · have c15i := mt (iLE (a := I3 k2 1) (b := I3 43 3) rfl rfl).mpr c15
            unfold bX7_weigh_65
            refine t_pU (lo := (-2147483648)) (hi := 2147483647) hI3 rfl rfl (tTop _) (fun I4 eI4 hI4 => ?_)
            unfold bX7_weigh_73
            have m0 := ((tA rfl (by decide : (1 : Int32).toInt = 1) (by omega) (by omega)) : (s.1 + 1).toInt = (s.1.toInt + 1))
            have mm : (2147483648 - (s.1 + 1).toInt).toNat < (2147483648 - s.1.toInt).toNat := by omega
            have pp : (0 ≤ (s.1 + 1).toInt ∧ (s.1 + 1).toInt ≤ 2147483647) ∧ MI true I0 I4 := ⟨(by show (0 ≤ (s.1 + 1).toInt ∧ (s.1 + 1).toInt ≤ 2147483647); have q := ((tA rfl (by decide : (1 : Int32).toInt = 1) (by omega) (by omega)) : (s.1 + 1).toInt = (s.1.toInt + 1)); omega), hI4⟩
            exact t_ret ⟨pp, mm⟩
set_option maxRecDepth 100000 in
set_option maxHeartbeats 1000000 in
theorem tfX7_weigh {I0 : gM} (k1 : Nat) (k2 : Nat) (I : gM) (hk1 : kX5 k1) (hk2 : kX1 k2) (hM : MI true I0 I) : T (fX7_weigh k1 k2 I) (fun r => MI true I0 r) := by
  have hk1_1 := hk1.1
  have hk1_2 := hk1.2.1
  have hk2_1 := hk2.1
  have hk2_2 := hk2.2.1
  unfold fX7_weigh
  refine t_ite (fun c1 => ?_) (fun c1 => ?_)
  · have c1i := (iEQ (a := I 43 0) (b := (0 : Int32)) rfl (by decide : (0 : Int32).toInt = 0)).mp c1
    refine t_bindE (tlX7_weigh_10 k1 k2 hk1 hk2 ((0 : Int32), I) ⟨(by show (0 ≤ ((0 : Int32)).toInt ∧ ((0 : Int32)).toInt ≤ 2147483647); decide), hM⟩) (fun w5 ew5 pw5 => ?_)
    have hw5_0 : MI true I0 w5 := pw5
    refine t_pU (lo := (-2147483648)) (hi := 2147483647) hw5_0 rfl rfl (tTop _) (fun I6 eI6 hI6 => ?_)
    exact t_ret hI6
  · have c1i := mt (iEQ (a := I 43 0) (b := (0 : Int32)) rfl (by decide : (0 : Int32).toInt = 0)).mpr c1
    exact t_ret hM
set_option maxRecDepth 100000 in
set_option maxHeartbeats 1000000 in
theorem tfX8_feed {I0 : gM} (v1 : Int32) (v2 : Int32) (v3 : Int32) (v4 : Int32) (v5 : Int32) (I : gM) (hM : MI true I0 I) : T (fX8_feed v1 v2 v3 v4 v5 I) (fun r => ((-1) ≤ r.1.toInt ∧ r.1.toInt ≤ 400) ∧ MI true I0 r.2) := by
  unfold fX8_feed
  refine t_bindE (tfX6_bytesIn v1) (fun r1 er1 pr1 => ?_)
  refine t_bindE (tfX6_bytesIn v2) (fun r2 er2 pr2 => ?_)
  refine t_bindE (tfX6_bytesIn v3) (fun r3 er3 pr3 => ?_)
  refine t_bindE (tfX6_bytesIn v4) (fun r4 er4 pr4 => ?_)
  refine t_bindE (tfX6_bytesIn v5) (fun r5 er5 pr5 => ?_)
  refine t_ite (fun c1 => ?_) (fun c1 => ?_)
  · have c1i := (iLE (a := (I 1 0) + ((((r1 + r2) + r3) + r4) + r5)) (b := (400 : Int32)) rfl (by decide : (400 : Int32).toInt = 400)).mp c1
    refine t_bindE (tfX6_append v1 I hM) (fun r6 er6 pr6 => ?_)
    have hr6_0 : MI true I0 r6 := pr6
    refine t_bindE (tfX6_append v2 r6 hr6_0) (fun r7 er7 pr7 => ?_)
    have hr7_0 : MI true I0 r7 := pr7
    refine t_bindE (tfX6_append v3 r7 hr7_0) (fun r8 er8 pr8 => ?_)
    have hr8_0 : MI true I0 r8 := pr8
    refine t_bindE (tfX6_append v4 r8 hr8_0) (fun r9 er9 pr9 => ?_)
    have hr9_0 : MI true I0 r9 := pr9
    refine t_bindE (tfX6_append v5 r9 hr9_0) (fun r10 er10 pr10 => ?_)
    have hr10_0 : MI true I0 r10 := pr10
    have q2 := hr10_0.at (k := 1) (j := 0) (lo := 0) (hi := 400) rfl
    exact t_ret ⟨(by show (-1) ≤ (r10 1 0).toInt ∧ (r10 1 0).toInt ≤ 400; omega), hr10_0⟩
  · have c1i := mt (iLE (a := (I 1 0) + ((((r1 + r2) + r3) + r4) + r5)) (b := (400 : Int32)) rfl (by decide : (400 : Int32).toInt = 400)).mpr c1
    exact t_ret ⟨(by show (-1) ≤ (((-1) : Int32)).toInt ∧ (((-1) : Int32)).toInt ≤ 400; decide), hM⟩
set_option maxRecDepth 100000 in
set_option maxHeartbeats 1000000 in
theorem tfX8_end {I0 : gM} (v1 : Int32) (I : gM) (hM : MI true I0 I) : T (fX8_end v1 I) (fun r => (0 ≤ r.1.toInt ∧ r.1.toInt ≤ 1) ∧ MI true I0 r.2) := by
  unfold fX8_end
  refine t_ite (fun c1 => ?_) (fun c1 => ?_)
  · have c1i := (iLT (a := v1) (b := (0 : Int32)) rfl (by decide : (0 : Int32).toInt = 0)).mp c1
    exact t_ret ⟨(by show 0 ≤ ((0 : Int32)).toInt ∧ ((0 : Int32)).toInt ≤ 1; decide), hM⟩
  · have c1i := mt (iLT (a := v1) (b := (0 : Int32)) rfl (by decide : (0 : Int32).toInt = 0)).mpr c1
    have q2 := hM.at (k := 1) (j := 0) (lo := 0) (hi := 400) rfl
    refine t_ite (fun c3 => ?_) (fun c3 => ?_)
    · have c3i := (iLE (a := v1) (b := I 1 0) rfl rfl).mp c3
      refine t_pU (lo := 0) (hi := 400) hM rfl rfl (by omega) (fun I1 eI1 hI1 => ?_)
      exact t_ret ⟨(by show 0 ≤ ((1 : Int32)).toInt ∧ ((1 : Int32)).toInt ≤ 1; decide), hI1⟩
    · have c3i := mt (iLE (a := v1) (b := I 1 0) rfl rfl).mpr c3
      exact t_ret ⟨(by show 0 ≤ ((0 : Int32)).toInt ∧ ((0 : Int32)).toInt ≤ 1; decide), hM⟩
set_option maxRecDepth 100000 in
set_option maxHeartbeats 1000000 in
theorem tfX8_fault {I0 : gM} (v1 : Int32) (I : gM) (hM : MI true I0 I) : T (fX8_fault v1 I) (fun r => ((-2) ≤ r.1.toInt ∧ r.1.toInt ≤ 400) ∧ MI true I0 r.2) := by
  unfold fX8_fault
  refine t_ite (fun c1 => ?_) (fun c1 => ?_)
  · have c1i := (iEQ (a := v1) (b := (0 : Int32)) rfl (by decide : (0 : Int32).toInt = 0)).mp c1
    refine t_bindE (tfX6_readTables 8 I kX5_8 hM) (fun r1 er1 pr1 => ?_)
    obtain ⟨br1_0, hr1_1⟩ := (show ((-1) ≤ r1.1.toInt ∧ r1.1.toInt ≤ 400) ∧ MI true I0 r1.2 from pr1)
    exact t_ret ⟨(by show (-2) ≤ (r1.1).toInt ∧ (r1.1).toInt ≤ 400; omega), hr1_1⟩
  · have c1i := mt (iEQ (a := v1) (b := (0 : Int32)) rfl (by decide : (0 : Int32).toInt = 0)).mpr c1
    refine t_ite (fun c2 => ?_) (fun c2 => ?_)
    · have c2i := (iEQ (a := v1) (b := (1 : Int32)) rfl (by decide : (1 : Int32).toInt = 1)).mp c2
      refine t_bindE (tfX6_readScript 51 I kX4_51 hM) (fun r2 er2 pr2 => ?_)
      obtain ⟨br2_0, hr2_1⟩ := (show ((-1) ≤ r2.1.toInt ∧ r2.1.toInt ≤ 400) ∧ MI true I0 r2.2 from pr2)
      exact t_ret ⟨(by show (-2) ≤ (r2.1).toInt ∧ (r2.1).toInt ≤ 400; omega), hr2_1⟩
    · have c2i := mt (iEQ (a := v1) (b := (1 : Int32)) rfl (by decide : (1 : Int32).toInt = 1)).mpr c2
      exact t_ret ⟨(by show (-2) ≤ (((-2) : Int32)).toInt ∧ (((-2) : Int32)).toInt ≤ 400; decide), hM⟩
set_option maxRecDepth 100000 in
set_option maxHeartbeats 1000000 in
theorem tfX8_renew {I0 : gM} (I : gM) (hM : MI true I0 I) : T (fX8_renew I) (fun r => MI true I0 r) := by
  unfold fX8_renew
  refine t_bindE (tfX1_findBy 18 3 (I 3 2) I kX1_18 kX5_3 hM) (fun r1 er1 pr1 => ?_)
  have hr1_0 : MI true I0 r1 := pr1
  refine t_pU (lo := (-2147483648)) (hi := 2147483647) hr1_0 rfl rfl (tTop _) (fun I2 eI2 hI2 => ?_)
  exact t_ret hI2
set_option maxRecDepth 100000 in
set_option maxHeartbeats 1000000 in
theorem tfX8_textOfTables {I0 : gM} (I : gM) (hM : MI true I0 I) : T (fX8_textOfTables I) (fun r => ((-1) ≤ r.1.toInt ∧ r.1.toInt ≤ 4) ∧ MI true I0 r.2) := by
  unfold fX8_textOfTables
  refine t_bindE (tfX6_readTables 8 I kX5_8 hM) (fun r1 er1 pr1 => ?_)
  obtain ⟨br1_0, hr1_1⟩ := (show ((-1) ≤ r1.1.toInt ∧ r1.1.toInt ≤ 400) ∧ MI true I0 r1.2 from pr1)
  refine t_ite (fun c1 => ?_) (fun c1 => ?_)
  · have c1i := (iEQ (a := r1.1) (b := ((-1) : Int32)) rfl (by decide : ((-1) : Int32).toInt = (-1))).mp c1
    refine t_bindE (tfX5_copyFrom 3 8 r1.2 kX5_3 kX5_8 hr1_1) (fun r2 er2 pr2 => ?_)
    have hr2_0 : MI true I0 r2 := pr2
    refine t_pU (lo := 0) (hi := 400) hr2_0 rfl rfl (by decide) (fun I3 eI3 hI3 => ?_)
    refine t_bindE (tfX2_clear 44 I3 kX2_44 hI3) (fun r4 er4 pr4 => ?_)
    have hr4_0 : MI true I0 r4 := pr4
    refine t_bindE (tfX3_clear r4 hr4_0) (fun r5 er5 pr5 => ?_)
    have hr5_0 : MI true I0 r5 := pr5
    refine t_pU (lo := 0) (hi := 1) hr5_0 rfl rfl (by decide) (fun I6 eI6 hI6 => ?_)
    refine t_bindE (tfX8_renew I6 hI6) (fun r7 er7 pr7 => ?_)
    have hr7_0 : MI true I0 r7 := pr7
    have q2 := hr7_0.at (k := 3) (j := 0) (lo := 0) (hi := 4) rfl
    have q3 := hI6.at (k := 3) (j := 0) (lo := 0) (hi := 4) rfl
    have q4 := hr5_0.at (k := 3) (j := 0) (lo := 0) (hi := 4) rfl
    have q5 := hr4_0.at (k := 3) (j := 0) (lo := 0) (hi := 4) rfl
    have q6 := hI3.at (k := 3) (j := 0) (lo := 0) (hi := 4) rfl
    have q7 := hr2_0.at (k := 3) (j := 0) (lo := 0) (hi := 4) rfl
    have q8 : (I3 3 0).toInt = (r2 3 0).toInt := by rw [eI3, g_up_ne (Or.inl (by decide))]
    have q9 : (r4 3 0).toInt = (I3 3 0).toInt := congrArg (fun g : Nat → Int32 => (g 0).toInt) (show r4 3 = I3 3 from zfX2_clear 44 I3 er4 3 (by decide))
    have q10 : (r5 3 0).toInt = (r4 3 0).toInt := congrArg (fun g : Nat → Int32 => (g 0).toInt) (show r5 3 = r4 3 from zfX3_clear r4 er5 3 (by decide))
    have q11 : (I6 3 0).toInt = (r5 3 0).toInt := by rw [eI6, g_up_ne (Or.inr (by decide))]
    have q12 : (r7 3 0).toInt = (I6 3 0).toInt := congrArg (fun g : Nat → Int32 => (g 0).toInt) (show r7 3 = I6 3 from zfX8_renew I6 er7 3 (by decide) (by decide) (by decide) (by decide) (by decide) (by decide) (by decide) (by decide) (by decide) (by decide) (by decide) (by decide))
    exact t_ret ⟨(by show (-1) ≤ (r7 3 0).toInt ∧ (r7 3 0).toInt ≤ 4; omega), hr7_0⟩
  · have c1i := mt (iEQ (a := r1.1) (b := ((-1) : Int32)) rfl (by decide : ((-1) : Int32).toInt = (-1))).mpr c1
    exact t_ret ⟨(by show (-1) ≤ (((-1) : Int32)).toInt ∧ (((-1) : Int32)).toInt ≤ 4; decide), hr1_1⟩
set_option maxRecDepth 100000 in
set_option maxHeartbeats 1000000 in
theorem tfX8_textOfScript {I0 : gM} (I : gM) (hM : MI true I0 I) : T (fX8_textOfScript I) (fun r => ((-1) ≤ r.1.toInt ∧ r.1.toInt ≤ 3) ∧ MI true I0 r.2) := by
  unfold fX8_textOfScript
  have q1 := hM.at (k := 0) (j := 14) (lo := 0) (hi := 4) rfl
  refine t_ite (fun c2 => ?_) (fun c2 => ?_)
  · have c2i := (iLE (a := (4 : Int32)) (b := I 0 14) (by decide : (4 : Int32).toInt = 4) rfl).mp c2
    exact t_ret ⟨(by show (-1) ≤ (((-1) : Int32)).toInt ∧ (((-1) : Int32)).toInt ≤ 3; decide), hM⟩
  · have c2i := mt (iLE (a := (4 : Int32)) (b := I 0 14) (by decide : (4 : Int32).toInt = 4) rfl).mpr c2
    refine t_bindE (tfX6_readScript 51 I kX4_51 hM) (fun r1 er1 pr1 => ?_)
    obtain ⟨br1_0, hr1_1⟩ := (show ((-1) ≤ r1.1.toInt ∧ r1.1.toInt ≤ 400) ∧ MI true I0 r1.2 from pr1)
    refine t_ite (fun c3 => ?_) (fun c3 => ?_)
    · have c3i := (iEQ (a := r1.1) (b := ((-1) : Int32)) rfl (by decide : ((-1) : Int32).toInt = (-1))).mp c3
      have q4 := hr1_1.at (k := 0) (j := 14) (lo := 0) (hi := 4) rfl
      have q5 : (r1.2 0 14).toInt = (I 0 14).toInt := congrArg (fun g : Nat → Int32 => (g 14).toInt) (show r1.2 0 = I 0 from zfX6_readScript 51 I er1 0 (by decide) (by decide) (by decide))
      refine t_rA rfl (by omega) (by omega) (fun k2 ek2 => ?_)
      have hk2 : kX4 k2 := kX4_at (x := (r1.2 0 14).toInt) (by omega) (by omega) ek2
      have hk2_1 := hk2.1
      have hk2_2 := hk2.2.1
      refine t_bindE (tfX4_copyFrom k2 51 r1.2 hk2 kX4_51 hr1_1) (fun r3 er3 pr3 => ?_)
      have hr3_0 : MI true I0 r3 := pr3
      refine t_pU (lo := 0) (hi := 400) hr3_0 rfl rfl (by decide) (fun I4 eI4 hI4 => ?_)
      have q6 := hI4.at (k := 0) (j := 14) (lo := 0) (hi := 4) rfl
      have q7 := hr3_0.at (k := 0) (j := 14) (lo := 0) (hi := 4) rfl
      have q8 : (r3 0 14).toInt = (r1.2 0 14).toInt := congrArg (fun g : Nat → Int32 => (g 14).toInt) (show r3 0 = r1.2 0 from zfX4_copyFrom k2 51 r1.2 er3 0 (by omega) (by omega))
      have q9 : (I4 0 14).toInt = (r3 0 14).toInt := by rw [eI4, g_up_ne (Or.inr (by decide))]
      refine t_pU (lo := 0) (hi := 4) hI4 rfl rfl (by have q := ((tA rfl (by decide : (1 : Int32).toInt = 1) (by omega) (by omega)) : ((I4 0 14) + 1).toInt = ((I4 0 14).toInt + 1)); omega) (fun I5 eI5 hI5 => ?_)
      have q10 := hI5.at (k := 0) (j := 14) (lo := 0) (hi := 4) rfl
      have q11 : (I5 0 14).toInt = ((I4 0 14).toInt + 1) := by rw [eI5, g_up_self]; exact (tA rfl (by decide : (1 : Int32).toInt = 1) (by omega) (by omega))
      exact t_ret ⟨(by show (-1) ≤ ((I5 0 14) - 1).toInt ∧ ((I5 0 14) - 1).toInt ≤ 3; have q := ((tS rfl (by decide : (1 : Int32).toInt = 1) (by omega) (by omega)) : ((I5 0 14) - 1).toInt = ((I5 0 14).toInt - 1)); omega), hI5⟩
    · have c3i := mt (iEQ (a := r1.1) (b := ((-1) : Int32)) rfl (by decide : ((-1) : Int32).toInt = (-1))).mpr c3
      exact t_ret ⟨(by show (-1) ≤ (((-1) : Int32)).toInt ∧ (((-1) : Int32)).toInt ≤ 3; decide), hr1_1⟩
set_option maxRecDepth 100000 in
set_option maxHeartbeats 1000000 in
theorem tfX8_text {I0 : gM} (v1 : Int32) (I : gM) (hM : MI true I0 I) : T (fX8_text v1 I) (fun r => ((-1) ≤ r.1.toInt ∧ r.1.toInt ≤ 4) ∧ MI true I0 r.2) := by
  unfold fX8_text
  refine t_ite (fun c1 => ?_) (fun c1 => ?_)
  · have c1i := (iEQ (a := v1) (b := (0 : Int32)) rfl (by decide : (0 : Int32).toInt = 0)).mp c1
    refine t_bindE (tfX8_textOfTables I hM) (fun r1 er1 pr1 => ?_)
    obtain ⟨br1_0, hr1_1⟩ := (show ((-1) ≤ r1.1.toInt ∧ r1.1.toInt ≤ 4) ∧ MI true I0 r1.2 from pr1)
    exact t_ret ⟨(by show (-1) ≤ (r1.1).toInt ∧ (r1.1).toInt ≤ 4; omega), hr1_1⟩
  · have c1i := mt (iEQ (a := v1) (b := (0 : Int32)) rfl (by decide : (0 : Int32).toInt = 0)).mpr c1
    refine t_ite (fun c2 => ?_) (fun c2 => ?_)
    · have c2i := (iEQ (a := v1) (b := (1 : Int32)) rfl (by decide : (1 : Int32).toInt = 1)).mp c2
      refine t_bindE (tfX8_textOfScript I hM) (fun r2 er2 pr2 => ?_)
      obtain ⟨br2_0, hr2_1⟩ := (show ((-1) ≤ r2.1.toInt ∧ r2.1.toInt ≤ 3) ∧ MI true I0 r2.2 from pr2)
      exact t_ret ⟨(by show (-1) ≤ (r2.1).toInt ∧ (r2.1).toInt ≤ 4; omega), hr2_1⟩
    · have c2i := mt (iEQ (a := v1) (b := (1 : Int32)) rfl (by decide : (1 : Int32).toInt = 1)).mpr c2
      exact t_ret ⟨(by show (-1) ≤ (((-1) : Int32)).toInt ∧ (((-1) : Int32)).toInt ≤ 4; decide), hM⟩
set_option maxRecDepth 100000 in
set_option maxHeartbeats 1000000 in
theorem tfX8_rule {I0 : gM} (v1 : Int32) (I : gM) (hM : MI true I0 I) : T (fX8_rule v1 I) (fun r => True) := by
  unfold fX8_rule
  have q1 := hM.at (k := 3) (j := 0) (lo := 0) (hi := 4) rfl
  refine t_ite (fun c2 => ?_) (fun c2 => ?_)
  · have c2i := (iEQ (a := I 3 0) (b := (0 : Int32)) rfl (by decide : (0 : Int32).toInt = 0)).mp c2
    exact t_ret trivial
  · have c2i := mt (iEQ (a := I 3 0) (b := (0 : Int32)) rfl (by decide : (0 : Int32).toInt = 0)).mpr c2
    refine t_ite (fun c3 => ?_) (fun c3 => ?_)
    · have c3i := (iEQ (a := v1) (b := (0 : Int32)) rfl (by decide : (0 : Int32).toInt = 0)).mp c3
      exact t_ret trivial
    · have c3i := mt (iEQ (a := v1) (b := (0 : Int32)) rfl (by decide : (0 : Int32).toInt = 0)).mpr c3
      refine t_ite (fun c4 => ?_) (fun c4 => ?_)
      · have c4i := (iEQ (a := v1) (b := (1 : Int32)) rfl (by decide : (1 : Int32).toInt = 1)).mp c4
        exact t_ret trivial
      · have c4i := mt (iEQ (a := v1) (b := (1 : Int32)) rfl (by decide : (1 : Int32).toInt = 1)).mpr c4
        refine t_ite (fun c5 => ?_) (fun c5 => ?_)
        · have c5i := (iEQ (a := v1) (b := (2 : Int32)) rfl (by decide : (2 : Int32).toInt = 2)).mp c5
          exact t_ret trivial
        · have c5i := mt (iEQ (a := v1) (b := (2 : Int32)) rfl (by decide : (2 : Int32).toInt = 2)).mpr c5
          refine t_ite (fun c6 => ?_) (fun c6 => ?_)
          · have c6i := (iEQ (a := v1) (b := (3 : Int32)) rfl (by decide : (3 : Int32).toInt = 3)).mp c6
            refine t_bindE (tfX5_asked 3 I kX5_3 hM) (fun r1 er1 pr1 => ?_)
            exact t_ret trivial
          · have c6i := mt (iEQ (a := v1) (b := (3 : Int32)) rfl (by decide : (3 : Int32).toInt = 3)).mpr c6
            refine t_ite (fun c7 => ?_) (fun c7 => ?_)
            · have c7i := (iEQ (a := v1) (b := (4 : Int32)) rfl (by decide : (4 : Int32).toInt = 4)).mp c7
              refine t_bindE (tfX5_allRows 3 I kX5_3 hM) (fun r2 er2 pr2 => ?_)
              exact t_ret trivial
            · have c7i := mt (iEQ (a := v1) (b := (4 : Int32)) rfl (by decide : (4 : Int32).toInt = 4)).mpr c7
              exact t_ret trivial
set_option maxRecDepth 100000 in
set_option maxHeartbeats 1000000 in
theorem tfX8_cell {I0 : gM} (v1 : Int32) (v2 : Int32) (v3 : Int32) (I : gM) (hM : MI true I0 I) : T (fX8_cell v1 v2 v3 I) (fun r => ((-1) ≤ r.toInt ∧ r.toInt ≤ 127)) := by
  unfold fX8_cell
  refine t_bindE (tfX5_isTable 3 v1 I kX5_3 hM) (fun r1 er1 pr1 => ?_)
  obtain ⟨br1_0, xr1_0⟩ := (show (0 ≤ r1.toInt ∧ r1.toInt ≤ 1) ∧ (r1.toInt = 0 ∨ (0 ≤ v1.toInt ∧ v1.toInt < (I 3 0).toInt)) from pr1)
  have q1 := hM.at (k := 3) (j := 0) (lo := 0) (hi := 4) rfl
  refine t_ite (fun c2 => ?_) (fun c2 => ?_)
  · have c2i := (iEQ (a := r1) (b := (0 : Int32)) rfl (by decide : (0 : Int32).toInt = 0)).mp c2
    exact t_ret (by show (-1) ≤ (((-1) : Int32)).toInt ∧ (((-1) : Int32)).toInt ≤ 127; decide)
  · have c2i := mt (iEQ (a := r1) (b := (0 : Int32)) rfl (by decide : (0 : Int32).toInt = 0)).mpr c2
    refine t_ite (fun c3 => ?_) (fun c3 => ?_)
    · have c3i := (iLT (a := v2) (b := (0 : Int32)) rfl (by decide : (0 : Int32).toInt = 0)).mp c3
      exact t_ret (by show (-1) ≤ (((-1) : Int32)).toInt ∧ (((-1) : Int32)).toInt ≤ 127; decide)
    · have c3i := mt (iLT (a := v2) (b := (0 : Int32)) rfl (by decide : (0 : Int32).toInt = 0)).mpr c3
      refine t_rI (lo := 0) (hi := 12) hM (fun _ _ => rfl) rfl (by omega) (by omega) (fun u2 eu2 bu2 => ?_)
      refine t_ite (fun c4 => ?_) (fun c4 => ?_)
      · have c4i := (iLE (a := u2) (b := v2) rfl rfl).mp c4
        exact t_ret (by show (-1) ≤ (((-1) : Int32)).toInt ∧ (((-1) : Int32)).toInt ≤ 127; decide)
      · have c4i := mt (iLE (a := u2) (b := v2) rfl rfl).mpr c4
        refine t_ite (fun c5 => ?_) (fun c5 => ?_)
        · have c5i := (iLT (a := v3) (b := (0 : Int32)) rfl (by decide : (0 : Int32).toInt = 0)).mp c5
          exact t_ret (by show (-1) ≤ (((-1) : Int32)).toInt ∧ (((-1) : Int32)).toInt ≤ 127; decide)
        · have c5i := mt (iLT (a := v3) (b := (0 : Int32)) rfl (by decide : (0 : Int32).toInt = 0)).mpr c5
          refine t_rI (lo := 0) (hi := 3) hM (fun _ _ => rfl) rfl (by omega) (by omega) (fun u3 eu3 bu3 => ?_)
          refine t_ite (fun c6 => ?_) (fun c6 => ?_)
          · have c6i := (iLT (a := v3) (b := u3) rfl rfl).mp c6
            refine t_bindE (tfX5_rowAt 3 v1 v2 I kX5_3 hM (by omega) (by omega)) (fun r4 er4 pr4 => ?_)
            have q7 : 0 ≤ ((r4 >>> (((14 : Int32) - ((7 : Int32) * v3)) &&& 31)) &&& 127).toInt ∧ ((r4 >>> (((14 : Int32) - ((7 : Int32) * v3)) &&& 31)) &&& 127).toInt ≤ 127 := and_b (r4 >>> (((14 : Int32) - ((7 : Int32) * v3)) &&& 31)) (Or.inl rfl)
            exact t_ret (by show (-1) ≤ (((r4 >>> (((14 : Int32) - ((7 : Int32) * v3)) &&& 31)) &&& 127)).toInt ∧ (((r4 >>> (((14 : Int32) - ((7 : Int32) * v3)) &&& 31)) &&& 127)).toInt ≤ 127; omega)
          · have c6i := mt (iLT (a := v3) (b := u3) rfl rfl).mpr c6
            exact t_ret (by show (-1) ≤ (((-1) : Int32)).toInt ∧ (((-1) : Int32)).toInt ≤ 127; decide)
set_option maxRecDepth 100000 in
set_option maxHeartbeats 1000000 in
theorem tfX8_rows {I0 : gM} (I : gM) (hM : MI true I0 I) : T (fX8_rows I) (fun r => ((-1) ≤ r.toInt ∧ r.toInt ≤ 20736)) := by
  unfold fX8_rows
  have q1 := hM.at (k := 3) (j := 0) (lo := 0) (hi := 4) rfl
  refine t_ite (fun c2 => ?_) (fun c2 => ?_)
  · have c2i := (iEQ (a := I 3 0) (b := (0 : Int32)) rfl (by decide : (0 : Int32).toInt = 0)).mp c2
    exact t_ret (by show (-1) ≤ (((-1) : Int32)).toInt ∧ (((-1) : Int32)).toInt ≤ 20736; decide)
  · have c2i := mt (iEQ (a := I 3 0) (b := (0 : Int32)) rfl (by decide : (0 : Int32).toInt = 0)).mpr c2
    have q3 := hM.at (k := 18) (j := 0) (lo := 0) (hi := 20736) rfl
    exact t_ret (by show (-1) ≤ ((I 18 0)).toInt ∧ ((I 18 0)).toInt ≤ 20736; omega)
set_option maxRecDepth 100000 in
set_option maxHeartbeats 1000000 in
theorem tfX8_isAsked {I0 : gM} (v1 : Int32) (I : gM) (hM : MI true I0 I) : T (fX8_isAsked v1 I) (fun r => (0 ≤ r.toInt ∧ r.toInt ≤ 1)) := by
  unfold fX8_isAsked
  refine t_ite (fun c1 => ?_) (fun c1 => ?_)
  · have c1i := (iLT (a := v1) (b := (0 : Int32)) rfl (by decide : (0 : Int32).toInt = 0)).mp c1
    exact t_ret (by show 0 ≤ ((0 : Int32)).toInt ∧ ((0 : Int32)).toInt ≤ 1; decide)
  · have c1i := mt (iLT (a := v1) (b := (0 : Int32)) rfl (by decide : (0 : Int32).toInt = 0)).mpr c1
    refine t_ite (fun c2 => ?_) (fun c2 => ?_)
    · have c2i := (iLE (a := (4 : Int32)) (b := v1) (by decide : (4 : Int32).toInt = 4) rfl).mp c2
      exact t_ret (by show 0 ≤ ((0 : Int32)).toInt ∧ ((0 : Int32)).toInt ≤ 1; decide)
    · have c2i := mt (iLE (a := (4 : Int32)) (b := v1) (by decide : (4 : Int32).toInt = 4) rfl).mpr c2
      refine t_bindE (tfX5_asked 3 I kX5_3 hM) (fun r1 er1 pr1 => ?_)
      have q3 : 0 ≤ ((r1 >>> (v1 &&& 31)) &&& 1).toInt ∧ ((r1 >>> (v1 &&& 31)) &&& 1).toInt ≤ 1 := and_b (r1 >>> (v1 &&& 31)) (Or.inr (Or.inl rfl))
      refine t_ite (fun c4 => ?_) (fun c4 => ?_)
      · have c4i := (iEQ (a := (r1 >>> (v1 &&& 31)) &&& 1) (b := (0 : Int32)) rfl (by decide : (0 : Int32).toInt = 0)).mp c4
        exact t_ret (by show 0 ≤ ((0 : Int32)).toInt ∧ ((0 : Int32)).toInt ≤ 1; decide)
      · have c4i := mt (iEQ (a := (r1 >>> (v1 &&& 31)) &&& 1) (b := (0 : Int32)) rfl (by decide : (0 : Int32).toInt = 0)).mpr c4
        exact t_ret (by show 0 ≤ ((1 : Int32)).toInt ∧ ((1 : Int32)).toInt ≤ 1; decide)
set_option maxRecDepth 100000 in
set_option maxHeartbeats 1000000 in
theorem tfX8_row {I0 : gM} (v1 : Int32) (v2 : Int32) (I : gM) (hM : MI true I0 I) : T (fX8_row v1 v2 I) (fun r => ((-1) ≤ r.toInt ∧ r.toInt ≤ 127)) := by
  unfold fX8_row
  refine t_bindE (tfX8_isAsked v2 I hM) (fun r1 er1 pr1 => ?_)
  have br1_0 : (0 ≤ r1.toInt ∧ r1.toInt ≤ 1) := pr1
  refine t_ite (fun c1 => ?_) (fun c1 => ?_)
  · have c1i := (iEQ (a := r1) (b := (0 : Int32)) rfl (by decide : (0 : Int32).toInt = 0)).mp c1
    exact t_ret (by show (-1) ≤ (((-1) : Int32)).toInt ∧ (((-1) : Int32)).toInt ≤ 127; decide)
  · have c1i := mt (iEQ (a := r1) (b := (0 : Int32)) rfl (by decide : (0 : Int32).toInt = 0)).mpr c1
    refine t_ite (fun c2 => ?_) (fun c2 => ?_)
    · have c2i := (iLT (a := v1) (b := (0 : Int32)) rfl (by decide : (0 : Int32).toInt = 0)).mp c2
      exact t_ret (by show (-1) ≤ (((-1) : Int32)).toInt ∧ (((-1) : Int32)).toInt ≤ 127; decide)
    · have c2i := mt (iLT (a := v1) (b := (0 : Int32)) rfl (by decide : (0 : Int32).toInt = 0)).mpr c2
      have q3 := hM.at (k := 18) (j := 0) (lo := 0) (hi := 20736) rfl
      refine t_ite (fun c4 => ?_) (fun c4 => ?_)
      · have c4i := (iLT (a := v1) (b := I 18 0) rfl rfl).mp c4
        refine t_bindE (tfX1_numberAt 18 v1 v2 I kX1_18 hM) (fun r2 er2 pr2 => ?_)
        have br2_0 : (0 ≤ r2.toInt ∧ r2.toInt ≤ 127) := pr2
        exact t_ret (by show (-1) ≤ (r2).toInt ∧ (r2).toInt ≤ 127; omega)
      · have c4i := mt (iLT (a := v1) (b := I 18 0) rfl rfl).mpr c4
        exact t_ret (by show (-1) ≤ (((-1) : Int32)).toInt ∧ (((-1) : Int32)).toInt ≤ 127; decide)
set_option maxRecDepth 100000 in
set_option maxHeartbeats 1000000 in
theorem tfX8_leaps {I0 : gM} (I : gM) (hM : MI true I0 I) : T (fX8_leaps I) (fun r => True) := by
  unfold fX8_leaps
  have q1 := hM.at (k := 3) (j := 0) (lo := 0) (hi := 4) rfl
  refine t_ite (fun c2 => ?_) (fun c2 => ?_)
  · have c2i := (iEQ (a := I 3 0) (b := (0 : Int32)) rfl (by decide : (0 : Int32).toInt = 0)).mp c2
    exact t_ret trivial
  · have c2i := mt (iEQ (a := I 3 0) (b := (0 : Int32)) rfl (by decide : (0 : Int32).toInt = 0)).mpr c2
    exact t_ret trivial
set_option maxRecDepth 100000 in
set_option maxHeartbeats 1000000 in
theorem tfX8_beginnings {I0 : gM} (v1 : Int32) (I : gM) (hM : MI true I0 I) : T (fX8_beginnings v1 I) (fun r => True) := by
  unfold fX8_beginnings
  have q1 := hM.at (k := 3) (j := 0) (lo := 0) (hi := 4) rfl
  refine t_ite (fun c2 => ?_) (fun c2 => ?_)
  · have c2i := (iEQ (a := I 3 0) (b := (0 : Int32)) rfl (by decide : (0 : Int32).toInt = 0)).mp c2
    exact t_ret trivial
  · have c2i := mt (iEQ (a := I 3 0) (b := (0 : Int32)) rfl (by decide : (0 : Int32).toInt = 0)).mpr c2
    refine t_ite (fun c3 => ?_) (fun c3 => ?_)
    · have c3i := (iLT (a := v1) (b := (1 : Int32)) rfl (by decide : (1 : Int32).toInt = 1)).mp c3
      exact t_ret trivial
    · have c3i := mt (iLT (a := v1) (b := (1 : Int32)) rfl (by decide : (1 : Int32).toInt = 1)).mpr c3
      have q4 := hM.at (k := 18) (j := 2) (lo := 0) (hi := 4) rfl
      refine t_ite (fun c5 => ?_) (fun c5 => ?_)
      · have c5i := (iLE (a := v1) (b := I 18 2) rfl rfl).mp c5
        refine t_rI (lo := (-2147483648)) (hi := 2147483647) hM (fun _ _ => rfl) (tS rfl (by decide : (1 : Int32).toInt = 1) (by omega) (by omega)) (by omega) (by omega) (fun u1 eu1 bu1 => ?_)
        exact t_ret trivial
      · have c5i := mt (iLE (a := v1) (b := I 18 2) rfl rfl).mpr c5
        exact t_ret trivial
set_option maxRecDepth 100000 in
set_option maxHeartbeats 1000000 in
theorem tfX8_best {I0 : gM} (v1 : Int32) (I : gM) (hM : MI true I0 I) : T (fX8_best v1 I) (fun r => MI true I0 r.2) := by
  unfold fX8_best
  have q1 := hM.at (k := 3) (j := 0) (lo := 0) (hi := 4) rfl
  refine t_ite (fun c2 => ?_) (fun c2 => ?_)
  · have c2i := (iEQ (a := I 3 0) (b := (0 : Int32)) rfl (by decide : (0 : Int32).toInt = 0)).mp c2
    exact t_ret hM
  · have c2i := mt (iEQ (a := I 3 0) (b := (0 : Int32)) rfl (by decide : (0 : Int32).toInt = 0)).mpr c2
    refine t_ite (fun c3 => ?_) (fun c3 => ?_)
    · have c3i := (iLT (a := v1) (b := (0 : Int32)) rfl (by decide : (0 : Int32).toInt = 0)).mp c3
      exact t_ret hM
    · have c3i := mt (iLT (a := v1) (b := (0 : Int32)) rfl (by decide : (0 : Int32).toInt = 0)).mpr c3
      refine t_ite (fun c4 => ?_) (fun c4 => ?_)
      · have c4i := (iLE (a := v1) (b := (1 : Int32)) rfl (by decide : (1 : Int32).toInt = 1)).mp c4
        refine t_bindE (tfX7_weigh 3 29 I kX5_3 kX1_29 hM) (fun r1 er1 pr1 => ?_)
        have hr1_0 : MI true I0 r1 := pr1
        refine t_ite (fun c5 => ?_) (fun c5 => ?_)
        · have c5i := (iEQ (a := v1) (b := (0 : Int32)) rfl (by decide : (0 : Int32).toInt = 0)).mp c5
          exact t_ret hr1_0
        · have c5i := mt (iEQ (a := v1) (b := (0 : Int32)) rfl (by decide : (0 : Int32).toInt = 0)).mpr c5
          exact t_ret hr1_0
      · have c4i := mt (iLE (a := v1) (b := (1 : Int32)) rfl (by decide : (1 : Int32).toInt = 1)).mpr c4
        exact t_ret hM
set_option maxRecDepth 100000 in
set_option maxHeartbeats 1000000 in
theorem tlX8_plain_16 {I0 : gM} (I : gM) (hM : MI true I0 I) (s : (Int32 × Int32)) (hP : (0 ≤ (s.2).toInt ∧ (s.2).toInt ≤ 2147483647)) : T (lX8_plain_16 I s) (fun r : Int32 => True) := by
  unfold lX8_plain_16
  refine t_it (P := fun s : (Int32 × Int32) => (0 ≤ (s.2).toInt ∧ (s.2).toInt ≤ 2147483647)) (μ := fun s : (Int32 × Int32) => (2147483648 - s.2.toInt).toNat) (fun s p => ?_) hP
  have b1 : (0 ≤ (s.2).toInt ∧ (s.2).toInt ≤ 2147483647) := p
  have q1 := hM.at (k := 3) (j := 0) (lo := 0) (hi := 4) rfl
  refine t_ite (fun c2 => ?_) (fun c2 => ?_)
  · have c2i := (iLE (a := I 3 0) (b := s.2) rfl rfl).mp c2
    exact t_ret (show True from trivial)
  · have c2i := mt (iLE (a := I 3 0) (b := s.2) rfl rfl).mpr c2
    refine t_bindE (tfX5_isUsed 3 s.2 I kX5_3 hM) (fun r1 er1 pr1 => ?_)
    obtain ⟨br1_0, xr1_0⟩ := (show (0 ≤ r1.toInt ∧ r1.toInt ≤ 1) ∧ (r1.toInt = 0 ∨ (0 ≤ s.2.toInt ∧ s.2.toInt < (I 3 0).toInt)) from pr1)
    refine t_ite (fun c3 => ?_) (fun c3 => ?_)
    · have c3i := (iEQ (a := r1) (b := (0 : Int32)) rfl (by decide : (0 : Int32).toInt = 0)).mp c3
      unfold bX8_plain_50
      have m1 := ((tA rfl (by decide : (1 : Int32).toInt = 1) (by omega) (by omega)) : (s.2 + 1).toInt = (s.2.toInt + 1))
      have mm : (2147483648 - (s.2 + 1).toInt).toNat < (2147483648 - s.2.toInt).toNat := by omega
      have pp : (0 ≤ (s.2 + 1).toInt ∧ (s.2 + 1).toInt ≤ 2147483647) := (by show (0 ≤ (s.2 + 1).toInt ∧ (s.2 + 1).toInt ≤ 2147483647); have q := ((tA rfl (by decide : (1 : Int32).toInt = 1) (by omega) (by omega)) : (s.2 + 1).toInt = (s.2.toInt + 1)); omega)
      exact t_ret ⟨pp, mm⟩
    · have c3i := mt (iEQ (a := r1) (b := (0 : Int32)) rfl (by decide : (0 : Int32).toInt = 0)).mpr c3
      refine t_rI (lo := 0) (hi := 12) hM (fun _ _ => rfl) rfl (by omega) (by omega) (fun u2 eu2 bu2 => ?_)
      unfold bX8_plain_50
      have m1 := ((tA rfl (by decide : (1 : Int32).toInt = 1) (by omega) (by omega)) : (s.2 + 1).toInt = (s.2.toInt + 1))
      have mm : (2147483648 - (s.2 + 1).toInt).toNat < (2147483648 - s.2.toInt).toNat := by omega
      have pp : (0 ≤ (s.2 + 1).toInt ∧ (s.2 + 1).toInt ≤ 2147483647) := (by show (0 ≤ (s.2 + 1).toInt ∧ (s.2 + 1).toInt ≤ 2147483647); have q := ((tA rfl (by decide : (1 : Int32).toInt = 1) (by omega) (by omega)) : (s.2 + 1).toInt = (s.2.toInt + 1)); omega)
      exact t_ret ⟨pp, mm⟩
set_option maxRecDepth 100000 in
set_option maxHeartbeats 1000000 in
theorem tfX8_plain {I0 : gM} (I : gM) (hM : MI true I0 I) : T (fX8_plain I) (fun r => True) := by
  unfold fX8_plain
  have q1 := hM.at (k := 3) (j := 0) (lo := 0) (hi := 4) rfl
  refine t_ite (fun c2 => ?_) (fun c2 => ?_)
  · have c2i := (iEQ (a := I 3 0) (b := (0 : Int32)) rfl (by decide : (0 : Int32).toInt = 0)).mp c2
    exact t_ret trivial
  · have c2i := mt (iEQ (a := I 3 0) (b := (0 : Int32)) rfl (by decide : (0 : Int32).toInt = 0)).mpr c2
    refine t_bindE (tlX8_plain_16 I hM ((1 : Int32), (0 : Int32)) (by show (0 ≤ ((0 : Int32)).toInt ∧ ((0 : Int32)).toInt ≤ 2147483647); decide)) (fun w3 ew3 pw3 => ?_)
    exact t_ret trivial
set_option maxRecDepth 100000 in
set_option maxHeartbeats 1000000 in
theorem tfX8_given {I0 : gM} (v1 : Int32) (I : gM) (hM : MI true I0 I) : T (fX8_given v1 I) (fun r => True) := by
  unfold fX8_given
  refine t_bindE (tfX5_isTable 3 v1 I kX5_3 hM) (fun r1 er1 pr1 => ?_)
  obtain ⟨br1_0, xr1_0⟩ := (show (0 ≤ r1.toInt ∧ r1.toInt ≤ 1) ∧ (r1.toInt = 0 ∨ (0 ≤ v1.toInt ∧ v1.toInt < (I 3 0).toInt)) from pr1)
  have q1 := hM.at (k := 3) (j := 0) (lo := 0) (hi := 4) rfl
  refine t_ite (fun c2 => ?_) (fun c2 => ?_)
  · have c2i := (iEQ (a := r1) (b := (0 : Int32)) rfl (by decide : (0 : Int32).toInt = 0)).mp c2
    exact t_ret trivial
  · have c2i := mt (iEQ (a := r1) (b := (0 : Int32)) rfl (by decide : (0 : Int32).toInt = 0)).mpr c2
    refine t_bindE (tfX0_givenBits 18 3 v1 I kX1_18 kX5_3 hM) (fun r2 er2 pr2 => ?_)
    exact t_ret trivial
set_option maxRecDepth 100000 in
set_option maxHeartbeats 1000000 in
theorem tfX8_without {I0 : gM} (v1 : Int32) (I : gM) (hM : MI true I0 I) : T (fX8_without v1 I) (fun r => ((-1) ≤ r.1.toInt ∧ r.1.toInt ≤ 20736) ∧ MI true I0 r.2) := by
  unfold fX8_without
  refine t_bindE (tfX5_isTable 3 v1 I kX5_3 hM) (fun r1 er1 pr1 => ?_)
  obtain ⟨br1_0, xr1_0⟩ := (show (0 ≤ r1.toInt ∧ r1.toInt ≤ 1) ∧ (r1.toInt = 0 ∨ (0 ≤ v1.toInt ∧ v1.toInt < (I 3 0).toInt)) from pr1)
  have q1 := hM.at (k := 3) (j := 0) (lo := 0) (hi := 4) rfl
  refine t_ite (fun c2 => ?_) (fun c2 => ?_)
  · have c2i := (iEQ (a := r1) (b := (0 : Int32)) rfl (by decide : (0 : Int32).toInt = 0)).mp c2
    exact t_ret ⟨(by show (-1) ≤ (((-1) : Int32)).toInt ∧ (((-1) : Int32)).toInt ≤ 20736; decide), hM⟩
  · have c2i := mt (iEQ (a := r1) (b := (0 : Int32)) rfl (by decide : (0 : Int32).toInt = 0)).mpr c2
    refine t_ite (fun c3 => ?_) (fun c3 => ?_)
    · have c3i := (iEQ (a := (I 3 1) &&& (((1 : Int32) <<< (v1 &&& 31)) ^^^ (-1))) (b := (0 : Int32)) rfl (by decide : (0 : Int32).toInt = 0)).mp c3
      exact t_ret ⟨(by show (-1) ≤ (((-1) : Int32)).toInt ∧ (((-1) : Int32)).toInt ≤ 20736; decide), hM⟩
    · have c3i := mt (iEQ (a := (I 3 1) &&& (((1 : Int32) <<< (v1 &&& 31)) ^^^ (-1))) (b := (0 : Int32)) rfl (by decide : (0 : Int32).toInt = 0)).mpr c3
      refine t_bindE (tfX5_copyFrom 8 3 I kX5_8 kX5_3 hM) (fun r2 er2 pr2 => ?_)
      have hr2_0 : MI true I0 r2 := pr2
      refine t_pU (lo := (-2147483648)) (hi := 2147483647) hr2_0 rfl rfl (tTop _) (fun I3 eI3 hI3 => ?_)
      refine t_bindE (tfX1_findBy 29 8 (I3 8 2) I3 kX1_29 kX5_8 hI3) (fun r4 er4 pr4 => ?_)
      have hr4_0 : MI true I0 r4 := pr4
      have q4 := hr4_0.at (k := 29) (j := 0) (lo := 0) (hi := 20736) rfl
      exact t_ret ⟨(by show (-1) ≤ (r4 29 0).toInt ∧ (r4 29 0).toInt ≤ 20736; omega), hr4_0⟩
set_option maxRecDepth 100000 in
set_option maxHeartbeats 1000000 in
theorem tfX8_projected {I0 : gM} (v1 : Int32) (I : gM) (hM : MI true I0 I) : T (fX8_projected v1 I) (fun r => MI true I0 r.2) := by
  unfold fX8_projected
  have q1 := hM.at (k := 3) (j := 0) (lo := 0) (hi := 4) rfl
  refine t_ite (fun c2 => ?_) (fun c2 => ?_)
  · have c2i := (iEQ (a := I 3 0) (b := (0 : Int32)) rfl (by decide : (0 : Int32).toInt = 0)).mp c2
    exact t_ret hM
  · have c2i := mt (iEQ (a := I 3 0) (b := (0 : Int32)) rfl (by decide : (0 : Int32).toInt = 0)).mpr c2
    refine t_ite (fun c3 => ?_) (fun c3 => ?_)
    · have c3i := (iLT (a := v1) (b := (1 : Int32)) rfl (by decide : (1 : Int32).toInt = 1)).mp c3
      exact t_ret hM
    · have c3i := mt (iLT (a := v1) (b := (1 : Int32)) rfl (by decide : (1 : Int32).toInt = 1)).mpr c3
      refine t_ite (fun c4 => ?_) (fun c4 => ?_)
      · have c4i := (iLT (a := (15 : Int32)) (b := v1) (by decide : (15 : Int32).toInt = 15) rfl).mp c4
        exact t_ret hM
      · have c4i := mt (iLT (a := (15 : Int32)) (b := v1) (by decide : (15 : Int32).toInt = 15) rfl).mpr c4
        refine t_bindE (tfX5_asked 3 I kX5_3 hM) (fun r1 er1 pr1 => ?_)
        refine t_ite (fun c5 => ?_) (fun c5 => ?_)
        · have c5i := (iEQ (a := v1 &&& (r1 ^^^ (-1))) (b := (0 : Int32)) rfl (by decide : (0 : Int32).toInt = 0)).mp c5
          refine t_bindE (tfX1_findLeading 29 3 v1 I kX1_29 kX5_3 hM) (fun r2 er2 pr2 => ?_)
          have hr2_0 : MI true I0 r2 := pr2
          refine t_bindE (tfX0_unlike 29 v1 r2 kX1_29 hr2_0) (fun r3 er3 pr3 => ?_)
          exact t_ret hr2_0
        · have c5i := mt (iEQ (a := v1 &&& (r1 ^^^ (-1))) (b := (0 : Int32)) rfl (by decide : (0 : Int32).toInt = 0)).mpr c5
          exact t_ret hM
set_option maxRecDepth 100000 in
set_option maxHeartbeats 1000000 in
theorem tfX8_times {I0 : gM} (v1 : Int32) (v2 : Int32) (I : gM) (hM : MI true I0 I) : T (fX8_times v1 v2 I) (fun r => MI true I0 r.2) := by
  unfold fX8_times
  refine t_bindE (tfX8_isAsked v1 I hM) (fun r1 er1 pr1 => ?_)
  have br1_0 : (0 ≤ r1.toInt ∧ r1.toInt ≤ 1) := pr1
  refine t_ite (fun c1 => ?_) (fun c1 => ?_)
  · have c1i := (iEQ (a := r1) (b := (0 : Int32)) rfl (by decide : (0 : Int32).toInt = 0)).mp c1
    exact t_ret hM
  · have c1i := mt (iEQ (a := r1) (b := (0 : Int32)) rfl (by decide : (0 : Int32).toInt = 0)).mpr c1
    refine t_ite (fun c2 => ?_) (fun c2 => ?_)
    · have c2i := (iLT (a := v2) (b := (0 : Int32)) rfl (by decide : (0 : Int32).toInt = 0)).mp c2
      exact t_ret hM
    · have c2i := mt (iLT (a := v2) (b := (0 : Int32)) rfl (by decide : (0 : Int32).toInt = 0)).mpr c2
      refine t_ite (fun c3 => ?_) (fun c3 => ?_)
      · have c3i := (iLT (a := v2) (b := (100 : Int32)) rfl (by decide : (100 : Int32).toInt = 100)).mp c3
        refine t_bindE (tfX0_tallyUp 18 v1 I kX1_18 hM) (fun r2 er2 pr2 => ?_)
        have hr2_0 : MI true I0 r2 := pr2
        refine t_rI (lo := (-2147483648)) (hi := 2147483647) hr2_0 (fun _ _ => rfl) rfl (by omega) (by omega) (fun u3 eu3 bu3 => ?_)
        exact t_ret hr2_0
      · have c3i := mt (iLT (a := v2) (b := (100 : Int32)) rfl (by decide : (100 : Int32).toInt = 100)).mpr c3
        exact t_ret hM
set_option maxRecDepth 100000 in
set_option maxHeartbeats 1000000 in
theorem tfX8_distinct {I0 : gM} (v1 : Int32) (v2 : Int32) (I : gM) (hM : MI true I0 I) : T (fX8_distinct v1 v2 I) (fun r => MI true I0 r.2) := by
  unfold fX8_distinct
  refine t_bindE (tfX8_isAsked v1 I hM) (fun r1 er1 pr1 => ?_)
  have br1_0 : (0 ≤ r1.toInt ∧ r1.toInt ≤ 1) := pr1
  refine t_ite (fun c1 => ?_) (fun c1 => ?_)
  · have c1i := (iEQ (a := r1) (b := (0 : Int32)) rfl (by decide : (0 : Int32).toInt = 0)).mp c1
    exact t_ret hM
  · have c1i := mt (iEQ (a := r1) (b := (0 : Int32)) rfl (by decide : (0 : Int32).toInt = 0)).mpr c1
    refine t_ite (fun c2 => ?_) (fun c2 => ?_)
    · have c2i := (iLT (a := v2) (b := (0 : Int32)) rfl (by decide : (0 : Int32).toInt = 0)).mp c2
      exact t_ret hM
    · have c2i := mt (iLT (a := v2) (b := (0 : Int32)) rfl (by decide : (0 : Int32).toInt = 0)).mpr c2
      refine t_ite (fun c3 => ?_) (fun c3 => ?_)
      · have c3i := (iLE (a := v2) (b := (3 : Int32)) rfl (by decide : (3 : Int32).toInt = 3)).mp c3
        refine t_bindE (tfX0_tallyUp 18 v1 I kX1_18 hM) (fun r2 er2 pr2 => ?_)
        have hr2_0 : MI true I0 r2 := pr2
        refine t_ite (fun c4 => ?_) (fun c4 => ?_)
        · have c4i := (iEQ (a := v2) (b := (0 : Int32)) rfl (by decide : (0 : Int32).toInt = 0)).mp c4
          refine t_bindE (tfX0_numbers r2 hr2_0) (fun r3 er3 pr3 => ?_)
          exact t_ret hr2_0
        · have c4i := mt (iEQ (a := v2) (b := (0 : Int32)) rfl (by decide : (0 : Int32).toInt = 0)).mpr c4
          refine t_ite (fun c5 => ?_) (fun c5 => ?_)
          · have c5i := (iEQ (a := v2) (b := (1 : Int32)) rfl (by decide : (1 : Int32).toInt = 1)).mp c5
            refine t_bindE (tfX0_least r2 hr2_0) (fun r4 er4 pr4 => ?_)
            exact t_ret hr2_0
          · have c5i := mt (iEQ (a := v2) (b := (1 : Int32)) rfl (by decide : (1 : Int32).toInt = 1)).mpr c5
            refine t_ite (fun c6 => ?_) (fun c6 => ?_)
            · have c6i := (iEQ (a := v2) (b := (2 : Int32)) rfl (by decide : (2 : Int32).toInt = 2)).mp c6
              refine t_bindE (tfX0_greatest r2 hr2_0) (fun r5 er5 pr5 => ?_)
              exact t_ret hr2_0
            · have c6i := mt (iEQ (a := v2) (b := (2 : Int32)) rfl (by decide : (2 : Int32).toInt = 2)).mpr c6
              refine t_bindE (tfX0_oftenest r2 hr2_0) (fun r6 er6 pr6 => ?_)
              exact t_ret hr2_0
      · have c3i := mt (iLE (a := v2) (b := (3 : Int32)) rfl (by decide : (3 : Int32).toInt = 3)).mpr c3
        exact t_ret hM
set_option maxRecDepth 100000 in
set_option maxHeartbeats 1000000 in
theorem tfX8_tells {I0 : gM} (v1 : Int32) (v2 : Int32) (I : gM) (hM : MI true I0 I) : T (fX8_tells v1 v2 I) (fun r => (0 ≤ r.1.toInt ∧ r.1.toInt ≤ 1) ∧ MI true I0 r.2) := by
  unfold fX8_tells
  refine t_bindE (tfX8_isAsked v1 I hM) (fun r1 er1 pr1 => ?_)
  have br1_0 : (0 ≤ r1.toInt ∧ r1.toInt ≤ 1) := pr1
  refine t_ite (fun c1 => ?_) (fun c1 => ?_)
  · have c1i := (iEQ (a := r1) (b := (0 : Int32)) rfl (by decide : (0 : Int32).toInt = 0)).mp c1
    exact t_ret ⟨(by show 0 ≤ ((0 : Int32)).toInt ∧ ((0 : Int32)).toInt ≤ 1; decide), hM⟩
  · have c1i := mt (iEQ (a := r1) (b := (0 : Int32)) rfl (by decide : (0 : Int32).toInt = 0)).mpr c1
    refine t_bindE (tfX8_isAsked v2 I hM) (fun r2 er2 pr2 => ?_)
    have br2_0 : (0 ≤ r2.toInt ∧ r2.toInt ≤ 1) := pr2
    refine t_ite (fun c2 => ?_) (fun c2 => ?_)
    · have c2i := (iEQ (a := r2) (b := (0 : Int32)) rfl (by decide : (0 : Int32).toInt = 0)).mp c2
      exact t_ret ⟨(by show 0 ≤ ((0 : Int32)).toInt ∧ ((0 : Int32)).toInt ≤ 1; decide), hM⟩
    · have c2i := mt (iEQ (a := r2) (b := (0 : Int32)) rfl (by decide : (0 : Int32).toInt = 0)).mpr c2
      refine t_bindE (tfX0_isTold 18 v1 v2 I kX1_18 hM) (fun r3 er3 pr3 => ?_)
      obtain ⟨br3_0, hr3_1⟩ := (show (0 ≤ r3.1.toInt ∧ r3.1.toInt ≤ 1) ∧ MI true I0 r3.2 from pr3)
      refine t_ite (fun c3 => ?_) (fun c3 => ?_)
      · have c3i := (iEQ (a := r3.1) (b := (0 : Int32)) rfl (by decide : (0 : Int32).toInt = 0)).mp c3
        exact t_ret ⟨(by show 0 ≤ ((0 : Int32)).toInt ∧ ((0 : Int32)).toInt ≤ 1; decide), hr3_1⟩
      · have c3i := mt (iEQ (a := r3.1) (b := (0 : Int32)) rfl (by decide : (0 : Int32).toInt = 0)).mpr c3
        exact t_ret ⟨(by show 0 ≤ ((1 : Int32)).toInt ∧ ((1 : Int32)).toInt ≤ 1; decide), hr3_1⟩
set_option maxRecDepth 100000 in
set_option maxHeartbeats 1000000 in
theorem tlX8_behind_15 {I0 : gM} (v1 : Int32) (v2 : Int32) (v3 : Int32) (v4 : Int32) (I : gM) (hM : MI true I0 I) (s : Int32) (hP : (0 ≤ (s).toInt ∧ (s).toInt ≤ 2147483647)) : T (lX8_behind_15 v1 v2 v3 v4 I s) (Sum.elim (fun r : Int32 => True) (fun r : Unit => True)) := by
  unfold lX8_behind_15
  refine t_it (P := fun s : Int32 => (0 ≤ (s).toInt ∧ (s).toInt ≤ 2147483647)) (μ := fun s : Int32 => (2147483648 - s.toInt).toNat) (fun s p => ?_) hP
  have b0 : (0 ≤ (s).toInt ∧ (s).toInt ≤ 2147483647) := p
  have q1 := hM.at (k := 18) (j := 0) (lo := 0) (hi := 20736) rfl
  refine t_ite (fun c2 => ?_) (fun c2 => ?_)
  · have c2i := (iLE (a := I 18 0) (b := s) rfl rfl).mp c2
    exact t_ret (show True from trivial)
  · have c2i := mt (iLE (a := I 18 0) (b := s) rfl rfl).mpr c2
    refine t_bindE (tfX1_compareAt 18 s v1 v2 v3 v4 I kX1_18 hM) (fun r1 er1 pr1 => ?_)
    have br1_0 : ((-1) ≤ r1.toInt ∧ r1.toInt ≤ 1) := pr1
    refine t_ite (fun c3 => ?_) (fun c3 => ?_)
    · have c3i := (iLE (a := r1) (b := (0 : Int32)) rfl (by decide : (0 : Int32).toInt = 0)).mp c3
      have m0 := ((tA rfl (by decide : (1 : Int32).toInt = 1) (by omega) (by omega)) : (s + 1).toInt = (s.toInt + 1))
      have mm : (2147483648 - (s + 1).toInt).toNat < (2147483648 - s.toInt).toNat := by omega
      have pp : (0 ≤ ((s + 1)).toInt ∧ ((s + 1)).toInt ≤ 2147483647) := (by show (0 ≤ ((s + 1)).toInt ∧ ((s + 1)).toInt ≤ 2147483647); have q := ((tA rfl (by decide : (1 : Int32).toInt = 1) (by omega) (by omega)) : (s + 1).toInt = (s.toInt + 1)); omega)
      exact t_ret ⟨pp, mm⟩
    · have c3i := mt (iLE (a := r1) (b := (0 : Int32)) rfl (by decide : (0 : Int32).toInt = 0)).mpr c3
      exact t_ret (show True from trivial)
set_option maxRecDepth 100000 in
set_option maxHeartbeats 1000000 in
theorem tfX8_behind {I0 : gM} (v1 : Int32) (v2 : Int32) (v3 : Int32) (v4 : Int32) (I : gM) (hM : MI true I0 I) : T (fX8_behind v1 v2 v3 v4 I) (fun r => True) := by
  unfold fX8_behind
  have q1 := hM.at (k := 3) (j := 0) (lo := 0) (hi := 4) rfl
  refine t_ite (fun c2 => ?_) (fun c2 => ?_)
  · have c2i := (iEQ (a := I 3 0) (b := (0 : Int32)) rfl (by decide : (0 : Int32).toInt = 0)).mp c2
    exact t_ret trivial
  · have c2i := mt (iEQ (a := I 3 0) (b := (0 : Int32)) rfl (by decide : (0 : Int32).toInt = 0)).mpr c2
    refine t_bindE (tlX8_behind_15 v1 v2 v3 v4 I hM (0 : Int32) (by show (0 ≤ ((0 : Int32)).toInt ∧ ((0 : Int32)).toInt ≤ 2147483647); decide)) (fun w2 ew2 pw2 => ?_)
    rcases w2 with w2_0 | w2_1
    · refine t_el ?_
      exact t_ret trivial
    · refine t_er ?_
      exact t_ret trivial
set_option maxRecDepth 100000 in
set_option maxHeartbeats 1000000 in
theorem tlX8_has_15 {I0 : gM} (v1 : Int32) (v2 : Int32) (v3 : Int32) (v4 : Int32) (I : gM) (hM : MI true I0 I) (s : Int32) (hP : (0 ≤ (s).toInt ∧ (s).toInt ≤ 2147483647)) : T (lX8_has_15 v1 v2 v3 v4 I s) (Sum.elim (fun r : Unit => True) (fun r : Unit => True)) := by
  unfold lX8_has_15
  refine t_it (P := fun s : Int32 => (0 ≤ (s).toInt ∧ (s).toInt ≤ 2147483647)) (μ := fun s : Int32 => (2147483648 - s.toInt).toNat) (fun s p => ?_) hP
  have b0 : (0 ≤ (s).toInt ∧ (s).toInt ≤ 2147483647) := p
  have q1 := hM.at (k := 18) (j := 0) (lo := 0) (hi := 20736) rfl
  refine t_ite (fun c2 => ?_) (fun c2 => ?_)
  · have c2i := (iLE (a := I 18 0) (b := s) rfl rfl).mp c2
    exact t_ret (show True from trivial)
  · have c2i := mt (iLE (a := I 18 0) (b := s) rfl rfl).mpr c2
    refine t_bindE (tfX1_compareAt 18 s v1 v2 v3 v4 I kX1_18 hM) (fun r1 er1 pr1 => ?_)
    have br1_0 : ((-1) ≤ r1.toInt ∧ r1.toInt ≤ 1) := pr1
    refine t_ite (fun c3 => ?_) (fun c3 => ?_)
    · have c3i := (iEQ (a := r1) (b := (0 : Int32)) rfl (by decide : (0 : Int32).toInt = 0)).mp c3
      exact t_ret (show True from trivial)
    · have c3i := mt (iEQ (a := r1) (b := (0 : Int32)) rfl (by decide : (0 : Int32).toInt = 0)).mpr c3
      have m0 := ((tA rfl (by decide : (1 : Int32).toInt = 1) (by omega) (by omega)) : (s + 1).toInt = (s.toInt + 1))
      have mm : (2147483648 - (s + 1).toInt).toNat < (2147483648 - s.toInt).toNat := by omega
      have pp : (0 ≤ ((s + 1)).toInt ∧ ((s + 1)).toInt ≤ 2147483647) := (by show (0 ≤ ((s + 1)).toInt ∧ ((s + 1)).toInt ≤ 2147483647); have q := ((tA rfl (by decide : (1 : Int32).toInt = 1) (by omega) (by omega)) : (s + 1).toInt = (s.toInt + 1)); omega)
      exact t_ret ⟨pp, mm⟩
set_option maxRecDepth 100000 in
set_option maxHeartbeats 1000000 in
theorem tfX8_has {I0 : gM} (v1 : Int32) (v2 : Int32) (v3 : Int32) (v4 : Int32) (I : gM) (hM : MI true I0 I) : T (fX8_has v1 v2 v3 v4 I) (fun r => (0 ≤ r.toInt ∧ r.toInt ≤ 1)) := by
  unfold fX8_has
  have q1 := hM.at (k := 3) (j := 0) (lo := 0) (hi := 4) rfl
  refine t_ite (fun c2 => ?_) (fun c2 => ?_)
  · have c2i := (iEQ (a := I 3 0) (b := (0 : Int32)) rfl (by decide : (0 : Int32).toInt = 0)).mp c2
    exact t_ret (by show 0 ≤ ((0 : Int32)).toInt ∧ ((0 : Int32)).toInt ≤ 1; decide)
  · have c2i := mt (iEQ (a := I 3 0) (b := (0 : Int32)) rfl (by decide : (0 : Int32).toInt = 0)).mpr c2
    refine t_bindE (tlX8_has_15 v1 v2 v3 v4 I hM (0 : Int32) (by show (0 ≤ ((0 : Int32)).toInt ∧ ((0 : Int32)).toInt ≤ 2147483647); decide)) (fun w2 ew2 pw2 => ?_)
    rcases w2 with w2_0 | w2_1
    · refine t_el ?_
      exact t_ret (by show 0 ≤ ((1 : Int32)).toInt ∧ ((1 : Int32)).toInt ≤ 1; decide)
    · refine t_er ?_
      exact t_ret (by show 0 ≤ ((0 : Int32)).toInt ∧ ((0 : Int32)).toInt ≤ 1; decide)
set_option maxRecDepth 100000 in
set_option maxHeartbeats 1000000 in
theorem tfX8_attempt {I0 : gM} (v1 : Int32) (v2 : Int32) (v3 : Int32) (v4 : Int32) (v5 : Int32) (I : gM) (hM : MI true I0 I) : T (fX8_attempt v1 v2 v3 v4 v5 I) (fun r => ((-1) ≤ r.1.toInt ∧ r.1.toInt ≤ 3) ∧ MI true I0 r.2 ∧ (¬ r.1.toInt = (-1) ∨ v1.toInt = 3 ∨ (0 ≤ v2.toInt ∧ v2.toInt ≤ 3))) := by
  unfold fX8_attempt
  refine t_bindE (tfX5_refusal 3 v1 v2 v3 v4 v5 I kX5_3 hM) (fun r1 er1 pr1 => ?_)
  obtain ⟨br1_0, xr1_0⟩ := (show ((-1) ≤ r1.toInt ∧ r1.toInt ≤ 3) ∧ (¬ r1.toInt = (-1) ∨ v1.toInt = 3 ∨ (0 ≤ v2.toInt ∧ v2.toInt < (I 3 0).toInt)) from pr1)
  have q1 := hM.at (k := 3) (j := 0) (lo := 0) (hi := 4) rfl
  refine t_ite (fun c2 => ?_) (fun c2 => ?_)
  · have c2i := (iEQ (a := r1) (b := ((-1) : Int32)) rfl (by decide : ((-1) : Int32).toInt = (-1))).mp c2
    refine t_bindE (tfX5_packed v3 v4 v5) (fun r2 er2 pr2 => ?_)
    refine t_ite (fun c3 => ?_) (fun c3 => ?_)
    · have c3i := (iEQ (a := v1) (b := (3 : Int32)) rfl (by decide : (3 : Int32).toInt = 3)).mp c3
      unfold bX8_attempt_56
      refine t_bindE (tfX3_add v1 (I 3 2) r2 I hM) (fun r3 er3 pr3 => ?_)
      have hr3_0 : MI true I0 r3 := pr3
      refine t_bindE (tfX5_change 3 v1 v2 r2 r3 kX5_3 hr3_0) (fun r4 er4 pr4 => ?_)
      have hr4_0 : MI true I0 r4 := pr4
      refine t_bindE (tfX8_renew r4 hr4_0) (fun r5 er5 pr5 => ?_)
      have hr5_0 : MI true I0 r5 := pr5
      refine t_bindE (tfX2_add 44 v1 v2 (r5 18 0) r5 kX2_44 hr5_0) (fun r6 er6 pr6 => ?_)
      have hr6_0 : MI true I0 r6 := pr6
      exact t_ret ⟨(by show (-1) ≤ (((-1) : Int32)).toInt ∧ (((-1) : Int32)).toInt ≤ 3; decide), hr6_0, (by show ¬ ((-1) : Int32).toInt = (-1) ∨ v1.toInt = 3 ∨ (0 ≤ v2.toInt ∧ v2.toInt ≤ 3); have q0 : ((-1) : Int32).toInt = (-1) := (by decide); omega)⟩
    · have c3i := mt (iEQ (a := v1) (b := (3 : Int32)) rfl (by decide : (3 : Int32).toInt = 3)).mpr c3
      unfold bX8_attempt_56
      refine t_bindE (tfX3_add v1 v2 r2 I hM) (fun r3 er3 pr3 => ?_)
      have hr3_0 : MI true I0 r3 := pr3
      refine t_bindE (tfX5_change 3 v1 v2 r2 r3 kX5_3 hr3_0) (fun r4 er4 pr4 => ?_)
      have hr4_0 : MI true I0 r4 := pr4
      refine t_bindE (tfX8_renew r4 hr4_0) (fun r5 er5 pr5 => ?_)
      have hr5_0 : MI true I0 r5 := pr5
      refine t_bindE (tfX2_add 44 v1 v2 (r5 18 0) r5 kX2_44 hr5_0) (fun r6 er6 pr6 => ?_)
      have hr6_0 : MI true I0 r6 := pr6
      exact t_ret ⟨(by show (-1) ≤ (((-1) : Int32)).toInt ∧ (((-1) : Int32)).toInt ≤ 3; decide), hr6_0, (by show ¬ ((-1) : Int32).toInt = (-1) ∨ v1.toInt = 3 ∨ (0 ≤ v2.toInt ∧ v2.toInt ≤ 3); have q0 : ((-1) : Int32).toInt = (-1) := (by decide); omega)⟩
  · have c2i := mt (iEQ (a := r1) (b := ((-1) : Int32)) rfl (by decide : ((-1) : Int32).toInt = (-1))).mpr c2
    exact t_ret ⟨(by show (-1) ≤ (r1).toInt ∧ (r1).toInt ≤ 3; omega), hM, (by show ¬ r1.toInt = (-1) ∨ v1.toInt = 3 ∨ (0 ≤ v2.toInt ∧ v2.toInt ≤ 3); skip; omega)⟩
set_option maxRecDepth 100000 in
set_option maxHeartbeats 1000000 in
theorem tfX8_isDone {I0 : gM} (v1 : Int32) (v2 : Int32) (v3 : Int32) (v4 : Int32) (v5 : Int32) (I : gM) (hM : MI true I0 I) : T (fX8_isDone v1 v2 v3 v4 v5 I) (fun r => (0 ≤ r.1.toInt ∧ r.1.toInt ≤ 1) ∧ MI true I0 r.2 ∧ (r.1.toInt = 0 ∨ v1.toInt = 3 ∨ (0 ≤ v2.toInt ∧ v2.toInt ≤ 3))) := by
  unfold fX8_isDone
  refine t_bindE (tfX8_attempt v1 v2 v3 v4 v5 I hM) (fun r1 er1 pr1 => ?_)
  obtain ⟨br1_0, hr1_1, xr1_0⟩ := (show ((-1) ≤ r1.1.toInt ∧ r1.1.toInt ≤ 3) ∧ MI true I0 r1.2 ∧ (¬ r1.1.toInt = (-1) ∨ v1.toInt = 3 ∨ (0 ≤ v2.toInt ∧ v2.toInt ≤ 3)) from pr1)
  refine t_ite (fun c1 => ?_) (fun c1 => ?_)
  · have c1i := (iLT (a := r1.1) (b := (0 : Int32)) rfl (by decide : (0 : Int32).toInt = 0)).mp c1
    unfold bX8_isDone_35
    refine t_ite (fun c2 => ?_) (fun c2 => ?_)
    · have c2i := (iEQ (a := r1.1) (b := ((-1) : Int32)) rfl (by decide : ((-1) : Int32).toInt = (-1))).mp c2
      exact t_ret ⟨(by show 0 ≤ ((1 : Int32)).toInt ∧ ((1 : Int32)).toInt ≤ 1; decide), hr1_1, (by show (1 : Int32).toInt = 0 ∨ v1.toInt = 3 ∨ (0 ≤ v2.toInt ∧ v2.toInt ≤ 3); have q0 : (1 : Int32).toInt = 1 := (by decide); omega)⟩
    · have c2i := mt (iEQ (a := r1.1) (b := ((-1) : Int32)) rfl (by decide : ((-1) : Int32).toInt = (-1))).mpr c2
      omega
  · have c1i := mt (iLT (a := r1.1) (b := (0 : Int32)) rfl (by decide : (0 : Int32).toInt = 0)).mpr c1
    refine t_ite (fun c3 => ?_) (fun c3 => ?_)
    · have c3i := (iLE (a := (4 : Int32)) (b := r1.1) (by decide : (4 : Int32).toInt = 4) rfl).mp c3
      omega
    · have c3i := mt (iLE (a := (4 : Int32)) (b := r1.1) (by decide : (4 : Int32).toInt = 4) rfl).mpr c3
      refine t_rI (lo := (-2147483648)) (hi := 2147483647) hr1_1 (fun _ _ => rfl) rfl (by omega) (by omega) (fun u2 eu2 bu2 => ?_)
      refine t_wI (lo := (-2147483648)) (hi := 2147483647) hr1_1 rfl (fun _ _ => rfl) rfl (by omega) (by omega) (tTop _) (fun I3 eI3 hI3 => ?_)
      unfold bX8_isDone_35
      refine t_ite (fun c4 => ?_) (fun c4 => ?_)
      · have c4i := (iEQ (a := r1.1) (b := ((-1) : Int32)) rfl (by decide : ((-1) : Int32).toInt = (-1))).mp c4
        omega
      · have c4i := mt (iEQ (a := r1.1) (b := ((-1) : Int32)) rfl (by decide : ((-1) : Int32).toInt = (-1))).mpr c4
        exact t_ret ⟨(by show 0 ≤ ((0 : Int32)).toInt ∧ ((0 : Int32)).toInt ≤ 1; decide), hI3, (by show (0 : Int32).toInt = 0 ∨ v1.toInt = 3 ∨ (0 ≤ v2.toInt ∧ v2.toInt ≤ 3); have q0 : (0 : Int32).toInt = 0 := (by decide); omega)⟩
set_option maxRecDepth 100000 in
set_option maxHeartbeats 1000000 in
theorem tfX8_put {I0 : gM} (v1 : Int32) (v2 : Int32) (v3 : Int32) (v4 : Int32) (I : gM) (hM : MI true I0 I) : T (fX8_put v1 v2 v3 v4 I) (fun r => ((-1) ≤ r.1.toInt ∧ r.1.toInt ≤ 12) ∧ MI true I0 r.2) := by
  unfold fX8_put
  refine t_bindE (tfX8_isDone (0 : Int32) v1 v2 v3 v4 I hM) (fun r1 er1 pr1 => ?_)
  obtain ⟨br1_0, hr1_1, xr1_0⟩ := (show (0 ≤ r1.1.toInt ∧ r1.1.toInt ≤ 1) ∧ MI true I0 r1.2 ∧ (r1.1.toInt = 0 ∨ (0 : Int32).toInt = 3 ∨ (0 ≤ v1.toInt ∧ v1.toInt ≤ 3)) from pr1)
  have q1 : (0 : Int32).toInt = 0 := by decide
  refine t_ite (fun c2 => ?_) (fun c2 => ?_)
  · have c2i := (iEQ (a := r1.1) (b := (0 : Int32)) rfl (by decide : (0 : Int32).toInt = 0)).mp c2
    exact t_ret ⟨(by show (-1) ≤ (((-1) : Int32)).toInt ∧ (((-1) : Int32)).toInt ≤ 12; decide), hr1_1⟩
  · have c2i := mt (iEQ (a := r1.1) (b := (0 : Int32)) rfl (by decide : (0 : Int32).toInt = 0)).mpr c2
    refine t_rI (lo := 0) (hi := 12) hr1_1 (fun _ _ => rfl) rfl (by omega) (by omega) (fun u2 eu2 bu2 => ?_)
    exact t_ret ⟨(by show (-1) ≤ (u2).toInt ∧ (u2).toInt ≤ 12; omega), hr1_1⟩
set_option maxRecDepth 100000 in
set_option maxHeartbeats 1000000 in
theorem tfX8_take {I0 : gM} (v1 : Int32) (v2 : Int32) (v3 : Int32) (v4 : Int32) (I : gM) (hM : MI true I0 I) : T (fX8_take v1 v2 v3 v4 I) (fun r => ((-1) ≤ r.1.toInt ∧ r.1.toInt ≤ 12) ∧ MI true I0 r.2) := by
  unfold fX8_take
  refine t_bindE (tfX8_isDone (1 : Int32) v1 v2 v3 v4 I hM) (fun r1 er1 pr1 => ?_)
  obtain ⟨br1_0, hr1_1, xr1_0⟩ := (show (0 ≤ r1.1.toInt ∧ r1.1.toInt ≤ 1) ∧ MI true I0 r1.2 ∧ (r1.1.toInt = 0 ∨ (1 : Int32).toInt = 3 ∨ (0 ≤ v1.toInt ∧ v1.toInt ≤ 3)) from pr1)
  have q1 : (1 : Int32).toInt = 1 := by decide
  refine t_ite (fun c2 => ?_) (fun c2 => ?_)
  · have c2i := (iEQ (a := r1.1) (b := (0 : Int32)) rfl (by decide : (0 : Int32).toInt = 0)).mp c2
    exact t_ret ⟨(by show (-1) ≤ (((-1) : Int32)).toInt ∧ (((-1) : Int32)).toInt ≤ 12; decide), hr1_1⟩
  · have c2i := mt (iEQ (a := r1.1) (b := (0 : Int32)) rfl (by decide : (0 : Int32).toInt = 0)).mpr c2
    refine t_rI (lo := 0) (hi := 12) hr1_1 (fun _ _ => rfl) rfl (by omega) (by omega) (fun u2 eu2 bu2 => ?_)
    exact t_ret ⟨(by show (-1) ≤ (u2).toInt ∧ (u2).toInt ≤ 12; omega), hr1_1⟩
set_option maxRecDepth 100000 in
set_option maxHeartbeats 1000000 in
theorem tfX8_use {I0 : gM} (v1 : Int32) (I : gM) (hM : MI true I0 I) : T (fX8_use v1 I) (fun r => ((-1) ≤ r.1.toInt ∧ r.1.toInt ≤ 1) ∧ MI true I0 r.2) := by
  unfold fX8_use
  refine t_bindE (tfX8_isDone (2 : Int32) v1 ((-1) : Int32) ((-1) : Int32) ((-1) : Int32) I hM) (fun r1 er1 pr1 => ?_)
  obtain ⟨br1_0, hr1_1, xr1_0⟩ := (show (0 ≤ r1.1.toInt ∧ r1.1.toInt ≤ 1) ∧ MI true I0 r1.2 ∧ (r1.1.toInt = 0 ∨ (2 : Int32).toInt = 3 ∨ (0 ≤ v1.toInt ∧ v1.toInt ≤ 3)) from pr1)
  have q1 : (2 : Int32).toInt = 2 := by decide
  refine t_ite (fun c2 => ?_) (fun c2 => ?_)
  · have c2i := (iEQ (a := r1.1) (b := (0 : Int32)) rfl (by decide : (0 : Int32).toInt = 0)).mp c2
    exact t_ret ⟨(by show (-1) ≤ (((-1) : Int32)).toInt ∧ (((-1) : Int32)).toInt ≤ 1; decide), hr1_1⟩
  · have c2i := mt (iEQ (a := r1.1) (b := (0 : Int32)) rfl (by decide : (0 : Int32).toInt = 0)).mpr c2
    refine t_bindE (tfX5_isUsed 3 v1 r1.2 kX5_3 hr1_1) (fun r2 er2 pr2 => ?_)
    obtain ⟨br2_0, xr2_0⟩ := (show (0 ≤ r2.toInt ∧ r2.toInt ≤ 1) ∧ (r2.toInt = 0 ∨ (0 ≤ v1.toInt ∧ v1.toInt < (r1.2 3 0).toInt)) from pr2)
    have q3 := hr1_1.at (k := 3) (j := 0) (lo := 0) (hi := 4) rfl
    have q4 := hM.at (k := 3) (j := 0) (lo := 0) (hi := 4) rfl
    have q5 : (r1.2 3 0).toInt = (I 3 0).toInt := congrArg Int32.toInt (show r1.2 3 0 = I 3 0 from xfX8_isDone (2 : Int32) v1 ((-1) : Int32) ((-1) : Int32) ((-1) : Int32) I er1 3 0 (by decide) (Or.inr (by decide)) (Or.inl (by decide)) (by decide) (by decide) (Or.inr (by decide)) (Or.inr (by decide)) (Or.inr (by decide)) (by decide) (Or.inl (by decide)) (Or.inr (by decide)) (by decide) (by decide) (by decide) (by decide) (by decide) (by decide) (by decide) (by decide) (by decide) (Or.inl (by decide)) (by decide) (Or.inr (by decide)) (Or.inr (by decide)) (by decide))
    refine t_ite (fun c6 => ?_) (fun c6 => ?_)
    · have c6i := (iEQ (a := r2) (b := (0 : Int32)) rfl (by decide : (0 : Int32).toInt = 0)).mp c6
      exact t_ret ⟨(by show (-1) ≤ ((0 : Int32)).toInt ∧ ((0 : Int32)).toInt ≤ 1; decide), hr1_1⟩
    · have c6i := mt (iEQ (a := r2) (b := (0 : Int32)) rfl (by decide : (0 : Int32).toInt = 0)).mpr c6
      exact t_ret ⟨(by show (-1) ≤ ((1 : Int32)).toInt ∧ ((1 : Int32)).toInt ≤ 1; decide), hr1_1⟩
set_option maxRecDepth 100000 in
set_option maxHeartbeats 1000000 in
theorem tfX8_order {I0 : gM} (v1 : Int32) (I : gM) (hM : MI true I0 I) : T (fX8_order v1 I) (fun r => MI true I0 r.2) := by
  unfold fX8_order
  refine t_bindE (tfX8_isDone (3 : Int32) v1 ((-1) : Int32) ((-1) : Int32) ((-1) : Int32) I hM) (fun r1 er1 pr1 => ?_)
  obtain ⟨br1_0, hr1_1, xr1_0⟩ := (show (0 ≤ r1.1.toInt ∧ r1.1.toInt ≤ 1) ∧ MI true I0 r1.2 ∧ (r1.1.toInt = 0 ∨ (3 : Int32).toInt = 3 ∨ (0 ≤ v1.toInt ∧ v1.toInt ≤ 3)) from pr1)
  have q1 : (3 : Int32).toInt = 3 := by decide
  refine t_ite (fun c2 => ?_) (fun c2 => ?_)
  · have c2i := (iEQ (a := r1.1) (b := (0 : Int32)) rfl (by decide : (0 : Int32).toInt = 0)).mp c2
    exact t_ret hr1_1
  · have c2i := mt (iEQ (a := r1.1) (b := (0 : Int32)) rfl (by decide : (0 : Int32).toInt = 0)).mpr c2
    exact t_ret hr1_1
set_option maxRecDepth 100000 in
set_option maxHeartbeats 1000000 in
theorem tfX8_goOneWay {I0 : gM} (I : gM) (J : gN) (hM : MI true I0 I) : T (fX8_goOneWay I J) (fun r => MI true I0 r.1) := by
  unfold fX8_goOneWay
  refine t_bindE (tfX8_draw (8 : Int32) J) (fun r1 er1 pr1 => ?_)
  refine t_ite (fun c1 => ?_) (fun c1 => ?_)
  · have c1i := (iEQ (a := r1.1) (b := (7 : Int32)) rfl (by decide : (7 : Int32).toInt = 7)).mp c1
    refine t_bindE (tfX8_draw (24 : Int32) r1.2) (fun r2 er2 pr2 => ?_)
    refine t_bindE (tfX8_attempt (3 : Int32) r2.1 ((-1) : Int32) ((-1) : Int32) ((-1) : Int32) I hM) (fun r3 er3 pr3 => ?_)
    obtain ⟨br3_0, hr3_1, xr3_0⟩ := (show ((-1) ≤ r3.1.toInt ∧ r3.1.toInt ≤ 3) ∧ MI true I0 r3.2 ∧ (¬ r3.1.toInt = (-1) ∨ (3 : Int32).toInt = 3 ∨ (0 ≤ r2.1.toInt ∧ r2.1.toInt ≤ 3)) from pr3)
    have q2 : (3 : Int32).toInt = 3 := by decide
    exact t_ret hr3_1
  · have c1i := mt (iEQ (a := r1.1) (b := (7 : Int32)) rfl (by decide : (7 : Int32).toInt = 7)).mpr c1
    refine t_bindE (tfX8_draw (I 3 0) r1.2) (fun r4 er4 pr4 => ?_)
    refine t_ite (fun c3 => ?_) (fun c3 => ?_)
    · have c3i := (iEQ (a := r1.1) (b := (6 : Int32)) rfl (by decide : (6 : Int32).toInt = 6)).mp c3
      refine t_bindE (tfX8_attempt (2 : Int32) r4.1 ((-1) : Int32) ((-1) : Int32) ((-1) : Int32) I hM) (fun r5 er5 pr5 => ?_)
      obtain ⟨br5_0, hr5_1, xr5_0⟩ := (show ((-1) ≤ r5.1.toInt ∧ r5.1.toInt ≤ 3) ∧ MI true I0 r5.2 ∧ (¬ r5.1.toInt = (-1) ∨ (2 : Int32).toInt = 3 ∨ (0 ≤ r4.1.toInt ∧ r4.1.toInt ≤ 3)) from pr5)
      have q4 : (2 : Int32).toInt = 2 := by decide
      exact t_ret hr5_1
    · have c3i := mt (iEQ (a := r1.1) (b := (6 : Int32)) rfl (by decide : (6 : Int32).toInt = 6)).mpr c3
      refine t_ite (fun c5 => ?_) (fun c5 => ?_)
      · have c5i := (iLT (a := r1.1) (b := (4 : Int32)) rfl (by decide : (4 : Int32).toInt = 4)).mp c5
        refine t_bindE (tfX5_isTable 3 r4.1 I kX5_3 hM) (fun r6 er6 pr6 => ?_)
        obtain ⟨br6_0, xr6_0⟩ := (show (0 ≤ r6.toInt ∧ r6.toInt ≤ 1) ∧ (r6.toInt = 0 ∨ (0 ≤ r4.1.toInt ∧ r4.1.toInt < (I 3 0).toInt)) from pr6)
        have q6 := hM.at (k := 3) (j := 0) (lo := 0) (hi := 4) rfl
        refine t_ite (fun c7 => ?_) (fun c7 => ?_)
        · have c7i := (iEQ (a := r6) (b := (0 : Int32)) rfl (by decide : (0 : Int32).toInt = 0)).mp c7
          exact t_ret hM
        · have c7i := mt (iEQ (a := r6) (b := (0 : Int32)) rfl (by decide : (0 : Int32).toInt = 0)).mpr c7
          refine t_rI (lo := 0) (hi := 3) hM (fun _ _ => rfl) rfl (by omega) (by omega) (fun u7 eu7 bu7 => ?_)
          refine t_ite (fun c8 => ?_) (fun c8 => ?_)
          · have c8i := (iLE (a := u7) (b := (0 : Int32)) rfl (by decide : (0 : Int32).toInt = 0)).mp c8
            unfold bX8_goOneWay_138
            refine t_ite (fun c9 => ?_) (fun c9 => ?_)
            · have c9i := (iLE (a := u7) (b := (1 : Int32)) rfl (by decide : (1 : Int32).toInt = 1)).mp c9
              unfold bX8_goOneWay_155
              refine t_ite (fun c10 => ?_) (fun c10 => ?_)
              · have c10i := (iLE (a := u7) (b := (2 : Int32)) rfl (by decide : (2 : Int32).toInt = 2)).mp c10
                unfold bX8_goOneWay_172
                refine t_bindE (tfX8_attempt (0 : Int32) r4.1 ((-1) : Int32) ((-1) : Int32) ((-1) : Int32) I hM) (fun r8 er8 pr8 => ?_)
                obtain ⟨br8_0, hr8_1, xr8_0⟩ := (show ((-1) ≤ r8.1.toInt ∧ r8.1.toInt ≤ 3) ∧ MI true I0 r8.2 ∧ (¬ r8.1.toInt = (-1) ∨ (0 : Int32).toInt = 3 ∨ (0 ≤ r4.1.toInt ∧ r4.1.toInt ≤ 3)) from pr8)
                have q11 : (0 : Int32).toInt = 0 := by decide
                exact t_ret hr8_1
              · have c10i := mt (iLE (a := u7) (b := (2 : Int32)) rfl (by decide : (2 : Int32).toInt = 2)).mpr c10
                omega
            · have c9i := mt (iLE (a := u7) (b := (1 : Int32)) rfl (by decide : (1 : Int32).toInt = 1)).mpr c9
              omega
          · have c8i := mt (iLE (a := u7) (b := (0 : Int32)) rfl (by decide : (0 : Int32).toInt = 0)).mpr c8
            refine t_bindE (tfX8_draw (6 : Int32) r4.2) (fun r11 er11 pr11 => ?_)
            unfold bX8_goOneWay_138
            refine t_ite (fun c12 => ?_) (fun c12 => ?_)
            · have c12i := (iLE (a := u7) (b := (1 : Int32)) rfl (by decide : (1 : Int32).toInt = 1)).mp c12
              unfold bX8_goOneWay_155
              refine t_ite (fun c13 => ?_) (fun c13 => ?_)
              · have c13i := (iLE (a := u7) (b := (2 : Int32)) rfl (by decide : (2 : Int32).toInt = 2)).mp c13
                unfold bX8_goOneWay_172
                refine t_bindE (tfX8_attempt (0 : Int32) r4.1 r11.1 ((-1) : Int32) ((-1) : Int32) I hM) (fun r8 er8 pr8 => ?_)
                obtain ⟨br8_0, hr8_1, xr8_0⟩ := (show ((-1) ≤ r8.1.toInt ∧ r8.1.toInt ≤ 3) ∧ MI true I0 r8.2 ∧ (¬ r8.1.toInt = (-1) ∨ (0 : Int32).toInt = 3 ∨ (0 ≤ r4.1.toInt ∧ r4.1.toInt ≤ 3)) from pr8)
                have q14 : (0 : Int32).toInt = 0 := by decide
                exact t_ret hr8_1
              · have c13i := mt (iLE (a := u7) (b := (2 : Int32)) rfl (by decide : (2 : Int32).toInt = 2)).mpr c13
                omega
            · have c12i := mt (iLE (a := u7) (b := (1 : Int32)) rfl (by decide : (1 : Int32).toInt = 1)).mpr c12
              refine t_bindE (tfX8_draw (6 : Int32) r11.2) (fun r10 er10 pr10 => ?_)
              unfold bX8_goOneWay_155
              refine t_ite (fun c15 => ?_) (fun c15 => ?_)
              · have c15i := (iLE (a := u7) (b := (2 : Int32)) rfl (by decide : (2 : Int32).toInt = 2)).mp c15
                unfold bX8_goOneWay_172
                refine t_bindE (tfX8_attempt (0 : Int32) r4.1 r11.1 r10.1 ((-1) : Int32) I hM) (fun r8 er8 pr8 => ?_)
                obtain ⟨br8_0, hr8_1, xr8_0⟩ := (show ((-1) ≤ r8.1.toInt ∧ r8.1.toInt ≤ 3) ∧ MI true I0 r8.2 ∧ (¬ r8.1.toInt = (-1) ∨ (0 : Int32).toInt = 3 ∨ (0 ≤ r4.1.toInt ∧ r4.1.toInt ≤ 3)) from pr8)
                have q16 : (0 : Int32).toInt = 0 := by decide
                exact t_ret hr8_1
              · have c15i := mt (iLE (a := u7) (b := (2 : Int32)) rfl (by decide : (2 : Int32).toInt = 2)).mpr c15
                refine t_bindE (tfX8_draw (6 : Int32) r10.2) (fun r9 er9 pr9 => ?_)
                unfold bX8_goOneWay_172
                refine t_bindE (tfX8_attempt (0 : Int32) r4.1 r11.1 r10.1 r9.1 I hM) (fun r8 er8 pr8 => ?_)
                obtain ⟨br8_0, hr8_1, xr8_0⟩ := (show ((-1) ≤ r8.1.toInt ∧ r8.1.toInt ≤ 3) ∧ MI true I0 r8.2 ∧ (¬ r8.1.toInt = (-1) ∨ (0 : Int32).toInt = 3 ∨ (0 ≤ r4.1.toInt ∧ r4.1.toInt ≤ 3)) from pr8)
                have q17 : (0 : Int32).toInt = 0 := by decide
                exact t_ret hr8_1
      · have c5i := mt (iLT (a := r1.1) (b := (4 : Int32)) rfl (by decide : (4 : Int32).toInt = 4)).mpr c5
        refine t_bindE (tfX8_draw (12 : Int32) r4.2) (fun r12 er12 pr12 => ?_)
        refine t_bindE (tfX8_cell r4.1 r12.1 (0 : Int32) I hM) (fun r13 er13 pr13 => ?_)
        have br13_0 : ((-1) ≤ r13.toInt ∧ r13.toInt ≤ 127) := pr13
        refine t_bindE (tfX8_cell r4.1 r12.1 (1 : Int32) I hM) (fun r14 er14 pr14 => ?_)
        have br14_0 : ((-1) ≤ r14.toInt ∧ r14.toInt ≤ 127) := pr14
        refine t_bindE (tfX8_cell r4.1 r12.1 (2 : Int32) I hM) (fun r15 er15 pr15 => ?_)
        have br15_0 : ((-1) ≤ r15.toInt ∧ r15.toInt ≤ 127) := pr15
        refine t_bindE (tfX8_attempt (1 : Int32) r4.1 r13 r14 r15 I hM) (fun r16 er16 pr16 => ?_)
        obtain ⟨br16_0, hr16_1, xr16_0⟩ := (show ((-1) ≤ r16.1.toInt ∧ r16.1.toInt ≤ 3) ∧ MI true I0 r16.2 ∧ (¬ r16.1.toInt = (-1) ∨ (1 : Int32).toInt = 3 ∨ (0 ≤ r4.1.toInt ∧ r4.1.toInt ≤ 3)) from pr16)
        have q18 : (1 : Int32).toInt = 1 := by decide
        exact t_ret hr16_1
set_option maxRecDepth 100000 in
set_option maxHeartbeats 1000000 in
theorem tlX8_ways_31 {I0 : gM} (v1 : Int32) (av1 : 1 ≤ v1.toInt ∧ v1.toInt ≤ 40) (s : (Int32 × gM × gN)) (hP : (0 ≤ (s.1).toInt ∧ (s.1).toInt ≤ 2147483647) ∧ MI true I0 s.2.1) : T (lX8_ways_31 v1 s) (fun r : gM × gN => MI true I0 r.1) := by
  unfold lX8_ways_31
  refine t_it (P := fun s : (Int32 × gM × gN) => (0 ≤ (s.1).toInt ∧ (s.1).toInt ≤ 2147483647) ∧ MI true I0 s.2.1) (μ := fun s : (Int32 × gM × gN) => (2147483648 - s.1.toInt).toNat) (fun s p => ?_) hP
  obtain ⟨b0, hs⟩ := p
  refine t_ite (fun c1 => ?_) (fun c1 => ?_)
  · have c1i := (iLE (a := v1) (b := s.1) rfl rfl).mp c1
    exact t_ret (show MI true I0 s.2.1 from hs)
  · have c1i := mt (iLE (a := v1) (b := s.1) rfl rfl).mpr c1
    refine t_bindE (tfX8_goOneWay s.2.1 s.2.2 hs) (fun r2 er2 pr2 => ?_)
    have hr2_0 : MI true I0 r2.1 := pr2
    have m0 := ((tA rfl (by decide : (1 : Int32).toInt = 1) (by omega) (by omega)) : (s.1 + 1).toInt = (s.1.toInt + 1))
    have mm : (2147483648 - (s.1 + 1).toInt).toNat < (2147483648 - s.1.toInt).toNat := by omega
    have pp : (0 ≤ (s.1 + 1).toInt ∧ (s.1 + 1).toInt ≤ 2147483647) ∧ MI true I0 r2.1 := ⟨(by show (0 ≤ (s.1 + 1).toInt ∧ (s.1 + 1).toInt ≤ 2147483647); have q := ((tA rfl (by decide : (1 : Int32).toInt = 1) (by omega) (by omega)) : (s.1 + 1).toInt = (s.1.toInt + 1)); omega), hr2_0⟩
    exact t_ret ⟨pp, mm⟩
set_option maxRecDepth 100000 in
set_option maxHeartbeats 1000000 in
theorem tfX8_ways {I0 : gM} (v1 : Int32) (v2 : Int64) (I : gM) (J : gN) (hM : MI true I0 I) : T (fX8_ways v1 v2 I J) (fun r => ((-1) ≤ r.1.toInt ∧ r.1.toInt ≤ 20736) ∧ MI true I0 r.2.1) := by
  unfold fX8_ways
  have q1 := hM.at (k := 3) (j := 0) (lo := 0) (hi := 4) rfl
  refine t_ite (fun c2 => ?_) (fun c2 => ?_)
  · have c2i := (iEQ (a := I 3 0) (b := (0 : Int32)) rfl (by decide : (0 : Int32).toInt = 0)).mp c2
    exact t_ret ⟨(by show (-1) ≤ (((-1) : Int32)).toInt ∧ (((-1) : Int32)).toInt ≤ 20736; decide), hM⟩
  · have c2i := mt (iEQ (a := I 3 0) (b := (0 : Int32)) rfl (by decide : (0 : Int32).toInt = 0)).mpr c2
    refine t_ite (fun c3 => ?_) (fun c3 => ?_)
    · have c3i := (iLT (a := v1) (b := (1 : Int32)) rfl (by decide : (1 : Int32).toInt = 1)).mp c3
      exact t_ret ⟨(by show (-1) ≤ (((-1) : Int32)).toInt ∧ (((-1) : Int32)).toInt ≤ 20736; decide), hM⟩
    · have c3i := mt (iLT (a := v1) (b := (1 : Int32)) rfl (by decide : (1 : Int32).toInt = 1)).mpr c3
      refine t_ite (fun c4 => ?_) (fun c4 => ?_)
      · have c4i := (iLE (a := v1) (b := (40 : Int32)) rfl (by decide : (40 : Int32).toInt = 40)).mp c4
        refine t_pJ (fun J1 => ?_)
        refine t_bindE (tlX8_ways_31 v1 (by omega) ((0 : Int32), I, J1) ⟨(by show (0 ≤ ((0 : Int32)).toInt ∧ ((0 : Int32)).toInt ≤ 2147483647); decide), hM⟩) (fun w3 ew3 pw3 => ?_)
        have hw3_0 : MI true I0 w3.1 := pw3
        have q5 := hw3_0.at (k := 18) (j := 0) (lo := 0) (hi := 20736) rfl
        exact t_ret ⟨(by show (-1) ≤ (w3.1 18 0).toInt ∧ (w3.1 18 0).toInt ≤ 20736; omega), hw3_0⟩
      · have c4i := mt (iLE (a := v1) (b := (40 : Int32)) rfl (by decide : (40 : Int32).toInt = 40)).mpr c4
        exact t_ret ⟨(by show (-1) ≤ (((-1) : Int32)).toInt ∧ (((-1) : Int32)).toInt ≤ 20736; decide), hM⟩
set_option maxRecDepth 100000 in
set_option maxHeartbeats 1000000 in
theorem tfX8_status {I0 : gM} (v1 : Int32) (I : gM) (hM : MI true I0 I) : T (fX8_status v1 I) (fun r => True) := by
  unfold fX8_status
  refine t_ite (fun c1 => ?_) (fun c1 => ?_)
  · have c1i := (iLT (a := v1) (b := (0 : Int32)) rfl (by decide : (0 : Int32).toInt = 0)).mp c1
    exact t_ret trivial
  · have c1i := mt (iLT (a := v1) (b := (0 : Int32)) rfl (by decide : (0 : Int32).toInt = 0)).mpr c1
    refine t_ite (fun c2 => ?_) (fun c2 => ?_)
    · have c2i := (iLE (a := (4 : Int32)) (b := v1) (by decide : (4 : Int32).toInt = 4) rfl).mp c2
      exact t_ret trivial
    · have c2i := mt (iLE (a := (4 : Int32)) (b := v1) (by decide : (4 : Int32).toInt = 4) rfl).mpr c2
      refine t_rI (lo := (-2147483648)) (hi := 2147483647) hM (fun _ _ => rfl) rfl (by omega) (by omega) (fun u1 eu1 bu1 => ?_)
      exact t_ret trivial
set_option maxRecDepth 100000 in
set_option maxHeartbeats 1000000 in
theorem tfX8_undo {I0 : gM} (I : gM) (hM : MI true I0 I) : T (fX8_undo I) (fun r => ((-1) ≤ r.1.toInt ∧ r.1.toInt ≤ 40) ∧ MI true I0 r.2) := by
  unfold fX8_undo
  have q1 := hM.at (k := 48) (j := 0) (lo := 0) (hi := 40) rfl
  refine t_ite (fun c2 => ?_) (fun c2 => ?_)
  · have c2i := (iEQ (a := I 48 0) (b := (0 : Int32)) rfl (by decide : (0 : Int32).toInt = 0)).mp c2
    exact t_ret ⟨(by show (-1) ≤ (((-1) : Int32)).toInt ∧ (((-1) : Int32)).toInt ≤ 40; decide), hM⟩
  · have c2i := mt (iEQ (a := I 48 0) (b := (0 : Int32)) rfl (by decide : (0 : Int32).toInt = 0)).mpr c2
    refine t_bindE (tfX3_dropLatest I hM) (fun r1 er1 pr1 => ?_)
    have hr1_0 : MI true I0 r1 := pr1
    refine t_bindE (tfX3_sortDropped r1 hr1_0) (fun r2 er2 pr2 => ?_)
    refine t_bindE (tfX3_numberDropped r1 hr1_0) (fun r3 er3 pr3 => ?_)
    refine t_bindE (tfX3_rowDropped r1 hr1_0) (fun r4 er4 pr4 => ?_)
    refine t_bindE (tfX5_changeBack 3 r2 r3 r4 r1 kX5_3 hr1_0) (fun r5 er5 pr5 => ?_)
    have hr5_0 : MI true I0 r5 := pr5
    refine t_bindE (tfX2_dropLatest 44 r5 kX2_44 hr5_0) (fun r6 er6 pr6 => ?_)
    have hr6_0 : MI true I0 r6 := pr6
    refine t_bindE (tfX8_renew r6 hr6_0) (fun r7 er7 pr7 => ?_)
    have hr7_0 : MI true I0 r7 := pr7
    have q3 := hr7_0.at (k := 48) (j := 0) (lo := 0) (hi := 40) rfl
    have q4 := hr6_0.at (k := 48) (j := 0) (lo := 0) (hi := 40) rfl
    have q5 := hr5_0.at (k := 48) (j := 0) (lo := 0) (hi := 40) rfl
    have q6 := hr1_0.at (k := 48) (j := 0) (lo := 0) (hi := 40) rfl
    have q7 : (r5 48 0).toInt = (r1 48 0).toInt := congrArg (fun g : Nat → Int32 => (g 0).toInt) (show r5 48 = r1 48 from zfX5_changeBack 3 r2 r3 r4 r1 er5 48 (by decide) (by decide) (by decide))
    have q8 : (r6 48 0).toInt = (r5 48 0).toInt := congrArg (fun g : Nat → Int32 => (g 0).toInt) (show r6 48 = r5 48 from zfX2_dropLatest 44 r5 er6 48 (by decide))
    have q9 : (r7 48 0).toInt = (r6 48 0).toInt := congrArg (fun g : Nat → Int32 => (g 0).toInt) (show r7 48 = r6 48 from zfX8_renew r6 er7 48 (by decide) (by decide) (by decide) (by decide) (by decide) (by decide) (by decide) (by decide) (by decide) (by decide) (by decide) (by decide))
    exact t_ret ⟨(by show (-1) ≤ (r7 48 0).toInt ∧ (r7 48 0).toInt ≤ 40; omega), hr7_0⟩
set_option maxRecDepth 100000 in
set_option maxHeartbeats 1000000 in
theorem tfX8_log {I0 : gM} (v1 : Int32) (v2 : Int32) (I : gM) (hM : MI true I0 I) : T (fX8_log v1 v2 I) (fun r => True) := by
  unfold fX8_log
  refine t_ite (fun c1 => ?_) (fun c1 => ?_)
  · have c1i := (iLT (a := v1) (b := (0 : Int32)) rfl (by decide : (0 : Int32).toInt = 0)).mp c1
    exact t_ret trivial
  · have c1i := mt (iLT (a := v1) (b := (0 : Int32)) rfl (by decide : (0 : Int32).toInt = 0)).mpr c1
    refine t_bindE (tfX2_shown 44 I kX2_44 hM) (fun r1 er1 pr1 => ?_)
    have br1_0 : (0 ≤ r1.toInt ∧ r1.toInt ≤ 60) := pr1
    refine t_ite (fun c2 => ?_) (fun c2 => ?_)
    · have c2i := (iLE (a := r1) (b := v1) rfl rfl).mp c2
      exact t_ret trivial
    · have c2i := mt (iLE (a := r1) (b := v1) rfl rfl).mpr c2
      refine t_ite (fun c3 => ?_) (fun c3 => ?_)
      · have c3i := (iLT (a := v2) (b := (0 : Int32)) rfl (by decide : (0 : Int32).toInt = 0)).mp c3
        exact t_ret trivial
      · have c3i := mt (iLT (a := v2) (b := (0 : Int32)) rfl (by decide : (0 : Int32).toInt = 0)).mpr c3
        refine t_ite (fun c4 => ?_) (fun c4 => ?_)
        · have c4i := (iLT (a := v2) (b := (3 : Int32)) rfl (by decide : (3 : Int32).toInt = 3)).mp c4
          refine t_bindE (tfX2_partOf 44 v1 v2 I kX2_44 hM (by omega) (by omega)) (fun r2 er2 pr2 => ?_)
          exact t_ret trivial
        · have c4i := mt (iLT (a := v2) (b := (3 : Int32)) rfl (by decide : (3 : Int32).toInt = 3)).mpr c4
          exact t_ret trivial
set_option maxRecDepth 100000 in
set_option maxHeartbeats 1000000 in
theorem tfX8_would {I0 : gM} (v1 : Int32) (v2 : Int32) (v3 : Int32) (v4 : Int32) (v5 : Int32) (I : gM) (hM : MI true I0 I) : T (fX8_would v1 v2 v3 v4 v5 I) (fun r => MI true I0 r.2) := by
  unfold fX8_would
  refine t_ite (fun c1 => ?_) (fun c1 => ?_)
  · have c1i := (iLT (a := v5) (b := (0 : Int32)) rfl (by decide : (0 : Int32).toInt = 0)).mp c1
    exact t_ret hM
  · have c1i := mt (iLT (a := v5) (b := (0 : Int32)) rfl (by decide : (0 : Int32).toInt = 0)).mpr c1
    refine t_ite (fun c2 => ?_) (fun c2 => ?_)
    · have c2i := (iLT (a := (1 : Int32)) (b := v5) (by decide : (1 : Int32).toInt = 1) rfl).mp c2
      exact t_ret hM
    · have c2i := mt (iLT (a := (1 : Int32)) (b := v5) (by decide : (1 : Int32).toInt = 1) rfl).mpr c2
      refine t_bindE (tfX5_refusal 3 (0 : Int32) v1 v2 v3 v4 I kX5_3 hM) (fun r1 er1 pr1 => ?_)
      obtain ⟨br1_0, xr1_0⟩ := (show ((-1) ≤ r1.toInt ∧ r1.toInt ≤ 3) ∧ (¬ r1.toInt = (-1) ∨ (0 : Int32).toInt = 3 ∨ (0 ≤ v1.toInt ∧ v1.toInt < (I 3 0).toInt)) from pr1)
      have q3 := hM.at (k := 3) (j := 0) (lo := 0) (hi := 4) rfl
      have q4 : (0 : Int32).toInt = 0 := by decide
      refine t_ite (fun c5 => ?_) (fun c5 => ?_)
      · have c5i := (iEQ (a := r1) (b := ((-1) : Int32)) rfl (by decide : ((-1) : Int32).toInt = (-1))).mp c5
        refine t_bindE (tfX5_copyFrom 8 3 I kX5_8 kX5_3 hM) (fun r2 er2 pr2 => ?_)
        have hr2_0 : MI true I0 r2 := pr2
        refine t_bindE (tfX5_packed v2 v3 v4) (fun r3 er3 pr3 => ?_)
        refine t_bindE (tfX5_change 8 (0 : Int32) v1 r3 r2 kX5_8 hr2_0) (fun r4 er4 pr4 => ?_)
        have hr4_0 : MI true I0 r4 := pr4
        refine t_bindE (tfX1_findBy 29 8 (r4 8 2) r4 kX1_29 kX5_8 hr4_0) (fun r5 er5 pr5 => ?_)
        have hr5_0 : MI true I0 r5 := pr5
        refine t_ite (fun c6 => ?_) (fun c6 => ?_)
        · have c6i := (iEQ (a := v5) (b := (0 : Int32)) rfl (by decide : (0 : Int32).toInt = 0)).mp c6
          exact t_ret hr5_0
        · have c6i := mt (iEQ (a := v5) (b := (0 : Int32)) rfl (by decide : (0 : Int32).toInt = 0)).mpr c6
          exact t_ret hr5_0
      · have c5i := mt (iEQ (a := r1) (b := ((-1) : Int32)) rfl (by decide : ((-1) : Int32).toInt = (-1))).mpr c5
        exact t_ret hM
set_option maxRecDepth 100000 in
set_option maxHeartbeats 1000000 in
theorem tfX8_isScript {I0 : gM} (v1 : Int32) (I : gM) (hM : MI true I0 I) : T (fX8_isScript v1 I) (fun r => (0 ≤ r.toInt ∧ r.toInt ≤ 1) ∧ (r.toInt = 0 ∨ (0 ≤ v1.toInt ∧ v1.toInt ≤ 3))) := by
  unfold fX8_isScript
  refine t_ite (fun c1 => ?_) (fun c1 => ?_)
  · have c1i := (iLT (a := v1) (b := (0 : Int32)) rfl (by decide : (0 : Int32).toInt = 0)).mp c1
    exact t_ret ⟨(by show 0 ≤ ((0 : Int32)).toInt ∧ ((0 : Int32)).toInt ≤ 1; decide), (by show (0 : Int32).toInt = 0 ∨ (0 ≤ v1.toInt ∧ v1.toInt ≤ 3); have q0 : (0 : Int32).toInt = 0 := (by decide); omega)⟩
  · have c1i := mt (iLT (a := v1) (b := (0 : Int32)) rfl (by decide : (0 : Int32).toInt = 0)).mpr c1
    have q2 := hM.at (k := 0) (j := 14) (lo := 0) (hi := 4) rfl
    refine t_ite (fun c3 => ?_) (fun c3 => ?_)
    · have c3i := (iLE (a := I 0 14) (b := v1) rfl rfl).mp c3
      exact t_ret ⟨(by show 0 ≤ ((0 : Int32)).toInt ∧ ((0 : Int32)).toInt ≤ 1; decide), (by show (0 : Int32).toInt = 0 ∨ (0 ≤ v1.toInt ∧ v1.toInt ≤ 3); have q0 : (0 : Int32).toInt = 0 := (by decide); omega)⟩
    · have c3i := mt (iLE (a := I 0 14) (b := v1) rfl rfl).mpr c3
      refine t_ite (fun c4 => ?_) (fun c4 => ?_)
      · have c4i := (iLE (a := (4 : Int32)) (b := v1) (by decide : (4 : Int32).toInt = 4) rfl).mp c4
        omega
      · have c4i := mt (iLE (a := (4 : Int32)) (b := v1) (by decide : (4 : Int32).toInt = 4) rfl).mpr c4
        exact t_ret ⟨(by show 0 ≤ ((1 : Int32)).toInt ∧ ((1 : Int32)).toInt ≤ 1; decide), (by show (1 : Int32).toInt = 0 ∨ (0 ≤ v1.toInt ∧ v1.toInt ≤ 3); have q0 : (1 : Int32).toInt = 1 := (by decide); omega)⟩
set_option maxRecDepth 100000 in
set_option maxHeartbeats 1000000 in
theorem tfX8_step {I0 : gM} (v1 : Int32) (v2 : Int32) (v3 : Int32) (I : gM) (hM : MI true I0 I) : T (fX8_step v1 v2 v3 I) (fun r => True) := by
  unfold fX8_step
  refine t_bindE (tfX8_isScript v1 I hM) (fun r1 er1 pr1 => ?_)
  obtain ⟨br1_0, xr1_0⟩ := (show (0 ≤ r1.toInt ∧ r1.toInt ≤ 1) ∧ (r1.toInt = 0 ∨ (0 ≤ v1.toInt ∧ v1.toInt ≤ 3)) from pr1)
  refine t_ite (fun c1 => ?_) (fun c1 => ?_)
  · have c1i := (iEQ (a := r1) (b := (0 : Int32)) rfl (by decide : (0 : Int32).toInt = 0)).mp c1
    exact t_ret trivial
  · have c1i := mt (iEQ (a := r1) (b := (0 : Int32)) rfl (by decide : (0 : Int32).toInt = 0)).mpr c1
    refine t_ite (fun c2 => ?_) (fun c2 => ?_)
    · have c2i := (iLT (a := v2) (b := (0 : Int32)) rfl (by decide : (0 : Int32).toInt = 0)).mp c2
      exact t_ret trivial
    · have c2i := mt (iLT (a := v2) (b := (0 : Int32)) rfl (by decide : (0 : Int32).toInt = 0)).mpr c2
      refine t_rA rfl (by omega) (by omega) (fun k2 ek2 => ?_)
      have hk2 : kX4 k2 := kX4_at (x := v1.toInt) (by omega) (by omega) ek2
      have hk2_1 := hk2.1
      have hk2_2 := hk2.2.1
      have q3 := hM.at (k := k2) (j := 0) (lo := 0) (hi := 12) hk2.2.2.1
      refine t_ite (fun c4 => ?_) (fun c4 => ?_)
      · have c4i := (iLE (a := I k2 0) (b := v2) rfl rfl).mp c4
        exact t_ret trivial
      · have c4i := mt (iLE (a := I k2 0) (b := v2) rfl rfl).mpr c4
        refine t_ite (fun c5 => ?_) (fun c5 => ?_)
        · have c5i := (iLT (a := v3) (b := (0 : Int32)) rfl (by decide : (0 : Int32).toInt = 0)).mp c5
          exact t_ret trivial
        · have c5i := mt (iLT (a := v3) (b := (0 : Int32)) rfl (by decide : (0 : Int32).toInt = 0)).mpr c5
          refine t_ite (fun c6 => ?_) (fun c6 => ?_)
          · have c6i := (iLT (a := v3) (b := (5 : Int32)) rfl (by decide : (5 : Int32).toInt = 5)).mp c6
            refine t_rA rfl (by omega) (by omega) (fun k3 ek3 => ?_)
            have hk3 : kX4 k3 := kX4_at (x := v1.toInt) (by omega) (by omega) ek3
            have hk3_1 := hk3.1
            have hk3_2 := hk3.2.1
            refine t_bindE (tfX4_partOf k3 v2 v3 I hk3 hM (by omega) (by omega)) (fun r4 er4 pr4 => ?_)
            exact t_ret trivial
          · have c6i := mt (iLT (a := v3) (b := (5 : Int32)) rfl (by decide : (5 : Int32).toInt = 5)).mpr c6
            exact t_ret trivial
set_option maxRecDepth 100000 in
set_option maxHeartbeats 1000000 in
theorem tfX8_run {I0 : gM} (v1 : Int32) (v2 : Int32) (I : gM) (hM : MI true I0 I) : T (fX8_run v1 v2 I) (fun r => MI true I0 r.2) := by
  unfold fX8_run
  refine t_bindE (tfX8_isScript v1 I hM) (fun r1 er1 pr1 => ?_)
  obtain ⟨br1_0, xr1_0⟩ := (show (0 ≤ r1.toInt ∧ r1.toInt ≤ 1) ∧ (r1.toInt = 0 ∨ (0 ≤ v1.toInt ∧ v1.toInt ≤ 3)) from pr1)
  refine t_ite (fun c1 => ?_) (fun c1 => ?_)
  · have c1i := (iEQ (a := r1) (b := (0 : Int32)) rfl (by decide : (0 : Int32).toInt = 0)).mp c1
    exact t_ret hM
  · have c1i := mt (iEQ (a := r1) (b := (0 : Int32)) rfl (by decide : (0 : Int32).toInt = 0)).mpr c1
    have q2 := hM.at (k := 3) (j := 0) (lo := 0) (hi := 4) rfl
    refine t_ite (fun c3 => ?_) (fun c3 => ?_)
    · have c3i := (iEQ (a := I 3 0) (b := (0 : Int32)) rfl (by decide : (0 : Int32).toInt = 0)).mp c3
      exact t_ret hM
    · have c3i := mt (iEQ (a := I 3 0) (b := (0 : Int32)) rfl (by decide : (0 : Int32).toInt = 0)).mpr c3
      refine t_ite (fun c4 => ?_) (fun c4 => ?_)
      · have c4i := (iLT (a := v2) (b := (0 : Int32)) rfl (by decide : (0 : Int32).toInt = 0)).mp c4
        exact t_ret hM
      · have c4i := mt (iLT (a := v2) (b := (0 : Int32)) rfl (by decide : (0 : Int32).toInt = 0)).mpr c4
        refine t_ite (fun c5 => ?_) (fun c5 => ?_)
        · have c5i := (iLE (a := v2) (b := (1 : Int32)) rfl (by decide : (1 : Int32).toInt = 1)).mp c5
          refine t_bindE (tfX5_copyFrom 8 3 I kX5_8 kX5_3 hM) (fun r2 er2 pr2 => ?_)
          have hr2_0 : MI true I0 r2 := pr2
          refine t_rA rfl (by omega) (by omega) (fun k3 ek3 => ?_)
          have hk3 : kX4 k3 := kX4_at (x := v1.toInt) (by omega) (by omega) ek3
          have hk3_1 := hk3.1
          have hk3_2 := hk3.2.1
          refine t_bindE (tfX4_rehearse k3 8 r2 hk3 kX5_8 hr2_0) (fun r4 er4 pr4 => ?_)
          have hr4_1 : MI true I0 r4.2 := pr4
          refine t_ite (fun c6 => ?_) (fun c6 => ?_)
          · have c6i := (iEQ (a := v2) (b := (0 : Int32)) rfl (by decide : (0 : Int32).toInt = 0)).mp c6
            refine t_rA rfl (by omega) (by omega) (fun k5 ek5 => ?_)
            have hk5 : kX4 k5 := kX4_at (x := v1.toInt) (by omega) (by omega) ek5
            have hk5_1 := hk5.1
            have hk5_2 := hk5.2.1
            have q7 := hr4_1.at (k := k5) (j := 0) (lo := 0) (hi := 12) hk5.2.2.1
            have q8 := hr2_0.at (k := k5) (j := 0) (lo := 0) (hi := 12) hk5.2.2.1
            have q9 := hM.at (k := k5) (j := 0) (lo := 0) (hi := 12) hk5.2.2.1
            have q10 : (r2 k5 0).toInt = (I k5 0).toInt := congrArg (fun g : Nat → Int32 => (g 0).toInt) (show r2 k5 = I k5 from zfX5_copyFrom 8 3 I er2 k5 (by omega) (by omega) (by omega) (by omega) (by omega))
            have q11 : (r4.2 k5 0).toInt = (r2 k5 0).toInt := congrArg (fun g : Nat → Int32 => (g 0).toInt) (show r4.2 k5 = r2 k5 from zfX4_rehearse k3 8 r2 er4 k5 (by omega) (by omega) (by omega))
            refine t_ite (fun c12 => ?_) (fun c12 => ?_)
            · have c12i := (iEQ (a := r4.1) (b := r4.2 k5 0) rfl rfl).mp c12
              exact t_ret hr4_1
            · have c12i := mt (iEQ (a := r4.1) (b := r4.2 k5 0) rfl rfl).mpr c12
              exact t_ret hr4_1
          · have c6i := mt (iEQ (a := v2) (b := (0 : Int32)) rfl (by decide : (0 : Int32).toInt = 0)).mpr c6
            refine t_bindE (tfX1_findBy 29 8 (r4.2 8 2) r4.2 kX1_29 kX5_8 hr4_1) (fun r6 er6 pr6 => ?_)
            have hr6_0 : MI true I0 r6 := pr6
            exact t_ret hr6_0
        · have c5i := mt (iLE (a := v2) (b := (1 : Int32)) rfl (by decide : (1 : Int32).toInt = 1)).mpr c5
          exact t_ret hM
set_option maxRecDepth 100000 in
set_option maxHeartbeats 1000000 in
theorem tlX8_perform_29 {I0 : gM} (k2 : Nat) (hk2 : kX4 k2) (s : (Int32 × gM)) (hP : (0 ≤ (s.1).toInt ∧ (s.1).toInt ≤ 2147483647) ∧ MI true I0 s.2) : T (lX8_perform_29 k2 s) (Sum.elim (fun r : Int32 × gM => MI true I0 r.2) (fun r : gM => MI true I0 r)) := by
  have hk2_1 := hk2.1
  have hk2_2 := hk2.2.1
  unfold lX8_perform_29
  refine t_it (P := fun s : (Int32 × gM) => (0 ≤ (s.1).toInt ∧ (s.1).toInt ≤ 2147483647) ∧ MI true I0 s.2) (μ := fun s : (Int32 × gM) => (2147483648 - s.1.toInt).toNat) (fun s p => ?_) hP
  obtain ⟨b0, hs⟩ := p
  have q1 := hs.at (k := k2) (j := 0) (lo := 0) (hi := 12) hk2.2.2.1
  refine t_ite (fun c2 => ?_) (fun c2 => ?_)
  · have c2i := (iLE (a := s.2 k2 0) (b := s.1) rfl rfl).mp c2
    exact t_ret (show MI true I0 s.2 from hs)
  · have c2i := mt (iLE (a := s.2 k2 0) (b := s.1) rfl rfl).mpr c2
    refine t_bindE (tfX4_partOf k2 s.1 (0 : Int32) s.2 hk2 hs (by omega) (by decide)) (fun r3 er3 pr3 => ?_)
    refine t_bindE (tfX4_partOf k2 s.1 (1 : Int32) s.2 hk2 hs (by omega) (by decide)) (fun r4 er4 pr4 => ?_)
    refine t_bindE (tfX4_partOf k2 s.1 (2 : Int32) s.2 hk2 hs (by omega) (by decide)) (fun r5 er5 pr5 => ?_)
    refine t_bindE (tfX4_partOf k2 s.1 (3 : Int32) s.2 hk2 hs (by omega) (by decide)) (fun r6 er6 pr6 => ?_)
    refine t_bindE (tfX4_partOf k2 s.1 (4 : Int32) s.2 hk2 hs (by omega) (by decide)) (fun r7 er7 pr7 => ?_)
    refine t_bindE (tfX8_attempt r3 r4 r5 r6 r7 s.2 hs) (fun r8 er8 pr8 => ?_)
    obtain ⟨br8_0, hr8_1, xr8_0⟩ := (show ((-1) ≤ r8.1.toInt ∧ r8.1.toInt ≤ 3) ∧ MI true I0 r8.2 ∧ (¬ r8.1.toInt = (-1) ∨ r3.toInt = 3 ∨ (0 ≤ r4.toInt ∧ r4.toInt ≤ 3)) from pr8)
    refine t_ite (fun c3 => ?_) (fun c3 => ?_)
    · have c3i := (iEQ (a := r8.1) (b := ((-1) : Int32)) rfl (by decide : ((-1) : Int32).toInt = (-1))).mp c3
      have m0 := ((tA rfl (by decide : (1 : Int32).toInt = 1) (by omega) (by omega)) : (s.1 + 1).toInt = (s.1.toInt + 1))
      have mm : (2147483648 - (s.1 + 1).toInt).toNat < (2147483648 - s.1.toInt).toNat := by omega
      have pp : (0 ≤ (s.1 + 1).toInt ∧ (s.1 + 1).toInt ≤ 2147483647) ∧ MI true I0 r8.2 := ⟨(by show (0 ≤ (s.1 + 1).toInt ∧ (s.1 + 1).toInt ≤ 2147483647); have q := ((tA rfl (by decide : (1 : Int32).toInt = 1) (by omega) (by omega)) : (s.1 + 1).toInt = (s.1.toInt + 1)); omega), hr8_1⟩
      exact t_ret ⟨pp, mm⟩
    · have c3i := mt (iEQ (a := r8.1) (b := ((-1) : Int32)) rfl (by decide : ((-1) : Int32).toInt = (-1))).mpr c3
      exact t_ret (show MI true I0 r8.2 from hr8_1)
set_option maxRecDepth 100000 in
set_option maxHeartbeats 1000000 in
theorem tfX8_perform {I0 : gM} (v1 : Int32) (I : gM) (hM : MI true I0 I) : T (fX8_perform v1 I) (fun r => MI true I0 r.2) := by
  unfold fX8_perform
  refine t_bindE (tfX8_isScript v1 I hM) (fun r1 er1 pr1 => ?_)
  obtain ⟨br1_0, xr1_0⟩ := (show (0 ≤ r1.toInt ∧ r1.toInt ≤ 1) ∧ (r1.toInt = 0 ∨ (0 ≤ v1.toInt ∧ v1.toInt ≤ 3)) from pr1)
  refine t_ite (fun c1 => ?_) (fun c1 => ?_)
  · have c1i := (iEQ (a := r1) (b := (0 : Int32)) rfl (by decide : (0 : Int32).toInt = 0)).mp c1
    exact t_ret hM
  · have c1i := mt (iEQ (a := r1) (b := (0 : Int32)) rfl (by decide : (0 : Int32).toInt = 0)).mpr c1
    have q2 := hM.at (k := 3) (j := 0) (lo := 0) (hi := 4) rfl
    refine t_ite (fun c3 => ?_) (fun c3 => ?_)
    · have c3i := (iEQ (a := I 3 0) (b := (0 : Int32)) rfl (by decide : (0 : Int32).toInt = 0)).mp c3
      exact t_ret hM
    · have c3i := mt (iEQ (a := I 3 0) (b := (0 : Int32)) rfl (by decide : (0 : Int32).toInt = 0)).mpr c3
      refine t_rA rfl (by omega) (by omega) (fun k2 ek2 => ?_)
      have hk2 : kX4 k2 := kX4_at (x := v1.toInt) (by omega) (by omega) ek2
      have hk2_1 := hk2.1
      have hk2_2 := hk2.2.1
      refine t_bindE (tlX8_perform_29 k2 hk2 ((0 : Int32), I) ⟨(by show (0 ≤ ((0 : Int32)).toInt ∧ ((0 : Int32)).toInt ≤ 2147483647); decide), hM⟩) (fun w9 ew9 pw9 => ?_)
      rcases w9 with w9_0 | w9_1
      · refine t_el ?_
        have hw9_0_1 : MI true I0 w9_0.2 := pw9
        exact t_ret hw9_0_1
      · refine t_er ?_
        have hw9_1_0 : MI true I0 w9_1 := pw9
        exact t_ret hw9_1_0
set_option maxRecDepth 100000 in
set_option maxHeartbeats 1000000 in
theorem tlX8_tableWithMostRows_4 {I0 : gM} (I : gM) (hM : MI true I0 I) (s : (Int32 × Int32)) (hP : (0 ≤ (s.1).toInt ∧ (s.1).toInt ≤ 3) ∧ (0 ≤ (s.2).toInt ∧ (s.2).toInt ≤ 2147483647)) : T (lX8_tableWithMostRows_4 I s) (fun r : Int32 => (0 ≤ r.toInt ∧ r.toInt ≤ 3)) := by
  unfold lX8_tableWithMostRows_4
  refine t_it (P := fun s : (Int32 × Int32) => (0 ≤ (s.1).toInt ∧ (s.1).toInt ≤ 3) ∧ (0 ≤ (s.2).toInt ∧ (s.2).toInt ≤ 2147483647)) (μ := fun s : (Int32 × Int32) => (2147483648 - s.2.toInt).toNat) (fun s p => ?_) hP
  obtain ⟨b0, b1⟩ := p
  have q1 := hM.at (k := 3) (j := 0) (lo := 0) (hi := 4) rfl
  refine t_ite (fun c2 => ?_) (fun c2 => ?_)
  · have c2i := (iLE (a := I 3 0) (b := s.2) rfl rfl).mp c2
    exact t_ret (show (0 ≤ (s.1).toInt ∧ (s.1).toInt ≤ 3) from (by omega))
  · have c2i := mt (iLE (a := I 3 0) (b := s.2) rfl rfl).mpr c2
    refine t_rI (lo := 0) (hi := 12) hM (fun _ _ => rfl) rfl (by omega) (by omega) (fun u1 eu1 bu1 => ?_)
    refine t_rI (lo := 0) (hi := 12) hM (fun _ _ => rfl) rfl (by omega) (by omega) (fun u2 eu2 bu2 => ?_)
    refine t_ite (fun c3 => ?_) (fun c3 => ?_)
    · have c3i := (iLE (a := u1) (b := u2) rfl rfl).mp c3
      unfold bX8_tableWithMostRows_38
      have m1 := ((tA rfl (by decide : (1 : Int32).toInt = 1) (by omega) (by omega)) : (s.2 + 1).toInt = (s.2.toInt + 1))
      have mm : (2147483648 - (s.2 + 1).toInt).toNat < (2147483648 - s.2.toInt).toNat := by omega
      have pp : (0 ≤ (s.1).toInt ∧ (s.1).toInt ≤ 3) ∧ (0 ≤ (s.2 + 1).toInt ∧ (s.2 + 1).toInt ≤ 2147483647) := ⟨(by show (0 ≤ (s.1).toInt ∧ (s.1).toInt ≤ 3); omega), (by show (0 ≤ (s.2 + 1).toInt ∧ (s.2 + 1).toInt ≤ 2147483647); have q := ((tA rfl (by decide : (1 : Int32).toInt = 1) (by omega) (by omega)) : (s.2 + 1).toInt = (s.2.toInt + 1)); omega)⟩
      exact t_ret ⟨pp, mm⟩
    · have c3i := mt (iLE (a := u1) (b := u2) rfl rfl).mpr c3
      unfold bX8_tableWithMostRows_38
      have m1 := ((tA rfl (by decide : (1 : Int32).toInt = 1) (by omega) (by omega)) : (s.2 + 1).toInt = (s.2.toInt + 1))
      have mm : (2147483648 - (s.2 + 1).toInt).toNat < (2147483648 - s.2.toInt).toNat := by omega
      have pp : (0 ≤ (s.2).toInt ∧ (s.2).toInt ≤ 3) ∧ (0 ≤ (s.2 + 1).toInt ∧ (s.2 + 1).toInt ≤ 2147483647) := ⟨(by show (0 ≤ (s.2).toInt ∧ (s.2).toInt ≤ 3); omega), (by show (0 ≤ (s.2 + 1).toInt ∧ (s.2 + 1).toInt ≤ 2147483647); have q := ((tA rfl (by decide : (1 : Int32).toInt = 1) (by omega) (by omega)) : (s.2 + 1).toInt = (s.2.toInt + 1)); omega)⟩
      exact t_ret ⟨pp, mm⟩
set_option maxRecDepth 100000 in
set_option maxHeartbeats 1000000 in
theorem tfX8_tableWithMostRows {I0 : gM} (I : gM) (hM : MI true I0 I) : T (fX8_tableWithMostRows I) (fun r => (0 ≤ r.toInt ∧ r.toInt ≤ 3)) := by
  unfold fX8_tableWithMostRows
  refine t_bindE (tlX8_tableWithMostRows_4 I hM ((0 : Int32), (1 : Int32)) ⟨(by show (0 ≤ ((0 : Int32)).toInt ∧ ((0 : Int32)).toInt ≤ 3); decide), (by show (0 ≤ ((1 : Int32)).toInt ∧ ((1 : Int32)).toInt ≤ 2147483647); decide)⟩) (fun w3 ew3 pw3 => ?_)
  have bw3_0 : (0 ≤ w3.toInt ∧ w3.toInt ≤ 3) := pw3
  exact t_ret (by show 0 ≤ (w3).toInt ∧ (w3).toInt ≤ 3; omega)
set_option maxRecDepth 100000 in
set_option maxHeartbeats 1000000 in
theorem tfJ6_bitCount_0f7a4 (v0 : Int32)  : T (fJ6_bitCount_0f7a4 v0) (fun r => True) := by
  unfold fJ6_bitCount_0f7a4
  exact t_ret trivial
set_option maxRecDepth 100000 in
set_option maxHeartbeats 1000000 in
theorem tfX8_givenRows {I0 : gM} (v1 : Int32) (I : gM) (hM : MI true I0 I) : T (fX8_givenRows v1 I) (fun r => True) := by
  unfold fX8_givenRows
  refine t_bindE (tfX0_givenBits 18 3 v1 I kX1_18 kX5_3 hM) (fun r1 er1 pr1 => ?_)
  refine t_bindE (tfJ6_bitCount_0f7a4 r1) (fun r2 er2 pr2 => ?_)
  exact t_ret trivial
set_option maxRecDepth 100000 in
set_option maxHeartbeats 1000000 in
theorem tlX8_tableWithMostGiven_10 {I0 : gM} (I : gM) (hM : MI true I0 I) (s : (Int32 × Int32 × Int32)) (hP : (0 ≤ (s.2.2).toInt ∧ (s.2.2).toInt ≤ 2147483647)) : T (lX8_tableWithMostGiven_10 I s) (fun r : Int32 => True) := by
  unfold lX8_tableWithMostGiven_10
  refine t_it (P := fun s : (Int32 × Int32 × Int32) => (0 ≤ (s.2.2).toInt ∧ (s.2.2).toInt ≤ 2147483647)) (μ := fun s : (Int32 × Int32 × Int32) => (2147483648 - s.2.2.toInt).toNat) (fun s p => ?_) hP
  have b2 : (0 ≤ (s.2.2).toInt ∧ (s.2.2).toInt ≤ 2147483647) := p
  have q1 := hM.at (k := 3) (j := 0) (lo := 0) (hi := 4) rfl
  refine t_ite (fun c2 => ?_) (fun c2 => ?_)
  · have c2i := (iLE (a := I 3 0) (b := s.2.2) rfl rfl).mp c2
    exact t_ret (show True from trivial)
  · have c2i := mt (iLE (a := I 3 0) (b := s.2.2) rfl rfl).mpr c2
    refine t_bindE (tfX8_givenRows s.2.2 I hM) (fun r2 er2 pr2 => ?_)
    refine t_ite (fun c3 => ?_) (fun c3 => ?_)
    · have c3i := (iLE (a := r2) (b := s.2.1) rfl rfl).mp c3
      unfold bX8_tableWithMostGiven_39
      have m2 := ((tA rfl (by decide : (1 : Int32).toInt = 1) (by omega) (by omega)) : (s.2.2 + 1).toInt = (s.2.2.toInt + 1))
      have mm : (2147483648 - (s.2.2 + 1).toInt).toNat < (2147483648 - s.2.2.toInt).toNat := by omega
      have pp : (0 ≤ (s.2.2 + 1).toInt ∧ (s.2.2 + 1).toInt ≤ 2147483647) := (by show (0 ≤ (s.2.2 + 1).toInt ∧ (s.2.2 + 1).toInt ≤ 2147483647); have q := ((tA rfl (by decide : (1 : Int32).toInt = 1) (by omega) (by omega)) : (s.2.2 + 1).toInt = (s.2.2.toInt + 1)); omega)
      exact t_ret ⟨pp, mm⟩
    · have c3i := mt (iLE (a := r2) (b := s.2.1) rfl rfl).mpr c3
      unfold bX8_tableWithMostGiven_39
      have m2 := ((tA rfl (by decide : (1 : Int32).toInt = 1) (by omega) (by omega)) : (s.2.2 + 1).toInt = (s.2.2.toInt + 1))
      have mm : (2147483648 - (s.2.2 + 1).toInt).toNat < (2147483648 - s.2.2.toInt).toNat := by omega
      have pp : (0 ≤ (s.2.2 + 1).toInt ∧ (s.2.2 + 1).toInt ≤ 2147483647) := (by show (0 ≤ (s.2.2 + 1).toInt ∧ (s.2.2 + 1).toInt ≤ 2147483647); have q := ((tA rfl (by decide : (1 : Int32).toInt = 1) (by omega) (by omega)) : (s.2.2 + 1).toInt = (s.2.2.toInt + 1)); omega)
      exact t_ret ⟨pp, mm⟩
set_option maxRecDepth 100000 in
set_option maxHeartbeats 1000000 in
theorem tfX8_tableWithMostGiven {I0 : gM} (I : gM) (hM : MI true I0 I) : T (fX8_tableWithMostGiven I) (fun r => True) := by
  unfold fX8_tableWithMostGiven
  refine t_bindE (tfX8_givenRows (0 : Int32) I hM) (fun r1 er1 pr1 => ?_)
  refine t_bindE (tlX8_tableWithMostGiven_10 I hM ((0 : Int32), r1, (1 : Int32)) (by show (0 ≤ ((1 : Int32)).toInt ∧ ((1 : Int32)).toInt ≤ 2147483647); decide)) (fun w3 ew3 pw3 => ?_)
  exact t_ret trivial
set_option maxRecDepth 100000 in
set_option maxHeartbeats 1000000 in
theorem tlX8_dangling_4 {I0 : gM} (I : gM) (hM : MI true I0 I) (s : (Int32 × Int32)) (hP : (0 ≤ (s.2).toInt ∧ (s.2).toInt ≤ 2147483647)) : T (lX8_dangling_4 I s) (fun r : Int32 => True) := by
  unfold lX8_dangling_4
  refine t_it (P := fun s : (Int32 × Int32) => (0 ≤ (s.2).toInt ∧ (s.2).toInt ≤ 2147483647)) (μ := fun s : (Int32 × Int32) => (2147483648 - s.2.toInt).toNat) (fun s p => ?_) hP
  have b1 : (0 ≤ (s.2).toInt ∧ (s.2).toInt ≤ 2147483647) := p
  have q1 := hM.at (k := 3) (j := 0) (lo := 0) (hi := 4) rfl
  refine t_ite (fun c2 => ?_) (fun c2 => ?_)
  · have c2i := (iLE (a := I 3 0) (b := s.2) rfl rfl).mp c2
    exact t_ret (show True from trivial)
  · have c2i := mt (iLE (a := I 3 0) (b := s.2) rfl rfl).mpr c2
    refine t_bindE (tfX5_isUsed 3 s.2 I kX5_3 hM) (fun r1 er1 pr1 => ?_)
    obtain ⟨br1_0, xr1_0⟩ := (show (0 ≤ r1.toInt ∧ r1.toInt ≤ 1) ∧ (r1.toInt = 0 ∨ (0 ≤ s.2.toInt ∧ s.2.toInt < (I 3 0).toInt)) from pr1)
    refine t_ite (fun c3 => ?_) (fun c3 => ?_)
    · have c3i := (iEQ (a := r1) (b := (0 : Int32)) rfl (by decide : (0 : Int32).toInt = 0)).mp c3
      unfold bX8_dangling_44
      have m1 := ((tA rfl (by decide : (1 : Int32).toInt = 1) (by omega) (by omega)) : (s.2 + 1).toInt = (s.2.toInt + 1))
      have mm : (2147483648 - (s.2 + 1).toInt).toNat < (2147483648 - s.2.toInt).toNat := by omega
      have pp : (0 ≤ (s.2 + 1).toInt ∧ (s.2 + 1).toInt ≤ 2147483647) := (by show (0 ≤ (s.2 + 1).toInt ∧ (s.2 + 1).toInt ≤ 2147483647); have q := ((tA rfl (by decide : (1 : Int32).toInt = 1) (by omega) (by omega)) : (s.2 + 1).toInt = (s.2.toInt + 1)); omega)
      exact t_ret ⟨pp, mm⟩
    · have c3i := mt (iEQ (a := r1) (b := (0 : Int32)) rfl (by decide : (0 : Int32).toInt = 0)).mpr c3
      refine t_rI (lo := 0) (hi := 12) hM (fun _ _ => rfl) rfl (by omega) (by omega) (fun u2 eu2 bu2 => ?_)
      refine t_bindE (tfX8_givenRows s.2 I hM) (fun r3 er3 pr3 => ?_)
      unfold bX8_dangling_44
      have m1 := ((tA rfl (by decide : (1 : Int32).toInt = 1) (by omega) (by omega)) : (s.2 + 1).toInt = (s.2.toInt + 1))
      have mm : (2147483648 - (s.2 + 1).toInt).toNat < (2147483648 - s.2.toInt).toNat := by omega
      have pp : (0 ≤ (s.2 + 1).toInt ∧ (s.2 + 1).toInt ≤ 2147483647) := (by show (0 ≤ (s.2 + 1).toInt ∧ (s.2 + 1).toInt ≤ 2147483647); have q := ((tA rfl (by decide : (1 : Int32).toInt = 1) (by omega) (by omega)) : (s.2 + 1).toInt = (s.2.toInt + 1)); omega)
      exact t_ret ⟨pp, mm⟩
set_option maxRecDepth 100000 in
set_option maxHeartbeats 1000000 in
theorem tfX8_dangling {I0 : gM} (I : gM) (hM : MI true I0 I) : T (fX8_dangling I) (fun r => True) := by
  unfold fX8_dangling
  refine t_bindE (tlX8_dangling_4 I hM ((0 : Int32), (0 : Int32)) (by show (0 ≤ ((0 : Int32)).toInt ∧ ((0 : Int32)).toInt ≤ 2147483647); decide)) (fun w4 ew4 pw4 => ?_)
  exact t_ret trivial
set_option maxRecDepth 100000 in
set_option maxHeartbeats 1000000 in
theorem tlX8_tellingCouples_11 {I0 : gM} (v2 : Int32)  (s : (Int32 × Int32 × gM)) (hP : (0 ≤ (s.2.1).toInt ∧ (s.2.1).toInt ≤ 2147483647) ∧ MI true I0 s.2.2) : T (lX8_tellingCouples_11 v2 s) (fun r : Int32 × gM => MI true I0 r.2) := by
  unfold lX8_tellingCouples_11
  refine t_it (P := fun s : (Int32 × Int32 × gM) => (0 ≤ (s.2.1).toInt ∧ (s.2.1).toInt ≤ 2147483647) ∧ MI true I0 s.2.2) (μ := fun s : (Int32 × Int32 × gM) => (2147483648 - s.2.1.toInt).toNat) (fun s p => ?_) hP
  obtain ⟨b1, hs⟩ := p
  refine t_ite (fun c1 => ?_) (fun c1 => ?_)
  · have c1i := (iLE (a := (4 : Int32)) (b := s.2.1) (by decide : (4 : Int32).toInt = 4) rfl).mp c1
    exact t_ret (show MI true I0 s.2.2 from hs)
  · have c1i := mt (iLE (a := (4 : Int32)) (b := s.2.1) (by decide : (4 : Int32).toInt = 4) rfl).mpr c1
    refine t_ite (fun c2 => ?_) (fun c2 => ?_)
    · have c2i := (iEQ (a := v2) (b := s.2.1) rfl rfl).mp c2
      unfold bX8_tellingCouples_33
      have m1 := ((tA rfl (by decide : (1 : Int32).toInt = 1) (by omega) (by omega)) : (s.2.1 + 1).toInt = (s.2.1.toInt + 1))
      have mm : (2147483648 - (s.2.1 + 1).toInt).toNat < (2147483648 - s.2.1.toInt).toNat := by omega
      have pp : (0 ≤ (s.2.1 + 1).toInt ∧ (s.2.1 + 1).toInt ≤ 2147483647) ∧ MI true I0 s.2.2 := ⟨(by show (0 ≤ (s.2.1 + 1).toInt ∧ (s.2.1 + 1).toInt ≤ 2147483647); have q := ((tA rfl (by decide : (1 : Int32).toInt = 1) (by omega) (by omega)) : (s.2.1 + 1).toInt = (s.2.1.toInt + 1)); omega), hs⟩
      exact t_ret ⟨pp, mm⟩
    · have c2i := mt (iEQ (a := v2) (b := s.2.1) rfl rfl).mpr c2
      refine t_bindE (tfX8_tells v2 s.2.1 s.2.2 hs) (fun r1 er1 pr1 => ?_)
      obtain ⟨br1_0, hr1_1⟩ := (show (0 ≤ r1.1.toInt ∧ r1.1.toInt ≤ 1) ∧ MI true I0 r1.2 from pr1)
      refine t_ite (fun c3 => ?_) (fun c3 => ?_)
      · have c3i := (iEQ (a := r1.1) (b := (0 : Int32)) rfl (by decide : (0 : Int32).toInt = 0)).mp c3
        unfold bX8_tellingCouples_33
        have m1 := ((tA rfl (by decide : (1 : Int32).toInt = 1) (by omega) (by omega)) : (s.2.1 + 1).toInt = (s.2.1.toInt + 1))
        have mm : (2147483648 - (s.2.1 + 1).toInt).toNat < (2147483648 - s.2.1.toInt).toNat := by omega
        have pp : (0 ≤ (s.2.1 + 1).toInt ∧ (s.2.1 + 1).toInt ≤ 2147483647) ∧ MI true I0 r1.2 := ⟨(by show (0 ≤ (s.2.1 + 1).toInt ∧ (s.2.1 + 1).toInt ≤ 2147483647); have q := ((tA rfl (by decide : (1 : Int32).toInt = 1) (by omega) (by omega)) : (s.2.1 + 1).toInt = (s.2.1.toInt + 1)); omega), hr1_1⟩
        exact t_ret ⟨pp, mm⟩
      · have c3i := mt (iEQ (a := r1.1) (b := (0 : Int32)) rfl (by decide : (0 : Int32).toInt = 0)).mpr c3
        unfold bX8_tellingCouples_33
        have m1 := ((tA rfl (by decide : (1 : Int32).toInt = 1) (by omega) (by omega)) : (s.2.1 + 1).toInt = (s.2.1.toInt + 1))
        have mm : (2147483648 - (s.2.1 + 1).toInt).toNat < (2147483648 - s.2.1.toInt).toNat := by omega
        have pp : (0 ≤ (s.2.1 + 1).toInt ∧ (s.2.1 + 1).toInt ≤ 2147483647) ∧ MI true I0 r1.2 := ⟨(by show (0 ≤ (s.2.1 + 1).toInt ∧ (s.2.1 + 1).toInt ≤ 2147483647); have q := ((tA rfl (by decide : (1 : Int32).toInt = 1) (by omega) (by omega)) : (s.2.1 + 1).toInt = (s.2.1.toInt + 1)); omega), hr1_1⟩
        exact t_ret ⟨pp, mm⟩
set_option maxRecDepth 100000 in
set_option maxHeartbeats 1000000 in
theorem tlX8_tellingCouples_4 {I0 : gM}   (s : (Int32 × Int32 × gM)) (hP : (0 ≤ (s.2.1).toInt ∧ (s.2.1).toInt ≤ 2147483647) ∧ MI true I0 s.2.2) : T (lX8_tellingCouples_4 s) (fun r : Int32 × gM => MI true I0 r.2) := by
  unfold lX8_tellingCouples_4
  refine t_it (P := fun s : (Int32 × Int32 × gM) => (0 ≤ (s.2.1).toInt ∧ (s.2.1).toInt ≤ 2147483647) ∧ MI true I0 s.2.2) (μ := fun s : (Int32 × Int32 × gM) => (2147483648 - s.2.1.toInt).toNat) (fun s p => ?_) hP
  obtain ⟨b1, hs⟩ := p
  refine t_ite (fun c1 => ?_) (fun c1 => ?_)
  · have c1i := (iLE (a := (4 : Int32)) (b := s.2.1) (by decide : (4 : Int32).toInt = 4) rfl).mp c1
    exact t_ret (show MI true I0 s.2.2 from hs)
  · have c1i := mt (iLE (a := (4 : Int32)) (b := s.2.1) (by decide : (4 : Int32).toInt = 4) rfl).mpr c1
    refine t_bindE (tlX8_tellingCouples_11 s.2.1 (s.1, (0 : Int32), s.2.2) ⟨(by show (0 ≤ ((0 : Int32)).toInt ∧ ((0 : Int32)).toInt ≤ 2147483647); decide), hs⟩) (fun w2 ew2 pw2 => ?_)
    have hw2_1 : MI true I0 w2.2 := pw2
    have m1 := ((tA rfl (by decide : (1 : Int32).toInt = 1) (by omega) (by omega)) : (s.2.1 + 1).toInt = (s.2.1.toInt + 1))
    have mm : (2147483648 - (s.2.1 + 1).toInt).toNat < (2147483648 - s.2.1.toInt).toNat := by omega
    have pp : (0 ≤ (s.2.1 + 1).toInt ∧ (s.2.1 + 1).toInt ≤ 2147483647) ∧ MI true I0 w2.2 := ⟨(by show (0 ≤ (s.2.1 + 1).toInt ∧ (s.2.1 + 1).toInt ≤ 2147483647); have q := ((tA rfl (by decide : (1 : Int32).toInt = 1) (by omega) (by omega)) : (s.2.1 + 1).toInt = (s.2.1.toInt + 1)); omega), hw2_1⟩
    exact t_ret ⟨pp, mm⟩
set_option maxRecDepth 100000 in
set_option maxHeartbeats 1000000 in
theorem tfX8_tellingCouples {I0 : gM} (I : gM) (hM : MI true I0 I) : T (fX8_tellingCouples I) (fun r => MI true I0 r.2) := by
  unfold fX8_tellingCouples
  refine t_bindE (tlX8_tellingCouples_4 ((0 : Int32), (0 : Int32), I) ⟨(by show (0 ≤ ((0 : Int32)).toInt ∧ ((0 : Int32)).toInt ≤ 2147483647); decide), hM⟩) (fun w3 ew3 pw3 => ?_)
  have hw3_1 : MI true I0 w3.2 := pw3
  exact t_ret hw3_1
set_option maxRecDepth 100000 in
set_option maxHeartbeats 1000000 in
theorem tfX8_most {I0 : gM} (v1 : Int32) (I : gM) (hM : MI true I0 I) : T (fX8_most v1 I) (fun r => MI true I0 r.2) := by
  unfold fX8_most
  have q1 := hM.at (k := 3) (j := 0) (lo := 0) (hi := 4) rfl
  refine t_ite (fun c2 => ?_) (fun c2 => ?_)
  · have c2i := (iEQ (a := I 3 0) (b := (0 : Int32)) rfl (by decide : (0 : Int32).toInt = 0)).mp c2
    exact t_ret hM
  · have c2i := mt (iEQ (a := I 3 0) (b := (0 : Int32)) rfl (by decide : (0 : Int32).toInt = 0)).mpr c2
    refine t_ite (fun c3 => ?_) (fun c3 => ?_)
    · have c3i := (iEQ (a := v1) (b := (0 : Int32)) rfl (by decide : (0 : Int32).toInt = 0)).mp c3
      refine t_bindE (tfX5_allNumbers 3 I kX5_3 hM) (fun r1 er1 pr1 => ?_)
      exact t_ret hM
    · have c3i := mt (iEQ (a := v1) (b := (0 : Int32)) rfl (by decide : (0 : Int32).toInt = 0)).mpr c3
      refine t_ite (fun c4 => ?_) (fun c4 => ?_)
      · have c4i := (iEQ (a := v1) (b := (1 : Int32)) rfl (by decide : (1 : Int32).toInt = 1)).mp c4
        refine t_bindE (tfX8_tableWithMostRows I hM) (fun r2 er2 pr2 => ?_)
        have br2_0 : (0 ≤ r2.toInt ∧ r2.toInt ≤ 3) := pr2
        exact t_ret hM
      · have c4i := mt (iEQ (a := v1) (b := (1 : Int32)) rfl (by decide : (1 : Int32).toInt = 1)).mpr c4
        refine t_ite (fun c5 => ?_) (fun c5 => ?_)
        · have c5i := (iEQ (a := v1) (b := (2 : Int32)) rfl (by decide : (2 : Int32).toInt = 2)).mp c5
          refine t_bindE (tfX8_tableWithMostGiven I hM) (fun r3 er3 pr3 => ?_)
          exact t_ret hM
        · have c5i := mt (iEQ (a := v1) (b := (2 : Int32)) rfl (by decide : (2 : Int32).toInt = 2)).mpr c5
          refine t_ite (fun c6 => ?_) (fun c6 => ?_)
          · have c6i := (iEQ (a := v1) (b := (3 : Int32)) rfl (by decide : (3 : Int32).toInt = 3)).mp c6
            refine t_bindE (tfX8_dangling I hM) (fun r4 er4 pr4 => ?_)
            exact t_ret hM
          · have c6i := mt (iEQ (a := v1) (b := (3 : Int32)) rfl (by decide : (3 : Int32).toInt = 3)).mpr c6
            refine t_ite (fun c7 => ?_) (fun c7 => ?_)
            · have c7i := (iEQ (a := v1) (b := (4 : Int32)) rfl (by decide : (4 : Int32).toInt = 4)).mp c7
              refine t_bindE (tfX8_tellingCouples I hM) (fun r5 er5 pr5 => ?_)
              have hr5_1 : MI true I0 r5.2 := pr5
              exact t_ret hr5_1
            · have c7i := mt (iEQ (a := v1) (b := (4 : Int32)) rfl (by decide : (4 : Int32).toInt = 4)).mpr c7
              refine t_ite (fun c8 => ?_) (fun c8 => ?_)
              · have c8i := (iEQ (a := v1) (b := (5 : Int32)) rfl (by decide : (5 : Int32).toInt = 5)).mp c8
                refine t_bindE (tfX1_findBy 29 3 (0 : Int32) I kX1_29 kX5_3 hM) (fun r6 er6 pr6 => ?_)
                have hr6_0 : MI true I0 r6 := pr6
                exact t_ret hr6_0
              · have c8i := mt (iEQ (a := v1) (b := (5 : Int32)) rfl (by decide : (5 : Int32).toInt = 5)).mpr c8
                refine t_ite (fun c9 => ?_) (fun c9 => ?_)
                · have c9i := (iEQ (a := v1) (b := (6 : Int32)) rfl (by decide : (6 : Int32).toInt = 6)).mp c9
                  refine t_bindE (tfX7_weigh 3 29 I kX5_3 kX1_29 hM) (fun r7 er7 pr7 => ?_)
                  have hr7_0 : MI true I0 r7 := pr7
                  exact t_ret hr7_0
                · have c9i := mt (iEQ (a := v1) (b := (6 : Int32)) rfl (by decide : (6 : Int32).toInt = 6)).mpr c9
                  exact t_ret hM
set_option maxRecDepth 100000 in
set_option maxHeartbeats 1000000 in
theorem tfX8_image {I0 : gM} (I : gM) (hM : MI true I0 I) : T (fX8_image I) (fun r => ((-1) ≤ r.1.toInt ∧ r.1.toInt ≤ 20736) ∧ MI true I0 r.2) := by
  unfold fX8_image
  have q1 := hM.at (k := 3) (j := 0) (lo := 0) (hi := 4) rfl
  refine t_ite (fun c2 => ?_) (fun c2 => ?_)
  · have c2i := (iEQ (a := I 3 0) (b := (0 : Int32)) rfl (by decide : (0 : Int32).toInt = 0)).mp c2
    exact t_ret ⟨(by show (-1) ≤ (((-1) : Int32)).toInt ∧ (((-1) : Int32)).toInt ≤ 20736; decide), hM⟩
  · have c2i := mt (iEQ (a := I 3 0) (b := (0 : Int32)) rfl (by decide : (0 : Int32).toInt = 0)).mpr c2
    refine t_bindE (tfX5_copyFrom 13 3 I kX5_13 kX5_3 hM) (fun r1 er1 pr1 => ?_)
    have hr1_0 : MI true I0 r1 := pr1
    refine t_bindE (tfX2_copyFrom 46 44 r1 kX2_46 kX2_44 hr1_0) (fun r2 er2 pr2 => ?_)
    have hr2_0 : MI true I0 r2 := pr2
    refine t_pU (lo := 0) (hi := 1) hr2_0 rfl rfl (by decide) (fun I3 eI3 hI3 => ?_)
    have q3 := hI3.at (k := 18) (j := 0) (lo := 0) (hi := 20736) rfl
    have q4 := hr2_0.at (k := 18) (j := 0) (lo := 0) (hi := 20736) rfl
    have q5 := hr1_0.at (k := 18) (j := 0) (lo := 0) (hi := 20736) rfl
    have q6 := hM.at (k := 18) (j := 0) (lo := 0) (hi := 20736) rfl
    have q7 : (r1 18 0).toInt = (I 18 0).toInt := congrArg (fun g : Nat → Int32 => (g 0).toInt) (show r1 18 = I 18 from zfX5_copyFrom 13 3 I er1 18 (by decide) (by decide) (by decide) (by decide) (by decide))
    have q8 : (r2 18 0).toInt = (r1 18 0).toInt := congrArg (fun g : Nat → Int32 => (g 0).toInt) (show r2 18 = r1 18 from zfX2_copyFrom 46 44 r1 er2 18 (by decide) (by decide))
    have q9 : (I3 18 0).toInt = (r2 18 0).toInt := by rw [eI3, g_up_ne (Or.inr (by decide))]
    exact t_ret ⟨(by show (-1) ≤ (I3 18 0).toInt ∧ (I3 18 0).toInt ≤ 20736; omega), hI3⟩
set_option maxRecDepth 100000 in
set_option maxHeartbeats 1000000 in
theorem tfX8_back {I0 : gM} (I : gM) (hM : MI true I0 I) : T (fX8_back I) (fun r => ((-1) ≤ r.1.toInt ∧ r.1.toInt ≤ 20736) ∧ MI true I0 r.2) := by
  unfold fX8_back
  have q1 := hM.at (k := 0) (j := 15) (lo := 0) (hi := 1) rfl
  refine t_ite (fun c2 => ?_) (fun c2 => ?_)
  · have c2i := (iEQ (a := I 0 15) (b := (0 : Int32)) rfl (by decide : (0 : Int32).toInt = 0)).mp c2
    exact t_ret ⟨(by show (-1) ≤ (((-1) : Int32)).toInt ∧ (((-1) : Int32)).toInt ≤ 20736; decide), hM⟩
  · have c2i := mt (iEQ (a := I 0 15) (b := (0 : Int32)) rfl (by decide : (0 : Int32).toInt = 0)).mpr c2
    refine t_bindE (tfX5_copyFrom 3 13 I kX5_3 kX5_13 hM) (fun r1 er1 pr1 => ?_)
    have hr1_0 : MI true I0 r1 := pr1
    refine t_bindE (tfX2_copyFrom 44 46 r1 kX2_44 kX2_46 hr1_0) (fun r2 er2 pr2 => ?_)
    have hr2_0 : MI true I0 r2 := pr2
    refine t_bindE (tfX3_clear r2 hr2_0) (fun r3 er3 pr3 => ?_)
    have hr3_0 : MI true I0 r3 := pr3
    refine t_bindE (tfX8_renew r3 hr3_0) (fun r4 er4 pr4 => ?_)
    have hr4_0 : MI true I0 r4 := pr4
    have q3 := hr4_0.at (k := 18) (j := 0) (lo := 0) (hi := 20736) rfl
    exact t_ret ⟨(by show (-1) ≤ (r4 18 0).toInt ∧ (r4 18 0).toInt ≤ 20736; omega), hr4_0⟩
set_option maxRecDepth 100000 in
set_option maxHeartbeats 1000000 in
theorem tfX8_count {I0 : gM} (v1 : Int32) (I : gM) (hM : MI true I0 I) : T (fX8_count v1 I) (fun r => ((-1000000) ≤ r.toInt ∧ r.toInt ≤ 400)) := by
  unfold fX8_count
  refine t_ite (fun c1 => ?_) (fun c1 => ?_)
  · have c1i := (iEQ (a := v1) (b := (0 : Int32)) rfl (by decide : (0 : Int32).toInt = 0)).mp c1
    have q2 := hM.at (k := 3) (j := 0) (lo := 0) (hi := 4) rfl
    exact t_ret (by show (-1000000) ≤ ((I 3 0)).toInt ∧ ((I 3 0)).toInt ≤ 400; omega)
  · have c1i := mt (iEQ (a := v1) (b := (0 : Int32)) rfl (by decide : (0 : Int32).toInt = 0)).mpr c1
    refine t_ite (fun c3 => ?_) (fun c3 => ?_)
    · have c3i := (iEQ (a := v1) (b := (1 : Int32)) rfl (by decide : (1 : Int32).toInt = 1)).mp c3
      have q4 := hM.at (k := 0) (j := 14) (lo := 0) (hi := 4) rfl
      exact t_ret (by show (-1000000) ≤ ((I 0 14)).toInt ∧ ((I 0 14)).toInt ≤ 400; omega)
    · have c3i := mt (iEQ (a := v1) (b := (1 : Int32)) rfl (by decide : (1 : Int32).toInt = 1)).mpr c3
      refine t_ite (fun c5 => ?_) (fun c5 => ?_)
      · have c5i := (iEQ (a := v1) (b := (2 : Int32)) rfl (by decide : (2 : Int32).toInt = 2)).mp c5
        have q6 := hM.at (k := 1) (j := 0) (lo := 0) (hi := 400) rfl
        exact t_ret (by show (-1000000) ≤ ((I 1 0)).toInt ∧ ((I 1 0)).toInt ≤ 400; omega)
      · have c5i := mt (iEQ (a := v1) (b := (2 : Int32)) rfl (by decide : (2 : Int32).toInt = 2)).mpr c5
        refine t_ite (fun c7 => ?_) (fun c7 => ?_)
        · have c7i := (iEQ (a := v1) (b := (3 : Int32)) rfl (by decide : (3 : Int32).toInt = 3)).mp c7
          refine t_bindE (tfX2_shown 44 I kX2_44 hM) (fun r1 er1 pr1 => ?_)
          have br1_0 : (0 ≤ r1.toInt ∧ r1.toInt ≤ 60) := pr1
          exact t_ret (by show (-1000000) ≤ (r1).toInt ∧ (r1).toInt ≤ 400; omega)
        · have c7i := mt (iEQ (a := v1) (b := (3 : Int32)) rfl (by decide : (3 : Int32).toInt = 3)).mpr c7
          refine t_ite (fun c8 => ?_) (fun c8 => ?_)
          · have c8i := (iEQ (a := v1) (b := (4 : Int32)) rfl (by decide : (4 : Int32).toInt = 4)).mp c8
            have q9 := hM.at (k := 48) (j := 0) (lo := 0) (hi := 40) rfl
            exact t_ret (by show (-1000000) ≤ ((I 48 0)).toInt ∧ ((I 48 0)).toInt ≤ 400; omega)
          · have c8i := mt (iEQ (a := v1) (b := (4 : Int32)) rfl (by decide : (4 : Int32).toInt = 4)).mpr c8
            exact t_ret (by show (-1000000) ≤ (((-1000000) : Int32)).toInt ∧ (((-1000000) : Int32)).toInt ≤ 400; decide)
