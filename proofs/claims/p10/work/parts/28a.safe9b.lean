set_option maxRecDepth 100000 in
set_option maxHeartbeats 1000000 in
theorem tlX9_columnOf_2 {I0 : gM} (v1 : Int32) (v2 : Int32) (I : gM) (hM : MI false I0 I) (av1 : 0 ≤ v1.toInt ∧ v1.toInt ≤ 3) (s : Int32) (hP : (0 ≤ (s).toInt ∧ (s).toInt ≤ 2147483647)) : T (lX9_columnOf_2 v1 v2 I s) (Sum.elim (fun r : Int32 => (0 ≤ r.toInt ∧ r.toInt ≤ 2)) (fun r : Unit => True)) := by
  unfold lX9_columnOf_2
  refine t_it (P := fun s : Int32 => (0 ≤ (s).toInt ∧ (s).toInt ≤ 2147483647)) (μ := fun s : Int32 => (2147483648 - s.toInt).toNat) (fun s p => ?_) hP
  have b0 : (0 ≤ (s).toInt ∧ (s).toInt ≤ 2147483647) := p
  refine t_rI (lo := 0) (hi := 3) hM (fun _ _ => rfl) rfl (by omega) (by omega) (fun u1 eu1 bu1 => ?_)
  refine t_ite (fun c1 => ?_) (fun c1 => ?_)
  · have c1i := (iLE (a := u1) (b := s) rfl rfl).mp c1
    exact t_ret (show True from trivial)
  · have c1i := mt (iLE (a := u1) (b := s) rfl rfl).mpr c1
    refine t_rI (lo := 0) (hi := 3) hM (fun _ _ => rfl) (tA (tM (by decide : (3 : Int32).toInt = 3) rfl (by omega) (by omega)) rfl (by omega) (by omega)) (by omega) (by omega) (fun u2 eu2 bu2 => ?_)
    refine t_ite (fun c2 => ?_) (fun c2 => ?_)
    · have c2i := (iEQ (a := u2) (b := v2) rfl rfl).mp c2
      exact t_ret (show (0 ≤ (s).toInt ∧ (s).toInt ≤ 2) from (by omega))
    · have c2i := mt (iEQ (a := u2) (b := v2) rfl rfl).mpr c2
      have m0 := ((tA rfl (by decide : (1 : Int32).toInt = 1) (by omega) (by omega)) : (s + 1).toInt = (s.toInt + 1))
      have mm : (2147483648 - (s + 1).toInt).toNat < (2147483648 - s.toInt).toNat := by omega
      have pp : (0 ≤ ((s + 1)).toInt ∧ ((s + 1)).toInt ≤ 2147483647) := (by show (0 ≤ ((s + 1)).toInt ∧ ((s + 1)).toInt ≤ 2147483647); have q := ((tA rfl (by decide : (1 : Int32).toInt = 1) (by omega) (by omega)) : (s + 1).toInt = (s.toInt + 1)); omega)
      exact t_ret ⟨pp, mm⟩
set_option maxRecDepth 100000 in
set_option maxHeartbeats 1000000 in
theorem tfX9_columnOf {I0 : gM} (v1 : Int32) (v2 : Int32) (I : gM) (hM : MI false I0 I) (av1 : 0 ≤ v1.toInt ∧ v1.toInt ≤ 3) : T (fX9_columnOf v1 v2 I) (fun r => ((-1) ≤ r.toInt ∧ r.toInt ≤ 2)) := by
  unfold fX9_columnOf
  refine t_bindE (tlX9_columnOf_2 v1 v2 I hM (by omega) (0 : Int32) (by show (0 ≤ ((0 : Int32)).toInt ∧ ((0 : Int32)).toInt ≤ 2147483647); decide)) (fun w3 ew3 pw3 => ?_)
  rcases w3 with w3_0 | w3_1
  · refine t_el ?_
    have bw3_0_0 : (0 ≤ w3_0.toInt ∧ w3_0.toInt ≤ 2) := pw3
    exact t_ret (by show (-1) ≤ (w3_0).toInt ∧ (w3_0).toInt ≤ 2; omega)
  · refine t_er ?_
    exact t_ret (by show (-1) ≤ (((-1) : Int32)).toInt ∧ (((-1) : Int32)).toInt ≤ 2; decide)
set_option maxRecDepth 100000 in
set_option maxHeartbeats 1000000 in
theorem tfX9_joinsNow {I0 : gM} (I : gM) (hM : MI false I0 I) : T (fX9_joinsNow I) (fun r => MI false I0 r ∧ (GJ9 r)) := by
  unfold fX9_joinsNow
  refine t_rJ (lo := 0) (hi := 23) hM (by decide : (1 : Int32).toInt = 1) (by omega) (by omega) rfl (fun u1 eu1 bu1 => ?_)
  refine t_bindE (tfX9_joins u1 I hM (by omega)) (fun r2 er2 pr2 => ?_)
  obtain ⟨hr2_0, yr2_0⟩ := (show MI false I0 r2 ∧ (GJ9 r2) from pr2)
  exact t_ret ⟨hr2_0, yr2_0⟩
set_option maxRecDepth 100000 in
set_option maxHeartbeats 1000000 in
theorem tfX9_numberOf {I0 : gM} (v1 : Int32) (v2 : Int32) (I : gM) (hM : MI false I0 I) (av1 : 0 ≤ v1.toInt ∧ v1.toInt ≤ 20735) (av2 : 0 ≤ v2.toInt ∧ v2.toInt ≤ 3) : T (fX9_numberOf v1 v2 I) (fun r => ((-1) ≤ r.toInt ∧ r.toInt ≤ 99)) := by
  unfold fX9_numberOf
  refine t_rI (lo := (-1)) (hi := 99) hM (fun _ _ => rfl) (tA (tM (by decide : (4 : Int32).toInt = 4) rfl (by omega) (by omega)) rfl (by omega) (by omega)) (by omega) (by omega) (fun u1 eu1 bu1 => ?_)
  exact t_ret (by show (-1) ≤ (u1).toInt ∧ (u1).toInt ≤ 99; omega)
set_option maxRecDepth 100000 in
set_option maxHeartbeats 1000000 in
theorem tfX9_isAsked {I0 : gM} (v1 : Int32) (I : gM) (hM : MI false I0 I) : T (fX9_isAsked v1 I) (fun r => (0 ≤ r.toInt ∧ r.toInt ≤ 1) ∧ (r.toInt = 0 ∨ (0 ≤ v1.toInt ∧ v1.toInt ≤ 3))) := by
  unfold fX9_isAsked
  refine t_bindE (tfX9_areTables I hM) (fun r1 er1 pr1 => ?_)
  have br1_0 : (0 ≤ r1.toInt ∧ r1.toInt ≤ 1) := pr1
  refine t_ite (fun c1 => ?_) (fun c1 => ?_)
  · have c1i := (iEQ (a := r1) (b := (0 : Int32)) rfl (by decide : (0 : Int32).toInt = 0)).mp c1
    exact t_ret ⟨(by show 0 ≤ ((0 : Int32)).toInt ∧ ((0 : Int32)).toInt ≤ 1; decide), (by show (0 : Int32).toInt = 0 ∨ (0 ≤ v1.toInt ∧ v1.toInt ≤ 3); have q0 : (0 : Int32).toInt = 0 := (by decide); omega)⟩
  · have c1i := mt (iEQ (a := r1) (b := (0 : Int32)) rfl (by decide : (0 : Int32).toInt = 0)).mpr c1
    refine t_bindE (tfX9_in v1 (0 : Int32) (3 : Int32)) (fun r2 er2 pr2 => ?_)
    obtain ⟨br2_0, xr2_0⟩ := (show (0 ≤ r2.toInt ∧ r2.toInt ≤ 1) ∧ (r2.toInt = 0 ∨ ((0 : Int32).toInt ≤ v1.toInt ∧ v1.toInt ≤ (3 : Int32).toInt)) from pr2)
    have q2 : (0 : Int32).toInt = 0 := by decide
    have q3 : (3 : Int32).toInt = 3 := by decide
    refine t_ite (fun c4 => ?_) (fun c4 => ?_)
    · have c4i := (iEQ (a := r2) (b := (0 : Int32)) rfl (by decide : (0 : Int32).toInt = 0)).mp c4
      exact t_ret ⟨(by show 0 ≤ ((0 : Int32)).toInt ∧ ((0 : Int32)).toInt ≤ 1; decide), (by show (0 : Int32).toInt = 0 ∨ (0 ≤ v1.toInt ∧ v1.toInt ≤ 3); have q0 : (0 : Int32).toInt = 0 := (by decide); omega)⟩
    · have c4i := mt (iEQ (a := r2) (b := (0 : Int32)) rfl (by decide : (0 : Int32).toInt = 0)).mpr c4
      refine t_bindE (tfX9_asked I hM) (fun r3 er3 pr3 => ?_)
      refine t_bindE (tfX9_has r3 v1) (fun r4 er4 pr4 => ?_)
      have br4_0 : (0 ≤ r4.toInt ∧ r4.toInt ≤ 1) := pr4
      refine t_ite (fun c5 => ?_) (fun c5 => ?_)
      · have c5i := (iEQ (a := r4) (b := (0 : Int32)) rfl (by decide : (0 : Int32).toInt = 0)).mp c5
        exact t_ret ⟨(by show 0 ≤ ((0 : Int32)).toInt ∧ ((0 : Int32)).toInt ≤ 1; decide), (by show (0 : Int32).toInt = 0 ∨ (0 ≤ v1.toInt ∧ v1.toInt ≤ 3); have q0 : (0 : Int32).toInt = 0 := (by decide); omega)⟩
      · have c5i := mt (iEQ (a := r4) (b := (0 : Int32)) rfl (by decide : (0 : Int32).toInt = 0)).mpr c5
        exact t_ret ⟨(by show 0 ≤ ((1 : Int32)).toInt ∧ ((1 : Int32)).toInt ≤ 1; decide), (by show (1 : Int32).toInt = 0 ∨ (0 ≤ v1.toInt ∧ v1.toInt ≤ 3); have q0 : (1 : Int32).toInt = 1 := (by decide); omega)⟩
set_option maxRecDepth 100000 in
set_option maxHeartbeats 1000000 in
theorem tfX9_isRow {I0 : gM} (v1 : Int32) (v2 : Int32) (v3 : Int32) (v4 : Int32) (I : gM) (hM : MI false I0 I) (av1 : 0 ≤ v1.toInt ∧ v1.toInt ≤ 3) : T (fX9_isRow v1 v2 v3 v4 I) (fun r => (0 ≤ r.toInt ∧ r.toInt ≤ 1)) := by
  unfold fX9_isRow
  refine t_bindE (tfX9_in v2 (0 : Int32) (99 : Int32)) (fun r1 er1 pr1 => ?_)
  obtain ⟨br1_0, xr1_0⟩ := (show (0 ≤ r1.toInt ∧ r1.toInt ≤ 1) ∧ (r1.toInt = 0 ∨ ((0 : Int32).toInt ≤ v2.toInt ∧ v2.toInt ≤ (99 : Int32).toInt)) from pr1)
  have q1 : (0 : Int32).toInt = 0 := by decide
  have q2 : (99 : Int32).toInt = 99 := by decide
  refine t_ite (fun c3 => ?_) (fun c3 => ?_)
  · have c3i := (iEQ (a := r1) (b := (0 : Int32)) rfl (by decide : (0 : Int32).toInt = 0)).mp c3
    unfold bX9_isRow_46
    unfold bX9_isRow_47
    refine t_ite (fun c4 => ?_) (fun c4 => ?_)
    · have c4i := (iEQ (a := (0 : Int32)) (b := (0 : Int32)) (by decide : (0 : Int32).toInt = 0) (by decide : (0 : Int32).toInt = 0)).mp c4
      exact t_ret (by show 0 ≤ ((0 : Int32)).toInt ∧ ((0 : Int32)).toInt ≤ 1; decide)
    · have c4i := mt (iEQ (a := (0 : Int32)) (b := (0 : Int32)) (by decide : (0 : Int32).toInt = 0) (by decide : (0 : Int32).toInt = 0)).mpr c4
      omega
  · have c3i := mt (iEQ (a := r1) (b := (0 : Int32)) rfl (by decide : (0 : Int32).toInt = 0)).mpr c3
    refine t_rI (lo := 0) (hi := 3) hM (fun _ _ => rfl) rfl (by omega) (by omega) (fun u4 eu4 bu4 => ?_)
    refine t_ite (fun c5 => ?_) (fun c5 => ?_)
    · have c5i := (iLE (a := u4) (b := (1 : Int32)) rfl (by decide : (1 : Int32).toInt = 1)).mp c5
      refine t_ite (fun c6 => ?_) (fun c6 => ?_)
      · have c6i := (iEQ (a := v3) (b := ((-1) : Int32)) rfl (by decide : ((-1) : Int32).toInt = (-1))).mp c6
        unfold bX9_isRow_42
        unfold bX9_isRow_47
        refine t_ite (fun c7 => ?_) (fun c7 => ?_)
        · have c7i := (iEQ (a := (1 : Int32)) (b := (0 : Int32)) (by decide : (1 : Int32).toInt = 1) (by decide : (0 : Int32).toInt = 0)).mp c7
          omega
        · have c7i := mt (iEQ (a := (1 : Int32)) (b := (0 : Int32)) (by decide : (1 : Int32).toInt = 1) (by decide : (0 : Int32).toInt = 0)).mpr c7
          refine t_rI (lo := 0) (hi := 3) hM (fun _ _ => rfl) rfl (by omega) (by omega) (fun u2 eu2 bu2 => ?_)
          refine t_ite (fun c8 => ?_) (fun c8 => ?_)
          · have c8i := (iLE (a := u2) (b := (2 : Int32)) rfl (by decide : (2 : Int32).toInt = 2)).mp c8
            refine t_ite (fun c9 => ?_) (fun c9 => ?_)
            · have c9i := (iEQ (a := v4) (b := ((-1) : Int32)) rfl (by decide : ((-1) : Int32).toInt = (-1))).mp c9
              unfold bX9_isRow_84
              exact t_ret (by show 0 ≤ ((1 : Int32)).toInt ∧ ((1 : Int32)).toInt ≤ 1; decide)
            · have c9i := mt (iEQ (a := v4) (b := ((-1) : Int32)) rfl (by decide : ((-1) : Int32).toInt = (-1))).mpr c9
              exact t_ret (by show 0 ≤ ((0 : Int32)).toInt ∧ ((0 : Int32)).toInt ≤ 1; decide)
          · have c8i := mt (iLE (a := u2) (b := (2 : Int32)) rfl (by decide : (2 : Int32).toInt = 2)).mpr c8
            refine t_bindE (tfX9_in v4 (0 : Int32) (99 : Int32)) (fun r3 er3 pr3 => ?_)
            obtain ⟨br3_0, xr3_0⟩ := (show (0 ≤ r3.toInt ∧ r3.toInt ≤ 1) ∧ (r3.toInt = 0 ∨ ((0 : Int32).toInt ≤ v4.toInt ∧ v4.toInt ≤ (99 : Int32).toInt)) from pr3)
            have q10 : (0 : Int32).toInt = 0 := by decide
            have q11 : (99 : Int32).toInt = 99 := by decide
            refine t_ite (fun c12 => ?_) (fun c12 => ?_)
            · have c12i := (iEQ (a := r3) (b := (0 : Int32)) rfl (by decide : (0 : Int32).toInt = 0)).mp c12
              exact t_ret (by show 0 ≤ ((0 : Int32)).toInt ∧ ((0 : Int32)).toInt ≤ 1; decide)
            · have c12i := mt (iEQ (a := r3) (b := (0 : Int32)) rfl (by decide : (0 : Int32).toInt = 0)).mpr c12
              unfold bX9_isRow_84
              exact t_ret (by show 0 ≤ ((1 : Int32)).toInt ∧ ((1 : Int32)).toInt ≤ 1; decide)
      · have c6i := mt (iEQ (a := v3) (b := ((-1) : Int32)) rfl (by decide : ((-1) : Int32).toInt = (-1))).mpr c6
        unfold bX9_isRow_46
        unfold bX9_isRow_47
        refine t_ite (fun c13 => ?_) (fun c13 => ?_)
        · have c13i := (iEQ (a := (0 : Int32)) (b := (0 : Int32)) (by decide : (0 : Int32).toInt = 0) (by decide : (0 : Int32).toInt = 0)).mp c13
          exact t_ret (by show 0 ≤ ((0 : Int32)).toInt ∧ ((0 : Int32)).toInt ≤ 1; decide)
        · have c13i := mt (iEQ (a := (0 : Int32)) (b := (0 : Int32)) (by decide : (0 : Int32).toInt = 0) (by decide : (0 : Int32).toInt = 0)).mpr c13
          omega
    · have c5i := mt (iLE (a := u4) (b := (1 : Int32)) rfl (by decide : (1 : Int32).toInt = 1)).mpr c5
      refine t_bindE (tfX9_in v3 (0 : Int32) (99 : Int32)) (fun r5 er5 pr5 => ?_)
      obtain ⟨br5_0, xr5_0⟩ := (show (0 ≤ r5.toInt ∧ r5.toInt ≤ 1) ∧ (r5.toInt = 0 ∨ ((0 : Int32).toInt ≤ v3.toInt ∧ v3.toInt ≤ (99 : Int32).toInt)) from pr5)
      have q14 : (0 : Int32).toInt = 0 := by decide
      have q15 : (99 : Int32).toInt = 99 := by decide
      refine t_ite (fun c16 => ?_) (fun c16 => ?_)
      · have c16i := (iEQ (a := r5) (b := (0 : Int32)) rfl (by decide : (0 : Int32).toInt = 0)).mp c16
        unfold bX9_isRow_46
        unfold bX9_isRow_47
        refine t_ite (fun c17 => ?_) (fun c17 => ?_)
        · have c17i := (iEQ (a := (0 : Int32)) (b := (0 : Int32)) (by decide : (0 : Int32).toInt = 0) (by decide : (0 : Int32).toInt = 0)).mp c17
          exact t_ret (by show 0 ≤ ((0 : Int32)).toInt ∧ ((0 : Int32)).toInt ≤ 1; decide)
        · have c17i := mt (iEQ (a := (0 : Int32)) (b := (0 : Int32)) (by decide : (0 : Int32).toInt = 0) (by decide : (0 : Int32).toInt = 0)).mpr c17
          omega
      · have c16i := mt (iEQ (a := r5) (b := (0 : Int32)) rfl (by decide : (0 : Int32).toInt = 0)).mpr c16
        unfold bX9_isRow_42
        unfold bX9_isRow_47
        refine t_ite (fun c18 => ?_) (fun c18 => ?_)
        · have c18i := (iEQ (a := (1 : Int32)) (b := (0 : Int32)) (by decide : (1 : Int32).toInt = 1) (by decide : (0 : Int32).toInt = 0)).mp c18
          omega
        · have c18i := mt (iEQ (a := (1 : Int32)) (b := (0 : Int32)) (by decide : (1 : Int32).toInt = 1) (by decide : (0 : Int32).toInt = 0)).mpr c18
          refine t_rI (lo := 0) (hi := 3) hM (fun _ _ => rfl) rfl (by omega) (by omega) (fun u2 eu2 bu2 => ?_)
          refine t_ite (fun c19 => ?_) (fun c19 => ?_)
          · have c19i := (iLE (a := u2) (b := (2 : Int32)) rfl (by decide : (2 : Int32).toInt = 2)).mp c19
            refine t_ite (fun c20 => ?_) (fun c20 => ?_)
            · have c20i := (iEQ (a := v4) (b := ((-1) : Int32)) rfl (by decide : ((-1) : Int32).toInt = (-1))).mp c20
              unfold bX9_isRow_84
              exact t_ret (by show 0 ≤ ((1 : Int32)).toInt ∧ ((1 : Int32)).toInt ≤ 1; decide)
            · have c20i := mt (iEQ (a := v4) (b := ((-1) : Int32)) rfl (by decide : ((-1) : Int32).toInt = (-1))).mpr c20
              exact t_ret (by show 0 ≤ ((0 : Int32)).toInt ∧ ((0 : Int32)).toInt ≤ 1; decide)
          · have c19i := mt (iLE (a := u2) (b := (2 : Int32)) rfl (by decide : (2 : Int32).toInt = 2)).mpr c19
            refine t_bindE (tfX9_in v4 (0 : Int32) (99 : Int32)) (fun r3 er3 pr3 => ?_)
            obtain ⟨br3_0, xr3_0⟩ := (show (0 ≤ r3.toInt ∧ r3.toInt ≤ 1) ∧ (r3.toInt = 0 ∨ ((0 : Int32).toInt ≤ v4.toInt ∧ v4.toInt ≤ (99 : Int32).toInt)) from pr3)
            have q21 : (0 : Int32).toInt = 0 := by decide
            have q22 : (99 : Int32).toInt = 99 := by decide
            refine t_ite (fun c23 => ?_) (fun c23 => ?_)
            · have c23i := (iEQ (a := r3) (b := (0 : Int32)) rfl (by decide : (0 : Int32).toInt = 0)).mp c23
              exact t_ret (by show 0 ≤ ((0 : Int32)).toInt ∧ ((0 : Int32)).toInt ≤ 1; decide)
            · have c23i := mt (iEQ (a := r3) (b := (0 : Int32)) rfl (by decide : (0 : Int32).toInt = 0)).mpr c23
              unfold bX9_isRow_84
              exact t_ret (by show 0 ≤ ((1 : Int32)).toInt ∧ ((1 : Int32)).toInt ≤ 1; decide)
set_option maxRecDepth 100000 in
set_option maxHeartbeats 1000000 in
theorem tfX9_whyPut {I0 : gM} (v1 : Int32) (v2 : Int32) (v3 : Int32) (v4 : Int32) (I : gM) (hM : MI false I0 I) : T (fX9_whyPut v1 v2 v3 v4 I) (fun r => ((-1) ≤ r.toInt ∧ r.toInt ≤ 3)) := by
  unfold fX9_whyPut
  refine t_bindE (tfX9_isTable v1 I hM) (fun r1 er1 pr1 => ?_)
  obtain ⟨br1_0, xr1_0⟩ := (show (0 ≤ r1.toInt ∧ r1.toInt ≤ 1) ∧ (r1.toInt = 0 ∨ (0 ≤ v1.toInt ∧ v1.toInt < (I 62 17).toInt)) from pr1)
  have q1 := hM.at (k := 62) (j := 17) (lo := 0) (hi := 4) rfl
  refine t_ite (fun c2 => ?_) (fun c2 => ?_)
  · have c2i := (iEQ (a := r1) (b := (0 : Int32)) rfl (by decide : (0 : Int32).toInt = 0)).mp c2
    exact t_ret (by show (-1) ≤ ((0 : Int32)).toInt ∧ ((0 : Int32)).toInt ≤ 3; decide)
  · have c2i := mt (iEQ (a := r1) (b := (0 : Int32)) rfl (by decide : (0 : Int32).toInt = 0)).mpr c2
    refine t_bindE (tfX9_isRow v1 v2 v3 v4 I hM (by omega)) (fun r2 er2 pr2 => ?_)
    have br2_0 : (0 ≤ r2.toInt ∧ r2.toInt ≤ 1) := pr2
    refine t_ite (fun c3 => ?_) (fun c3 => ?_)
    · have c3i := (iEQ (a := r2) (b := (0 : Int32)) rfl (by decide : (0 : Int32).toInt = 0)).mp c3
      exact t_ret (by show (-1) ≤ ((1 : Int32)).toInt ∧ ((1 : Int32)).toInt ≤ 3; decide)
    · have c3i := mt (iEQ (a := r2) (b := (0 : Int32)) rfl (by decide : (0 : Int32).toInt = 0)).mpr c3
      refine t_bindE (tfX9_hasRow v1 v2 v3 v4 I hM (by omega)) (fun r3 er3 pr3 => ?_)
      have br3_0 : (0 ≤ r3.toInt ∧ r3.toInt ≤ 1) := pr3
      refine t_ite (fun c4 => ?_) (fun c4 => ?_)
      · have c4i := (iEQ (a := r3) (b := (0 : Int32)) rfl (by decide : (0 : Int32).toInt = 0)).mp c4
        refine t_bindE (tfX9_many v1 I hM (by omega)) (fun r4 er4 pr4 => ?_)
        obtain ⟨br4_0, xr4_0⟩ := (show (0 ≤ r4.toInt ∧ r4.toInt ≤ 12) ∧ (r4.toInt = (I 70 (2 + v1.toInt).toNat).toInt) from pr4)
        refine t_ite (fun c5 => ?_) (fun c5 => ?_)
        · have c5i := (iEQ (a := r4) (b := (12 : Int32)) rfl (by decide : (12 : Int32).toInt = 12)).mp c5
          exact t_ret (by show (-1) ≤ ((3 : Int32)).toInt ∧ ((3 : Int32)).toInt ≤ 3; decide)
        · have c5i := mt (iEQ (a := r4) (b := (12 : Int32)) rfl (by decide : (12 : Int32).toInt = 12)).mpr c5
          exact t_ret (by show (-1) ≤ (((-1) : Int32)).toInt ∧ (((-1) : Int32)).toInt ≤ 3; decide)
      · have c4i := mt (iEQ (a := r3) (b := (0 : Int32)) rfl (by decide : (0 : Int32).toInt = 0)).mpr c4
        exact t_ret (by show (-1) ≤ ((2 : Int32)).toInt ∧ ((2 : Int32)).toInt ≤ 3; decide)
set_option maxRecDepth 100000 in
set_option maxHeartbeats 1000000 in
theorem tfX9_whyTake {I0 : gM} (v1 : Int32) (v2 : Int32) (v3 : Int32) (v4 : Int32) (I : gM) (hM : MI false I0 I) : T (fX9_whyTake v1 v2 v3 v4 I) (fun r => ((-1) ≤ r.toInt ∧ r.toInt ≤ 2)) := by
  unfold fX9_whyTake
  refine t_bindE (tfX9_isTable v1 I hM) (fun r1 er1 pr1 => ?_)
  obtain ⟨br1_0, xr1_0⟩ := (show (0 ≤ r1.toInt ∧ r1.toInt ≤ 1) ∧ (r1.toInt = 0 ∨ (0 ≤ v1.toInt ∧ v1.toInt < (I 62 17).toInt)) from pr1)
  have q1 := hM.at (k := 62) (j := 17) (lo := 0) (hi := 4) rfl
  refine t_ite (fun c2 => ?_) (fun c2 => ?_)
  · have c2i := (iEQ (a := r1) (b := (0 : Int32)) rfl (by decide : (0 : Int32).toInt = 0)).mp c2
    exact t_ret (by show (-1) ≤ ((0 : Int32)).toInt ∧ ((0 : Int32)).toInt ≤ 2; decide)
  · have c2i := mt (iEQ (a := r1) (b := (0 : Int32)) rfl (by decide : (0 : Int32).toInt = 0)).mpr c2
    refine t_bindE (tfX9_isRow v1 v2 v3 v4 I hM (by omega)) (fun r2 er2 pr2 => ?_)
    have br2_0 : (0 ≤ r2.toInt ∧ r2.toInt ≤ 1) := pr2
    refine t_ite (fun c3 => ?_) (fun c3 => ?_)
    · have c3i := (iEQ (a := r2) (b := (0 : Int32)) rfl (by decide : (0 : Int32).toInt = 0)).mp c3
      exact t_ret (by show (-1) ≤ ((1 : Int32)).toInt ∧ ((1 : Int32)).toInt ≤ 2; decide)
    · have c3i := mt (iEQ (a := r2) (b := (0 : Int32)) rfl (by decide : (0 : Int32).toInt = 0)).mpr c3
      refine t_bindE (tfX9_hasRow v1 v2 v3 v4 I hM (by omega)) (fun r3 er3 pr3 => ?_)
      have br3_0 : (0 ≤ r3.toInt ∧ r3.toInt ≤ 1) := pr3
      refine t_ite (fun c4 => ?_) (fun c4 => ?_)
      · have c4i := (iEQ (a := r3) (b := (0 : Int32)) rfl (by decide : (0 : Int32).toInt = 0)).mp c4
        exact t_ret (by show (-1) ≤ ((2 : Int32)).toInt ∧ ((2 : Int32)).toInt ≤ 2; decide)
      · have c4i := mt (iEQ (a := r3) (b := (0 : Int32)) rfl (by decide : (0 : Int32).toInt = 0)).mpr c4
        exact t_ret (by show (-1) ≤ (((-1) : Int32)).toInt ∧ (((-1) : Int32)).toInt ≤ 2; decide)
set_option maxRecDepth 100000 in
set_option maxHeartbeats 1000000 in
theorem tfX9_whyNot {I0 : gM} (v1 : Int32) (v2 : Int32) (v3 : Int32) (v4 : Int32) (v5 : Int32) (I : gM) (hM : MI false I0 I) : T (fX9_whyNot v1 v2 v3 v4 v5 I) (fun r => ((-1) ≤ r.toInt ∧ r.toInt ≤ 3)) := by
  unfold fX9_whyNot
  refine t_ite (fun c1 => ?_) (fun c1 => ?_)
  · have c1i := (iEQ (a := v1) (b := (0 : Int32)) rfl (by decide : (0 : Int32).toInt = 0)).mp c1
    refine t_bindE (tfX9_whyPut v2 v3 v4 v5 I hM) (fun r1 er1 pr1 => ?_)
    have br1_0 : ((-1) ≤ r1.toInt ∧ r1.toInt ≤ 3) := pr1
    exact t_ret (by show (-1) ≤ (r1).toInt ∧ (r1).toInt ≤ 3; omega)
  · have c1i := mt (iEQ (a := v1) (b := (0 : Int32)) rfl (by decide : (0 : Int32).toInt = 0)).mpr c1
    refine t_ite (fun c2 => ?_) (fun c2 => ?_)
    · have c2i := (iEQ (a := v1) (b := (1 : Int32)) rfl (by decide : (1 : Int32).toInt = 1)).mp c2
      refine t_bindE (tfX9_whyTake v2 v3 v4 v5 I hM) (fun r2 er2 pr2 => ?_)
      have br2_0 : ((-1) ≤ r2.toInt ∧ r2.toInt ≤ 2) := pr2
      exact t_ret (by show (-1) ≤ (r2).toInt ∧ (r2).toInt ≤ 3; omega)
    · have c2i := mt (iEQ (a := v1) (b := (1 : Int32)) rfl (by decide : (1 : Int32).toInt = 1)).mpr c2
      refine t_ite (fun c3 => ?_) (fun c3 => ?_)
      · have c3i := (iEQ (a := v1) (b := (2 : Int32)) rfl (by decide : (2 : Int32).toInt = 2)).mp c3
        refine t_bindE (tfX9_isTable v2 I hM) (fun r3 er3 pr3 => ?_)
        obtain ⟨br3_0, xr3_0⟩ := (show (0 ≤ r3.toInt ∧ r3.toInt ≤ 1) ∧ (r3.toInt = 0 ∨ (0 ≤ v2.toInt ∧ v2.toInt < (I 62 17).toInt)) from pr3)
        have q4 := hM.at (k := 62) (j := 17) (lo := 0) (hi := 4) rfl
        refine t_ite (fun c5 => ?_) (fun c5 => ?_)
        · have c5i := (iEQ (a := r3) (b := (0 : Int32)) rfl (by decide : (0 : Int32).toInt = 0)).mp c5
          exact t_ret (by show (-1) ≤ ((0 : Int32)).toInt ∧ ((0 : Int32)).toInt ≤ 3; decide)
        · have c5i := mt (iEQ (a := r3) (b := (0 : Int32)) rfl (by decide : (0 : Int32).toInt = 0)).mpr c5
          refine t_rJ (lo := (-2147483648)) (hi := 2147483647) hM (by decide : (0 : Int32).toInt = 0) (by omega) (by omega) rfl (fun u4 eu4 bu4 => ?_)
          refine t_ite (fun c6 => ?_) (fun c6 => ?_)
          · have c6i := (iEQ (a := u4) (b := (1 : Int32) <<< (v2 &&& 31)) rfl rfl).mp c6
            exact t_ret (by show (-1) ≤ ((2 : Int32)).toInt ∧ ((2 : Int32)).toInt ≤ 3; decide)
          · have c6i := mt (iEQ (a := u4) (b := (1 : Int32) <<< (v2 &&& 31)) rfl rfl).mpr c6
            exact t_ret (by show (-1) ≤ (((-1) : Int32)).toInt ∧ (((-1) : Int32)).toInt ≤ 3; decide)
      · have c3i := mt (iEQ (a := v1) (b := (2 : Int32)) rfl (by decide : (2 : Int32).toInt = 2)).mpr c3
        refine t_bindE (tfX9_areTables I hM) (fun r5 er5 pr5 => ?_)
        have br5_0 : (0 ≤ r5.toInt ∧ r5.toInt ≤ 1) := pr5
        refine t_ite (fun c7 => ?_) (fun c7 => ?_)
        · have c7i := (iEQ (a := r5) (b := (0 : Int32)) rfl (by decide : (0 : Int32).toInt = 0)).mp c7
          exact t_ret (by show (-1) ≤ ((0 : Int32)).toInt ∧ ((0 : Int32)).toInt ≤ 3; decide)
        · have c7i := mt (iEQ (a := r5) (b := (0 : Int32)) rfl (by decide : (0 : Int32).toInt = 0)).mpr c7
          refine t_bindE (tfX9_in v2 (0 : Int32) (23 : Int32)) (fun r6 er6 pr6 => ?_)
          obtain ⟨br6_0, xr6_0⟩ := (show (0 ≤ r6.toInt ∧ r6.toInt ≤ 1) ∧ (r6.toInt = 0 ∨ ((0 : Int32).toInt ≤ v2.toInt ∧ v2.toInt ≤ (23 : Int32).toInt)) from pr6)
          have q8 : (0 : Int32).toInt = 0 := by decide
          have q9 : (23 : Int32).toInt = 23 := by decide
          refine t_ite (fun c10 => ?_) (fun c10 => ?_)
          · have c10i := (iEQ (a := r6) (b := (0 : Int32)) rfl (by decide : (0 : Int32).toInt = 0)).mp c10
            exact t_ret (by show (-1) ≤ ((1 : Int32)).toInt ∧ ((1 : Int32)).toInt ≤ 3; decide)
          · have c10i := mt (iEQ (a := r6) (b := (0 : Int32)) rfl (by decide : (0 : Int32).toInt = 0)).mpr c10
            refine t_rJ (lo := 0) (hi := 23) hM (by decide : (1 : Int32).toInt = 1) (by omega) (by omega) rfl (fun u7 eu7 bu7 => ?_)
            refine t_ite (fun c11 => ?_) (fun c11 => ?_)
            · have c11i := (iEQ (a := u7) (b := v2) rfl rfl).mp c11
              exact t_ret (by show (-1) ≤ ((2 : Int32)).toInt ∧ ((2 : Int32)).toInt ≤ 3; decide)
            · have c11i := mt (iEQ (a := u7) (b := v2) rfl rfl).mpr c11
              exact t_ret (by show (-1) ≤ (((-1) : Int32)).toInt ∧ (((-1) : Int32)).toInt ≤ 3; decide)
set_option maxRecDepth 100000 in
set_option maxHeartbeats 1000000 in
theorem tfX9_rowsNow {I0 : gM} (I : gM) (hM : MI false I0 I) : T (fX9_rowsNow I) (fun r => (0 ≤ r.1.toInt ∧ r.1.toInt ≤ 20736) ∧ MI false I0 r.2) := by
  unfold fX9_rowsNow
  refine t_bindE (tfX9_joinsNow I hM) (fun r1 er1 pr1 => ?_)
  obtain ⟨hr1_0, yr1_0⟩ := (show MI false I0 r1 ∧ (GJ9 r1) from pr1)
  have q1 := hr1_0.at (k := 62) (j := 26) (lo := 0) (hi := 20736) rfl
  exact t_ret ⟨(by show 0 ≤ (r1 62 26).toInt ∧ (r1 62 26).toInt ≤ 20736; omega), hr1_0⟩
set_option maxRecDepth 100000 in
set_option maxHeartbeats 1000000 in
theorem tfX9_status {I0 : gM} (v1 : Int32) (I : gM) (hM : MI false I0 I) : T (fX9_status v1 I) (fun r => True) := by
  unfold fX9_status
  refine t_bindE (tfX9_in v1 (0 : Int32) (3 : Int32)) (fun r1 er1 pr1 => ?_)
  obtain ⟨br1_0, xr1_0⟩ := (show (0 ≤ r1.toInt ∧ r1.toInt ≤ 1) ∧ (r1.toInt = 0 ∨ ((0 : Int32).toInt ≤ v1.toInt ∧ v1.toInt ≤ (3 : Int32).toInt)) from pr1)
  have q1 : (0 : Int32).toInt = 0 := by decide
  have q2 : (3 : Int32).toInt = 3 := by decide
  refine t_ite (fun c3 => ?_) (fun c3 => ?_)
  · have c3i := (iEQ (a := r1) (b := (0 : Int32)) rfl (by decide : (0 : Int32).toInt = 0)).mp c3
    exact t_ret trivial
  · have c3i := mt (iEQ (a := r1) (b := (0 : Int32)) rfl (by decide : (0 : Int32).toInt = 0)).mpr c3
    refine t_rI (lo := (-2147483648)) (hi := 2147483647) hM (fun _ _ => rfl) rfl (by omega) (by omega) (fun u2 eu2 bu2 => ?_)
    exact t_ret trivial
set_option maxRecDepth 100000 in
set_option maxHeartbeats 1000000 in
theorem tlX9_rowsOfAll_4 {I0 : gM} (I : gM) (hM : MI false I0 I) (s : (Int32 × Int32)) (hP : (0 ≤ (s.2).toInt ∧ (s.2).toInt ≤ 2147483647)) : T (lX9_rowsOfAll_4 I s) (fun r : Int32 => True) := by
  unfold lX9_rowsOfAll_4
  refine t_it (P := fun s : (Int32 × Int32) => (0 ≤ (s.2).toInt ∧ (s.2).toInt ≤ 2147483647)) (μ := fun s : (Int32 × Int32) => (2147483648 - s.2.toInt).toNat) (fun s p => ?_) hP
  have b1 : (0 ≤ (s.2).toInt ∧ (s.2).toInt ≤ 2147483647) := p
  have q1 := hM.at (k := 62) (j := 17) (lo := 0) (hi := 4) rfl
  refine t_ite (fun c2 => ?_) (fun c2 => ?_)
  · have c2i := (iLE (a := I 62 17) (b := s.2) rfl rfl).mp c2
    exact t_ret (show True from trivial)
  · have c2i := mt (iLE (a := I 62 17) (b := s.2) rfl rfl).mpr c2
    refine t_bindE (tfX9_many s.2 I hM (by omega)) (fun r1 er1 pr1 => ?_)
    obtain ⟨br1_0, xr1_0⟩ := (show (0 ≤ r1.toInt ∧ r1.toInt ≤ 12) ∧ (r1.toInt = (I 70 (2 + s.2.toInt).toNat).toInt) from pr1)
    have m1 := ((tA rfl (by decide : (1 : Int32).toInt = 1) (by omega) (by omega)) : (s.2 + 1).toInt = (s.2.toInt + 1))
    have mm : (2147483648 - (s.2 + 1).toInt).toNat < (2147483648 - s.2.toInt).toNat := by omega
    have pp : (0 ≤ (s.2 + 1).toInt ∧ (s.2 + 1).toInt ≤ 2147483647) := (by show (0 ≤ (s.2 + 1).toInt ∧ (s.2 + 1).toInt ≤ 2147483647); have q := ((tA rfl (by decide : (1 : Int32).toInt = 1) (by omega) (by omega)) : (s.2 + 1).toInt = (s.2.toInt + 1)); omega)
    exact t_ret ⟨pp, mm⟩
set_option maxRecDepth 100000 in
set_option maxHeartbeats 1000000 in
theorem tfX9_rowsOfAll {I0 : gM} (I : gM) (hM : MI false I0 I) : T (fX9_rowsOfAll I) (fun r => True) := by
  unfold fX9_rowsOfAll
  refine t_bindE (tlX9_rowsOfAll_4 I hM ((0 : Int32), (0 : Int32)) (by show (0 ≤ ((0 : Int32)).toInt ∧ ((0 : Int32)).toInt ≤ 2147483647); decide)) (fun w2 ew2 pw2 => ?_)
  exact t_ret trivial
set_option maxRecDepth 100000 in
set_option maxHeartbeats 1000000 in
theorem tfX9_rule {I0 : gM} (v1 : Int32) (I : gM) (hM : MI false I0 I) : T (fX9_rule v1 I) (fun r => True) := by
  unfold fX9_rule
  refine t_bindE (tfX9_areTables I hM) (fun r1 er1 pr1 => ?_)
  have br1_0 : (0 ≤ r1.toInt ∧ r1.toInt ≤ 1) := pr1
  refine t_ite (fun c1 => ?_) (fun c1 => ?_)
  · have c1i := (iEQ (a := r1) (b := (0 : Int32)) rfl (by decide : (0 : Int32).toInt = 0)).mp c1
    exact t_ret trivial
  · have c1i := mt (iEQ (a := r1) (b := (0 : Int32)) rfl (by decide : (0 : Int32).toInt = 0)).mpr c1
    refine t_bindE (tfX9_in v1 (0 : Int32) (4 : Int32)) (fun r2 er2 pr2 => ?_)
    obtain ⟨br2_0, xr2_0⟩ := (show (0 ≤ r2.toInt ∧ r2.toInt ≤ 1) ∧ (r2.toInt = 0 ∨ ((0 : Int32).toInt ≤ v1.toInt ∧ v1.toInt ≤ (4 : Int32).toInt)) from pr2)
    have q2 : (0 : Int32).toInt = 0 := by decide
    have q3 : (4 : Int32).toInt = 4 := by decide
    refine t_ite (fun c4 => ?_) (fun c4 => ?_)
    · have c4i := (iEQ (a := r2) (b := (0 : Int32)) rfl (by decide : (0 : Int32).toInt = 0)).mp c4
      exact t_ret trivial
    · have c4i := mt (iEQ (a := r2) (b := (0 : Int32)) rfl (by decide : (0 : Int32).toInt = 0)).mpr c4
      refine t_ite (fun c5 => ?_) (fun c5 => ?_)
      · have c5i := (iEQ (a := v1) (b := (0 : Int32)) rfl (by decide : (0 : Int32).toInt = 0)).mp c5
        exact t_ret trivial
      · have c5i := mt (iEQ (a := v1) (b := (0 : Int32)) rfl (by decide : (0 : Int32).toInt = 0)).mpr c5
        refine t_ite (fun c6 => ?_) (fun c6 => ?_)
        · have c6i := (iEQ (a := v1) (b := (1 : Int32)) rfl (by decide : (1 : Int32).toInt = 1)).mp c6
          refine t_rJ (lo := (-2147483648)) (hi := 2147483647) hM (by decide : (0 : Int32).toInt = 0) (by omega) (by omega) rfl (fun u3 eu3 bu3 => ?_)
          exact t_ret trivial
        · have c6i := mt (iEQ (a := v1) (b := (1 : Int32)) rfl (by decide : (1 : Int32).toInt = 1)).mpr c6
          refine t_ite (fun c7 => ?_) (fun c7 => ?_)
          · have c7i := (iEQ (a := v1) (b := (2 : Int32)) rfl (by decide : (2 : Int32).toInt = 2)).mp c7
            refine t_rJ (lo := 0) (hi := 23) hM (by decide : (1 : Int32).toInt = 1) (by omega) (by omega) rfl (fun u4 eu4 bu4 => ?_)
            exact t_ret trivial
          · have c7i := mt (iEQ (a := v1) (b := (2 : Int32)) rfl (by decide : (2 : Int32).toInt = 2)).mpr c7
            refine t_ite (fun c8 => ?_) (fun c8 => ?_)
            · have c8i := (iEQ (a := v1) (b := (3 : Int32)) rfl (by decide : (3 : Int32).toInt = 3)).mp c8
              refine t_bindE (tfX9_asked I hM) (fun r5 er5 pr5 => ?_)
              exact t_ret trivial
            · have c8i := mt (iEQ (a := v1) (b := (3 : Int32)) rfl (by decide : (3 : Int32).toInt = 3)).mpr c8
              refine t_bindE (tfX9_rowsOfAll I hM) (fun r6 er6 pr6 => ?_)
              exact t_ret trivial
set_option maxRecDepth 100000 in
set_option maxHeartbeats 1000000 in
theorem tfX9_table {I0 : gM} (v1 : Int32) (v2 : Int32) (I : gM) (hM : MI false I0 I) : T (fX9_table v1 v2 I) (fun r => MI false I0 r.2) := by
  unfold fX9_table
  refine t_bindE (tfX9_isTable v1 I hM) (fun r1 er1 pr1 => ?_)
  obtain ⟨br1_0, xr1_0⟩ := (show (0 ≤ r1.toInt ∧ r1.toInt ≤ 1) ∧ (r1.toInt = 0 ∨ (0 ≤ v1.toInt ∧ v1.toInt < (I 62 17).toInt)) from pr1)
  have q1 := hM.at (k := 62) (j := 17) (lo := 0) (hi := 4) rfl
  refine t_ite (fun c2 => ?_) (fun c2 => ?_)
  · have c2i := (iEQ (a := r1) (b := (0 : Int32)) rfl (by decide : (0 : Int32).toInt = 0)).mp c2
    unfold bX9_table_22
    unfold bX9_table_23
    refine t_pU (lo := (-2147483648)) (hi := 2147483647) hM rfl rfl (tTop _) (fun I2 eI2 hI2 => ?_)
    have q3 : (I2 62 0).toInt = 1 := by rw [eI2, g_up_self]; exact (by decide : (1 : Int32).toInt = 1)
    refine t_ite (fun c4 => ?_) (fun c4 => ?_)
    · have c4i := (iEQ (a := I2 62 0) (b := (1 : Int32)) rfl (by decide : (1 : Int32).toInt = 1)).mp c4
      exact t_ret hI2
    · have c4i := mt (iEQ (a := I2 62 0) (b := (1 : Int32)) rfl (by decide : (1 : Int32).toInt = 1)).mpr c4
      omega
  · have c2i := mt (iEQ (a := r1) (b := (0 : Int32)) rfl (by decide : (0 : Int32).toInt = 0)).mpr c2
    refine t_bindE (tfX9_in v2 (0 : Int32) (3 : Int32)) (fun r7 er7 pr7 => ?_)
    obtain ⟨br7_0, xr7_0⟩ := (show (0 ≤ r7.toInt ∧ r7.toInt ≤ 1) ∧ (r7.toInt = 0 ∨ ((0 : Int32).toInt ≤ v2.toInt ∧ v2.toInt ≤ (3 : Int32).toInt)) from pr7)
    have q5 : (0 : Int32).toInt = 0 := by decide
    have q6 : (3 : Int32).toInt = 3 := by decide
    refine t_ite (fun c7 => ?_) (fun c7 => ?_)
    · have c7i := (iEQ (a := r7) (b := (0 : Int32)) rfl (by decide : (0 : Int32).toInt = 0)).mp c7
      unfold bX9_table_22
      unfold bX9_table_23
      refine t_pU (lo := (-2147483648)) (hi := 2147483647) hM rfl rfl (tTop _) (fun I2 eI2 hI2 => ?_)
      have q8 : (I2 62 0).toInt = 1 := by rw [eI2, g_up_self]; exact (by decide : (1 : Int32).toInt = 1)
      refine t_ite (fun c9 => ?_) (fun c9 => ?_)
      · have c9i := (iEQ (a := I2 62 0) (b := (1 : Int32)) rfl (by decide : (1 : Int32).toInt = 1)).mp c9
        exact t_ret hI2
      · have c9i := mt (iEQ (a := I2 62 0) (b := (1 : Int32)) rfl (by decide : (1 : Int32).toInt = 1)).mpr c9
        omega
    · have c7i := mt (iEQ (a := r7) (b := (0 : Int32)) rfl (by decide : (0 : Int32).toInt = 0)).mpr c7
      unfold bX9_table_23
      refine t_pU (lo := (-2147483648)) (hi := 2147483647) hM rfl rfl (tTop _) (fun I2 eI2 hI2 => ?_)
      have q10 : (I2 62 0).toInt = 0 := by rw [eI2, g_up_self]; exact (by decide : (0 : Int32).toInt = 0)
      refine t_ite (fun c11 => ?_) (fun c11 => ?_)
      · have c11i := (iEQ (a := I2 62 0) (b := (1 : Int32)) rfl (by decide : (1 : Int32).toInt = 1)).mp c11
        omega
      · have c11i := mt (iEQ (a := I2 62 0) (b := (1 : Int32)) rfl (by decide : (1 : Int32).toInt = 1)).mpr c11
        refine t_ite (fun c12 => ?_) (fun c12 => ?_)
        · have c12i := (iEQ (a := v2) (b := (0 : Int32)) rfl (by decide : (0 : Int32).toInt = 0)).mp c12
          refine t_rI (lo := 0) (hi := 3) hI2 (fun _ _ => rfl) rfl (by omega) (by omega) (fun u3 eu3 bu3 => ?_)
          exact t_ret hI2
        · have c12i := mt (iEQ (a := v2) (b := (0 : Int32)) rfl (by decide : (0 : Int32).toInt = 0)).mpr c12
          refine t_ite (fun c13 => ?_) (fun c13 => ?_)
          · have c13i := (iEQ (a := v2) (b := (1 : Int32)) rfl (by decide : (1 : Int32).toInt = 1)).mp c13
            refine t_bindE (tfX9_lettersOf v1 I2 hI2 (by omega)) (fun r4 er4 pr4 => ?_)
            exact t_ret hI2
          · have c13i := mt (iEQ (a := v2) (b := (1 : Int32)) rfl (by decide : (1 : Int32).toInt = 1)).mpr c13
            refine t_ite (fun c14 => ?_) (fun c14 => ?_)
            · have c14i := (iEQ (a := v2) (b := (2 : Int32)) rfl (by decide : (2 : Int32).toInt = 2)).mp c14
              refine t_bindE (tfX9_many v1 I2 hI2 (by omega)) (fun r5 er5 pr5 => ?_)
              obtain ⟨br5_0, xr5_0⟩ := (show (0 ≤ r5.toInt ∧ r5.toInt ≤ 12) ∧ (r5.toInt = (I2 70 (2 + v1.toInt).toNat).toInt) from pr5)
              exact t_ret hI2
            · have c14i := mt (iEQ (a := v2) (b := (2 : Int32)) rfl (by decide : (2 : Int32).toInt = 2)).mpr c14
              refine t_bindE (tfX9_isUsed v1 I2 hI2) (fun r6 er6 pr6 => ?_)
              have br6_0 : (0 ≤ r6.toInt ∧ r6.toInt ≤ 1) := pr6
              refine t_ite (fun c15 => ?_) (fun c15 => ?_)
              · have c15i := (iEQ (a := r6) (b := (0 : Int32)) rfl (by decide : (0 : Int32).toInt = 0)).mp c15
                exact t_ret hI2
              · have c15i := mt (iEQ (a := r6) (b := (0 : Int32)) rfl (by decide : (0 : Int32).toInt = 0)).mpr c15
                exact t_ret hI2
set_option maxRecDepth 100000 in
set_option maxHeartbeats 1000000 in
theorem tfX9_cell {I0 : gM} (v1 : Int32) (v2 : Int32) (v3 : Int32) (I : gM) (hM : MI false I0 I) : T (fX9_cell v1 v2 v3 I) (fun r => ((-1) ≤ r.toInt ∧ r.toInt ≤ 99)) := by
  unfold fX9_cell
  refine t_bindE (tfX9_isTable v1 I hM) (fun r1 er1 pr1 => ?_)
  obtain ⟨br1_0, xr1_0⟩ := (show (0 ≤ r1.toInt ∧ r1.toInt ≤ 1) ∧ (r1.toInt = 0 ∨ (0 ≤ v1.toInt ∧ v1.toInt < (I 62 17).toInt)) from pr1)
  have q1 := hM.at (k := 62) (j := 17) (lo := 0) (hi := 4) rfl
  refine t_ite (fun c2 => ?_) (fun c2 => ?_)
  · have c2i := (iEQ (a := r1) (b := (0 : Int32)) rfl (by decide : (0 : Int32).toInt = 0)).mp c2
    exact t_ret (by show (-1) ≤ (((-1) : Int32)).toInt ∧ (((-1) : Int32)).toInt ≤ 99; decide)
  · have c2i := mt (iEQ (a := r1) (b := (0 : Int32)) rfl (by decide : (0 : Int32).toInt = 0)).mpr c2
    refine t_bindE (tfX9_many v1 I hM (by omega)) (fun r2 er2 pr2 => ?_)
    obtain ⟨br2_0, xr2_0⟩ := (show (0 ≤ r2.toInt ∧ r2.toInt ≤ 12) ∧ (r2.toInt = (I 70 (2 + v1.toInt).toNat).toInt) from pr2)
    refine t_bindE (tfX9_in v2 (0 : Int32) (r2 - 1)) (fun r3 er3 pr3 => ?_)
    obtain ⟨br3_0, xr3_0⟩ := (show (0 ≤ r3.toInt ∧ r3.toInt ≤ 1) ∧ (r3.toInt = 0 ∨ ((0 : Int32).toInt ≤ v2.toInt ∧ v2.toInt ≤ (r2 - 1).toInt)) from pr3)
    have q3 : (0 : Int32).toInt = 0 := by decide
    have q4 := ((tS rfl (by decide : (1 : Int32).toInt = 1) (by omega) (by omega)) : (r2 - 1).toInt = (r2.toInt - 1))
    refine t_ite (fun c5 => ?_) (fun c5 => ?_)
    · have c5i := (iEQ (a := r3) (b := (0 : Int32)) rfl (by decide : (0 : Int32).toInt = 0)).mp c5
      exact t_ret (by show (-1) ≤ (((-1) : Int32)).toInt ∧ (((-1) : Int32)).toInt ≤ 99; decide)
    · have c5i := mt (iEQ (a := r3) (b := (0 : Int32)) rfl (by decide : (0 : Int32).toInt = 0)).mpr c5
      refine t_rI (lo := 0) (hi := 3) hM (fun _ _ => rfl) rfl (by omega) (by omega) (fun u4 eu4 bu4 => ?_)
      refine t_bindE (tfX9_in v3 (0 : Int32) (u4 - 1)) (fun r5 er5 pr5 => ?_)
      obtain ⟨br5_0, xr5_0⟩ := (show (0 ≤ r5.toInt ∧ r5.toInt ≤ 1) ∧ (r5.toInt = 0 ∨ ((0 : Int32).toInt ≤ v3.toInt ∧ v3.toInt ≤ (u4 - 1).toInt)) from pr5)
      have q6 : (0 : Int32).toInt = 0 := by decide
      have q7 := ((tS rfl (by decide : (1 : Int32).toInt = 1) (by omega) (by omega)) : (u4 - 1).toInt = (u4.toInt - 1))
      refine t_ite (fun c8 => ?_) (fun c8 => ?_)
      · have c8i := (iEQ (a := r5) (b := (0 : Int32)) rfl (by decide : (0 : Int32).toInt = 0)).mp c8
        exact t_ret (by show (-1) ≤ (((-1) : Int32)).toInt ∧ (((-1) : Int32)).toInt ≤ 99; decide)
      · have c8i := mt (iEQ (a := r5) (b := (0 : Int32)) rfl (by decide : (0 : Int32).toInt = 0)).mpr c8
        refine t_bindE (tfX9_rowAt v1 v2 (by omega) (by omega)) (fun r6 er6 pr6 => ?_)
        obtain ⟨br6_0, xr6_0⟩ := (show (3 ≤ r6.toInt ∧ r6.toInt ≤ 150) ∧ (r6.toInt = 6 + 3 * (12 * v1.toInt + v2.toInt)) from pr6)
        refine t_rJ (lo := (-1)) (hi := 99) hM (tA rfl rfl (by omega) (by omega)) (by omega) (by omega) (rgRow (by omega) (by omega)) (fun u7 eu7 bu7 => ?_)
        exact t_ret (by show (-1) ≤ (u7).toInt ∧ (u7).toInt ≤ 99; omega)
set_option maxRecDepth 100000 in
set_option maxHeartbeats 1000000 in
theorem tfX9_rows {I0 : gM} (I : gM) (hM : MI false I0 I) : T (fX9_rows I) (fun r => ((-1) ≤ r.1.toInt ∧ r.1.toInt ≤ 20736) ∧ MI false I0 r.2) := by
  unfold fX9_rows
  refine t_bindE (tfX9_areTables I hM) (fun r1 er1 pr1 => ?_)
  have br1_0 : (0 ≤ r1.toInt ∧ r1.toInt ≤ 1) := pr1
  refine t_ite (fun c1 => ?_) (fun c1 => ?_)
  · have c1i := (iEQ (a := r1) (b := (0 : Int32)) rfl (by decide : (0 : Int32).toInt = 0)).mp c1
    exact t_ret ⟨(by show (-1) ≤ (((-1) : Int32)).toInt ∧ (((-1) : Int32)).toInt ≤ 20736; decide), hM⟩
  · have c1i := mt (iEQ (a := r1) (b := (0 : Int32)) rfl (by decide : (0 : Int32).toInt = 0)).mpr c1
    refine t_bindE (tfX9_rowsNow I hM) (fun r2 er2 pr2 => ?_)
    obtain ⟨br2_0, hr2_1⟩ := (show (0 ≤ r2.1.toInt ∧ r2.1.toInt ≤ 20736) ∧ MI false I0 r2.2 from pr2)
    exact t_ret ⟨(by show (-1) ≤ (r2.1).toInt ∧ (r2.1).toInt ≤ 20736; omega), hr2_1⟩
set_option maxRecDepth 100000 in
set_option maxHeartbeats 1000000 in
theorem tfX9_row {I0 : gM} (v1 : Int32) (v2 : Int32) (I : gM) (hM : MI false I0 I) : T (fX9_row v1 v2 I) (fun r => ((-1) ≤ r.1.toInt ∧ r.1.toInt ≤ 99) ∧ MI false I0 r.2) := by
  unfold fX9_row
  refine t_bindE (tfX9_isAsked v2 I hM) (fun r1 er1 pr1 => ?_)
  obtain ⟨br1_0, xr1_0⟩ := (show (0 ≤ r1.toInt ∧ r1.toInt ≤ 1) ∧ (r1.toInt = 0 ∨ (0 ≤ v2.toInt ∧ v2.toInt ≤ 3)) from pr1)
  refine t_ite (fun c1 => ?_) (fun c1 => ?_)
  · have c1i := (iEQ (a := r1) (b := (0 : Int32)) rfl (by decide : (0 : Int32).toInt = 0)).mp c1
    exact t_ret ⟨(by show (-1) ≤ (((-1) : Int32)).toInt ∧ (((-1) : Int32)).toInt ≤ 99; decide), hM⟩
  · have c1i := mt (iEQ (a := r1) (b := (0 : Int32)) rfl (by decide : (0 : Int32).toInt = 0)).mpr c1
    refine t_ite (fun c2 => ?_) (fun c2 => ?_)
    · have c2i := (iLT (a := v1) (b := (0 : Int32)) rfl (by decide : (0 : Int32).toInt = 0)).mp c2
      exact t_ret ⟨(by show (-1) ≤ (((-1) : Int32)).toInt ∧ (((-1) : Int32)).toInt ≤ 99; decide), hM⟩
    · have c2i := mt (iLT (a := v1) (b := (0 : Int32)) rfl (by decide : (0 : Int32).toInt = 0)).mpr c2
      refine t_bindE (tfX9_rowsNow I hM) (fun r2 er2 pr2 => ?_)
      obtain ⟨br2_0, hr2_1⟩ := (show (0 ≤ r2.1.toInt ∧ r2.1.toInt ≤ 20736) ∧ MI false I0 r2.2 from pr2)
      refine t_ite (fun c3 => ?_) (fun c3 => ?_)
      · have c3i := (iLE (a := r2.1) (b := v1) rfl rfl).mp c3
        exact t_ret ⟨(by show (-1) ≤ (((-1) : Int32)).toInt ∧ (((-1) : Int32)).toInt ≤ 99; decide), hr2_1⟩
      · have c3i := mt (iLE (a := r2.1) (b := v1) rfl rfl).mpr c3
        refine t_bindE (tfX9_numberOf v1 v2 r2.2 hr2_1 (by omega) (by omega)) (fun r3 er3 pr3 => ?_)
        have br3_0 : ((-1) ≤ r3.toInt ∧ r3.toInt ≤ 99) := pr3
        exact t_ret ⟨(by show (-1) ≤ (r3).toInt ∧ (r3).toInt ≤ 99; omega), hr2_1⟩
set_option maxRecDepth 100000 in
set_option maxHeartbeats 1000000 in
theorem tfX9_leaps_ {I0 : gM} (I : gM) (hM : MI false I0 I) : T (fX9_leaps_ I) (fun r => MI false I0 r.2) := by
  unfold fX9_leaps_
  refine t_bindE (tfX9_areTables I hM) (fun r1 er1 pr1 => ?_)
  have br1_0 : (0 ≤ r1.toInt ∧ r1.toInt ≤ 1) := pr1
  refine t_ite (fun c1 => ?_) (fun c1 => ?_)
  · have c1i := (iEQ (a := r1) (b := (0 : Int32)) rfl (by decide : (0 : Int32).toInt = 0)).mp c1
    exact t_ret hM
  · have c1i := mt (iEQ (a := r1) (b := (0 : Int32)) rfl (by decide : (0 : Int32).toInt = 0)).mpr c1
    refine t_bindE (tfX9_joinsNow I hM) (fun r2 er2 pr2 => ?_)
    obtain ⟨hr2_0, yr2_0⟩ := (show MI false I0 r2 ∧ (GJ9 r2) from pr2)
    exact t_ret hr2_0
set_option maxRecDepth 100000 in
set_option maxHeartbeats 1000000 in
theorem tfX9_beginnings {I0 : gM} (v1 : Int32) (I : gM) (hM : MI false I0 I) : T (fX9_beginnings v1 I) (fun r => MI false I0 r.2) := by
  unfold fX9_beginnings
  refine t_bindE (tfX9_areTables I hM) (fun r1 er1 pr1 => ?_)
  have br1_0 : (0 ≤ r1.toInt ∧ r1.toInt ≤ 1) := pr1
  refine t_ite (fun c1 => ?_) (fun c1 => ?_)
  · have c1i := (iEQ (a := r1) (b := (0 : Int32)) rfl (by decide : (0 : Int32).toInt = 0)).mp c1
    exact t_ret hM
  · have c1i := mt (iEQ (a := r1) (b := (0 : Int32)) rfl (by decide : (0 : Int32).toInt = 0)).mpr c1
    refine t_ite (fun c2 => ?_) (fun c2 => ?_)
    · have c2i := (iLE (a := (1 : Int32)) (b := v1) (by decide : (1 : Int32).toInt = 1) rfl).mp c2
      refine t_bindE (tfX9_joinsNow I hM) (fun r2 er2 pr2 => ?_)
      obtain ⟨hr2_0, yr2_0⟩ := (show MI false I0 r2 ∧ (GJ9 r2) from pr2)
      have q3 := hr2_0.at (k := 62) (j := 19) (lo := 0) (hi := 4) rfl
      refine t_ite (fun c4 => ?_) (fun c4 => ?_)
      · have c4i := (iLT (a := r2 62 19) (b := v1) rfl rfl).mp c4
        exact t_ret hr2_0
      · have c4i := mt (iLT (a := r2 62 19) (b := v1) rfl rfl).mpr c4
        refine t_rI (lo := (-2147483648)) (hi := 2147483647) hr2_0 (fun _ _ => rfl) rfl (by omega) (by omega) (fun u3 eu3 bu3 => ?_)
        exact t_ret hr2_0
    · have c2i := mt (iLE (a := (1 : Int32)) (b := v1) (by decide : (1 : Int32).toInt = 1) rfl).mpr c2
      exact t_ret hM
set_option maxRecDepth 100000 in
set_option maxHeartbeats 1000000 in
theorem tlX9_triesOrders_12 {I0 : gM}   (s : (Int32 × gM)) (hP : (0 ≤ (s.1).toInt ∧ (s.1).toInt ≤ 2147483647) ∧ MI false I0 s.2) : T (lX9_triesOrders_12 s) (fun r : gM => MI false I0 r) := by
  unfold lX9_triesOrders_12
  refine t_it (P := fun s : (Int32 × gM) => (0 ≤ (s.1).toInt ∧ (s.1).toInt ≤ 2147483647) ∧ MI false I0 s.2) (μ := fun s : (Int32 × gM) => (2147483648 - s.1.toInt).toNat) (fun s p => ?_) hP
  obtain ⟨b0, hs⟩ := p
  refine t_ite (fun c1 => ?_) (fun c1 => ?_)
  · have c1i := (iLE (a := (24 : Int32)) (b := s.1) (by decide : (24 : Int32).toInt = 24) rfl).mp c1
    exact t_ret (show MI false I0 s.2 from hs)
  · have c1i := mt (iLE (a := (24 : Int32)) (b := s.1) (by decide : (24 : Int32).toInt = 24) rfl).mpr c1
    refine t_bindE (tfX9_joins s.1 s.2 hs (by omega)) (fun r3 er3 pr3 => ?_)
    obtain ⟨hr3_0, yr3_0⟩ := (show MI false I0 r3 ∧ (GJ9 r3) from pr3)
    have q2 : (r3 62 31).toInt = (s.2 62 31).toInt := congrArg Int32.toInt (show r3 62 31 = s.2 62 31 from xfX9_joins s.1 s.2 er3 62 31 (Or.inr (by decide)) (by decide) (Or.inr (by decide)) (Or.inr (by decide)) (by decide) (by decide) (by decide) (by decide) (by decide) (by decide))
    refine t_ite (fun c3 => ?_) (fun c3 => ?_)
    · have c3i := (iEQ (a := r3 62 31) (b := ((-1) : Int32)) rfl (by decide : ((-1) : Int32).toInt = (-1))).mp c3
      unfold bX9_triesOrders_42
      refine t_pU (lo := (-2147483648)) (hi := 2147483647) hr3_0 rfl rfl (tTop _) (fun I4 eI4 hI4 => ?_)
      refine t_pU (lo := (-2147483648)) (hi := 2147483647) hI4 rfl rfl (tTop _) (fun I5 eI5 hI5 => ?_)
      unfold bX9_triesOrders_55
      refine t_pU (lo := (-2147483648)) (hi := 2147483647) hI5 rfl rfl (tTop _) (fun I6 eI6 hI6 => ?_)
      have m0 := ((tA rfl (by decide : (1 : Int32).toInt = 1) (by omega) (by omega)) : (s.1 + 1).toInt = (s.1.toInt + 1))
      have mm : (2147483648 - (s.1 + 1).toInt).toNat < (2147483648 - s.1.toInt).toNat := by omega
      have pp : (0 ≤ (s.1 + 1).toInt ∧ (s.1 + 1).toInt ≤ 2147483647) ∧ MI false I0 I6 := ⟨(by show (0 ≤ (s.1 + 1).toInt ∧ (s.1 + 1).toInt ≤ 2147483647); have q := ((tA rfl (by decide : (1 : Int32).toInt = 1) (by omega) (by omega)) : (s.1 + 1).toInt = (s.1.toInt + 1)); omega), hI6⟩
      exact t_ret ⟨pp, mm⟩
    · have c3i := mt (iEQ (a := r3 62 31) (b := ((-1) : Int32)) rfl (by decide : ((-1) : Int32).toInt = (-1))).mpr c3
      have q4 : (r3 62 32).toInt = (s.2 62 32).toInt := congrArg Int32.toInt (show r3 62 32 = s.2 62 32 from xfX9_joins s.1 s.2 er3 62 32 (Or.inr (by decide)) (by decide) (Or.inr (by decide)) (Or.inr (by decide)) (by decide) (by decide) (by decide) (by decide) (by decide) (by decide))
      refine t_ite (fun c5 => ?_) (fun c5 => ?_)
      · have c5i := (iLE (a := r3 62 32) (b := r3 62 27) rfl rfl).mp c5
        unfold bX9_triesOrders_55
        refine t_pU (lo := (-2147483648)) (hi := 2147483647) hr3_0 rfl rfl (tTop _) (fun I6 eI6 hI6 => ?_)
        have m0 := ((tA rfl (by decide : (1 : Int32).toInt = 1) (by omega) (by omega)) : (s.1 + 1).toInt = (s.1.toInt + 1))
        have mm : (2147483648 - (s.1 + 1).toInt).toNat < (2147483648 - s.1.toInt).toNat := by omega
        have pp : (0 ≤ (s.1 + 1).toInt ∧ (s.1 + 1).toInt ≤ 2147483647) ∧ MI false I0 I6 := ⟨(by show (0 ≤ (s.1 + 1).toInt ∧ (s.1 + 1).toInt ≤ 2147483647); have q := ((tA rfl (by decide : (1 : Int32).toInt = 1) (by omega) (by omega)) : (s.1 + 1).toInt = (s.1.toInt + 1)); omega), hI6⟩
        exact t_ret ⟨pp, mm⟩
      · have c5i := mt (iLE (a := r3 62 32) (b := r3 62 27) rfl rfl).mpr c5
        unfold bX9_triesOrders_42
        refine t_pU (lo := (-2147483648)) (hi := 2147483647) hr3_0 rfl rfl (tTop _) (fun I4 eI4 hI4 => ?_)
        refine t_pU (lo := (-2147483648)) (hi := 2147483647) hI4 rfl rfl (tTop _) (fun I5 eI5 hI5 => ?_)
        unfold bX9_triesOrders_55
        refine t_pU (lo := (-2147483648)) (hi := 2147483647) hI5 rfl rfl (tTop _) (fun I6 eI6 hI6 => ?_)
        have m0 := ((tA rfl (by decide : (1 : Int32).toInt = 1) (by omega) (by omega)) : (s.1 + 1).toInt = (s.1.toInt + 1))
        have mm : (2147483648 - (s.1 + 1).toInt).toNat < (2147483648 - s.1.toInt).toNat := by omega
        have pp : (0 ≤ (s.1 + 1).toInt ∧ (s.1 + 1).toInt ≤ 2147483647) ∧ MI false I0 I6 := ⟨(by show (0 ≤ (s.1 + 1).toInt ∧ (s.1 + 1).toInt ≤ 2147483647); have q := ((tA rfl (by decide : (1 : Int32).toInt = 1) (by omega) (by omega)) : (s.1 + 1).toInt = (s.1.toInt + 1)); omega), hI6⟩
        exact t_ret ⟨pp, mm⟩
set_option maxRecDepth 100000 in
set_option maxHeartbeats 1000000 in
theorem tfX9_triesOrders {I0 : gM} (I : gM) (hM : MI false I0 I) : T (fX9_triesOrders I) (fun r => MI false I0 r) := by
  unfold fX9_triesOrders
  refine t_pU (lo := (-2147483648)) (hi := 2147483647) hM rfl rfl (tTop _) (fun I1 eI1 hI1 => ?_)
  refine t_pU (lo := (-2147483648)) (hi := 2147483647) hI1 rfl rfl (tTop _) (fun I2 eI2 hI2 => ?_)
  refine t_bindE (tlX9_triesOrders_12 ((0 : Int32), I2) ⟨(by show (0 ≤ ((0 : Int32)).toInt ∧ ((0 : Int32)).toInt ≤ 2147483647); decide), hI2⟩) (fun w7 ew7 pw7 => ?_)
  have hw7_0 : MI false I0 w7 := pw7
  exact t_ret hw7_0
set_option maxRecDepth 100000 in
set_option maxHeartbeats 1000000 in
theorem tfX9_best {I0 : gM} (v1 : Int32) (I : gM) (hM : MI false I0 I) : T (fX9_best v1 I) (fun r => MI false I0 r.2) := by
  unfold fX9_best
  refine t_bindE (tfX9_areTables I hM) (fun r1 er1 pr1 => ?_)
  have br1_0 : (0 ≤ r1.toInt ∧ r1.toInt ≤ 1) := pr1
  refine t_ite (fun c1 => ?_) (fun c1 => ?_)
  · have c1i := (iEQ (a := r1) (b := (0 : Int32)) rfl (by decide : (0 : Int32).toInt = 0)).mp c1
    exact t_ret hM
  · have c1i := mt (iEQ (a := r1) (b := (0 : Int32)) rfl (by decide : (0 : Int32).toInt = 0)).mpr c1
    refine t_bindE (tfX9_in v1 (0 : Int32) (1 : Int32)) (fun r2 er2 pr2 => ?_)
    obtain ⟨br2_0, xr2_0⟩ := (show (0 ≤ r2.toInt ∧ r2.toInt ≤ 1) ∧ (r2.toInt = 0 ∨ ((0 : Int32).toInt ≤ v1.toInt ∧ v1.toInt ≤ (1 : Int32).toInt)) from pr2)
    have q2 : (0 : Int32).toInt = 0 := by decide
    have q3 : (1 : Int32).toInt = 1 := by decide
    refine t_ite (fun c4 => ?_) (fun c4 => ?_)
    · have c4i := (iEQ (a := r2) (b := (0 : Int32)) rfl (by decide : (0 : Int32).toInt = 0)).mp c4
      exact t_ret hM
    · have c4i := mt (iEQ (a := r2) (b := (0 : Int32)) rfl (by decide : (0 : Int32).toInt = 0)).mpr c4
      refine t_bindE (tfX9_triesOrders I hM) (fun r3 er3 pr3 => ?_)
      have hr3_0 : MI false I0 r3 := pr3
      refine t_ite (fun c5 => ?_) (fun c5 => ?_)
      · have c5i := (iEQ (a := v1) (b := (0 : Int32)) rfl (by decide : (0 : Int32).toInt = 0)).mp c5
        exact t_ret hr3_0
      · have c5i := mt (iEQ (a := v1) (b := (0 : Int32)) rfl (by decide : (0 : Int32).toInt = 0)).mpr c5
        exact t_ret hr3_0
set_option maxRecDepth 100000 in
set_option maxHeartbeats 1000000 in
theorem tlX9_plain_13 {I0 : gM} (I : gM) (hM : MI false I0 I) (s : (Int32 × Int32)) (hP : (0 ≤ (s.2).toInt ∧ (s.2).toInt ≤ 2147483647)) : T (lX9_plain_13 I s) (fun r : Int32 => True) := by
  unfold lX9_plain_13
  refine t_it (P := fun s : (Int32 × Int32) => (0 ≤ (s.2).toInt ∧ (s.2).toInt ≤ 2147483647)) (μ := fun s : (Int32 × Int32) => (2147483648 - s.2.toInt).toNat) (fun s p => ?_) hP
  have b1 : (0 ≤ (s.2).toInt ∧ (s.2).toInt ≤ 2147483647) := p
  have q1 := hM.at (k := 62) (j := 17) (lo := 0) (hi := 4) rfl
  refine t_ite (fun c2 => ?_) (fun c2 => ?_)
  · have c2i := (iLE (a := I 62 17) (b := s.2) rfl rfl).mp c2
    exact t_ret (show True from trivial)
  · have c2i := mt (iLE (a := I 62 17) (b := s.2) rfl rfl).mpr c2
    refine t_bindE (tfX9_isUsed s.2 I hM) (fun r2 er2 pr2 => ?_)
    have br2_0 : (0 ≤ r2.toInt ∧ r2.toInt ≤ 1) := pr2
    refine t_ite (fun c3 => ?_) (fun c3 => ?_)
    · have c3i := (iEQ (a := r2) (b := (0 : Int32)) rfl (by decide : (0 : Int32).toInt = 0)).mp c3
      unfold bX9_plain_39
      have m1 := ((tA rfl (by decide : (1 : Int32).toInt = 1) (by omega) (by omega)) : (s.2 + 1).toInt = (s.2.toInt + 1))
      have mm : (2147483648 - (s.2 + 1).toInt).toNat < (2147483648 - s.2.toInt).toNat := by omega
      have pp : (0 ≤ (s.2 + 1).toInt ∧ (s.2 + 1).toInt ≤ 2147483647) := (by show (0 ≤ (s.2 + 1).toInt ∧ (s.2 + 1).toInt ≤ 2147483647); have q := ((tA rfl (by decide : (1 : Int32).toInt = 1) (by omega) (by omega)) : (s.2 + 1).toInt = (s.2.toInt + 1)); omega)
      exact t_ret ⟨pp, mm⟩
    · have c3i := mt (iEQ (a := r2) (b := (0 : Int32)) rfl (by decide : (0 : Int32).toInt = 0)).mpr c3
      refine t_bindE (tfX9_many s.2 I hM (by omega)) (fun r3 er3 pr3 => ?_)
      obtain ⟨br3_0, xr3_0⟩ := (show (0 ≤ r3.toInt ∧ r3.toInt ≤ 12) ∧ (r3.toInt = (I 70 (2 + s.2.toInt).toNat).toInt) from pr3)
      unfold bX9_plain_39
      have m1 := ((tA rfl (by decide : (1 : Int32).toInt = 1) (by omega) (by omega)) : (s.2 + 1).toInt = (s.2.toInt + 1))
      have mm : (2147483648 - (s.2 + 1).toInt).toNat < (2147483648 - s.2.toInt).toNat := by omega
      have pp : (0 ≤ (s.2 + 1).toInt ∧ (s.2 + 1).toInt ≤ 2147483647) := (by show (0 ≤ (s.2 + 1).toInt ∧ (s.2 + 1).toInt ≤ 2147483647); have q := ((tA rfl (by decide : (1 : Int32).toInt = 1) (by omega) (by omega)) : (s.2 + 1).toInt = (s.2.toInt + 1)); omega)
      exact t_ret ⟨pp, mm⟩
set_option maxRecDepth 100000 in
set_option maxHeartbeats 1000000 in
theorem tfX9_plain {I0 : gM} (I : gM) (hM : MI false I0 I) : T (fX9_plain I) (fun r => True) := by
  unfold fX9_plain
  refine t_bindE (tfX9_areTables I hM) (fun r1 er1 pr1 => ?_)
  have br1_0 : (0 ≤ r1.toInt ∧ r1.toInt ≤ 1) := pr1
  refine t_ite (fun c1 => ?_) (fun c1 => ?_)
  · have c1i := (iEQ (a := r1) (b := (0 : Int32)) rfl (by decide : (0 : Int32).toInt = 0)).mp c1
    exact t_ret trivial
  · have c1i := mt (iEQ (a := r1) (b := (0 : Int32)) rfl (by decide : (0 : Int32).toInt = 0)).mpr c1
    refine t_bindE (tlX9_plain_13 I hM ((1 : Int32), (0 : Int32)) (by show (0 ≤ ((0 : Int32)).toInt ∧ ((0 : Int32)).toInt ≤ 2147483647); decide)) (fun w4 ew4 pw4 => ?_)
    exact t_ret trivial
set_option maxRecDepth 100000 in
set_option maxHeartbeats 1000000 in
theorem tlX9_isOf_6 {I0 : gM} (v1 : Int32) (v2 : Int32) (v3 : Int32) (I : gM) (hM : MI false I0 I) (av1 : 0 ≤ v1.toInt ∧ v1.toInt ≤ 20735) (av2 : 0 ≤ v2.toInt ∧ v2.toInt ≤ 3) (av3 : 0 ≤ v3.toInt ∧ v3.toInt ≤ 11) (s : (Int32 × Int32)) (hP : (0 ≤ (s.1).toInt ∧ (s.1).toInt ≤ 1) ∧ (0 ≤ (s.2).toInt ∧ (s.2).toInt ≤ 3)) : T (lX9_isOf_6 v1 v2 v3 I s) (fun r : Int32 => (0 ≤ r.toInt ∧ r.toInt ≤ 1)) := by
  unfold lX9_isOf_6
  refine t_it (P := fun s : (Int32 × Int32) => (0 ≤ (s.1).toInt ∧ (s.1).toInt ≤ 1) ∧ (0 ≤ (s.2).toInt ∧ (s.2).toInt ≤ 3)) (μ := fun s : (Int32 × Int32) => (4 - s.2.toInt).toNat) (fun s p => ?_) hP
  obtain ⟨b0, b1⟩ := p
  refine t_rI (lo := 0) (hi := 3) hM (fun _ _ => rfl) rfl (by omega) (by omega) (fun u1 eu1 bu1 => ?_)
  refine t_ite (fun c1 => ?_) (fun c1 => ?_)
  · have c1i := (iLE (a := u1) (b := s.2) rfl rfl).mp c1
    exact t_ret (show (0 ≤ (s.1).toInt ∧ (s.1).toInt ≤ 1) from (by omega))
  · have c1i := mt (iLE (a := u1) (b := s.2) rfl rfl).mpr c1
    refine t_ite (fun c2 => ?_) (fun c2 => ?_)
    · have c2i := (iEQ (a := s.1) (b := (0 : Int32)) rfl (by decide : (0 : Int32).toInt = 0)).mp c2
      unfold bX9_isOf_58
      unfold bX9_isOf_59
      have m0 : (0 : Int32).toInt = 0 := (by decide)
      have m1 := ((tA rfl (by decide : (1 : Int32).toInt = 1) (by omega) (by omega)) : (s.2 + 1).toInt = (s.2.toInt + 1))
      have mm : (4 - (s.2 + 1).toInt).toNat < (4 - s.2.toInt).toNat := by omega
      have pp : (0 ≤ ((0 : Int32)).toInt ∧ ((0 : Int32)).toInt ≤ 1) ∧ (0 ≤ (s.2 + 1).toInt ∧ (s.2 + 1).toInt ≤ 3) := ⟨(by show (0 ≤ ((0 : Int32)).toInt ∧ ((0 : Int32)).toInt ≤ 1); decide), (by show (0 ≤ (s.2 + 1).toInt ∧ (s.2 + 1).toInt ≤ 3); have q := ((tA rfl (by decide : (1 : Int32).toInt = 1) (by omega) (by omega)) : (s.2 + 1).toInt = (s.2.toInt + 1)); omega)⟩
      exact t_ret ⟨pp, mm⟩
    · have c2i := mt (iEQ (a := s.1) (b := (0 : Int32)) rfl (by decide : (0 : Int32).toInt = 0)).mpr c2
      refine t_rI (lo := 0) (hi := 3) hM (fun _ _ => rfl) (tA (tM (by decide : (3 : Int32).toInt = 3) rfl (by omega) (by omega)) rfl (by omega) (by omega)) (by omega) (by omega) (fun u2 eu2 bu2 => ?_)
      refine t_bindE (tfX9_numberOf v1 u2 I hM (by omega) (by omega)) (fun r3 er3 pr3 => ?_)
      have br3_0 : ((-1) ≤ r3.toInt ∧ r3.toInt ≤ 99) := pr3
      refine t_bindE (tfX9_rowAt v2 v3 (by omega) (by omega)) (fun r4 er4 pr4 => ?_)
      obtain ⟨br4_0, xr4_0⟩ := (show (3 ≤ r4.toInt ∧ r4.toInt ≤ 150) ∧ (r4.toInt = 6 + 3 * (12 * v2.toInt + v3.toInt)) from pr4)
      refine t_rJ (lo := (-1)) (hi := 99) hM (tA rfl rfl (by omega) (by omega)) (by omega) (by omega) (rgRow (by omega) (by omega)) (fun u5 eu5 bu5 => ?_)
      refine t_ite (fun c3 => ?_) (fun c3 => ?_)
      · have c3i := (iEQ (a := r3) (b := u5) rfl rfl).mp c3
        unfold bX9_isOf_59
        have m0 : (1 : Int32).toInt = 1 := (by decide)
        have m1 := ((tA rfl (by decide : (1 : Int32).toInt = 1) (by omega) (by omega)) : (s.2 + 1).toInt = (s.2.toInt + 1))
        have mm : (4 - (s.2 + 1).toInt).toNat < (4 - s.2.toInt).toNat := by omega
        have pp : (0 ≤ ((1 : Int32)).toInt ∧ ((1 : Int32)).toInt ≤ 1) ∧ (0 ≤ (s.2 + 1).toInt ∧ (s.2 + 1).toInt ≤ 3) := ⟨(by show (0 ≤ ((1 : Int32)).toInt ∧ ((1 : Int32)).toInt ≤ 1); decide), (by show (0 ≤ (s.2 + 1).toInt ∧ (s.2 + 1).toInt ≤ 3); have q := ((tA rfl (by decide : (1 : Int32).toInt = 1) (by omega) (by omega)) : (s.2 + 1).toInt = (s.2.toInt + 1)); omega)⟩
        exact t_ret ⟨pp, mm⟩
      · have c3i := mt (iEQ (a := r3) (b := u5) rfl rfl).mpr c3
        unfold bX9_isOf_58
        unfold bX9_isOf_59
        have m0 : (0 : Int32).toInt = 0 := (by decide)
        have m1 := ((tA rfl (by decide : (1 : Int32).toInt = 1) (by omega) (by omega)) : (s.2 + 1).toInt = (s.2.toInt + 1))
        have mm : (4 - (s.2 + 1).toInt).toNat < (4 - s.2.toInt).toNat := by omega
        have pp : (0 ≤ ((0 : Int32)).toInt ∧ ((0 : Int32)).toInt ≤ 1) ∧ (0 ≤ (s.2 + 1).toInt ∧ (s.2 + 1).toInt ≤ 3) := ⟨(by show (0 ≤ ((0 : Int32)).toInt ∧ ((0 : Int32)).toInt ≤ 1); decide), (by show (0 ≤ (s.2 + 1).toInt ∧ (s.2 + 1).toInt ≤ 3); have q := ((tA rfl (by decide : (1 : Int32).toInt = 1) (by omega) (by omega)) : (s.2 + 1).toInt = (s.2.toInt + 1)); omega)⟩
        exact t_ret ⟨pp, mm⟩
set_option maxRecDepth 100000 in
set_option maxHeartbeats 1000000 in
theorem tfX9_isOf {I0 : gM} (v1 : Int32) (v2 : Int32) (v3 : Int32) (I : gM) (hM : MI false I0 I) (av1 : 0 ≤ v1.toInt ∧ v1.toInt ≤ 20735) (av2 : 0 ≤ v2.toInt ∧ v2.toInt ≤ 3) (av3 : 0 ≤ v3.toInt ∧ v3.toInt ≤ 11) : T (fX9_isOf v1 v2 v3 I) (fun r => (0 ≤ r.toInt ∧ r.toInt ≤ 1)) := by
  unfold fX9_isOf
  refine t_bindE (tlX9_isOf_6 v1 v2 v3 I hM (by omega) (by omega) (by omega) ((1 : Int32), (0 : Int32)) ⟨(by show (0 ≤ ((1 : Int32)).toInt ∧ ((1 : Int32)).toInt ≤ 1); decide), (by show (0 ≤ ((0 : Int32)).toInt ∧ ((0 : Int32)).toInt ≤ 3); decide)⟩) (fun w6 ew6 pw6 => ?_)
  have bw6_0 : (0 ≤ w6.toInt ∧ w6.toInt ≤ 1) := pw6
  refine t_bO (by omega) ?_
  exact t_ret (by show 0 ≤ (w6).toInt ∧ (w6).toInt ≤ 1; omega)
set_option maxRecDepth 100000 in
set_option maxHeartbeats 1000000 in
theorem tlX9_givenBy_24 {I0 : gM} (v1 : Int32) (v3 : Int32) (I : gM) (hM : MI false I0 I) (av1 : 0 ≤ v1.toInt ∧ v1.toInt ≤ 3) (av3 : 0 ≤ v3.toInt ∧ v3.toInt ≤ 11) (s : (Int32 × Int32)) (hP : (0 ≤ (s.2).toInt ∧ (s.2).toInt ≤ 2147483647)) : T (lX9_givenBy_24 v1 v3 I s) (fun r : Int32 => True) := by
  unfold lX9_givenBy_24
  refine t_it (P := fun s : (Int32 × Int32) => (0 ≤ (s.2).toInt ∧ (s.2).toInt ≤ 2147483647)) (μ := fun s : (Int32 × Int32) => (2147483648 - s.2.toInt).toNat) (fun s p => ?_) hP
  have b1 : (0 ≤ (s.2).toInt ∧ (s.2).toInt ≤ 2147483647) := p
  have q1 := hM.at (k := 62) (j := 26) (lo := 0) (hi := 20736) rfl
  refine t_ite (fun c2 => ?_) (fun c2 => ?_)
  · have c2i := (iLE (a := I 62 26) (b := s.2) rfl rfl).mp c2
    exact t_ret (show True from trivial)
  · have c2i := mt (iLE (a := I 62 26) (b := s.2) rfl rfl).mpr c2
    refine t_bindE (tfX9_has s.1 v3) (fun r3 er3 pr3 => ?_)
    have br3_0 : (0 ≤ r3.toInt ∧ r3.toInt ≤ 1) := pr3
    refine t_ite (fun c3 => ?_) (fun c3 => ?_)
    · have c3i := (iEQ (a := r3) (b := (0 : Int32)) rfl (by decide : (0 : Int32).toInt = 0)).mp c3
      refine t_bindE (tfX9_isOf s.2 v1 v3 I hM (by omega) (by omega) (by omega)) (fun r4 er4 pr4 => ?_)
      have br4_0 : (0 ≤ r4.toInt ∧ r4.toInt ≤ 1) := pr4
      refine t_ite (fun c4 => ?_) (fun c4 => ?_)
      · have c4i := (iEQ (a := r4) (b := (0 : Int32)) rfl (by decide : (0 : Int32).toInt = 0)).mp c4
        unfold bX9_givenBy_60
        have m1 := ((tA rfl (by decide : (1 : Int32).toInt = 1) (by omega) (by omega)) : (s.2 + 1).toInt = (s.2.toInt + 1))
        have mm : (2147483648 - (s.2 + 1).toInt).toNat < (2147483648 - s.2.toInt).toNat := by omega
        have pp : (0 ≤ (s.2 + 1).toInt ∧ (s.2 + 1).toInt ≤ 2147483647) := (by show (0 ≤ (s.2 + 1).toInt ∧ (s.2 + 1).toInt ≤ 2147483647); have q := ((tA rfl (by decide : (1 : Int32).toInt = 1) (by omega) (by omega)) : (s.2 + 1).toInt = (s.2.toInt + 1)); omega)
        exact t_ret ⟨pp, mm⟩
      · have c4i := mt (iEQ (a := r4) (b := (0 : Int32)) rfl (by decide : (0 : Int32).toInt = 0)).mpr c4
        unfold bX9_givenBy_60
        have m1 := ((tA rfl (by decide : (1 : Int32).toInt = 1) (by omega) (by omega)) : (s.2 + 1).toInt = (s.2.toInt + 1))
        have mm : (2147483648 - (s.2 + 1).toInt).toNat < (2147483648 - s.2.toInt).toNat := by omega
        have pp : (0 ≤ (s.2 + 1).toInt ∧ (s.2 + 1).toInt ≤ 2147483647) := (by show (0 ≤ (s.2 + 1).toInt ∧ (s.2 + 1).toInt ≤ 2147483647); have q := ((tA rfl (by decide : (1 : Int32).toInt = 1) (by omega) (by omega)) : (s.2 + 1).toInt = (s.2.toInt + 1)); omega)
        exact t_ret ⟨pp, mm⟩
    · have c3i := mt (iEQ (a := r3) (b := (0 : Int32)) rfl (by decide : (0 : Int32).toInt = 0)).mpr c3
      exact t_ret (show True from trivial)
set_option maxRecDepth 100000 in
set_option maxHeartbeats 1000000 in
theorem tlX9_givenBy_4 {I0 : gM} (v1 : Int32) (I : gM) (hM : MI false I0 I) (av1 : 0 ≤ v1.toInt ∧ v1.toInt ≤ 3) (s : (Int32 × Int32)) (hP : (0 ≤ (s.2).toInt ∧ (s.2).toInt ≤ 2147483647)) : T (lX9_givenBy_4 v1 I s) (fun r : Int32 => True) := by
  unfold lX9_givenBy_4
  refine t_it (P := fun s : (Int32 × Int32) => (0 ≤ (s.2).toInt ∧ (s.2).toInt ≤ 2147483647)) (μ := fun s : (Int32 × Int32) => (2147483648 - s.2.toInt).toNat) (fun s p => ?_) hP
  have b1 : (0 ≤ (s.2).toInt ∧ (s.2).toInt ≤ 2147483647) := p
  refine t_bindE (tfX9_many v1 I hM (by omega)) (fun r1 er1 pr1 => ?_)
  obtain ⟨br1_0, xr1_0⟩ := (show (0 ≤ r1.toInt ∧ r1.toInt ≤ 12) ∧ (r1.toInt = (I 70 (2 + v1.toInt).toNat).toInt) from pr1)
  refine t_ite (fun c1 => ?_) (fun c1 => ?_)
  · have c1i := (iLE (a := r1) (b := s.2) rfl rfl).mp c1
    exact t_ret (show True from trivial)
  · have c1i := mt (iLE (a := r1) (b := s.2) rfl rfl).mpr c1
    refine t_bindE (tfX9_isUsed v1 I hM) (fun r2 er2 pr2 => ?_)
    have br2_0 : (0 ≤ r2.toInt ∧ r2.toInt ≤ 1) := pr2
    refine t_ite (fun c2 => ?_) (fun c2 => ?_)
    · have c2i := (iEQ (a := r2) (b := (0 : Int32)) rfl (by decide : (0 : Int32).toInt = 0)).mp c2
      exact t_ret (show True from trivial)
    · have c2i := mt (iEQ (a := r2) (b := (0 : Int32)) rfl (by decide : (0 : Int32).toInt = 0)).mpr c2
      refine t_bindE (tlX9_givenBy_24 v1 s.2 I hM (by omega) (by omega) (s.1, (0 : Int32)) (by show (0 ≤ ((0 : Int32)).toInt ∧ ((0 : Int32)).toInt ≤ 2147483647); decide)) (fun w5 ew5 pw5 => ?_)
      unfold bX9_givenBy_68
      have m1 := ((tA rfl (by decide : (1 : Int32).toInt = 1) (by omega) (by omega)) : (s.2 + 1).toInt = (s.2.toInt + 1))
      have mm : (2147483648 - (s.2 + 1).toInt).toNat < (2147483648 - s.2.toInt).toNat := by omega
      have pp : (0 ≤ (s.2 + 1).toInt ∧ (s.2 + 1).toInt ≤ 2147483647) := (by show (0 ≤ (s.2 + 1).toInt ∧ (s.2 + 1).toInt ≤ 2147483647); have q := ((tA rfl (by decide : (1 : Int32).toInt = 1) (by omega) (by omega)) : (s.2 + 1).toInt = (s.2.toInt + 1)); omega)
      exact t_ret ⟨pp, mm⟩
set_option maxRecDepth 100000 in
set_option maxHeartbeats 1000000 in
theorem tfX9_givenBy {I0 : gM} (v1 : Int32) (I : gM) (hM : MI false I0 I) (av1 : 0 ≤ v1.toInt ∧ v1.toInt ≤ 3) : T (fX9_givenBy v1 I) (fun r => True) := by
  unfold fX9_givenBy
  refine t_bindE (tlX9_givenBy_4 v1 I hM (by omega) ((0 : Int32), (0 : Int32)) (by show (0 ≤ ((0 : Int32)).toInt ∧ ((0 : Int32)).toInt ≤ 2147483647); decide)) (fun w6 ew6 pw6 => ?_)
  exact t_ret trivial
set_option maxRecDepth 100000 in
set_option maxHeartbeats 1000000 in
theorem tfX9_given {I0 : gM} (v1 : Int32) (I : gM) (hM : MI false I0 I) : T (fX9_given v1 I) (fun r => MI false I0 r.2) := by
  unfold fX9_given
  refine t_bindE (tfX9_isTable v1 I hM) (fun r1 er1 pr1 => ?_)
  obtain ⟨br1_0, xr1_0⟩ := (show (0 ≤ r1.toInt ∧ r1.toInt ≤ 1) ∧ (r1.toInt = 0 ∨ (0 ≤ v1.toInt ∧ v1.toInt < (I 62 17).toInt)) from pr1)
  have q1 := hM.at (k := 62) (j := 17) (lo := 0) (hi := 4) rfl
  refine t_ite (fun c2 => ?_) (fun c2 => ?_)
  · have c2i := (iEQ (a := r1) (b := (0 : Int32)) rfl (by decide : (0 : Int32).toInt = 0)).mp c2
    exact t_ret hM
  · have c2i := mt (iEQ (a := r1) (b := (0 : Int32)) rfl (by decide : (0 : Int32).toInt = 0)).mpr c2
    refine t_bindE (tfX9_joinsNow I hM) (fun r2 er2 pr2 => ?_)
    obtain ⟨hr2_0, yr2_0⟩ := (show MI false I0 r2 ∧ (GJ9 r2) from pr2)
    refine t_bindE (tfX9_givenBy v1 r2 hr2_0 (by omega)) (fun r3 er3 pr3 => ?_)
    exact t_ret hr2_0
set_option maxRecDepth 100000 in
set_option maxHeartbeats 1000000 in
theorem tfX9_without {I0 : gM} (v1 : Int32) (I : gM) (hM : MI false I0 I) : T (fX9_without v1 I) (fun r => ((-1) ≤ r.1.toInt ∧ r.1.toInt ≤ 20736) ∧ MI false I0 r.2) := by
  unfold fX9_without
  refine t_bindE (tfX9_isTable v1 I hM) (fun r1 er1 pr1 => ?_)
  obtain ⟨br1_0, xr1_0⟩ := (show (0 ≤ r1.toInt ∧ r1.toInt ≤ 1) ∧ (r1.toInt = 0 ∨ (0 ≤ v1.toInt ∧ v1.toInt < (I 62 17).toInt)) from pr1)
  have q1 := hM.at (k := 62) (j := 17) (lo := 0) (hi := 4) rfl
  refine t_ite (fun c2 => ?_) (fun c2 => ?_)
  · have c2i := (iEQ (a := r1) (b := (0 : Int32)) rfl (by decide : (0 : Int32).toInt = 0)).mp c2
    exact t_ret ⟨(by show (-1) ≤ (((-1) : Int32)).toInt ∧ (((-1) : Int32)).toInt ≤ 20736; decide), hM⟩
  · have c2i := mt (iEQ (a := r1) (b := (0 : Int32)) rfl (by decide : (0 : Int32).toInt = 0)).mpr c2
    refine t_rJ (lo := (-2147483648)) (hi := 2147483647) hM (by decide : (0 : Int32).toInt = 0) (by omega) (by omega) rfl (fun u2 eu2 bu2 => ?_)
    refine t_ite (fun c3 => ?_) (fun c3 => ?_)
    · have c3i := (iEQ (a := u2) (b := (1 : Int32) <<< (v1 &&& 31)) rfl rfl).mp c3
      exact t_ret ⟨(by show (-1) ≤ (((-1) : Int32)).toInt ∧ (((-1) : Int32)).toInt ≤ 20736; decide), hM⟩
    · have c3i := mt (iEQ (a := u2) (b := (1 : Int32) <<< (v1 &&& 31)) rfl rfl).mpr c3
      refine t_rJ (lo := (-2147483648)) (hi := 2147483647) hM (by decide : (0 : Int32).toInt = 0) (by omega) (by omega) rfl (fun u3 eu3 bu3 => ?_)
      refine t_rJ (lo := (-2147483648)) (hi := 2147483647) hM (by decide : (0 : Int32).toInt = 0) (by omega) (by omega) rfl (fun u4 eu4 bu4 => ?_)
      refine t_wJ (lo := (-2147483648)) (hi := 2147483647) hM rfl (by decide : (0 : Int32).toInt = 0) (by omega) (by omega) rfl (tTop _) (fun I5 eI5 hI5 => ?_)
      refine t_bindE (tfX9_rowsNow I5 hI5) (fun r6 er6 pr6 => ?_)
      obtain ⟨br6_0, hr6_1⟩ := (show (0 ≤ r6.1.toInt ∧ r6.1.toInt ≤ 20736) ∧ MI false I0 r6.2 from pr6)
      refine t_wJ (lo := (-2147483648)) (hi := 2147483647) hr6_1 rfl (by decide : (0 : Int32).toInt = 0) (by omega) (by omega) rfl (tTop _) (fun I7 eI7 hI7 => ?_)
      exact t_ret ⟨(by show (-1) ≤ (r6.1).toInt ∧ (r6.1).toInt ≤ 20736; omega), hI7⟩
