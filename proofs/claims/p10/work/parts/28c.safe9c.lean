set_option maxRecDepth 100000 in
set_option maxHeartbeats 1000000 in
theorem tfX9_times {I0 : gM} (v1 : Int32) (v2 : Int32) (I : gM) (hM : MI false I0 I) : T (fX9_times v1 v2 I) (fun r => MI false I0 r.2) := by
  unfold fX9_times
  refine t_bindE (tfX9_isAsked v1 I hM) (fun r1 er1 pr1 => ?_)
  obtain ⟨br1_0, xr1_0⟩ := (show (0 ≤ r1.toInt ∧ r1.toInt ≤ 1) ∧ (r1.toInt = 0 ∨ (0 ≤ v1.toInt ∧ v1.toInt ≤ 3)) from pr1)
  refine t_ite (fun c1 => ?_) (fun c1 => ?_)
  · have c1i := (iEQ (a := r1) (b := (0 : Int32)) rfl (by decide : (0 : Int32).toInt = 0)).mp c1
    exact t_ret hM
  · have c1i := mt (iEQ (a := r1) (b := (0 : Int32)) rfl (by decide : (0 : Int32).toInt = 0)).mpr c1
    refine t_bindE (tfX9_counts I hM) (fun r2 er2 pr2 => ?_)
    obtain ⟨hr2_0, yr2_0⟩ := (show MI false I0 r2 ∧ (GJ9 r2 ∧ CT9 r2) from pr2)
    refine t_bindE (tfX9_in v2 (0 : Int32) (99 : Int32)) (fun r3 er3 pr3 => ?_)
    obtain ⟨br3_0, xr3_0⟩ := (show (0 ≤ r3.toInt ∧ r3.toInt ≤ 1) ∧ (r3.toInt = 0 ∨ ((0 : Int32).toInt ≤ v2.toInt ∧ v2.toInt ≤ (99 : Int32).toInt)) from pr3)
    have q2 : (0 : Int32).toInt = 0 := by decide
    have q3 : (99 : Int32).toInt = 99 := by decide
    refine t_ite (fun c4 => ?_) (fun c4 => ?_)
    · have c4i := (iEQ (a := r3) (b := (0 : Int32)) rfl (by decide : (0 : Int32).toInt = 0)).mp c4
      exact t_ret hr2_0
    · have c4i := mt (iEQ (a := r3) (b := (0 : Int32)) rfl (by decide : (0 : Int32).toInt = 0)).mpr c4
      refine t_rI (lo := (-2147483648)) (hi := 2147483647) hr2_0 (fun _ _ => rfl) (tA (tM (by decide : (100 : Int32).toInt = 100) rfl (by omega) (by omega)) rfl (by omega) (by omega)) (by omega) (by omega) (fun u4 eu4 bu4 => ?_)
      exact t_ret hr2_0
set_option maxRecDepth 100000 in
set_option maxHeartbeats 1000000 in
theorem tlX9_extremeOf_5 {I0 : gM} (v1 : Int32) (v2 : Int32) (I : gM) (hM : MI false I0 I) (av1 : 0 ≤ v1.toInt ∧ v1.toInt ≤ 3) (s : (Int32 × Int32)) (hP : ((-1) ≤ (s.1).toInt ∧ (s.1).toInt ≤ 99) ∧ (0 ≤ (s.2).toInt ∧ (s.2).toInt ≤ 100)) : T (lX9_extremeOf_5 v1 v2 I s) (fun r : Int32 => ((-1) ≤ r.toInt ∧ r.toInt ≤ 99)) := by
  unfold lX9_extremeOf_5
  refine t_it (P := fun s : (Int32 × Int32) => ((-1) ≤ (s.1).toInt ∧ (s.1).toInt ≤ 99) ∧ (0 ≤ (s.2).toInt ∧ (s.2).toInt ≤ 100)) (μ := fun s : (Int32 × Int32) => (101 - s.2.toInt).toNat) (fun s p => ?_) hP
  obtain ⟨b0, b1⟩ := p
  refine t_ite (fun c1 => ?_) (fun c1 => ?_)
  · have c1i := (iLE (a := (100 : Int32)) (b := s.2) (by decide : (100 : Int32).toInt = 100) rfl).mp c1
    exact t_ret (show ((-1) ≤ (s.1).toInt ∧ (s.1).toInt ≤ 99) from (by omega))
  · have c1i := mt (iLE (a := (100 : Int32)) (b := s.2) (by decide : (100 : Int32).toInt = 100) rfl).mpr c1
    refine t_rI (lo := (-2147483648)) (hi := 2147483647) hM (fun _ _ => rfl) (tA (tM (by decide : (100 : Int32).toInt = 100) rfl (by omega) (by omega)) rfl (by omega) (by omega)) (by omega) (by omega) (fun u1 eu1 bu1 => ?_)
    refine t_ite (fun c2 => ?_) (fun c2 => ?_)
    · have c2i := (iLE (a := u1) (b := (0 : Int32)) rfl (by decide : (0 : Int32).toInt = 0)).mp c2
      unfold bX9_extremeOf_66
      unfold bX9_extremeOf_67
      refine t_ite (fun c3 => ?_) (fun c3 => ?_)
      · have c3i := (iEQ (a := (0 : Int32)) (b := (0 : Int32)) (by decide : (0 : Int32).toInt = 0) (by decide : (0 : Int32).toInt = 0)).mp c3
        unfold bX9_extremeOf_80
        have m1 := ((tA rfl (by decide : (1 : Int32).toInt = 1) (by omega) (by omega)) : (s.2 + 1).toInt = (s.2.toInt + 1))
        have mm : (101 - (s.2 + 1).toInt).toNat < (101 - s.2.toInt).toNat := by omega
        have pp : ((-1) ≤ (s.1).toInt ∧ (s.1).toInt ≤ 99) ∧ (0 ≤ (s.2 + 1).toInt ∧ (s.2 + 1).toInt ≤ 100) := ⟨(by show ((-1) ≤ (s.1).toInt ∧ (s.1).toInt ≤ 99); omega), (by show (0 ≤ (s.2 + 1).toInt ∧ (s.2 + 1).toInt ≤ 100); have q := ((tA rfl (by decide : (1 : Int32).toInt = 1) (by omega) (by omega)) : (s.2 + 1).toInt = (s.2.toInt + 1)); omega)⟩
        exact t_ret ⟨pp, mm⟩
      · have c3i := mt (iEQ (a := (0 : Int32)) (b := (0 : Int32)) (by decide : (0 : Int32).toInt = 0) (by decide : (0 : Int32).toInt = 0)).mpr c3
        omega
    · have c2i := mt (iLE (a := u1) (b := (0 : Int32)) rfl (by decide : (0 : Int32).toInt = 0)).mpr c2
      refine t_ite (fun c4 => ?_) (fun c4 => ?_)
      · have c4i := (iEQ (a := s.1) (b := ((-1) : Int32)) rfl (by decide : ((-1) : Int32).toInt = (-1))).mp c4
        unfold bX9_extremeOf_62
        unfold bX9_extremeOf_67
        refine t_ite (fun c5 => ?_) (fun c5 => ?_)
        · have c5i := (iEQ (a := (1 : Int32)) (b := (0 : Int32)) (by decide : (1 : Int32).toInt = 1) (by decide : (0 : Int32).toInt = 0)).mp c5
          omega
        · have c5i := mt (iEQ (a := (1 : Int32)) (b := (0 : Int32)) (by decide : (1 : Int32).toInt = 1) (by decide : (0 : Int32).toInt = 0)).mpr c5
          unfold bX9_extremeOf_80
          have m1 := ((tA rfl (by decide : (1 : Int32).toInt = 1) (by omega) (by omega)) : (s.2 + 1).toInt = (s.2.toInt + 1))
          have mm : (101 - (s.2 + 1).toInt).toNat < (101 - s.2.toInt).toNat := by omega
          have pp : ((-1) ≤ (s.2).toInt ∧ (s.2).toInt ≤ 99) ∧ (0 ≤ (s.2 + 1).toInt ∧ (s.2 + 1).toInt ≤ 100) := ⟨(by show ((-1) ≤ (s.2).toInt ∧ (s.2).toInt ≤ 99); omega), (by show (0 ≤ (s.2 + 1).toInt ∧ (s.2 + 1).toInt ≤ 100); have q := ((tA rfl (by decide : (1 : Int32).toInt = 1) (by omega) (by omega)) : (s.2 + 1).toInt = (s.2.toInt + 1)); omega)⟩
          exact t_ret ⟨pp, mm⟩
      · have c4i := mt (iEQ (a := s.1) (b := ((-1) : Int32)) rfl (by decide : ((-1) : Int32).toInt = (-1))).mpr c4
        refine t_ite (fun c6 => ?_) (fun c6 => ?_)
        · have c6i := (iEQ (a := v2) (b := (2 : Int32)) rfl (by decide : (2 : Int32).toInt = 2)).mp c6
          unfold bX9_extremeOf_62
          unfold bX9_extremeOf_67
          refine t_ite (fun c7 => ?_) (fun c7 => ?_)
          · have c7i := (iEQ (a := (1 : Int32)) (b := (0 : Int32)) (by decide : (1 : Int32).toInt = 1) (by decide : (0 : Int32).toInt = 0)).mp c7
            omega
          · have c7i := mt (iEQ (a := (1 : Int32)) (b := (0 : Int32)) (by decide : (1 : Int32).toInt = 1) (by decide : (0 : Int32).toInt = 0)).mpr c7
            unfold bX9_extremeOf_80
            have m1 := ((tA rfl (by decide : (1 : Int32).toInt = 1) (by omega) (by omega)) : (s.2 + 1).toInt = (s.2.toInt + 1))
            have mm : (101 - (s.2 + 1).toInt).toNat < (101 - s.2.toInt).toNat := by omega
            have pp : ((-1) ≤ (s.2).toInt ∧ (s.2).toInt ≤ 99) ∧ (0 ≤ (s.2 + 1).toInt ∧ (s.2 + 1).toInt ≤ 100) := ⟨(by show ((-1) ≤ (s.2).toInt ∧ (s.2).toInt ≤ 99); omega), (by show (0 ≤ (s.2 + 1).toInt ∧ (s.2 + 1).toInt ≤ 100); have q := ((tA rfl (by decide : (1 : Int32).toInt = 1) (by omega) (by omega)) : (s.2 + 1).toInt = (s.2.toInt + 1)); omega)⟩
            exact t_ret ⟨pp, mm⟩
        · have c6i := mt (iEQ (a := v2) (b := (2 : Int32)) rfl (by decide : (2 : Int32).toInt = 2)).mpr c6
          refine t_ite (fun c8 => ?_) (fun c8 => ?_)
          · have c8i := (iEQ (a := v2) (b := (3 : Int32)) rfl (by decide : (3 : Int32).toInt = 3)).mp c8
            refine t_rI (lo := (-2147483648)) (hi := 2147483647) hM (fun _ _ => rfl) (tA (tM (by decide : (100 : Int32).toInt = 100) rfl (by omega) (by omega)) rfl (by omega) (by omega)) (by omega) (by omega) (fun u2 eu2 bu2 => ?_)
            refine t_ite (fun c9 => ?_) (fun c9 => ?_)
            · have c9i := (iLE (a := u1) (b := u2) rfl rfl).mp c9
              unfold bX9_extremeOf_66
              unfold bX9_extremeOf_67
              refine t_ite (fun c10 => ?_) (fun c10 => ?_)
              · have c10i := (iEQ (a := (0 : Int32)) (b := (0 : Int32)) (by decide : (0 : Int32).toInt = 0) (by decide : (0 : Int32).toInt = 0)).mp c10
                unfold bX9_extremeOf_80
                have m1 := ((tA rfl (by decide : (1 : Int32).toInt = 1) (by omega) (by omega)) : (s.2 + 1).toInt = (s.2.toInt + 1))
                have mm : (101 - (s.2 + 1).toInt).toNat < (101 - s.2.toInt).toNat := by omega
                have pp : ((-1) ≤ (s.1).toInt ∧ (s.1).toInt ≤ 99) ∧ (0 ≤ (s.2 + 1).toInt ∧ (s.2 + 1).toInt ≤ 100) := ⟨(by show ((-1) ≤ (s.1).toInt ∧ (s.1).toInt ≤ 99); omega), (by show (0 ≤ (s.2 + 1).toInt ∧ (s.2 + 1).toInt ≤ 100); have q := ((tA rfl (by decide : (1 : Int32).toInt = 1) (by omega) (by omega)) : (s.2 + 1).toInt = (s.2.toInt + 1)); omega)⟩
                exact t_ret ⟨pp, mm⟩
              · have c10i := mt (iEQ (a := (0 : Int32)) (b := (0 : Int32)) (by decide : (0 : Int32).toInt = 0) (by decide : (0 : Int32).toInt = 0)).mpr c10
                omega
            · have c9i := mt (iLE (a := u1) (b := u2) rfl rfl).mpr c9
              unfold bX9_extremeOf_62
              unfold bX9_extremeOf_67
              refine t_ite (fun c11 => ?_) (fun c11 => ?_)
              · have c11i := (iEQ (a := (1 : Int32)) (b := (0 : Int32)) (by decide : (1 : Int32).toInt = 1) (by decide : (0 : Int32).toInt = 0)).mp c11
                omega
              · have c11i := mt (iEQ (a := (1 : Int32)) (b := (0 : Int32)) (by decide : (1 : Int32).toInt = 1) (by decide : (0 : Int32).toInt = 0)).mpr c11
                unfold bX9_extremeOf_80
                have m1 := ((tA rfl (by decide : (1 : Int32).toInt = 1) (by omega) (by omega)) : (s.2 + 1).toInt = (s.2.toInt + 1))
                have mm : (101 - (s.2 + 1).toInt).toNat < (101 - s.2.toInt).toNat := by omega
                have pp : ((-1) ≤ (s.2).toInt ∧ (s.2).toInt ≤ 99) ∧ (0 ≤ (s.2 + 1).toInt ∧ (s.2 + 1).toInt ≤ 100) := ⟨(by show ((-1) ≤ (s.2).toInt ∧ (s.2).toInt ≤ 99); omega), (by show (0 ≤ (s.2 + 1).toInt ∧ (s.2 + 1).toInt ≤ 100); have q := ((tA rfl (by decide : (1 : Int32).toInt = 1) (by omega) (by omega)) : (s.2 + 1).toInt = (s.2.toInt + 1)); omega)⟩
                exact t_ret ⟨pp, mm⟩
          · have c8i := mt (iEQ (a := v2) (b := (3 : Int32)) rfl (by decide : (3 : Int32).toInt = 3)).mpr c8
            unfold bX9_extremeOf_66
            unfold bX9_extremeOf_67
            refine t_ite (fun c12 => ?_) (fun c12 => ?_)
            · have c12i := (iEQ (a := (0 : Int32)) (b := (0 : Int32)) (by decide : (0 : Int32).toInt = 0) (by decide : (0 : Int32).toInt = 0)).mp c12
              unfold bX9_extremeOf_80
              have m1 := ((tA rfl (by decide : (1 : Int32).toInt = 1) (by omega) (by omega)) : (s.2 + 1).toInt = (s.2.toInt + 1))
              have mm : (101 - (s.2 + 1).toInt).toNat < (101 - s.2.toInt).toNat := by omega
              have pp : ((-1) ≤ (s.1).toInt ∧ (s.1).toInt ≤ 99) ∧ (0 ≤ (s.2 + 1).toInt ∧ (s.2 + 1).toInt ≤ 100) := ⟨(by show ((-1) ≤ (s.1).toInt ∧ (s.1).toInt ≤ 99); omega), (by show (0 ≤ (s.2 + 1).toInt ∧ (s.2 + 1).toInt ≤ 100); have q := ((tA rfl (by decide : (1 : Int32).toInt = 1) (by omega) (by omega)) : (s.2 + 1).toInt = (s.2.toInt + 1)); omega)⟩
              exact t_ret ⟨pp, mm⟩
            · have c12i := mt (iEQ (a := (0 : Int32)) (b := (0 : Int32)) (by decide : (0 : Int32).toInt = 0) (by decide : (0 : Int32).toInt = 0)).mpr c12
              omega
set_option maxRecDepth 100000 in
set_option maxHeartbeats 1000000 in
theorem tfX9_extremeOf {I0 : gM} (v1 : Int32) (v2 : Int32) (I : gM) (hM : MI false I0 I) (av1 : 0 ≤ v1.toInt ∧ v1.toInt ≤ 3) : T (fX9_extremeOf v1 v2 I) (fun r => ((-1) ≤ r.toInt ∧ r.toInt ≤ 99)) := by
  unfold fX9_extremeOf
  refine t_bindE (tlX9_extremeOf_5 v1 v2 I hM (by omega) (((-1) : Int32), (0 : Int32)) ⟨(by show ((-1) ≤ (((-1) : Int32)).toInt ∧ (((-1) : Int32)).toInt ≤ 99); decide), (by show (0 ≤ ((0 : Int32)).toInt ∧ ((0 : Int32)).toInt ≤ 100); decide)⟩) (fun w3 ew3 pw3 => ?_)
  have bw3_0 : ((-1) ≤ w3.toInt ∧ w3.toInt ≤ 99) := pw3
  exact t_ret (by show (-1) ≤ (w3).toInt ∧ (w3).toInt ≤ 99; omega)
set_option maxRecDepth 100000 in
set_option maxHeartbeats 1000000 in
theorem tfX9_distinct {I0 : gM} (v1 : Int32) (v2 : Int32) (I : gM) (hM : MI false I0 I) : T (fX9_distinct v1 v2 I) (fun r => ((-1) ≤ r.1.toInt ∧ r.1.toInt ≤ 100) ∧ MI false I0 r.2) := by
  unfold fX9_distinct
  refine t_bindE (tfX9_isAsked v1 I hM) (fun r1 er1 pr1 => ?_)
  obtain ⟨br1_0, xr1_0⟩ := (show (0 ≤ r1.toInt ∧ r1.toInt ≤ 1) ∧ (r1.toInt = 0 ∨ (0 ≤ v1.toInt ∧ v1.toInt ≤ 3)) from pr1)
  refine t_ite (fun c1 => ?_) (fun c1 => ?_)
  · have c1i := (iEQ (a := r1) (b := (0 : Int32)) rfl (by decide : (0 : Int32).toInt = 0)).mp c1
    exact t_ret ⟨(by show (-1) ≤ (((-1) : Int32)).toInt ∧ (((-1) : Int32)).toInt ≤ 100; decide), hM⟩
  · have c1i := mt (iEQ (a := r1) (b := (0 : Int32)) rfl (by decide : (0 : Int32).toInt = 0)).mpr c1
    refine t_bindE (tfX9_in v2 (0 : Int32) (3 : Int32)) (fun r2 er2 pr2 => ?_)
    obtain ⟨br2_0, xr2_0⟩ := (show (0 ≤ r2.toInt ∧ r2.toInt ≤ 1) ∧ (r2.toInt = 0 ∨ ((0 : Int32).toInt ≤ v2.toInt ∧ v2.toInt ≤ (3 : Int32).toInt)) from pr2)
    have q2 : (0 : Int32).toInt = 0 := by decide
    have q3 : (3 : Int32).toInt = 3 := by decide
    refine t_ite (fun c4 => ?_) (fun c4 => ?_)
    · have c4i := (iEQ (a := r2) (b := (0 : Int32)) rfl (by decide : (0 : Int32).toInt = 0)).mp c4
      exact t_ret ⟨(by show (-1) ≤ (((-1) : Int32)).toInt ∧ (((-1) : Int32)).toInt ≤ 100; decide), hM⟩
    · have c4i := mt (iEQ (a := r2) (b := (0 : Int32)) rfl (by decide : (0 : Int32).toInt = 0)).mpr c4
      refine t_bindE (tfX9_counts I hM) (fun r3 er3 pr3 => ?_)
      obtain ⟨hr3_0, yr3_0⟩ := (show MI false I0 r3 ∧ (GJ9 r3 ∧ CT9 r3) from pr3)
      refine t_ite (fun c5 => ?_) (fun c5 => ?_)
      · have c5i := (iEQ (a := v2) (b := (0 : Int32)) rfl (by decide : (0 : Int32).toInt = 0)).mp c5
        refine t_rI (lo := 0) (hi := 100) hr3_0 (fun _ _ => rfl) rfl (by omega) (by omega) (fun u4 eu4 bu4 => ?_)
        exact t_ret ⟨(by show (-1) ≤ (u4).toInt ∧ (u4).toInt ≤ 100; omega), hr3_0⟩
      · have c5i := mt (iEQ (a := v2) (b := (0 : Int32)) rfl (by decide : (0 : Int32).toInt = 0)).mpr c5
        refine t_bindE (tfX9_extremeOf v1 v2 r3 hr3_0 (by omega)) (fun r5 er5 pr5 => ?_)
        have br5_0 : ((-1) ≤ r5.toInt ∧ r5.toInt ≤ 99) := pr5
        exact t_ret ⟨(by show (-1) ≤ (r5).toInt ∧ (r5).toInt ≤ 100; omega), hr3_0⟩
set_option maxRecDepth 100000 in
set_option maxHeartbeats 1000000 in
theorem tfX9_takesFour {I0 : gM} (v1 : Int32) (v2 : Int32) (v3 : Int32) (v4 : Int32) (I : gM) (hM : MI false I0 I) : T (fX9_takesFour v1 v2 v3 v4 I) (fun r => MI false I0 r) := by
  unfold fX9_takesFour
  refine t_wI (lo := (-2147483648)) (hi := 2147483647) hM rfl (fun _ _ => rfl) (by decide : (0 : Int32).toInt = 0) (by omega) (by omega) (tTop _) (fun I1 eI1 hI1 => ?_)
  refine t_wI (lo := (-2147483648)) (hi := 2147483647) hI1 rfl (fun _ _ => rfl) (by decide : (1 : Int32).toInt = 1) (by omega) (by omega) (tTop _) (fun I2 eI2 hI2 => ?_)
  refine t_wI (lo := (-2147483648)) (hi := 2147483647) hI2 rfl (fun _ _ => rfl) (by decide : (2 : Int32).toInt = 2) (by omega) (by omega) (tTop _) (fun I3 eI3 hI3 => ?_)
  refine t_wI (lo := (-2147483648)) (hi := 2147483647) hI3 rfl (fun _ _ => rfl) (by decide : (3 : Int32).toInt = 3) (by omega) (by omega) (tTop _) (fun I4 eI4 hI4 => ?_)
  exact t_ret hI4
set_option maxRecDepth 100000 in
set_option maxHeartbeats 1000000 in
theorem tlX9_comparesFour_2 {I0 : gM} (v1 : Int32) (I : gM) (hM : MI false I0 I) (av1 : 0 ≤ v1.toInt ∧ v1.toInt ≤ 20735) (s : Int32) (hP : (0 ≤ (s).toInt ∧ (s).toInt ≤ 2147483647)) : T (lX9_comparesFour_2 v1 I s) (Sum.elim (fun r : Int32 => (0 ≤ r.toInt ∧ r.toInt ≤ 3)) (fun r : Unit => True)) := by
  unfold lX9_comparesFour_2
  refine t_it (P := fun s : Int32 => (0 ≤ (s).toInt ∧ (s).toInt ≤ 2147483647)) (μ := fun s : Int32 => (2147483648 - s.toInt).toNat) (fun s p => ?_) hP
  have b0 : (0 ≤ (s).toInt ∧ (s).toInt ≤ 2147483647) := p
  have q1 := hM.at (k := 62) (j := 19) (lo := 0) (hi := 4) rfl
  refine t_ite (fun c2 => ?_) (fun c2 => ?_)
  · have c2i := (iLE (a := I 62 19) (b := s) rfl rfl).mp c2
    exact t_ret (show True from trivial)
  · have c2i := mt (iLE (a := I 62 19) (b := s) rfl rfl).mpr c2
    refine t_rI (lo := 0) (hi := 3) hM (fun _ _ => rfl) rfl (by omega) (by omega) (fun u1 eu1 bu1 => ?_)
    refine t_bindE (tfX9_numberOf v1 u1 I hM (by omega) (by omega)) (fun r2 er2 pr2 => ?_)
    have br2_0 : ((-1) ≤ r2.toInt ∧ r2.toInt ≤ 99) := pr2
    refine t_rI (lo := (-2147483648)) (hi := 2147483647) hM (fun _ _ => rfl) rfl (by omega) (by omega) (fun u3 eu3 bu3 => ?_)
    refine t_ite (fun c3 => ?_) (fun c3 => ?_)
    · have c3i := (iEQ (a := r2) (b := u3) rfl rfl).mp c3
      have m0 := ((tA rfl (by decide : (1 : Int32).toInt = 1) (by omega) (by omega)) : (s + 1).toInt = (s.toInt + 1))
      have mm : (2147483648 - (s + 1).toInt).toNat < (2147483648 - s.toInt).toNat := by omega
      have pp : (0 ≤ ((s + 1)).toInt ∧ ((s + 1)).toInt ≤ 2147483647) := (by show (0 ≤ ((s + 1)).toInt ∧ ((s + 1)).toInt ≤ 2147483647); have q := ((tA rfl (by decide : (1 : Int32).toInt = 1) (by omega) (by omega)) : (s + 1).toInt = (s.toInt + 1)); omega)
      exact t_ret ⟨pp, mm⟩
    · have c3i := mt (iEQ (a := r2) (b := u3) rfl rfl).mpr c3
      exact t_ret (show (0 ≤ (u1).toInt ∧ (u1).toInt ≤ 3) from (by omega))
set_option maxRecDepth 100000 in
set_option maxHeartbeats 1000000 in
theorem tfX9_comparesFour {I0 : gM} (v1 : Int32) (I : gM) (hM : MI false I0 I) (av1 : 0 ≤ v1.toInt ∧ v1.toInt ≤ 20735) : T (fX9_comparesFour v1 I) (fun r => ((-1) ≤ r.toInt ∧ r.toInt ≤ 1)) := by
  unfold fX9_comparesFour
  refine t_bindE (tlX9_comparesFour_2 v1 I hM (by omega) (0 : Int32) (by show (0 ≤ ((0 : Int32)).toInt ∧ ((0 : Int32)).toInt ≤ 2147483647); decide)) (fun w4 ew4 pw4 => ?_)
  rcases w4 with w4_0 | w4_1
  · refine t_el ?_
    have bw4_0_0 : (0 ≤ w4_0.toInt ∧ w4_0.toInt ≤ 3) := pw4
    refine t_bindE (tfX9_numberOf v1 w4_0 I hM (by omega) (by omega)) (fun r5 er5 pr5 => ?_)
    have br5_0 : ((-1) ≤ r5.toInt ∧ r5.toInt ≤ 99) := pr5
    refine t_rI (lo := (-2147483648)) (hi := 2147483647) hM (fun _ _ => rfl) rfl (by omega) (by omega) (fun u6 eu6 bu6 => ?_)
    refine t_ite (fun c1 => ?_) (fun c1 => ?_)
    · have c1i := (iLE (a := u6) (b := r5) rfl rfl).mp c1
      exact t_ret (by show (-1) ≤ ((1 : Int32)).toInt ∧ ((1 : Int32)).toInt ≤ 1; decide)
    · have c1i := mt (iLE (a := u6) (b := r5) rfl rfl).mpr c1
      exact t_ret (by show (-1) ≤ (((-1) : Int32)).toInt ∧ (((-1) : Int32)).toInt ≤ 1; decide)
  · refine t_er ?_
    exact t_ret (by show (-1) ≤ ((0 : Int32)).toInt ∧ ((0 : Int32)).toInt ≤ 1; decide)
set_option maxRecDepth 100000 in
set_option maxHeartbeats 1000000 in
theorem tlX9_behind_25 {I0 : gM} (I : gM) (hM : MI false I0 I) (s : Int32) (hP : (0 ≤ (s).toInt ∧ (s).toInt ≤ 2147483647)) : T (lX9_behind_25 I s) (Sum.elim (fun r : Int32 => True) (fun r : Unit => True)) := by
  unfold lX9_behind_25
  refine t_it (P := fun s : Int32 => (0 ≤ (s).toInt ∧ (s).toInt ≤ 2147483647)) (μ := fun s : Int32 => (2147483648 - s.toInt).toNat) (fun s p => ?_) hP
  have b0 : (0 ≤ (s).toInt ∧ (s).toInt ≤ 2147483647) := p
  have q1 := hM.at (k := 62) (j := 26) (lo := 0) (hi := 20736) rfl
  refine t_ite (fun c2 => ?_) (fun c2 => ?_)
  · have c2i := (iLE (a := I 62 26) (b := s) rfl rfl).mp c2
    exact t_ret (show True from trivial)
  · have c2i := mt (iLE (a := I 62 26) (b := s) rfl rfl).mpr c2
    refine t_bindE (tfX9_comparesFour s I hM (by omega)) (fun r4 er4 pr4 => ?_)
    have br4_0 : ((-1) ≤ r4.toInt ∧ r4.toInt ≤ 1) := pr4
    refine t_ite (fun c3 => ?_) (fun c3 => ?_)
    · have c3i := (iLE (a := r4) (b := (0 : Int32)) rfl (by decide : (0 : Int32).toInt = 0)).mp c3
      have m0 := ((tA rfl (by decide : (1 : Int32).toInt = 1) (by omega) (by omega)) : (s + 1).toInt = (s.toInt + 1))
      have mm : (2147483648 - (s + 1).toInt).toNat < (2147483648 - s.toInt).toNat := by omega
      have pp : (0 ≤ ((s + 1)).toInt ∧ ((s + 1)).toInt ≤ 2147483647) := (by show (0 ≤ ((s + 1)).toInt ∧ ((s + 1)).toInt ≤ 2147483647); have q := ((tA rfl (by decide : (1 : Int32).toInt = 1) (by omega) (by omega)) : (s + 1).toInt = (s.toInt + 1)); omega)
      exact t_ret ⟨pp, mm⟩
    · have c3i := mt (iLE (a := r4) (b := (0 : Int32)) rfl (by decide : (0 : Int32).toInt = 0)).mpr c3
      exact t_ret (show True from trivial)
set_option maxRecDepth 100000 in
set_option maxHeartbeats 1000000 in
theorem tfX9_behind {I0 : gM} (v1 : Int32) (v2 : Int32) (v3 : Int32) (v4 : Int32) (I : gM) (hM : MI false I0 I) : T (fX9_behind v1 v2 v3 v4 I) (fun r => MI false I0 r.2) := by
  unfold fX9_behind
  refine t_bindE (tfX9_areTables I hM) (fun r1 er1 pr1 => ?_)
  have br1_0 : (0 ≤ r1.toInt ∧ r1.toInt ≤ 1) := pr1
  refine t_ite (fun c1 => ?_) (fun c1 => ?_)
  · have c1i := (iEQ (a := r1) (b := (0 : Int32)) rfl (by decide : (0 : Int32).toInt = 0)).mp c1
    exact t_ret hM
  · have c1i := mt (iEQ (a := r1) (b := (0 : Int32)) rfl (by decide : (0 : Int32).toInt = 0)).mpr c1
    refine t_bindE (tfX9_takesFour v1 v2 v3 v4 I hM) (fun r2 er2 pr2 => ?_)
    have hr2_0 : MI false I0 r2 := pr2
    refine t_bindE (tfX9_joinsNow r2 hr2_0) (fun r3 er3 pr3 => ?_)
    obtain ⟨hr3_0, yr3_0⟩ := (show MI false I0 r3 ∧ (GJ9 r3) from pr3)
    refine t_bindE (tlX9_behind_25 r3 hr3_0 (0 : Int32) (by show (0 ≤ ((0 : Int32)).toInt ∧ ((0 : Int32)).toInt ≤ 2147483647); decide)) (fun w5 ew5 pw5 => ?_)
    rcases w5 with w5_0 | w5_1
    · refine t_el ?_
      exact t_ret hr3_0
    · refine t_er ?_
      exact t_ret hr3_0
set_option maxRecDepth 100000 in
set_option maxHeartbeats 1000000 in
theorem tlX9_has__25 {I0 : gM} (I : gM) (hM : MI false I0 I) (s : Int32) (hP : (0 ≤ (s).toInt ∧ (s).toInt ≤ 2147483647)) : T (lX9_has__25 I s) (Sum.elim (fun r : Unit => True) (fun r : Unit => True)) := by
  unfold lX9_has__25
  refine t_it (P := fun s : Int32 => (0 ≤ (s).toInt ∧ (s).toInt ≤ 2147483647)) (μ := fun s : Int32 => (2147483648 - s.toInt).toNat) (fun s p => ?_) hP
  have b0 : (0 ≤ (s).toInt ∧ (s).toInt ≤ 2147483647) := p
  have q1 := hM.at (k := 62) (j := 26) (lo := 0) (hi := 20736) rfl
  refine t_ite (fun c2 => ?_) (fun c2 => ?_)
  · have c2i := (iLE (a := I 62 26) (b := s) rfl rfl).mp c2
    exact t_ret (show True from trivial)
  · have c2i := mt (iLE (a := I 62 26) (b := s) rfl rfl).mpr c2
    refine t_bindE (tfX9_comparesFour s I hM (by omega)) (fun r4 er4 pr4 => ?_)
    have br4_0 : ((-1) ≤ r4.toInt ∧ r4.toInt ≤ 1) := pr4
    refine t_ite (fun c3 => ?_) (fun c3 => ?_)
    · have c3i := (iEQ (a := r4) (b := (0 : Int32)) rfl (by decide : (0 : Int32).toInt = 0)).mp c3
      exact t_ret (show True from trivial)
    · have c3i := mt (iEQ (a := r4) (b := (0 : Int32)) rfl (by decide : (0 : Int32).toInt = 0)).mpr c3
      have m0 := ((tA rfl (by decide : (1 : Int32).toInt = 1) (by omega) (by omega)) : (s + 1).toInt = (s.toInt + 1))
      have mm : (2147483648 - (s + 1).toInt).toNat < (2147483648 - s.toInt).toNat := by omega
      have pp : (0 ≤ ((s + 1)).toInt ∧ ((s + 1)).toInt ≤ 2147483647) := (by show (0 ≤ ((s + 1)).toInt ∧ ((s + 1)).toInt ≤ 2147483647); have q := ((tA rfl (by decide : (1 : Int32).toInt = 1) (by omega) (by omega)) : (s + 1).toInt = (s.toInt + 1)); omega)
      exact t_ret ⟨pp, mm⟩
set_option maxRecDepth 100000 in
set_option maxHeartbeats 1000000 in
theorem tfX9_has_ {I0 : gM} (v1 : Int32) (v2 : Int32) (v3 : Int32) (v4 : Int32) (I : gM) (hM : MI false I0 I) : T (fX9_has_ v1 v2 v3 v4 I) (fun r => (0 ≤ r.1.toInt ∧ r.1.toInt ≤ 1) ∧ MI false I0 r.2) := by
  unfold fX9_has_
  refine t_bindE (tfX9_areTables I hM) (fun r1 er1 pr1 => ?_)
  have br1_0 : (0 ≤ r1.toInt ∧ r1.toInt ≤ 1) := pr1
  refine t_ite (fun c1 => ?_) (fun c1 => ?_)
  · have c1i := (iEQ (a := r1) (b := (0 : Int32)) rfl (by decide : (0 : Int32).toInt = 0)).mp c1
    exact t_ret ⟨(by show 0 ≤ ((0 : Int32)).toInt ∧ ((0 : Int32)).toInt ≤ 1; decide), hM⟩
  · have c1i := mt (iEQ (a := r1) (b := (0 : Int32)) rfl (by decide : (0 : Int32).toInt = 0)).mpr c1
    refine t_bindE (tfX9_takesFour v1 v2 v3 v4 I hM) (fun r2 er2 pr2 => ?_)
    have hr2_0 : MI false I0 r2 := pr2
    refine t_bindE (tfX9_joinsNow r2 hr2_0) (fun r3 er3 pr3 => ?_)
    obtain ⟨hr3_0, yr3_0⟩ := (show MI false I0 r3 ∧ (GJ9 r3) from pr3)
    refine t_bindE (tlX9_has__25 r3 hr3_0 (0 : Int32) (by show (0 ≤ ((0 : Int32)).toInt ∧ ((0 : Int32)).toInt ≤ 2147483647); decide)) (fun w5 ew5 pw5 => ?_)
    rcases w5 with w5_0 | w5_1
    · refine t_el ?_
      exact t_ret ⟨(by show 0 ≤ ((1 : Int32)).toInt ∧ ((1 : Int32)).toInt ≤ 1; decide), hr3_0⟩
    · refine t_er ?_
      exact t_ret ⟨(by show 0 ≤ ((0 : Int32)).toInt ∧ ((0 : Int32)).toInt ≤ 1; decide), hr3_0⟩
set_option maxRecDepth 100000 in
set_option maxHeartbeats 1000000 in
theorem tfX9_hasMean {I0 : gM} (v1 : Int32) (I : gM) (hM : MI false I0 I) : T (fX9_hasMean v1 I) (fun r => (0 ≤ r.1.toInt ∧ r.1.toInt ≤ 1) ∧ MI false I0 r.2) := by
  unfold fX9_hasMean
  refine t_bindE (tfX9_isAsked v1 I hM) (fun r1 er1 pr1 => ?_)
  obtain ⟨br1_0, xr1_0⟩ := (show (0 ≤ r1.toInt ∧ r1.toInt ≤ 1) ∧ (r1.toInt = 0 ∨ (0 ≤ v1.toInt ∧ v1.toInt ≤ 3)) from pr1)
  refine t_ite (fun c1 => ?_) (fun c1 => ?_)
  · have c1i := (iEQ (a := r1) (b := (0 : Int32)) rfl (by decide : (0 : Int32).toInt = 0)).mp c1
    exact t_ret ⟨(by show 0 ≤ ((0 : Int32)).toInt ∧ ((0 : Int32)).toInt ≤ 1; decide), hM⟩
  · have c1i := mt (iEQ (a := r1) (b := (0 : Int32)) rfl (by decide : (0 : Int32).toInt = 0)).mpr c1
    refine t_bindE (tfX9_rowsNow I hM) (fun r2 er2 pr2 => ?_)
    obtain ⟨br2_0, hr2_1⟩ := (show (0 ≤ r2.1.toInt ∧ r2.1.toInt ≤ 20736) ∧ MI false I0 r2.2 from pr2)
    refine t_ite (fun c2 => ?_) (fun c2 => ?_)
    · have c2i := (iLE (a := r2.1) (b := (0 : Int32)) rfl (by decide : (0 : Int32).toInt = 0)).mp c2
      exact t_ret ⟨(by show 0 ≤ ((0 : Int32)).toInt ∧ ((0 : Int32)).toInt ≤ 1; decide), hr2_1⟩
    · have c2i := mt (iLE (a := r2.1) (b := (0 : Int32)) rfl (by decide : (0 : Int32).toInt = 0)).mpr c2
      exact t_ret ⟨(by show 0 ≤ ((1 : Int32)).toInt ∧ ((1 : Int32)).toInt ≤ 1; decide), hr2_1⟩
set_option maxRecDepth 100000 in
set_option maxHeartbeats 1000000 in
theorem tfX9_isScript {I0 : gM} (v1 : Int32) (I : gM) (hM : MI false I0 I) : T (fX9_isScript v1 I) (fun r => (0 ≤ r.toInt ∧ r.toInt ≤ 1) ∧ (r.toInt = 0 ∨ (0 ≤ v1.toInt ∧ v1.toInt ≤ 3))) := by
  unfold fX9_isScript
  refine t_bindE (tfX9_in v1 (0 : Int32) ((I 62 12) - 1)) (fun r1 er1 pr1 => ?_)
  obtain ⟨br1_0, xr1_0⟩ := (show (0 ≤ r1.toInt ∧ r1.toInt ≤ 1) ∧ (r1.toInt = 0 ∨ ((0 : Int32).toInt ≤ v1.toInt ∧ v1.toInt ≤ ((I 62 12) - 1).toInt)) from pr1)
  have q1 : (0 : Int32).toInt = 0 := by decide
  have q2 := hM.at (k := 62) (j := 12) (lo := 0) (hi := 4) rfl
  have q3 := ((tS rfl (by decide : (1 : Int32).toInt = 1) (by omega) (by omega)) : ((I 62 12) - 1).toInt = ((I 62 12).toInt - 1))
  refine t_bO (by omega) ?_
  exact t_ret ⟨(by show 0 ≤ (r1).toInt ∧ (r1).toInt ≤ 1; omega), (by show r1.toInt = 0 ∨ (0 ≤ v1.toInt ∧ v1.toInt ≤ 3); skip; omega)⟩
set_option maxRecDepth 100000 in
set_option maxHeartbeats 1000000 in
theorem tfX9_step {I0 : gM} (v1 : Int32) (v2 : Int32) (v3 : Int32) (I : gM) (hM : MI false I0 I) : T (fX9_step v1 v2 v3 I) (fun r => True) := by
  unfold fX9_step
  refine t_bindE (tfX9_isScript v1 I hM) (fun r1 er1 pr1 => ?_)
  obtain ⟨br1_0, xr1_0⟩ := (show (0 ≤ r1.toInt ∧ r1.toInt ≤ 1) ∧ (r1.toInt = 0 ∨ (0 ≤ v1.toInt ∧ v1.toInt ≤ 3)) from pr1)
  refine t_ite (fun c1 => ?_) (fun c1 => ?_)
  · have c1i := (iEQ (a := r1) (b := (0 : Int32)) rfl (by decide : (0 : Int32).toInt = 0)).mp c1
    exact t_ret trivial
  · have c1i := mt (iEQ (a := r1) (b := (0 : Int32)) rfl (by decide : (0 : Int32).toInt = 0)).mpr c1
    refine t_rI (lo := 0) (hi := 12) hM (fun _ _ => rfl) rfl (by omega) (by omega) (fun u2 eu2 bu2 => ?_)
    refine t_bindE (tfX9_in v2 (0 : Int32) (u2 - 1)) (fun r3 er3 pr3 => ?_)
    obtain ⟨br3_0, xr3_0⟩ := (show (0 ≤ r3.toInt ∧ r3.toInt ≤ 1) ∧ (r3.toInt = 0 ∨ ((0 : Int32).toInt ≤ v2.toInt ∧ v2.toInt ≤ (u2 - 1).toInt)) from pr3)
    have q2 : (0 : Int32).toInt = 0 := by decide
    have q3 := ((tS rfl (by decide : (1 : Int32).toInt = 1) (by omega) (by omega)) : (u2 - 1).toInt = (u2.toInt - 1))
    refine t_ite (fun c4 => ?_) (fun c4 => ?_)
    · have c4i := (iEQ (a := r3) (b := (0 : Int32)) rfl (by decide : (0 : Int32).toInt = 0)).mp c4
      exact t_ret trivial
    · have c4i := mt (iEQ (a := r3) (b := (0 : Int32)) rfl (by decide : (0 : Int32).toInt = 0)).mpr c4
      refine t_bindE (tfX9_in v3 (0 : Int32) (4 : Int32)) (fun r4 er4 pr4 => ?_)
      obtain ⟨br4_0, xr4_0⟩ := (show (0 ≤ r4.toInt ∧ r4.toInt ≤ 1) ∧ (r4.toInt = 0 ∨ ((0 : Int32).toInt ≤ v3.toInt ∧ v3.toInt ≤ (4 : Int32).toInt)) from pr4)
      have q5 : (0 : Int32).toInt = 0 := by decide
      have q6 : (4 : Int32).toInt = 4 := by decide
      refine t_ite (fun c7 => ?_) (fun c7 => ?_)
      · have c7i := (iEQ (a := r4) (b := (0 : Int32)) rfl (by decide : (0 : Int32).toInt = 0)).mp c7
        exact t_ret trivial
      · have c7i := mt (iEQ (a := r4) (b := (0 : Int32)) rfl (by decide : (0 : Int32).toInt = 0)).mpr c7
        refine t_rI (lo := (-2147483648)) (hi := 2147483647) hM (fun _ _ => rfl) (tA (tM (by decide : (5 : Int32).toInt = 5) (tA (tM (by decide : (12 : Int32).toInt = 12) rfl (by omega) (by omega)) rfl (by omega) (by omega)) (by omega) (by omega)) rfl (by omega) (by omega)) (by omega) (by omega) (fun u5 eu5 bu5 => ?_)
        exact t_ret trivial
set_option maxRecDepth 100000 in
set_option maxHeartbeats 1000000 in
theorem tlX9_sumOfRows_26 {I0 : gM} (v2 : Int32) (v3 : Int32) (I : gM) (hM : MI false I0 I) (av2 : 0 ≤ v2.toInt ∧ v2.toInt ≤ 3) (av3 : 0 ≤ v3.toInt ∧ v3.toInt ≤ 11) (s : (Int32 × Int32)) (hP : (0 ≤ (s.2).toInt ∧ (s.2).toInt ≤ 2147483647)) : T (lX9_sumOfRows_26 v2 v3 I s) (fun r : Int32 => True) := by
  unfold lX9_sumOfRows_26
  refine t_it (P := fun s : (Int32 × Int32) => (0 ≤ (s.2).toInt ∧ (s.2).toInt ≤ 2147483647)) (μ := fun s : (Int32 × Int32) => (2147483648 - s.2.toInt).toNat) (fun s p => ?_) hP
  have b1 : (0 ≤ (s.2).toInt ∧ (s.2).toInt ≤ 2147483647) := p
  refine t_rI (lo := 0) (hi := 3) hM (fun _ _ => rfl) rfl (by omega) (by omega) (fun u2 eu2 bu2 => ?_)
  refine t_ite (fun c1 => ?_) (fun c1 => ?_)
  · have c1i := (iLE (a := u2) (b := s.2) rfl rfl).mp c1
    exact t_ret (show True from trivial)
  · have c1i := mt (iLE (a := u2) (b := s.2) rfl rfl).mpr c1
    refine t_bindE (tfX9_rowAt v2 v3 (by omega) (by omega)) (fun r3 er3 pr3 => ?_)
    obtain ⟨br3_0, xr3_0⟩ := (show (3 ≤ r3.toInt ∧ r3.toInt ≤ 150) ∧ (r3.toInt = 6 + 3 * (12 * v2.toInt + v3.toInt)) from pr3)
    refine t_rJ (lo := (-1)) (hi := 99) hM (tA rfl rfl (by omega) (by omega)) (by omega) (by omega) (rgRow (by omega) (by omega)) (fun u4 eu4 bu4 => ?_)
    have m1 := ((tA rfl (by decide : (1 : Int32).toInt = 1) (by omega) (by omega)) : (s.2 + 1).toInt = (s.2.toInt + 1))
    have mm : (2147483648 - (s.2 + 1).toInt).toNat < (2147483648 - s.2.toInt).toNat := by omega
    have pp : (0 ≤ (s.2 + 1).toInt ∧ (s.2 + 1).toInt ≤ 2147483647) := (by show (0 ≤ (s.2 + 1).toInt ∧ (s.2 + 1).toInt ≤ 2147483647); have q := ((tA rfl (by decide : (1 : Int32).toInt = 1) (by omega) (by omega)) : (s.2 + 1).toInt = (s.2.toInt + 1)); omega)
    exact t_ret ⟨pp, mm⟩
set_option maxRecDepth 100000 in
set_option maxHeartbeats 1000000 in
theorem tlX9_sumOfRows_14 {I0 : gM} (v2 : Int32) (I : gM) (hM : MI false I0 I) (av2 : 0 ≤ v2.toInt ∧ v2.toInt ≤ 3) (s : (Int32 × Int32)) (hP : (0 ≤ (s.2).toInt ∧ (s.2).toInt ≤ 2147483647)) : T (lX9_sumOfRows_14 v2 I s) (fun r : Int32 => True) := by
  unfold lX9_sumOfRows_14
  refine t_it (P := fun s : (Int32 × Int32) => (0 ≤ (s.2).toInt ∧ (s.2).toInt ≤ 2147483647)) (μ := fun s : (Int32 × Int32) => (2147483648 - s.2.toInt).toNat) (fun s p => ?_) hP
  have b1 : (0 ≤ (s.2).toInt ∧ (s.2).toInt ≤ 2147483647) := p
  refine t_bindE (tfX9_many v2 I hM (by omega)) (fun r1 er1 pr1 => ?_)
  obtain ⟨br1_0, xr1_0⟩ := (show (0 ≤ r1.toInt ∧ r1.toInt ≤ 12) ∧ (r1.toInt = (I 70 (2 + v2.toInt).toNat).toInt) from pr1)
  refine t_ite (fun c1 => ?_) (fun c1 => ?_)
  · have c1i := (iLE (a := r1) (b := s.2) rfl rfl).mp c1
    exact t_ret (show True from trivial)
  · have c1i := mt (iLE (a := r1) (b := s.2) rfl rfl).mpr c1
    refine t_bindE (tlX9_sumOfRows_26 v2 s.2 I hM (by omega) (by omega) (s.1, (0 : Int32)) (by show (0 ≤ ((0 : Int32)).toInt ∧ ((0 : Int32)).toInt ≤ 2147483647); decide)) (fun w5 ew5 pw5 => ?_)
    have m1 := ((tA rfl (by decide : (1 : Int32).toInt = 1) (by omega) (by omega)) : (s.2 + 1).toInt = (s.2.toInt + 1))
    have mm : (2147483648 - (s.2 + 1).toInt).toNat < (2147483648 - s.2.toInt).toNat := by omega
    have pp : (0 ≤ (s.2 + 1).toInt ∧ (s.2 + 1).toInt ≤ 2147483647) := (by show (0 ≤ (s.2 + 1).toInt ∧ (s.2 + 1).toInt ≤ 2147483647); have q := ((tA rfl (by decide : (1 : Int32).toInt = 1) (by omega) (by omega)) : (s.2 + 1).toInt = (s.2.toInt + 1)); omega)
    exact t_ret ⟨pp, mm⟩
set_option maxRecDepth 100000 in
set_option maxHeartbeats 1000000 in
theorem tlX9_sumOfRows_4 {I0 : gM} (I : gM) (hM : MI false I0 I) (s : (Int32 × Int32)) (hP : (0 ≤ (s.2).toInt ∧ (s.2).toInt ≤ 2147483647)) : T (lX9_sumOfRows_4 I s) (fun r : Int32 => True) := by
  unfold lX9_sumOfRows_4
  refine t_it (P := fun s : (Int32 × Int32) => (0 ≤ (s.2).toInt ∧ (s.2).toInt ≤ 2147483647)) (μ := fun s : (Int32 × Int32) => (2147483648 - s.2.toInt).toNat) (fun s p => ?_) hP
  have b1 : (0 ≤ (s.2).toInt ∧ (s.2).toInt ≤ 2147483647) := p
  have q1 := hM.at (k := 62) (j := 17) (lo := 0) (hi := 4) rfl
  refine t_ite (fun c2 => ?_) (fun c2 => ?_)
  · have c2i := (iLE (a := I 62 17) (b := s.2) rfl rfl).mp c2
    exact t_ret (show True from trivial)
  · have c2i := mt (iLE (a := I 62 17) (b := s.2) rfl rfl).mpr c2
    refine t_bindE (tlX9_sumOfRows_14 s.2 I hM (by omega) (s.1, (0 : Int32)) (by show (0 ≤ ((0 : Int32)).toInt ∧ ((0 : Int32)).toInt ≤ 2147483647); decide)) (fun w6 ew6 pw6 => ?_)
    have m1 := ((tA rfl (by decide : (1 : Int32).toInt = 1) (by omega) (by omega)) : (s.2 + 1).toInt = (s.2.toInt + 1))
    have mm : (2147483648 - (s.2 + 1).toInt).toNat < (2147483648 - s.2.toInt).toNat := by omega
    have pp : (0 ≤ (s.2 + 1).toInt ∧ (s.2 + 1).toInt ≤ 2147483647) := (by show (0 ≤ (s.2 + 1).toInt ∧ (s.2 + 1).toInt ≤ 2147483647); have q := ((tA rfl (by decide : (1 : Int32).toInt = 1) (by omega) (by omega)) : (s.2 + 1).toInt = (s.2.toInt + 1)); omega)
    exact t_ret ⟨pp, mm⟩
set_option maxRecDepth 100000 in
set_option maxHeartbeats 1000000 in
theorem tfX9_sumOfRows {I0 : gM} (I : gM) (hM : MI false I0 I) : T (fX9_sumOfRows I) (fun r => True) := by
  unfold fX9_sumOfRows
  refine t_bindE (tlX9_sumOfRows_4 I hM ((0 : Int32), (0 : Int32)) (by show (0 ≤ ((0 : Int32)).toInt ∧ ((0 : Int32)).toInt ≤ 2147483647); decide)) (fun w7 ew7 pw7 => ?_)
  exact t_ret trivial
set_option maxRecDepth 100000 in
set_option maxHeartbeats 1000000 in
theorem tlX9_greatestTable_4 {I0 : gM} (v1 : Int32) (I : gM) (hM : MI false I0 I) (s : (Int32 × Int32)) (hP : (0 ≤ (s.1).toInt ∧ (s.1).toInt ≤ 3) ∧ (0 ≤ (s.2).toInt ∧ (s.2).toInt ≤ 2147483647)) : T (lX9_greatestTable_4 v1 I s) (fun r : Int32 => (0 ≤ r.toInt ∧ r.toInt ≤ 3)) := by
  unfold lX9_greatestTable_4
  refine t_it (P := fun s : (Int32 × Int32) => (0 ≤ (s.1).toInt ∧ (s.1).toInt ≤ 3) ∧ (0 ≤ (s.2).toInt ∧ (s.2).toInt ≤ 2147483647)) (μ := fun s : (Int32 × Int32) => (2147483648 - s.2.toInt).toNat) (fun s p => ?_) hP
  obtain ⟨b0, b1⟩ := p
  have q1 := hM.at (k := 62) (j := 17) (lo := 0) (hi := 4) rfl
  refine t_ite (fun c2 => ?_) (fun c2 => ?_)
  · have c2i := (iLE (a := I 62 17) (b := s.2) rfl rfl).mp c2
    exact t_ret (show (0 ≤ (s.1).toInt ∧ (s.1).toInt ≤ 3) from (by omega))
  · have c2i := mt (iLE (a := I 62 17) (b := s.2) rfl rfl).mpr c2
    refine t_ite (fun c3 => ?_) (fun c3 => ?_)
    · have c3i := (iEQ (a := v1) (b := (0 : Int32)) rfl (by decide : (0 : Int32).toInt = 0)).mp c3
      refine t_bindE (tfX9_many s.2 I hM (by omega)) (fun r1 er1 pr1 => ?_)
      obtain ⟨br1_0, xr1_0⟩ := (show (0 ≤ r1.toInt ∧ r1.toInt ≤ 12) ∧ (r1.toInt = (I 70 (2 + s.2.toInt).toNat).toInt) from pr1)
      refine t_bindE (tfX9_many s.1 I hM (by omega)) (fun r2 er2 pr2 => ?_)
      obtain ⟨br2_0, xr2_0⟩ := (show (0 ≤ r2.toInt ∧ r2.toInt ≤ 12) ∧ (r2.toInt = (I 70 (2 + s.1.toInt).toNat).toInt) from pr2)
      refine t_ite (fun c4 => ?_) (fun c4 => ?_)
      · have c4i := (iLE (a := r1) (b := r2) rfl rfl).mp c4
        unfold bX9_greatestTable_61
        refine t_ite (fun c5 => ?_) (fun c5 => ?_)
        · have c5i := (iEQ (a := (0 : Int32)) (b := (0 : Int32)) (by decide : (0 : Int32).toInt = 0) (by decide : (0 : Int32).toInt = 0)).mp c5
          unfold bX9_greatestTable_73
          have m1 := ((tA rfl (by decide : (1 : Int32).toInt = 1) (by omega) (by omega)) : (s.2 + 1).toInt = (s.2.toInt + 1))
          have mm : (2147483648 - (s.2 + 1).toInt).toNat < (2147483648 - s.2.toInt).toNat := by omega
          have pp : (0 ≤ (s.1).toInt ∧ (s.1).toInt ≤ 3) ∧ (0 ≤ (s.2 + 1).toInt ∧ (s.2 + 1).toInt ≤ 2147483647) := ⟨(by show (0 ≤ (s.1).toInt ∧ (s.1).toInt ≤ 3); omega), (by show (0 ≤ (s.2 + 1).toInt ∧ (s.2 + 1).toInt ≤ 2147483647); have q := ((tA rfl (by decide : (1 : Int32).toInt = 1) (by omega) (by omega)) : (s.2 + 1).toInt = (s.2.toInt + 1)); omega)⟩
          exact t_ret ⟨pp, mm⟩
        · have c5i := mt (iEQ (a := (0 : Int32)) (b := (0 : Int32)) (by decide : (0 : Int32).toInt = 0) (by decide : (0 : Int32).toInt = 0)).mpr c5
          omega
      · have c4i := mt (iLE (a := r1) (b := r2) rfl rfl).mpr c4
        unfold bX9_greatestTable_61
        refine t_ite (fun c6 => ?_) (fun c6 => ?_)
        · have c6i := (iEQ (a := (1 : Int32)) (b := (0 : Int32)) (by decide : (1 : Int32).toInt = 1) (by decide : (0 : Int32).toInt = 0)).mp c6
          omega
        · have c6i := mt (iEQ (a := (1 : Int32)) (b := (0 : Int32)) (by decide : (1 : Int32).toInt = 1) (by decide : (0 : Int32).toInt = 0)).mpr c6
          unfold bX9_greatestTable_73
          have m1 := ((tA rfl (by decide : (1 : Int32).toInt = 1) (by omega) (by omega)) : (s.2 + 1).toInt = (s.2.toInt + 1))
          have mm : (2147483648 - (s.2 + 1).toInt).toNat < (2147483648 - s.2.toInt).toNat := by omega
          have pp : (0 ≤ (s.2).toInt ∧ (s.2).toInt ≤ 3) ∧ (0 ≤ (s.2 + 1).toInt ∧ (s.2 + 1).toInt ≤ 2147483647) := ⟨(by show (0 ≤ (s.2).toInt ∧ (s.2).toInt ≤ 3); omega), (by show (0 ≤ (s.2 + 1).toInt ∧ (s.2 + 1).toInt ≤ 2147483647); have q := ((tA rfl (by decide : (1 : Int32).toInt = 1) (by omega) (by omega)) : (s.2 + 1).toInt = (s.2.toInt + 1)); omega)⟩
          exact t_ret ⟨pp, mm⟩
    · have c3i := mt (iEQ (a := v1) (b := (0 : Int32)) rfl (by decide : (0 : Int32).toInt = 0)).mpr c3
      refine t_bindE (tfX9_givenBy s.2 I hM (by omega)) (fun r3 er3 pr3 => ?_)
      refine t_bindE (tfX9_bits r3) (fun r4 er4 pr4 => ?_)
      refine t_bindE (tfX9_givenBy s.1 I hM (by omega)) (fun r5 er5 pr5 => ?_)
      refine t_bindE (tfX9_bits r5) (fun r6 er6 pr6 => ?_)
      refine t_ite (fun c7 => ?_) (fun c7 => ?_)
      · have c7i := (iLE (a := r4) (b := r6) rfl rfl).mp c7
        unfold bX9_greatestTable_61
        refine t_ite (fun c8 => ?_) (fun c8 => ?_)
        · have c8i := (iEQ (a := (0 : Int32)) (b := (0 : Int32)) (by decide : (0 : Int32).toInt = 0) (by decide : (0 : Int32).toInt = 0)).mp c8
          unfold bX9_greatestTable_73
          have m1 := ((tA rfl (by decide : (1 : Int32).toInt = 1) (by omega) (by omega)) : (s.2 + 1).toInt = (s.2.toInt + 1))
          have mm : (2147483648 - (s.2 + 1).toInt).toNat < (2147483648 - s.2.toInt).toNat := by omega
          have pp : (0 ≤ (s.1).toInt ∧ (s.1).toInt ≤ 3) ∧ (0 ≤ (s.2 + 1).toInt ∧ (s.2 + 1).toInt ≤ 2147483647) := ⟨(by show (0 ≤ (s.1).toInt ∧ (s.1).toInt ≤ 3); omega), (by show (0 ≤ (s.2 + 1).toInt ∧ (s.2 + 1).toInt ≤ 2147483647); have q := ((tA rfl (by decide : (1 : Int32).toInt = 1) (by omega) (by omega)) : (s.2 + 1).toInt = (s.2.toInt + 1)); omega)⟩
          exact t_ret ⟨pp, mm⟩
        · have c8i := mt (iEQ (a := (0 : Int32)) (b := (0 : Int32)) (by decide : (0 : Int32).toInt = 0) (by decide : (0 : Int32).toInt = 0)).mpr c8
          omega
      · have c7i := mt (iLE (a := r4) (b := r6) rfl rfl).mpr c7
        unfold bX9_greatestTable_61
        refine t_ite (fun c9 => ?_) (fun c9 => ?_)
        · have c9i := (iEQ (a := (1 : Int32)) (b := (0 : Int32)) (by decide : (1 : Int32).toInt = 1) (by decide : (0 : Int32).toInt = 0)).mp c9
          omega
        · have c9i := mt (iEQ (a := (1 : Int32)) (b := (0 : Int32)) (by decide : (1 : Int32).toInt = 1) (by decide : (0 : Int32).toInt = 0)).mpr c9
          unfold bX9_greatestTable_73
          have m1 := ((tA rfl (by decide : (1 : Int32).toInt = 1) (by omega) (by omega)) : (s.2 + 1).toInt = (s.2.toInt + 1))
          have mm : (2147483648 - (s.2 + 1).toInt).toNat < (2147483648 - s.2.toInt).toNat := by omega
          have pp : (0 ≤ (s.2).toInt ∧ (s.2).toInt ≤ 3) ∧ (0 ≤ (s.2 + 1).toInt ∧ (s.2 + 1).toInt ≤ 2147483647) := ⟨(by show (0 ≤ (s.2).toInt ∧ (s.2).toInt ≤ 3); omega), (by show (0 ≤ (s.2 + 1).toInt ∧ (s.2 + 1).toInt ≤ 2147483647); have q := ((tA rfl (by decide : (1 : Int32).toInt = 1) (by omega) (by omega)) : (s.2 + 1).toInt = (s.2.toInt + 1)); omega)⟩
          exact t_ret ⟨pp, mm⟩
set_option maxRecDepth 100000 in
set_option maxHeartbeats 1000000 in
theorem tfX9_greatestTable {I0 : gM} (v1 : Int32) (I : gM) (hM : MI false I0 I) : T (fX9_greatestTable v1 I) (fun r => (0 ≤ r.toInt ∧ r.toInt ≤ 3)) := by
  unfold fX9_greatestTable
  refine t_bindE (tlX9_greatestTable_4 v1 I hM ((0 : Int32), (1 : Int32)) ⟨(by show (0 ≤ ((0 : Int32)).toInt ∧ ((0 : Int32)).toInt ≤ 3); decide), (by show (0 ≤ ((1 : Int32)).toInt ∧ ((1 : Int32)).toInt ≤ 2147483647); decide)⟩) (fun w7 ew7 pw7 => ?_)
  have bw7_0 : (0 ≤ w7.toInt ∧ w7.toInt ≤ 3) := pw7
  exact t_ret (by show 0 ≤ (w7).toInt ∧ (w7).toInt ≤ 3; omega)
set_option maxRecDepth 100000 in
set_option maxHeartbeats 1000000 in
theorem tlX9_notGiven_4 {I0 : gM} (I : gM) (hM : MI false I0 I) (s : (Int32 × Int32)) (hP : (0 ≤ (s.2).toInt ∧ (s.2).toInt ≤ 2147483647)) : T (lX9_notGiven_4 I s) (fun r : Int32 => True) := by
  unfold lX9_notGiven_4
  refine t_it (P := fun s : (Int32 × Int32) => (0 ≤ (s.2).toInt ∧ (s.2).toInt ≤ 2147483647)) (μ := fun s : (Int32 × Int32) => (2147483648 - s.2.toInt).toNat) (fun s p => ?_) hP
  have b1 : (0 ≤ (s.2).toInt ∧ (s.2).toInt ≤ 2147483647) := p
  have q1 := hM.at (k := 62) (j := 17) (lo := 0) (hi := 4) rfl
  refine t_ite (fun c2 => ?_) (fun c2 => ?_)
  · have c2i := (iLE (a := I 62 17) (b := s.2) rfl rfl).mp c2
    exact t_ret (show True from trivial)
  · have c2i := mt (iLE (a := I 62 17) (b := s.2) rfl rfl).mpr c2
    refine t_bindE (tfX9_isUsed s.2 I hM) (fun r1 er1 pr1 => ?_)
    have br1_0 : (0 ≤ r1.toInt ∧ r1.toInt ≤ 1) := pr1
    refine t_ite (fun c3 => ?_) (fun c3 => ?_)
    · have c3i := (iEQ (a := r1) (b := (0 : Int32)) rfl (by decide : (0 : Int32).toInt = 0)).mp c3
      unfold bX9_notGiven_39
      have m1 := ((tA rfl (by decide : (1 : Int32).toInt = 1) (by omega) (by omega)) : (s.2 + 1).toInt = (s.2.toInt + 1))
      have mm : (2147483648 - (s.2 + 1).toInt).toNat < (2147483648 - s.2.toInt).toNat := by omega
      have pp : (0 ≤ (s.2 + 1).toInt ∧ (s.2 + 1).toInt ≤ 2147483647) := (by show (0 ≤ (s.2 + 1).toInt ∧ (s.2 + 1).toInt ≤ 2147483647); have q := ((tA rfl (by decide : (1 : Int32).toInt = 1) (by omega) (by omega)) : (s.2 + 1).toInt = (s.2.toInt + 1)); omega)
      exact t_ret ⟨pp, mm⟩
    · have c3i := mt (iEQ (a := r1) (b := (0 : Int32)) rfl (by decide : (0 : Int32).toInt = 0)).mpr c3
      refine t_bindE (tfX9_many s.2 I hM (by omega)) (fun r2 er2 pr2 => ?_)
      obtain ⟨br2_0, xr2_0⟩ := (show (0 ≤ r2.toInt ∧ r2.toInt ≤ 12) ∧ (r2.toInt = (I 70 (2 + s.2.toInt).toNat).toInt) from pr2)
      refine t_bindE (tfX9_givenBy s.2 I hM (by omega)) (fun r3 er3 pr3 => ?_)
      refine t_bindE (tfX9_bits r3) (fun r4 er4 pr4 => ?_)
      unfold bX9_notGiven_39
      have m1 := ((tA rfl (by decide : (1 : Int32).toInt = 1) (by omega) (by omega)) : (s.2 + 1).toInt = (s.2.toInt + 1))
      have mm : (2147483648 - (s.2 + 1).toInt).toNat < (2147483648 - s.2.toInt).toNat := by omega
      have pp : (0 ≤ (s.2 + 1).toInt ∧ (s.2 + 1).toInt ≤ 2147483647) := (by show (0 ≤ (s.2 + 1).toInt ∧ (s.2 + 1).toInt ≤ 2147483647); have q := ((tA rfl (by decide : (1 : Int32).toInt = 1) (by omega) (by omega)) : (s.2 + 1).toInt = (s.2.toInt + 1)); omega)
      exact t_ret ⟨pp, mm⟩
set_option maxRecDepth 100000 in
set_option maxHeartbeats 1000000 in
theorem tfX9_notGiven {I0 : gM} (I : gM) (hM : MI false I0 I) : T (fX9_notGiven I) (fun r => True) := by
  unfold fX9_notGiven
  refine t_bindE (tlX9_notGiven_4 I hM ((0 : Int32), (0 : Int32)) (by show (0 ≤ ((0 : Int32)).toInt ∧ ((0 : Int32)).toInt ≤ 2147483647); decide)) (fun w5 ew5 pw5 => ?_)
  exact t_ret trivial
set_option maxRecDepth 100000 in
set_option maxHeartbeats 1000000 in
theorem tfX9_count {I0 : gM} (v1 : Int32) (I : gM) (hM : MI false I0 I) : T (fX9_count v1 I) (fun r => ((-1000000) ≤ r.toInt ∧ r.toInt ≤ 400)) := by
  unfold fX9_count
  refine t_ite (fun c1 => ?_) (fun c1 => ?_)
  · have c1i := (iEQ (a := v1) (b := (0 : Int32)) rfl (by decide : (0 : Int32).toInt = 0)).mp c1
    have q2 := hM.at (k := 62) (j := 17) (lo := 0) (hi := 4) rfl
    exact t_ret (by show (-1000000) ≤ ((I 62 17)).toInt ∧ ((I 62 17)).toInt ≤ 400; omega)
  · have c1i := mt (iEQ (a := v1) (b := (0 : Int32)) rfl (by decide : (0 : Int32).toInt = 0)).mpr c1
    refine t_ite (fun c3 => ?_) (fun c3 => ?_)
    · have c3i := (iEQ (a := v1) (b := (1 : Int32)) rfl (by decide : (1 : Int32).toInt = 1)).mp c3
      have q4 := hM.at (k := 62) (j := 12) (lo := 0) (hi := 4) rfl
      exact t_ret (by show (-1000000) ≤ ((I 62 12)).toInt ∧ ((I 62 12)).toInt ≤ 400; omega)
    · have c3i := mt (iEQ (a := v1) (b := (1 : Int32)) rfl (by decide : (1 : Int32).toInt = 1)).mpr c3
      refine t_ite (fun c5 => ?_) (fun c5 => ?_)
      · have c5i := (iEQ (a := v1) (b := (2 : Int32)) rfl (by decide : (2 : Int32).toInt = 2)).mp c5
        have q6 := hM.at (k := 62) (j := 2) (lo := 0) (hi := 400) rfl
        exact t_ret (by show (-1000000) ≤ ((I 62 2)).toInt ∧ ((I 62 2)).toInt ≤ 400; omega)
      · have c5i := mt (iEQ (a := v1) (b := (2 : Int32)) rfl (by decide : (2 : Int32).toInt = 2)).mpr c5
        refine t_ite (fun c7 => ?_) (fun c7 => ?_)
        · have c7i := (iEQ (a := v1) (b := (3 : Int32)) rfl (by decide : (3 : Int32).toInt = 3)).mp c7
          refine t_rJ (lo := 0) (hi := 60) hM (by decide : (150 : Int32).toInt = 150) (by omega) (by omega) rfl (fun u1 eu1 bu1 => ?_)
          exact t_ret (by show (-1000000) ≤ (u1).toInt ∧ (u1).toInt ≤ 400; omega)
        · have c7i := mt (iEQ (a := v1) (b := (3 : Int32)) rfl (by decide : (3 : Int32).toInt = 3)).mpr c7
          refine t_ite (fun c8 => ?_) (fun c8 => ?_)
          · have c8i := (iEQ (a := v1) (b := (4 : Int32)) rfl (by decide : (4 : Int32).toInt = 4)).mp c8
            have q9 := hM.at (k := 62) (j := 29) (lo := 0) (hi := 40) rfl
            exact t_ret (by show (-1000000) ≤ ((I 62 29)).toInt ∧ ((I 62 29)).toInt ≤ 400; omega)
          · have c8i := mt (iEQ (a := v1) (b := (4 : Int32)) rfl (by decide : (4 : Int32).toInt = 4)).mpr c8
            exact t_ret (by show (-1000000) ≤ (((-1000000) : Int32)).toInt ∧ (((-1000000) : Int32)).toInt ≤ 400; decide)
