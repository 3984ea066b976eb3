set_option maxRecDepth 100000 in
set_option maxHeartbeats 1000000 in
theorem tfX1_rowAt {I0 : gM} (k : Nat) (v1 : Int32) (I : gM) (hk : kX1 k) (hM : MI true I0 I) : T (fX1_rowAt k v1 I) (fun r => True) := by
  have hk_1 := hk.1
  have hk_2 := hk.2.1
  unfold fX1_rowAt
  refine t_ite (fun c1 => ?_) (fun c1 => ?_)
  · have c1i := (iLT (a := v1) (b := (0 : Int32)) rfl (by decide : (0 : Int32).toInt = 0)).mp c1
    exact t_ret trivial
  · have c1i := mt (iLT (a := v1) (b := (0 : Int32)) rfl (by decide : (0 : Int32).toInt = 0)).mpr c1
    have q2 := hM.at (k := k) (j := 0) (lo := 0) (hi := 20736) hk.2.2.1
    refine t_ite (fun c3 => ?_) (fun c3 => ?_)
    · have c3i := (iLE (a := I k 0) (b := v1) rfl rfl).mp c3
      exact t_ret trivial
    · have c3i := mt (iLE (a := I k 0) (b := v1) rfl rfl).mpr c3
      refine t_rI (lo := (-2147483648)) (hi := 2147483647) hM (fun j _ => hk.2.2.2.2.2.2.2.1 j) rfl (by omega) (by omega) (fun u1 eu1 bu1 => ?_)
      exact t_ret trivial
set_option maxRecDepth 100000 in
set_option maxHeartbeats 1000000 in
theorem tfX1_numberAt {I0 : gM} (k : Nat) (v1 : Int32) (v2 : Int32) (I : gM) (hk : kX1 k) (hM : MI true I0 I) : T (fX1_numberAt k v1 v2 I) (fun r => (0 ≤ r.toInt ∧ r.toInt ≤ 127)) := by
  have hk_1 := hk.1
  have hk_2 := hk.2.1
  unfold fX1_numberAt
  refine t_bindE (tfX1_rowAt k v1 I hk hM) (fun r1 er1 pr1 => ?_)
  have q1 : 0 ≤ ((r1 >>> (((21 : Int32) - ((7 : Int32) * v2)) &&& 31)) &&& 127).toInt ∧ ((r1 >>> (((21 : Int32) - ((7 : Int32) * v2)) &&& 31)) &&& 127).toInt ≤ 127 := and_b (r1 >>> (((21 : Int32) - ((7 : Int32) * v2)) &&& 31)) (Or.inl rfl)
  exact t_ret (by show 0 ≤ (((r1 >>> (((21 : Int32) - ((7 : Int32) * v2)) &&& 31)) &&& 127)).toInt ∧ (((r1 >>> (((21 : Int32) - ((7 : Int32) * v2)) &&& 31)) &&& 127)).toInt ≤ 127; omega)
set_option maxRecDepth 100000 in
set_option maxHeartbeats 1000000 in
theorem tlX0_tallyUp_10 {I0 : gM} (k1 : Nat) (v2 : Int32) (hk1 : kX1 k1) (s : (Int32 × gM)) (hP : (0 ≤ (s.1).toInt ∧ (s.1).toInt ≤ 2147483647) ∧ MI true I0 s.2) : T (lX0_tallyUp_10 k1 v2 s) (fun r : gM => MI true I0 r) := by
  have hk1_1 := hk1.1
  have hk1_2 := hk1.2.1
  unfold lX0_tallyUp_10
  refine t_it (P := fun s : (Int32 × gM) => (0 ≤ (s.1).toInt ∧ (s.1).toInt ≤ 2147483647) ∧ MI true I0 s.2) (μ := fun s : (Int32 × gM) => (2147483648 - s.1.toInt).toNat) (fun s p => ?_) hP
  obtain ⟨b0, hs⟩ := p
  have q1 := hs.at (k := k1) (j := 0) (lo := 0) (hi := 20736) hk1.2.2.1
  refine t_ite (fun c2 => ?_) (fun c2 => ?_)
  · have c2i := (iLE (a := s.2 k1 0) (b := s.1) rfl rfl).mp c2
    exact t_ret (show MI true I0 s.2 from hs)
  · have c2i := mt (iLE (a := s.2 k1 0) (b := s.1) rfl rfl).mpr c2
    refine t_bindE (tfX1_numberAt k1 s.1 v2 s.2 hk1 hs) (fun r2 er2 pr2 => ?_)
    have br2_0 : (0 ≤ r2.toInt ∧ r2.toInt ≤ 127) := pr2
    refine t_ite (fun c3 => ?_) (fun c3 => ?_)
    · have c3i := (iLE (a := (100 : Int32)) (b := r2) (by decide : (100 : Int32).toInt = 100) rfl).mp c3
      unfold bX0_tallyUp_44
      have m0 := ((tA rfl (by decide : (1 : Int32).toInt = 1) (by omega) (by omega)) : (s.1 + 1).toInt = (s.1.toInt + 1))
      have mm : (2147483648 - (s.1 + 1).toInt).toNat < (2147483648 - s.1.toInt).toNat := by omega
      have pp : (0 ≤ (s.1 + 1).toInt ∧ (s.1 + 1).toInt ≤ 2147483647) ∧ MI true I0 s.2 := ⟨(by show (0 ≤ (s.1 + 1).toInt ∧ (s.1 + 1).toInt ≤ 2147483647); have q := ((tA rfl (by decide : (1 : Int32).toInt = 1) (by omega) (by omega)) : (s.1 + 1).toInt = (s.1.toInt + 1)); omega), hs⟩
      exact t_ret ⟨pp, mm⟩
    · have c3i := mt (iLE (a := (100 : Int32)) (b := r2) (by decide : (100 : Int32).toInt = 100) rfl).mpr c3
      refine t_rI (lo := (-2147483648)) (hi := 2147483647) hs (fun _ _ => rfl) rfl (by omega) (by omega) (fun u3 eu3 bu3 => ?_)
      refine t_wI (lo := (-2147483648)) (hi := 2147483647) hs rfl (fun _ _ => rfl) rfl (by omega) (by omega) (tTop _) (fun I4 eI4 hI4 => ?_)
      unfold bX0_tallyUp_44
      have m0 := ((tA rfl (by decide : (1 : Int32).toInt = 1) (by omega) (by omega)) : (s.1 + 1).toInt = (s.1.toInt + 1))
      have mm : (2147483648 - (s.1 + 1).toInt).toNat < (2147483648 - s.1.toInt).toNat := by omega
      have pp : (0 ≤ (s.1 + 1).toInt ∧ (s.1 + 1).toInt ≤ 2147483647) ∧ MI true I0 I4 := ⟨(by show (0 ≤ (s.1 + 1).toInt ∧ (s.1 + 1).toInt ≤ 2147483647); have q := ((tA rfl (by decide : (1 : Int32).toInt = 1) (by omega) (by omega)) : (s.1 + 1).toInt = (s.1.toInt + 1)); omega), hI4⟩
      exact t_ret ⟨pp, mm⟩
set_option maxRecDepth 100000 in
set_option maxHeartbeats 1000000 in
theorem tfX0_tallyUp {I0 : gM} (k1 : Nat) (v2 : Int32) (I : gM) (hk1 : kX1 k1) (hM : MI true I0 I) : T (fX0_tallyUp k1 v2 I) (fun r => MI true I0 r) := by
  have hk1_1 := hk1.1
  have hk1_2 := hk1.2.1
  unfold fX0_tallyUp
  refine t_bind (t_fill 41 100 (0 : Int32) I (lo := (-2147483648)) (hi := 2147483647) hM rfl (fun _ _ => rfl) (by decide) (tTop _)) (fun r1 pr1 => ?_)
  obtain ⟨hr1, yr1, zr1⟩ := pr1
  refine t_bindE (tlX0_tallyUp_10 k1 v2 hk1 ((0 : Int32), r1) ⟨(by show (0 ≤ ((0 : Int32)).toInt ∧ ((0 : Int32)).toInt ≤ 2147483647); decide), hr1⟩) (fun w5 ew5 pw5 => ?_)
  have hw5_0 : MI true I0 w5 := pw5
  exact t_ret hw5_0
set_option maxRecDepth 100000 in
set_option maxHeartbeats 1000000 in
theorem tlX0_numbers_4 {I0 : gM} (I : gM) (hM : MI true I0 I) (s : (Int32 × Int32)) (hP : (0 ≤ (s.2).toInt ∧ (s.2).toInt ≤ 2147483647)) : T (lX0_numbers_4 I s) (fun r : Int32 => True) := by
  unfold lX0_numbers_4
  refine t_it (P := fun s : (Int32 × Int32) => (0 ≤ (s.2).toInt ∧ (s.2).toInt ≤ 2147483647)) (μ := fun s : (Int32 × Int32) => (2147483648 - s.2.toInt).toNat) (fun s p => ?_) hP
  have b1 : (0 ≤ (s.2).toInt ∧ (s.2).toInt ≤ 2147483647) := p
  refine t_ite (fun c1 => ?_) (fun c1 => ?_)
  · have c1i := (iLE (a := (100 : Int32)) (b := s.2) (by decide : (100 : Int32).toInt = 100) rfl).mp c1
    exact t_ret (show True from trivial)
  · have c1i := mt (iLE (a := (100 : Int32)) (b := s.2) (by decide : (100 : Int32).toInt = 100) rfl).mpr c1
    refine t_rI (lo := (-2147483648)) (hi := 2147483647) hM (fun _ _ => rfl) rfl (by omega) (by omega) (fun u1 eu1 bu1 => ?_)
    refine t_ite (fun c2 => ?_) (fun c2 => ?_)
    · have c2i := (iLE (a := u1) (b := (0 : Int32)) rfl (by decide : (0 : Int32).toInt = 0)).mp c2
      unfold bX0_numbers_22
      have m1 := ((tA rfl (by decide : (1 : Int32).toInt = 1) (by omega) (by omega)) : (s.2 + 1).toInt = (s.2.toInt + 1))
      have mm : (2147483648 - (s.2 + 1).toInt).toNat < (2147483648 - s.2.toInt).toNat := by omega
      have pp : (0 ≤ (s.2 + 1).toInt ∧ (s.2 + 1).toInt ≤ 2147483647) := (by show (0 ≤ (s.2 + 1).toInt ∧ (s.2 + 1).toInt ≤ 2147483647); have q := ((tA rfl (by decide : (1 : Int32).toInt = 1) (by omega) (by omega)) : (s.2 + 1).toInt = (s.2.toInt + 1)); omega)
      exact t_ret ⟨pp, mm⟩
    · have c2i := mt (iLE (a := u1) (b := (0 : Int32)) rfl (by decide : (0 : Int32).toInt = 0)).mpr c2
      unfold bX0_numbers_22
      have m1 := ((tA rfl (by decide : (1 : Int32).toInt = 1) (by omega) (by omega)) : (s.2 + 1).toInt = (s.2.toInt + 1))
      have mm : (2147483648 - (s.2 + 1).toInt).toNat < (2147483648 - s.2.toInt).toNat := by omega
      have pp : (0 ≤ (s.2 + 1).toInt ∧ (s.2 + 1).toInt ≤ 2147483647) := (by show (0 ≤ (s.2 + 1).toInt ∧ (s.2 + 1).toInt ≤ 2147483647); have q := ((tA rfl (by decide : (1 : Int32).toInt = 1) (by omega) (by omega)) : (s.2 + 1).toInt = (s.2.toInt + 1)); omega)
      exact t_ret ⟨pp, mm⟩
set_option maxRecDepth 100000 in
set_option maxHeartbeats 1000000 in
theorem tfX0_numbers {I0 : gM} (I : gM) (hM : MI true I0 I) : T (fX0_numbers I) (fun r => True) := by
  unfold fX0_numbers
  refine t_bindE (tlX0_numbers_4 I hM ((0 : Int32), (0 : Int32)) (by show (0 ≤ ((0 : Int32)).toInt ∧ ((0 : Int32)).toInt ≤ 2147483647); decide)) (fun w2 ew2 pw2 => ?_)
  exact t_ret trivial
set_option maxRecDepth 100000 in
set_option maxHeartbeats 1000000 in
theorem tlX0_least_2 {I0 : gM} (I : gM) (hM : MI true I0 I) (s : Int32) (hP : (0 ≤ (s).toInt ∧ (s).toInt ≤ 2147483647)) : T (lX0_least_2 I s) (Sum.elim (fun r : Int32 => True) (fun r : Unit => True)) := by
  unfold lX0_least_2
  refine t_it (P := fun s : Int32 => (0 ≤ (s).toInt ∧ (s).toInt ≤ 2147483647)) (μ := fun s : Int32 => (2147483648 - s.toInt).toNat) (fun s p => ?_) hP
  have b0 : (0 ≤ (s).toInt ∧ (s).toInt ≤ 2147483647) := p
  refine t_ite (fun c1 => ?_) (fun c1 => ?_)
  · have c1i := (iLE (a := (100 : Int32)) (b := s) (by decide : (100 : Int32).toInt = 100) rfl).mp c1
    exact t_ret (show True from trivial)
  · have c1i := mt (iLE (a := (100 : Int32)) (b := s) (by decide : (100 : Int32).toInt = 100) rfl).mpr c1
    refine t_rI (lo := (-2147483648)) (hi := 2147483647) hM (fun _ _ => rfl) rfl (by omega) (by omega) (fun u1 eu1 bu1 => ?_)
    refine t_ite (fun c2 => ?_) (fun c2 => ?_)
    · have c2i := (iLE (a := u1) (b := (0 : Int32)) rfl (by decide : (0 : Int32).toInt = 0)).mp c2
      have m0 := ((tA rfl (by decide : (1 : Int32).toInt = 1) (by omega) (by omega)) : (s + 1).toInt = (s.toInt + 1))
      have mm : (2147483648 - (s + 1).toInt).toNat < (2147483648 - s.toInt).toNat := by omega
      have pp : (0 ≤ ((s + 1)).toInt ∧ ((s + 1)).toInt ≤ 2147483647) := (by show (0 ≤ ((s + 1)).toInt ∧ ((s + 1)).toInt ≤ 2147483647); have q := ((tA rfl (by decide : (1 : Int32).toInt = 1) (by omega) (by omega)) : (s + 1).toInt = (s.toInt + 1)); omega)
      exact t_ret ⟨pp, mm⟩
    · have c2i := mt (iLE (a := u1) (b := (0 : Int32)) rfl (by decide : (0 : Int32).toInt = 0)).mpr c2
      exact t_ret (show True from trivial)
set_option maxRecDepth 100000 in
set_option maxHeartbeats 1000000 in
theorem tfX0_least {I0 : gM} (I : gM) (hM : MI true I0 I) : T (fX0_least I) (fun r => True) := by
  unfold fX0_least
  refine t_bindE (tlX0_least_2 I hM (0 : Int32) (by show (0 ≤ ((0 : Int32)).toInt ∧ ((0 : Int32)).toInt ≤ 2147483647); decide)) (fun w2 ew2 pw2 => ?_)
  rcases w2 with w2_0 | w2_1
  · refine t_el ?_
    exact t_ret trivial
  · refine t_er ?_
    exact t_ret trivial
set_option maxRecDepth 100000 in
set_option maxHeartbeats 1000000 in
theorem tlX0_greatest_3 {I0 : gM} (I : gM) (hM : MI true I0 I) (s : Int32) (hP : ((-1) ≤ (s).toInt ∧ (s).toInt ≤ 99)) : T (lX0_greatest_3 I s) (Sum.elim (fun r : Int32 => True) (fun r : Unit => True)) := by
  unfold lX0_greatest_3
  refine t_it (P := fun s : Int32 => ((-1) ≤ (s).toInt ∧ (s).toInt ≤ 99)) (μ := fun s : Int32 => (s.toInt + 2).toNat) (fun s p => ?_) hP
  have b0 : ((-1) ≤ (s).toInt ∧ (s).toInt ≤ 99) := p
  refine t_ite (fun c1 => ?_) (fun c1 => ?_)
  · have c1i := (iLT (a := s) (b := (0 : Int32)) rfl (by decide : (0 : Int32).toInt = 0)).mp c1
    exact t_ret (show True from trivial)
  · have c1i := mt (iLT (a := s) (b := (0 : Int32)) rfl (by decide : (0 : Int32).toInt = 0)).mpr c1
    refine t_rI (lo := (-2147483648)) (hi := 2147483647) hM (fun _ _ => rfl) rfl (by omega) (by omega) (fun u1 eu1 bu1 => ?_)
    refine t_ite (fun c2 => ?_) (fun c2 => ?_)
    · have c2i := (iLE (a := u1) (b := (0 : Int32)) rfl (by decide : (0 : Int32).toInt = 0)).mp c2
      have m0 := ((tA rfl (by decide : ((-1) : Int32).toInt = (-1)) (by omega) (by omega)) : (s + (-1)).toInt = (s.toInt + (-1)))
      have mm : ((s + (-1)).toInt + 2).toNat < (s.toInt + 2).toNat := by omega
      have pp : ((-1) ≤ ((s + (-1))).toInt ∧ ((s + (-1))).toInt ≤ 99) := (by show ((-1) ≤ ((s + (-1))).toInt ∧ ((s + (-1))).toInt ≤ 99); have q := ((tA rfl (by decide : ((-1) : Int32).toInt = (-1)) (by omega) (by omega)) : (s + (-1)).toInt = (s.toInt + (-1))); omega)
      exact t_ret ⟨pp, mm⟩
    · have c2i := mt (iLE (a := u1) (b := (0 : Int32)) rfl (by decide : (0 : Int32).toInt = 0)).mpr c2
      exact t_ret (show True from trivial)
set_option maxRecDepth 100000 in
set_option maxHeartbeats 1000000 in
theorem tfX0_greatest {I0 : gM} (I : gM) (hM : MI true I0 I) : T (fX0_greatest I) (fun r => True) := by
  unfold fX0_greatest
  refine t_bindE (tlX0_greatest_3 I hM (99 : Int32) (by show ((-1) ≤ ((99 : Int32)).toInt ∧ ((99 : Int32)).toInt ≤ 99); decide)) (fun w2 ew2 pw2 => ?_)
  rcases w2 with w2_0 | w2_1
  · refine t_el ?_
    exact t_ret trivial
  · refine t_er ?_
    exact t_ret trivial
set_option maxRecDepth 100000 in
set_option maxHeartbeats 1000000 in
theorem tlX0_oftenest_6 {I0 : gM} (I : gM) (hM : MI true I0 I) (s : (Int32 × Int32 × Int32)) (hP : (0 ≤ (s.2.2).toInt ∧ (s.2.2).toInt ≤ 2147483647)) : T (lX0_oftenest_6 I s) (fun r : Int32 => True) := by
  unfold lX0_oftenest_6
  refine t_it (P := fun s : (Int32 × Int32 × Int32) => (0 ≤ (s.2.2).toInt ∧ (s.2.2).toInt ≤ 2147483647)) (μ := fun s : (Int32 × Int32 × Int32) => (2147483648 - s.2.2.toInt).toNat) (fun s p => ?_) hP
  have b2 : (0 ≤ (s.2.2).toInt ∧ (s.2.2).toInt ≤ 2147483647) := p
  refine t_ite (fun c1 => ?_) (fun c1 => ?_)
  · have c1i := (iLE (a := (100 : Int32)) (b := s.2.2) (by decide : (100 : Int32).toInt = 100) rfl).mp c1
    exact t_ret (show True from trivial)
  · have c1i := mt (iLE (a := (100 : Int32)) (b := s.2.2) (by decide : (100 : Int32).toInt = 100) rfl).mpr c1
    refine t_rI (lo := (-2147483648)) (hi := 2147483647) hM (fun _ _ => rfl) rfl (by omega) (by omega) (fun u1 eu1 bu1 => ?_)
    refine t_ite (fun c2 => ?_) (fun c2 => ?_)
    · have c2i := (iLE (a := u1) (b := s.2.1) rfl rfl).mp c2
      unfold bX0_oftenest_31
      have m2 := ((tA rfl (by decide : (1 : Int32).toInt = 1) (by omega) (by omega)) : (s.2.2 + 1).toInt = (s.2.2.toInt + 1))
      have mm : (2147483648 - (s.2.2 + 1).toInt).toNat < (2147483648 - s.2.2.toInt).toNat := by omega
      have pp : (0 ≤ (s.2.2 + 1).toInt ∧ (s.2.2 + 1).toInt ≤ 2147483647) := (by show (0 ≤ (s.2.2 + 1).toInt ∧ (s.2.2 + 1).toInt ≤ 2147483647); have q := ((tA rfl (by decide : (1 : Int32).toInt = 1) (by omega) (by omega)) : (s.2.2 + 1).toInt = (s.2.2.toInt + 1)); omega)
      exact t_ret ⟨pp, mm⟩
    · have c2i := mt (iLE (a := u1) (b := s.2.1) rfl rfl).mpr c2
      refine t_rI (lo := (-2147483648)) (hi := 2147483647) hM (fun _ _ => rfl) rfl (by omega) (by omega) (fun u2 eu2 bu2 => ?_)
      unfold bX0_oftenest_31
      have m2 := ((tA rfl (by decide : (1 : Int32).toInt = 1) (by omega) (by omega)) : (s.2.2 + 1).toInt = (s.2.2.toInt + 1))
      have mm : (2147483648 - (s.2.2 + 1).toInt).toNat < (2147483648 - s.2.2.toInt).toNat := by omega
      have pp : (0 ≤ (s.2.2 + 1).toInt ∧ (s.2.2 + 1).toInt ≤ 2147483647) := (by show (0 ≤ (s.2.2 + 1).toInt ∧ (s.2.2 + 1).toInt ≤ 2147483647); have q := ((tA rfl (by decide : (1 : Int32).toInt = 1) (by omega) (by omega)) : (s.2.2 + 1).toInt = (s.2.2.toInt + 1)); omega)
      exact t_ret ⟨pp, mm⟩
set_option maxRecDepth 100000 in
set_option maxHeartbeats 1000000 in
theorem tfX0_oftenest {I0 : gM} (I : gM) (hM : MI true I0 I) : T (fX0_oftenest I) (fun r => True) := by
  unfold fX0_oftenest
  refine t_bindE (tlX0_oftenest_6 I hM (((-1) : Int32), (0 : Int32), (0 : Int32)) (by show (0 ≤ ((0 : Int32)).toInt ∧ ((0 : Int32)).toInt ≤ 2147483647); decide)) (fun w3 ew3 pw3 => ?_)
  exact t_ret trivial
set_option maxRecDepth 100000 in
set_option maxHeartbeats 1000000 in
theorem tfX5_isTable {I0 : gM} (k : Nat) (v1 : Int32) (I : gM) (hk : kX5 k) (hM : MI true I0 I) : T (fX5_isTable k v1 I) (fun r => (0 ≤ r.toInt ∧ r.toInt ≤ 1) ∧ (r.toInt = 0 ∨ (0 ≤ v1.toInt ∧ v1.toInt < (I k 0).toInt))) := by
  have hk_1 := hk.1
  have hk_2 := hk.2.1
  unfold fX5_isTable
  have q1 := hM.at (k := k) (j := 0) (lo := 0) (hi := 4) hk.2.2.1
  refine t_ite (fun c2 => ?_) (fun c2 => ?_)
  · have c2i := (iLT (a := v1) (b := (0 : Int32)) rfl (by decide : (0 : Int32).toInt = 0)).mp c2
    exact t_ret ⟨(by show 0 ≤ ((0 : Int32)).toInt ∧ ((0 : Int32)).toInt ≤ 1; decide), (by show (0 : Int32).toInt = 0 ∨ (0 ≤ v1.toInt ∧ v1.toInt < (I k 0).toInt); have q0 : (0 : Int32).toInt = 0 := (by decide); omega)⟩
  · have c2i := mt (iLT (a := v1) (b := (0 : Int32)) rfl (by decide : (0 : Int32).toInt = 0)).mpr c2
    refine t_ite (fun c3 => ?_) (fun c3 => ?_)
    · have c3i := (iLE (a := I k 0) (b := v1) rfl rfl).mp c3
      exact t_ret ⟨(by show 0 ≤ ((0 : Int32)).toInt ∧ ((0 : Int32)).toInt ≤ 1; decide), (by show (0 : Int32).toInt = 0 ∨ (0 ≤ v1.toInt ∧ v1.toInt < (I k 0).toInt); have q0 : (0 : Int32).toInt = 0 := (by decide); omega)⟩
    · have c3i := mt (iLE (a := I k 0) (b := v1) rfl rfl).mpr c3
      exact t_ret ⟨(by show 0 ≤ ((1 : Int32)).toInt ∧ ((1 : Int32)).toInt ≤ 1; decide), (by show (1 : Int32).toInt = 0 ∨ (0 ≤ v1.toInt ∧ v1.toInt < (I k 0).toInt); have q0 : (1 : Int32).toInt = 1 := (by decide); omega)⟩
set_option maxRecDepth 100000 in
set_option maxHeartbeats 1000000 in
theorem tfX5_isUsed {I0 : gM} (k : Nat) (v1 : Int32) (I : gM) (hk : kX5 k) (hM : MI true I0 I) : T (fX5_isUsed k v1 I) (fun r => (0 ≤ r.toInt ∧ r.toInt ≤ 1) ∧ (r.toInt = 0 ∨ (0 ≤ v1.toInt ∧ v1.toInt < (I k 0).toInt))) := by
  have hk_1 := hk.1
  have hk_2 := hk.2.1
  unfold fX5_isUsed
  have q1 := hM.at (k := k) (j := 0) (lo := 0) (hi := 4) hk.2.2.1
  refine t_bindE (tfX5_isTable k v1 I hk hM) (fun r1 er1 pr1 => ?_)
  obtain ⟨br1_0, xr1_0⟩ := (show (0 ≤ r1.toInt ∧ r1.toInt ≤ 1) ∧ (r1.toInt = 0 ∨ (0 ≤ v1.toInt ∧ v1.toInt < (I k 0).toInt)) from pr1)
  refine t_ite (fun c2 => ?_) (fun c2 => ?_)
  · have c2i := (iEQ (a := r1) (b := (0 : Int32)) rfl (by decide : (0 : Int32).toInt = 0)).mp c2
    exact t_ret ⟨(by show 0 ≤ ((0 : Int32)).toInt ∧ ((0 : Int32)).toInt ≤ 1; decide), (by show (0 : Int32).toInt = 0 ∨ (0 ≤ v1.toInt ∧ v1.toInt < (I k 0).toInt); have q0 : (0 : Int32).toInt = 0 := (by decide); omega)⟩
  · have c2i := mt (iEQ (a := r1) (b := (0 : Int32)) rfl (by decide : (0 : Int32).toInt = 0)).mpr c2
    have q3 : 0 ≤ (((I k 1) >>> (v1 &&& 31)) &&& 1).toInt ∧ (((I k 1) >>> (v1 &&& 31)) &&& 1).toInt ≤ 1 := and_b ((I k 1) >>> (v1 &&& 31)) (Or.inr (Or.inl rfl))
    refine t_ite (fun c4 => ?_) (fun c4 => ?_)
    · have c4i := (iEQ (a := ((I k 1) >>> (v1 &&& 31)) &&& 1) (b := (0 : Int32)) rfl (by decide : (0 : Int32).toInt = 0)).mp c4
      exact t_ret ⟨(by show 0 ≤ ((0 : Int32)).toInt ∧ ((0 : Int32)).toInt ≤ 1; decide), (by show (0 : Int32).toInt = 0 ∨ (0 ≤ v1.toInt ∧ v1.toInt < (I k 0).toInt); have q0 : (0 : Int32).toInt = 0 := (by decide); omega)⟩
    · have c4i := mt (iEQ (a := ((I k 1) >>> (v1 &&& 31)) &&& 1) (b := (0 : Int32)) rfl (by decide : (0 : Int32).toInt = 0)).mpr c4
      exact t_ret ⟨(by show 0 ≤ ((1 : Int32)).toInt ∧ ((1 : Int32)).toInt ≤ 1; decide), (by show (1 : Int32).toInt = 0 ∨ (0 ≤ v1.toInt ∧ v1.toInt < (I k 0).toInt); have q0 : (1 : Int32).toInt = 1 := (by decide); omega)⟩
set_option maxRecDepth 100000 in
set_option maxHeartbeats 1000000 in
theorem tlX5_rowWithin_5 {I0 : gM} (k : Nat) (v1 : Int32) (v2 : Int32) (I : gM) (hk : kX5 k) (hM : MI true I0 I) (av1 : 0 ≤ v1.toInt ∧ v1.toInt ≤ 3) (s : (Int32 × Int32)) (hP : (0 ≤ (s.2).toInt ∧ (s.2).toInt ≤ 2147483647)) : T (lX5_rowWithin_5 k v1 v2 I s) (fun r : Int32 => True) := by
  have hk_1 := hk.1
  have hk_2 := hk.2.1
  unfold lX5_rowWithin_5
  refine t_it (P := fun s : (Int32 × Int32) => (0 ≤ (s.2).toInt ∧ (s.2).toInt ≤ 2147483647)) (μ := fun s : (Int32 × Int32) => (2147483648 - s.2.toInt).toNat) (fun s p => ?_) hP
  have b1 : (0 ≤ (s.2).toInt ∧ (s.2).toInt ≤ 2147483647) := p
  refine t_rI (lo := 0) (hi := 3) hM (fun j _ => hk.2.2.2.2.2.1 j) rfl (by omega) (by omega) (fun u1 eu1 bu1 => ?_)
  refine t_ite (fun c1 => ?_) (fun c1 => ?_)
  · have c1i := (iLE (a := u1) (b := s.2) rfl rfl).mp c1
    exact t_ret (show True from trivial)
  · have c1i := mt (iLE (a := u1) (b := s.2) rfl rfl).mpr c1
    refine t_rI (lo := 0) (hi := 3) hM (fun j _ => hk.2.2.2.2.2.2.2.1 j) (tA (tM rfl (by decide : (3 : Int32).toInt = 3) (by omega) (by omega)) rfl (by omega) (by omega)) (by omega) (by omega) (fun u2 eu2 bu2 => ?_)
    have m1 := ((tA rfl (by decide : (1 : Int32).toInt = 1) (by omega) (by omega)) : (s.2 + 1).toInt = (s.2.toInt + 1))
    have mm : (2147483648 - (s.2 + 1).toInt).toNat < (2147483648 - s.2.toInt).toNat := by omega
    have pp : (0 ≤ (s.2 + 1).toInt ∧ (s.2 + 1).toInt ≤ 2147483647) := (by show (0 ≤ (s.2 + 1).toInt ∧ (s.2 + 1).toInt ≤ 2147483647); have q := ((tA rfl (by decide : (1 : Int32).toInt = 1) (by omega) (by omega)) : (s.2 + 1).toInt = (s.2.toInt + 1)); omega)
    exact t_ret ⟨pp, mm⟩
set_option maxRecDepth 100000 in
set_option maxHeartbeats 1000000 in
theorem tfX5_rowWithin {I0 : gM} (k : Nat) (v1 : Int32) (v2 : Int32) (I : gM) (hk : kX5 k) (hM : MI true I0 I) (av1 : 0 ≤ v1.toInt ∧ v1.toInt ≤ 3) : T (fX5_rowWithin k v1 v2 I) (fun r => True) := by
  have hk_1 := hk.1
  have hk_2 := hk.2.1
  unfold fX5_rowWithin
  refine t_bindE (tlX5_rowWithin_5 k v1 v2 I hk hM (by omega) ((0 : Int32), (0 : Int32)) (by show (0 ≤ ((0 : Int32)).toInt ∧ ((0 : Int32)).toInt ≤ 2147483647); decide)) (fun w3 ew3 pw3 => ?_)
  exact t_ret trivial
set_option maxRecDepth 100000 in
set_option maxHeartbeats 1000000 in
theorem tfX5_rowAt {I0 : gM} (k : Nat) (v1 : Int32) (v2 : Int32) (I : gM) (hk : kX5 k) (hM : MI true I0 I) (av1 : 0 ≤ v1.toInt ∧ v1.toInt ≤ 3) (av2 : 0 ≤ v2.toInt ∧ v2.toInt ≤ 11) : T (fX5_rowAt k v1 v2 I) (fun r => True) := by
  have hk_1 := hk.1
  have hk_2 := hk.2.1
  unfold fX5_rowAt
  refine t_rI (lo := (-2147483648)) (hi := 2147483647) hM (fun j _ => hk.2.2.2.2.2.2.2.2 j) (tA (tM rfl (by decide : (12 : Int32).toInt = 12) (by omega) (by omega)) rfl (by omega) (by omega)) (by omega) (by omega) (fun u1 eu1 bu1 => ?_)
  exact t_ret trivial
set_option maxRecDepth 100000 in
set_option maxHeartbeats 1000000 in
theorem tlX5_placeOf_2 {I0 : gM} (k : Nat) (v1 : Int32) (v2 : Int32) (I : gM) (hk : kX5 k) (hM : MI true I0 I) (av1 : 0 ≤ v1.toInt ∧ v1.toInt ≤ 3) (s : Int32) (hP : (0 ≤ (s).toInt ∧ (s).toInt ≤ 2147483647)) : T (lX5_placeOf_2 k v1 v2 I s) (Sum.elim (fun r : Int32 => (0 ≤ r.toInt ∧ r.toInt ≤ 11) ∧ (r.toInt < (I (k + 2) v1.toInt.toNat).toInt)) (fun r : Unit => True)) := by
  have hk_1 := hk.1
  have hk_2 := hk.2.1
  unfold lX5_placeOf_2
  refine t_it (P := fun s : Int32 => (0 ≤ (s).toInt ∧ (s).toInt ≤ 2147483647)) (μ := fun s : Int32 => (2147483648 - s.toInt).toNat) (fun s p => ?_) hP
  have b0 : (0 ≤ (s).toInt ∧ (s).toInt ≤ 2147483647) := p
  refine t_rI (lo := 0) (hi := 12) hM (fun j _ => hk.2.2.2.2.2.2.1 j) rfl (by omega) (by omega) (fun u1 eu1 bu1 => ?_)
  have q1 : u1.toInt = (I (k + 2) (v1.toInt).toNat).toInt := by rw [eu1]
  refine t_ite (fun c2 => ?_) (fun c2 => ?_)
  · have c2i := (iLE (a := u1) (b := s) rfl rfl).mp c2
    exact t_ret (show True from trivial)
  · have c2i := mt (iLE (a := u1) (b := s) rfl rfl).mpr c2
    refine t_bindE (tfX5_rowAt k v1 s I hk hM (by omega) (by omega)) (fun r2 er2 pr2 => ?_)
    refine t_ite (fun c3 => ?_) (fun c3 => ?_)
    · have c3i := (iEQ (a := r2) (b := v2) rfl rfl).mp c3
      exact t_ret (show (0 ≤ (s).toInt ∧ (s).toInt ≤ 11) ∧ (s.toInt < (I (k + 2) v1.toInt.toNat).toInt) from ⟨(by omega), (by omega)⟩)
    · have c3i := mt (iEQ (a := r2) (b := v2) rfl rfl).mpr c3
      have m0 := ((tA rfl (by decide : (1 : Int32).toInt = 1) (by omega) (by omega)) : (s + 1).toInt = (s.toInt + 1))
      have mm : (2147483648 - (s + 1).toInt).toNat < (2147483648 - s.toInt).toNat := by omega
      have pp : (0 ≤ ((s + 1)).toInt ∧ ((s + 1)).toInt ≤ 2147483647) := (by show (0 ≤ ((s + 1)).toInt ∧ ((s + 1)).toInt ≤ 2147483647); have q := ((tA rfl (by decide : (1 : Int32).toInt = 1) (by omega) (by omega)) : (s + 1).toInt = (s.toInt + 1)); omega)
      exact t_ret ⟨pp, mm⟩
set_option maxRecDepth 100000 in
set_option maxHeartbeats 1000000 in
theorem tfX5_placeOf {I0 : gM} (k : Nat) (v1 : Int32) (v2 : Int32) (I : gM) (hk : kX5 k) (hM : MI true I0 I) (av1 : 0 ≤ v1.toInt ∧ v1.toInt ≤ 3) : T (fX5_placeOf k v1 v2 I) (fun r => ((-1) ≤ r.toInt ∧ r.toInt ≤ 11) ∧ (r.toInt = (-1) ∨ r.toInt < (I (k + 2) v1.toInt.toNat).toInt)) := by
  have hk_1 := hk.1
  have hk_2 := hk.2.1
  unfold fX5_placeOf
  refine t_bindE (tlX5_placeOf_2 k v1 v2 I hk hM (by omega) (0 : Int32) (by show (0 ≤ ((0 : Int32)).toInt ∧ ((0 : Int32)).toInt ≤ 2147483647); decide)) (fun w3 ew3 pw3 => ?_)
  rcases w3 with w3_0 | w3_1
  · refine t_el ?_
    obtain ⟨bw3_0_0, xw3_0_0⟩ := (show (0 ≤ w3_0.toInt ∧ w3_0.toInt ≤ 11) ∧ (w3_0.toInt < (I (k + 2) v1.toInt.toNat).toInt) from pw3)
    exact t_ret ⟨(by show (-1) ≤ (w3_0).toInt ∧ (w3_0).toInt ≤ 11; omega), (by show w3_0.toInt = (-1) ∨ w3_0.toInt < (I (k + 2) v1.toInt.toNat).toInt; skip; omega)⟩
  · refine t_er ?_
    exact t_ret ⟨(by show (-1) ≤ (((-1) : Int32)).toInt ∧ (((-1) : Int32)).toInt ≤ 11; decide), (by show ((-1) : Int32).toInt = (-1) ∨ ((-1) : Int32).toInt < (I (k + 2) v1.toInt.toNat).toInt; have q0 : ((-1) : Int32).toInt = (-1) := (by decide); omega)⟩
set_option maxRecDepth 100000 in
set_option maxHeartbeats 1000000 in
theorem tlX0_givenBits_28 {I0 : gM} (k1 : Nat) (k2 : Nat) (v3 : Int32) (v4 : Int32) (I : gM) (hk1 : kX1 k1) (hk2 : kX5 k2) (hM : MI true I0 I) (av3 : 0 ≤ v3.toInt ∧ v3.toInt ≤ 3) (s : (Int32 × Int32)) (hP : (0 ≤ (s.2).toInt ∧ (s.2).toInt ≤ 2147483647)) : T (lX0_givenBits_28 k1 k2 v3 v4 I s) (fun r : Int32 => True) := by
  have hk1_1 := hk1.1
  have hk1_2 := hk1.2.1
  have hk2_1 := hk2.1
  have hk2_2 := hk2.2.1
  unfold lX0_givenBits_28
  refine t_it (P := fun s : (Int32 × Int32) => (0 ≤ (s.2).toInt ∧ (s.2).toInt ≤ 2147483647)) (μ := fun s : (Int32 × Int32) => (2147483648 - s.2.toInt).toNat) (fun s p => ?_) hP
  have b1 : (0 ≤ (s.2).toInt ∧ (s.2).toInt ≤ 2147483647) := p
  have q1 := hM.at (k := k1) (j := 0) (lo := 0) (hi := 20736) hk1.2.2.1
  refine t_ite (fun c2 => ?_) (fun c2 => ?_)
  · have c2i := (iLE (a := I k1 0) (b := s.2) rfl rfl).mp c2
    exact t_ret (show True from trivial)
  · have c2i := mt (iLE (a := I k1 0) (b := s.2) rfl rfl).mpr c2
    refine t_ite (fun c3 => ?_) (fun c3 => ?_)
    · have c3i := (iEQ (a := s.1) (b := v4) rfl rfl).mp c3
      exact t_ret (show True from trivial)
    · have c3i := mt (iEQ (a := s.1) (b := v4) rfl rfl).mpr c3
      refine t_bindE (tfX1_rowAt k1 s.2 I hk1 hM) (fun r3 er3 pr3 => ?_)
      refine t_bindE (tfX5_rowWithin k2 v3 r3 I hk2 hM (by omega)) (fun r4 er4 pr4 => ?_)
      refine t_bindE (tfX5_placeOf k2 v3 r4 I hk2 hM (by omega)) (fun r5 er5 pr5 => ?_)
      obtain ⟨br5_0, xr5_0⟩ := (show ((-1) ≤ r5.toInt ∧ r5.toInt ≤ 11) ∧ (r5.toInt = (-1) ∨ r5.toInt < (I (k2 + 2) v3.toInt.toNat).toInt) from pr5)
      refine t_ite (fun c4 => ?_) (fun c4 => ?_)
      · have c4i := (iEQ (a := r5) (b := ((-1) : Int32)) rfl (by decide : ((-1) : Int32).toInt = (-1))).mp c4
        unfold bX0_givenBits_77
        have m1 := ((tA rfl (by decide : (1 : Int32).toInt = 1) (by omega) (by omega)) : (s.2 + 1).toInt = (s.2.toInt + 1))
        have mm : (2147483648 - (s.2 + 1).toInt).toNat < (2147483648 - s.2.toInt).toNat := by omega
        have pp : (0 ≤ (s.2 + 1).toInt ∧ (s.2 + 1).toInt ≤ 2147483647) := (by show (0 ≤ (s.2 + 1).toInt ∧ (s.2 + 1).toInt ≤ 2147483647); have q := ((tA rfl (by decide : (1 : Int32).toInt = 1) (by omega) (by omega)) : (s.2 + 1).toInt = (s.2.toInt + 1)); omega)
        exact t_ret ⟨pp, mm⟩
      · have c4i := mt (iEQ (a := r5) (b := ((-1) : Int32)) rfl (by decide : ((-1) : Int32).toInt = (-1))).mpr c4
        unfold bX0_givenBits_77
        have m1 := ((tA rfl (by decide : (1 : Int32).toInt = 1) (by omega) (by omega)) : (s.2 + 1).toInt = (s.2.toInt + 1))
        have mm : (2147483648 - (s.2 + 1).toInt).toNat < (2147483648 - s.2.toInt).toNat := by omega
        have pp : (0 ≤ (s.2 + 1).toInt ∧ (s.2 + 1).toInt ≤ 2147483647) := (by show (0 ≤ (s.2 + 1).toInt ∧ (s.2 + 1).toInt ≤ 2147483647); have q := ((tA rfl (by decide : (1 : Int32).toInt = 1) (by omega) (by omega)) : (s.2 + 1).toInt = (s.2.toInt + 1)); omega)
        exact t_ret ⟨pp, mm⟩
set_option maxRecDepth 100000 in
set_option maxHeartbeats 1000000 in
theorem tfX0_givenBits {I0 : gM} (k1 : Nat) (k2 : Nat) (v3 : Int32) (I : gM) (hk1 : kX1 k1) (hk2 : kX5 k2) (hM : MI true I0 I) : T (fX0_givenBits k1 k2 v3 I) (fun r => True) := by
  have hk1_1 := hk1.1
  have hk1_2 := hk1.2.1
  have hk2_1 := hk2.1
  have hk2_2 := hk2.2.1
  unfold fX0_givenBits
  refine t_bindE (tfX5_isUsed k2 v3 I hk2 hM) (fun r1 er1 pr1 => ?_)
  obtain ⟨br1_0, xr1_0⟩ := (show (0 ≤ r1.toInt ∧ r1.toInt ≤ 1) ∧ (r1.toInt = 0 ∨ (0 ≤ v3.toInt ∧ v3.toInt < (I k2 0).toInt)) from pr1)
  have q1 := hM.at (k := k2) (j := 0) (lo := 0) (hi := 4) hk2.2.2.1
  refine t_ite (fun c2 => ?_) (fun c2 => ?_)
  · have c2i := (iEQ (a := r1) (b := (0 : Int32)) rfl (by decide : (0 : Int32).toInt = 0)).mp c2
    exact t_ret trivial
  · have c2i := mt (iEQ (a := r1) (b := (0 : Int32)) rfl (by decide : (0 : Int32).toInt = 0)).mpr c2
    refine t_rI (lo := 0) (hi := 12) hM (fun j _ => hk2.2.2.2.2.2.2.1 j) rfl (by omega) (by omega) (fun u2 eu2 bu2 => ?_)
    refine t_bindE (tlX0_givenBits_28 k1 k2 v3 (((1 : Int32) <<< (u2 &&& 31)) - 1) I hk1 hk2 hM (by omega) ((0 : Int32), (0 : Int32)) (by show (0 ≤ ((0 : Int32)).toInt ∧ ((0 : Int32)).toInt ≤ 2147483647); decide)) (fun w6 ew6 pw6 => ?_)
    exact t_ret trivial
set_option maxRecDepth 100000 in
set_option maxHeartbeats 1000000 in
theorem tlX0_unlike_5 (v2 : Int32)  (s : (Int32 × Int32)) (hP : (0 ≤ (s.2).toInt ∧ (s.2).toInt ≤ 2147483647)) : T (lX0_unlike_5 v2 s) (fun r : Int32 => True) := by
  unfold lX0_unlike_5
  refine t_it (P := fun s : (Int32 × Int32) => (0 ≤ (s.2).toInt ∧ (s.2).toInt ≤ 2147483647)) (μ := fun s : (Int32 × Int32) => (2147483648 - s.2.toInt).toNat) (fun s p => ?_) hP
  have b1 : (0 ≤ (s.2).toInt ∧ (s.2).toInt ≤ 2147483647) := p
  refine t_ite (fun c1 => ?_) (fun c1 => ?_)
  · have c1i := (iLE (a := (4 : Int32)) (b := s.2) (by decide : (4 : Int32).toInt = 4) rfl).mp c1
    exact t_ret (show True from trivial)
  · have c1i := mt (iLE (a := (4 : Int32)) (b := s.2) (by decide : (4 : Int32).toInt = 4) rfl).mpr c1
    have q2 : 0 ≤ ((v2 >>> (s.2 &&& 31)) &&& 1).toInt ∧ ((v2 >>> (s.2 &&& 31)) &&& 1).toInt ≤ 1 := and_b (v2 >>> (s.2 &&& 31)) (Or.inr (Or.inl rfl))
    refine t_ite (fun c3 => ?_) (fun c3 => ?_)
    · have c3i := (iEQ (a := (v2 >>> (s.2 &&& 31)) &&& 1) (b := (0 : Int32)) rfl (by decide : (0 : Int32).toInt = 0)).mp c3
      unfold bX0_unlike_34
      have m1 := ((tA rfl (by decide : (1 : Int32).toInt = 1) (by omega) (by omega)) : (s.2 + 1).toInt = (s.2.toInt + 1))
      have mm : (2147483648 - (s.2 + 1).toInt).toNat < (2147483648 - s.2.toInt).toNat := by omega
      have pp : (0 ≤ (s.2 + 1).toInt ∧ (s.2 + 1).toInt ≤ 2147483647) := (by show (0 ≤ (s.2 + 1).toInt ∧ (s.2 + 1).toInt ≤ 2147483647); have q := ((tA rfl (by decide : (1 : Int32).toInt = 1) (by omega) (by omega)) : (s.2 + 1).toInt = (s.2.toInt + 1)); omega)
      exact t_ret ⟨pp, mm⟩
    · have c3i := mt (iEQ (a := (v2 >>> (s.2 &&& 31)) &&& 1) (b := (0 : Int32)) rfl (by decide : (0 : Int32).toInt = 0)).mpr c3
      unfold bX0_unlike_34
      have m1 := ((tA rfl (by decide : (1 : Int32).toInt = 1) (by omega) (by omega)) : (s.2 + 1).toInt = (s.2.toInt + 1))
      have mm : (2147483648 - (s.2 + 1).toInt).toNat < (2147483648 - s.2.toInt).toNat := by omega
      have pp : (0 ≤ (s.2 + 1).toInt ∧ (s.2 + 1).toInt ≤ 2147483647) := (by show (0 ≤ (s.2 + 1).toInt ∧ (s.2 + 1).toInt ≤ 2147483647); have q := ((tA rfl (by decide : (1 : Int32).toInt = 1) (by omega) (by omega)) : (s.2 + 1).toInt = (s.2.toInt + 1)); omega)
      exact t_ret ⟨pp, mm⟩
set_option maxRecDepth 100000 in
set_option maxHeartbeats 1000000 in
theorem tlX0_unlike_46 {I0 : gM} (k1 : Nat) (v3 : Int32) (I : gM) (hk1 : kX1 k1) (hM : MI true I0 I) (s : (Int32 × Int32)) (hP : (0 ≤ (s.2).toInt ∧ (s.2).toInt ≤ 2147483647)) : T (lX0_unlike_46 k1 v3 I s) (fun r : Int32 => True) := by
  have hk1_1 := hk1.1
  have hk1_2 := hk1.2.1
  unfold lX0_unlike_46
  refine t_it (P := fun s : (Int32 × Int32) => (0 ≤ (s.2).toInt ∧ (s.2).toInt ≤ 2147483647)) (μ := fun s : (Int32 × Int32) => (2147483648 - s.2.toInt).toNat) (fun s p => ?_) hP
  have b1 : (0 ≤ (s.2).toInt ∧ (s.2).toInt ≤ 2147483647) := p
  have q1 := hM.at (k := k1) (j := 0) (lo := 0) (hi := 20736) hk1.2.2.1
  refine t_ite (fun c2 => ?_) (fun c2 => ?_)
  · have c2i := (iLE (a := I k1 0) (b := s.2) rfl rfl).mp c2
    exact t_ret (show True from trivial)
  · have c2i := mt (iLE (a := I k1 0) (b := s.2) rfl rfl).mpr c2
    refine t_ite (fun c3 => ?_) (fun c3 => ?_)
    · have c3i := (iEQ (a := s.2) (b := (0 : Int32)) rfl (by decide : (0 : Int32).toInt = 0)).mp c3
      unfold bX0_unlike_81
      unfold bX0_unlike_84
      have m1 := ((tA rfl (by decide : (1 : Int32).toInt = 1) (by omega) (by omega)) : (s.2 + 1).toInt = (s.2.toInt + 1))
      have mm : (2147483648 - (s.2 + 1).toInt).toNat < (2147483648 - s.2.toInt).toNat := by omega
      have pp : (0 ≤ (s.2 + 1).toInt ∧ (s.2 + 1).toInt ≤ 2147483647) := (by show (0 ≤ (s.2 + 1).toInt ∧ (s.2 + 1).toInt ≤ 2147483647); have q := ((tA rfl (by decide : (1 : Int32).toInt = 1) (by omega) (by omega)) : (s.2 + 1).toInt = (s.2.toInt + 1)); omega)
      exact t_ret ⟨pp, mm⟩
    · have c3i := mt (iEQ (a := s.2) (b := (0 : Int32)) rfl (by decide : (0 : Int32).toInt = 0)).mpr c3
      refine t_bindE (tfX1_rowAt k1 s.2 I hk1 hM) (fun r2 er2 pr2 => ?_)
      refine t_bindE (tfX1_rowAt k1 (s.2 - 1) I hk1 hM) (fun r3 er3 pr3 => ?_)
      refine t_ite (fun c4 => ?_) (fun c4 => ?_)
      · have c4i := (iEQ (a := r2 &&& v3) (b := r3 &&& v3) rfl rfl).mp c4
        unfold bX0_unlike_84
        have m1 := ((tA rfl (by decide : (1 : Int32).toInt = 1) (by omega) (by omega)) : (s.2 + 1).toInt = (s.2.toInt + 1))
        have mm : (2147483648 - (s.2 + 1).toInt).toNat < (2147483648 - s.2.toInt).toNat := by omega
        have pp : (0 ≤ (s.2 + 1).toInt ∧ (s.2 + 1).toInt ≤ 2147483647) := (by show (0 ≤ (s.2 + 1).toInt ∧ (s.2 + 1).toInt ≤ 2147483647); have q := ((tA rfl (by decide : (1 : Int32).toInt = 1) (by omega) (by omega)) : (s.2 + 1).toInt = (s.2.toInt + 1)); omega)
        exact t_ret ⟨pp, mm⟩
      · have c4i := mt (iEQ (a := r2 &&& v3) (b := r3 &&& v3) rfl rfl).mpr c4
        unfold bX0_unlike_81
        unfold bX0_unlike_84
        have m1 := ((tA rfl (by decide : (1 : Int32).toInt = 1) (by omega) (by omega)) : (s.2 + 1).toInt = (s.2.toInt + 1))
        have mm : (2147483648 - (s.2 + 1).toInt).toNat < (2147483648 - s.2.toInt).toNat := by omega
        have pp : (0 ≤ (s.2 + 1).toInt ∧ (s.2 + 1).toInt ≤ 2147483647) := (by show (0 ≤ (s.2 + 1).toInt ∧ (s.2 + 1).toInt ≤ 2147483647); have q := ((tA rfl (by decide : (1 : Int32).toInt = 1) (by omega) (by omega)) : (s.2 + 1).toInt = (s.2.toInt + 1)); omega)
        exact t_ret ⟨pp, mm⟩
set_option maxRecDepth 100000 in
set_option maxHeartbeats 1000000 in
theorem tfX0_unlike {I0 : gM} (k1 : Nat) (v2 : Int32) (I : gM) (hk1 : kX1 k1) (hM : MI true I0 I) : T (fX0_unlike k1 v2 I) (fun r => True) := by
  have hk1_1 := hk1.1
  have hk1_2 := hk1.2.1
  unfold fX0_unlike
  refine t_bindE (tlX0_unlike_5 v2 ((0 : Int32), (0 : Int32)) (by show (0 ≤ ((0 : Int32)).toInt ∧ ((0 : Int32)).toInt ≤ 2147483647); decide)) (fun w1 ew1 pw1 => ?_)
  refine t_bindE (tlX0_unlike_46 k1 w1 I hk1 hM ((0 : Int32), (0 : Int32)) (by show (0 ≤ ((0 : Int32)).toInt ∧ ((0 : Int32)).toInt ≤ 2147483647); decide)) (fun w4 ew4 pw4 => ?_)
  exact t_ret trivial
set_option maxRecDepth 100000 in
set_option maxHeartbeats 1000000 in
theorem tlX0_isTold_11 {I0 : gM} (k1 : Nat) (v2 : Int32) (v3 : Int32) (hk1 : kX1 k1) (s : (Int32 × gM)) (hP : (0 ≤ (s.1).toInt ∧ (s.1).toInt ≤ 2147483647) ∧ MI true I0 s.2) : T (lX0_isTold_11 k1 v2 v3 s) (Sum.elim (fun r : gM => MI true I0 r) (fun r : gM => MI true I0 r)) := by
  have hk1_1 := hk1.1
  have hk1_2 := hk1.2.1
  unfold lX0_isTold_11
  refine t_it (P := fun s : (Int32 × gM) => (0 ≤ (s.1).toInt ∧ (s.1).toInt ≤ 2147483647) ∧ MI true I0 s.2) (μ := fun s : (Int32 × gM) => (2147483648 - s.1.toInt).toNat) (fun s p => ?_) hP
  obtain ⟨b0, hs⟩ := p
  have q1 := hs.at (k := k1) (j := 0) (lo := 0) (hi := 20736) hk1.2.2.1
  refine t_ite (fun c2 => ?_) (fun c2 => ?_)
  · have c2i := (iLE (a := s.2 k1 0) (b := s.1) rfl rfl).mp c2
    exact t_ret (show MI true I0 s.2 from hs)
  · have c2i := mt (iLE (a := s.2 k1 0) (b := s.1) rfl rfl).mpr c2
    refine t_bindE (tfX1_numberAt k1 s.1 v2 s.2 hk1 hs) (fun r2 er2 pr2 => ?_)
    have br2_0 : (0 ≤ r2.toInt ∧ r2.toInt ≤ 127) := pr2
    refine t_bindE (tfX1_numberAt k1 s.1 v3 s.2 hk1 hs) (fun r3 er3 pr3 => ?_)
    have br3_0 : (0 ≤ r3.toInt ∧ r3.toInt ≤ 127) := pr3
    refine t_ite (fun c3 => ?_) (fun c3 => ?_)
    · have c3i := (iLE (a := (100 : Int32)) (b := r2) (by decide : (100 : Int32).toInt = 100) rfl).mp c3
      exact t_ret (show MI true I0 s.2 from hs)
    · have c3i := mt (iLE (a := (100 : Int32)) (b := r2) (by decide : (100 : Int32).toInt = 100) rfl).mpr c3
      refine t_rI (lo := (-2147483648)) (hi := 2147483647) hs (fun _ _ => rfl) rfl (by omega) (by omega) (fun u4 eu4 bu4 => ?_)
      refine t_ite (fun c4 => ?_) (fun c4 => ?_)
      · have c4i := (iEQ (a := u4) (b := ((-1) : Int32)) rfl (by decide : ((-1) : Int32).toInt = (-1))).mp c4
        unfold bX0_isTold_70
        refine t_wI (lo := (-2147483648)) (hi := 2147483647) hs rfl (fun _ _ => rfl) rfl (by omega) (by omega) (tTop _) (fun I5 eI5 hI5 => ?_)
        have m0 := ((tA rfl (by decide : (1 : Int32).toInt = 1) (by omega) (by omega)) : (s.1 + 1).toInt = (s.1.toInt + 1))
        have mm : (2147483648 - (s.1 + 1).toInt).toNat < (2147483648 - s.1.toInt).toNat := by omega
        have pp : (0 ≤ (s.1 + 1).toInt ∧ (s.1 + 1).toInt ≤ 2147483647) ∧ MI true I0 I5 := ⟨(by show (0 ≤ (s.1 + 1).toInt ∧ (s.1 + 1).toInt ≤ 2147483647); have q := ((tA rfl (by decide : (1 : Int32).toInt = 1) (by omega) (by omega)) : (s.1 + 1).toInt = (s.1.toInt + 1)); omega), hI5⟩
        exact t_ret ⟨pp, mm⟩
      · have c4i := mt (iEQ (a := u4) (b := ((-1) : Int32)) rfl (by decide : ((-1) : Int32).toInt = (-1))).mpr c4
        refine t_rI (lo := (-2147483648)) (hi := 2147483647) hs (fun _ _ => rfl) rfl (by omega) (by omega) (fun u6 eu6 bu6 => ?_)
        refine t_ite (fun c5 => ?_) (fun c5 => ?_)
        · have c5i := (iEQ (a := u6) (b := r3) rfl rfl).mp c5
          unfold bX0_isTold_70
          refine t_wI (lo := (-2147483648)) (hi := 2147483647) hs rfl (fun _ _ => rfl) rfl (by omega) (by omega) (tTop _) (fun I5 eI5 hI5 => ?_)
          have m0 := ((tA rfl (by decide : (1 : Int32).toInt = 1) (by omega) (by omega)) : (s.1 + 1).toInt = (s.1.toInt + 1))
          have mm : (2147483648 - (s.1 + 1).toInt).toNat < (2147483648 - s.1.toInt).toNat := by omega
          have pp : (0 ≤ (s.1 + 1).toInt ∧ (s.1 + 1).toInt ≤ 2147483647) ∧ MI true I0 I5 := ⟨(by show (0 ≤ (s.1 + 1).toInt ∧ (s.1 + 1).toInt ≤ 2147483647); have q := ((tA rfl (by decide : (1 : Int32).toInt = 1) (by omega) (by omega)) : (s.1 + 1).toInt = (s.1.toInt + 1)); omega), hI5⟩
          exact t_ret ⟨pp, mm⟩
        · have c5i := mt (iEQ (a := u6) (b := r3) rfl rfl).mpr c5
          exact t_ret (show MI true I0 s.2 from hs)
set_option maxRecDepth 100000 in
set_option maxHeartbeats 1000000 in
theorem tfX0_isTold {I0 : gM} (k1 : Nat) (v2 : Int32) (v3 : Int32) (I : gM) (hk1 : kX1 k1) (hM : MI true I0 I) : T (fX0_isTold k1 v2 v3 I) (fun r => (0 ≤ r.1.toInt ∧ r.1.toInt ≤ 1) ∧ MI true I0 r.2) := by
  have hk1_1 := hk1.1
  have hk1_2 := hk1.2.1
  unfold fX0_isTold
  refine t_bind (t_fill 42 100 ((-1) : Int32) I (lo := (-2147483648)) (hi := 2147483647) hM rfl (fun _ _ => rfl) (by decide) (tTop _)) (fun r1 pr1 => ?_)
  obtain ⟨hr1, yr1, zr1⟩ := pr1
  refine t_bindE (tlX0_isTold_11 k1 v2 v3 hk1 ((0 : Int32), r1) ⟨(by show (0 ≤ ((0 : Int32)).toInt ∧ ((0 : Int32)).toInt ≤ 2147483647); decide), hr1⟩) (fun w7 ew7 pw7 => ?_)
  rcases w7 with w7_0 | w7_1
  · refine t_el ?_
    have hw7_0_0 : MI true I0 w7_0 := pw7
    exact t_ret ⟨(by show 0 ≤ ((0 : Int32)).toInt ∧ ((0 : Int32)).toInt ≤ 1; decide), hw7_0_0⟩
  · refine t_er ?_
    have hw7_1_0 : MI true I0 w7_1 := pw7
    exact t_ret ⟨(by show 0 ≤ ((1 : Int32)).toInt ∧ ((1 : Int32)).toInt ≤ 1; decide), hw7_1_0⟩
set_option maxRecDepth 100000 in
set_option maxHeartbeats 1000000 in
theorem tlX5_lettersOf_4 {I0 : gM} (k : Nat) (v1 : Int32) (I : gM) (hk : kX5 k) (hM : MI true I0 I) (av1 : 0 ≤ v1.toInt ∧ v1.toInt ≤ 3) (s : (Int32 × Int32)) (hP : (0 ≤ (s.2).toInt ∧ (s.2).toInt ≤ 2147483647)) : T (lX5_lettersOf_4 k v1 I s) (fun r : Int32 => True) := by
  have hk_1 := hk.1
  have hk_2 := hk.2.1
  unfold lX5_lettersOf_4
  refine t_it (P := fun s : (Int32 × Int32) => (0 ≤ (s.2).toInt ∧ (s.2).toInt ≤ 2147483647)) (μ := fun s : (Int32 × Int32) => (2147483648 - s.2.toInt).toNat) (fun s p => ?_) hP
  have b1 : (0 ≤ (s.2).toInt ∧ (s.2).toInt ≤ 2147483647) := p
  refine t_rI (lo := 0) (hi := 3) hM (fun j _ => hk.2.2.2.2.2.1 j) rfl (by omega) (by omega) (fun u1 eu1 bu1 => ?_)
  refine t_ite (fun c1 => ?_) (fun c1 => ?_)
  · have c1i := (iLE (a := u1) (b := s.2) rfl rfl).mp c1
    exact t_ret (show True from trivial)
  · have c1i := mt (iLE (a := u1) (b := s.2) rfl rfl).mpr c1
    refine t_rI (lo := 0) (hi := 3) hM (fun j _ => hk.2.2.2.2.2.2.2.1 j) (tA (tM rfl (by decide : (3 : Int32).toInt = 3) (by omega) (by omega)) rfl (by omega) (by omega)) (by omega) (by omega) (fun u2 eu2 bu2 => ?_)
    have m1 := ((tA rfl (by decide : (1 : Int32).toInt = 1) (by omega) (by omega)) : (s.2 + 1).toInt = (s.2.toInt + 1))
    have mm : (2147483648 - (s.2 + 1).toInt).toNat < (2147483648 - s.2.toInt).toNat := by omega
    have pp : (0 ≤ (s.2 + 1).toInt ∧ (s.2 + 1).toInt ≤ 2147483647) := (by show (0 ≤ (s.2 + 1).toInt ∧ (s.2 + 1).toInt ≤ 2147483647); have q := ((tA rfl (by decide : (1 : Int32).toInt = 1) (by omega) (by omega)) : (s.2 + 1).toInt = (s.2.toInt + 1)); omega)
    exact t_ret ⟨pp, mm⟩
set_option maxRecDepth 100000 in
set_option maxHeartbeats 1000000 in
theorem tfX5_lettersOf {I0 : gM} (k : Nat) (v1 : Int32) (I : gM) (hk : kX5 k) (hM : MI true I0 I) (av1 : 0 ≤ v1.toInt ∧ v1.toInt ≤ 3) : T (fX5_lettersOf k v1 I) (fun r => True) := by
  have hk_1 := hk.1
  have hk_2 := hk.2.1
  unfold fX5_lettersOf
  refine t_bindE (tlX5_lettersOf_4 k v1 I hk hM (by omega) ((0 : Int32), (0 : Int32)) (by show (0 ≤ ((0 : Int32)).toInt ∧ ((0 : Int32)).toInt ≤ 2147483647); decide)) (fun w3 ew3 pw3 => ?_)
  exact t_ret trivial
set_option maxRecDepth 100000 in
set_option maxHeartbeats 1000000 in
theorem tlX5_asked_4 {I0 : gM} (k : Nat) (I : gM) (hk : kX5 k) (hM : MI true I0 I) (s : (Int32 × Int32)) (hP : (0 ≤ (s.2).toInt ∧ (s.2).toInt ≤ 2147483647)) : T (lX5_asked_4 k I s) (fun r : Int32 => True) := by
  have hk_1 := hk.1
  have hk_2 := hk.2.1
  unfold lX5_asked_4
  refine t_it (P := fun s : (Int32 × Int32) => (0 ≤ (s.2).toInt ∧ (s.2).toInt ≤ 2147483647)) (μ := fun s : (Int32 × Int32) => (2147483648 - s.2.toInt).toNat) (fun s p => ?_) hP
  have b1 : (0 ≤ (s.2).toInt ∧ (s.2).toInt ≤ 2147483647) := p
  have q1 := hM.at (k := k) (j := 0) (lo := 0) (hi := 4) hk.2.2.1
  refine t_ite (fun c2 => ?_) (fun c2 => ?_)
  · have c2i := (iLE (a := I k 0) (b := s.2) rfl rfl).mp c2
    exact t_ret (show True from trivial)
  · have c2i := mt (iLE (a := I k 0) (b := s.2) rfl rfl).mpr c2
    refine t_bindE (tfX5_isUsed k s.2 I hk hM) (fun r1 er1 pr1 => ?_)
    obtain ⟨br1_0, xr1_0⟩ := (show (0 ≤ r1.toInt ∧ r1.toInt ≤ 1) ∧ (r1.toInt = 0 ∨ (0 ≤ s.2.toInt ∧ s.2.toInt < (I k 0).toInt)) from pr1)
    refine t_ite (fun c3 => ?_) (fun c3 => ?_)
    · have c3i := (iEQ (a := r1) (b := (0 : Int32)) rfl (by decide : (0 : Int32).toInt = 0)).mp c3
      unfold bX5_asked_28
      have m1 := ((tA rfl (by decide : (1 : Int32).toInt = 1) (by omega) (by omega)) : (s.2 + 1).toInt = (s.2.toInt + 1))
      have mm : (2147483648 - (s.2 + 1).toInt).toNat < (2147483648 - s.2.toInt).toNat := by omega
      have pp : (0 ≤ (s.2 + 1).toInt ∧ (s.2 + 1).toInt ≤ 2147483647) := (by show (0 ≤ (s.2 + 1).toInt ∧ (s.2 + 1).toInt ≤ 2147483647); have q := ((tA rfl (by decide : (1 : Int32).toInt = 1) (by omega) (by omega)) : (s.2 + 1).toInt = (s.2.toInt + 1)); omega)
      exact t_ret ⟨pp, mm⟩
    · have c3i := mt (iEQ (a := r1) (b := (0 : Int32)) rfl (by decide : (0 : Int32).toInt = 0)).mpr c3
      refine t_bindE (tfX5_lettersOf k s.2 I hk hM (by omega)) (fun r2 er2 pr2 => ?_)
      unfold bX5_asked_28
      have m1 := ((tA rfl (by decide : (1 : Int32).toInt = 1) (by omega) (by omega)) : (s.2 + 1).toInt = (s.2.toInt + 1))
      have mm : (2147483648 - (s.2 + 1).toInt).toNat < (2147483648 - s.2.toInt).toNat := by omega
      have pp : (0 ≤ (s.2 + 1).toInt ∧ (s.2 + 1).toInt ≤ 2147483647) := (by show (0 ≤ (s.2 + 1).toInt ∧ (s.2 + 1).toInt ≤ 2147483647); have q := ((tA rfl (by decide : (1 : Int32).toInt = 1) (by omega) (by omega)) : (s.2 + 1).toInt = (s.2.toInt + 1)); omega)
      exact t_ret ⟨pp, mm⟩
set_option maxRecDepth 100000 in
set_option maxHeartbeats 1000000 in
theorem tfX5_asked {I0 : gM} (k : Nat) (I : gM) (hk : kX5 k) (hM : MI true I0 I) : T (fX5_asked k I) (fun r => True) := by
  have hk_1 := hk.1
  have hk_2 := hk.2.1
  unfold fX5_asked
  refine t_bindE (tlX5_asked_4 k I hk hM ((0 : Int32), (0 : Int32)) (by show (0 ≤ ((0 : Int32)).toInt ∧ ((0 : Int32)).toInt ≤ 2147483647); decide)) (fun w3 ew3 pw3 => ?_)
  exact t_ret trivial
set_option maxRecDepth 100000 in
set_option maxHeartbeats 1000000 in
theorem tlX1_letterOf_4 (v0 : Int32)  (s : (Int32 × Int32)) (hP : (0 ≤ (s.2).toInt ∧ (s.2).toInt ≤ 2147483647)) : T (lX1_letterOf_4 v0 s) (Sum.elim (fun r : Int32 => True) (fun r : Unit => True)) := by
  unfold lX1_letterOf_4
  refine t_it (P := fun s : (Int32 × Int32) => (0 ≤ (s.2).toInt ∧ (s.2).toInt ≤ 2147483647)) (μ := fun s : (Int32 × Int32) => (2147483648 - s.2.toInt).toNat) (fun s p => ?_) hP
  have b1 : (0 ≤ (s.2).toInt ∧ (s.2).toInt ≤ 2147483647) := p
  refine t_ite (fun c1 => ?_) (fun c1 => ?_)
  · have c1i := (iLE (a := (4 : Int32)) (b := s.2) (by decide : (4 : Int32).toInt = 4) rfl).mp c1
    exact t_ret (show True from trivial)
  · have c1i := mt (iLE (a := (4 : Int32)) (b := s.2) (by decide : (4 : Int32).toInt = 4) rfl).mpr c1
    have q2 : 0 ≤ ((v0 >>> (s.2 &&& 31)) &&& 1).toInt ∧ ((v0 >>> (s.2 &&& 31)) &&& 1).toInt ≤ 1 := and_b (v0 >>> (s.2 &&& 31)) (Or.inr (Or.inl rfl))
    refine t_ite (fun c3 => ?_) (fun c3 => ?_)
    · have c3i := (iEQ (a := (v0 >>> (s.2 &&& 31)) &&& 1) (b := (0 : Int32)) rfl (by decide : (0 : Int32).toInt = 0)).mp c3
      unfold bX1_letterOf_26
      have m1 := ((tA rfl (by decide : (1 : Int32).toInt = 1) (by omega) (by omega)) : (s.2 + 1).toInt = (s.2.toInt + 1))
      have mm : (2147483648 - (s.2 + 1).toInt).toNat < (2147483648 - s.2.toInt).toNat := by omega
      have pp : (0 ≤ (s.2 + 1).toInt ∧ (s.2 + 1).toInt ≤ 2147483647) := (by show (0 ≤ (s.2 + 1).toInt ∧ (s.2 + 1).toInt ≤ 2147483647); have q := ((tA rfl (by decide : (1 : Int32).toInt = 1) (by omega) (by omega)) : (s.2 + 1).toInt = (s.2.toInt + 1)); omega)
      exact t_ret ⟨pp, mm⟩
    · have c3i := mt (iEQ (a := (v0 >>> (s.2 &&& 31)) &&& 1) (b := (0 : Int32)) rfl (by decide : (0 : Int32).toInt = 0)).mpr c3
      refine t_ite (fun c4 => ?_) (fun c4 => ?_)
      · have c4i := (iEQ (a := s.1) (b := (0 : Int32)) rfl (by decide : (0 : Int32).toInt = 0)).mp c4
        exact t_ret (show True from trivial)
      · have c4i := mt (iEQ (a := s.1) (b := (0 : Int32)) rfl (by decide : (0 : Int32).toInt = 0)).mpr c4
        unfold bX1_letterOf_26
        have m1 := ((tA rfl (by decide : (1 : Int32).toInt = 1) (by omega) (by omega)) : (s.2 + 1).toInt = (s.2.toInt + 1))
        have mm : (2147483648 - (s.2 + 1).toInt).toNat < (2147483648 - s.2.toInt).toNat := by omega
        have pp : (0 ≤ (s.2 + 1).toInt ∧ (s.2 + 1).toInt ≤ 2147483647) := (by show (0 ≤ (s.2 + 1).toInt ∧ (s.2 + 1).toInt ≤ 2147483647); have q := ((tA rfl (by decide : (1 : Int32).toInt = 1) (by omega) (by omega)) : (s.2 + 1).toInt = (s.2.toInt + 1)); omega)
        exact t_ret ⟨pp, mm⟩
set_option maxRecDepth 100000 in
set_option maxHeartbeats 1000000 in
theorem tfX1_letterOf (v0 : Int32) (v1 : Int32)  : T (fX1_letterOf v0 v1) (fun r => True) := by
  unfold fX1_letterOf
  refine t_bindE (tlX1_letterOf_4 v0 (v1, (0 : Int32)) (by show (0 ≤ ((0 : Int32)).toInt ∧ ((0 : Int32)).toInt ≤ 2147483647); decide)) (fun w1 ew1 pw1 => ?_)
  rcases w1 with w1_0 | w1_1
  · refine t_el ?_
    exact t_ret trivial
  · refine t_er ?_
    exact t_ret trivial
set_option maxRecDepth 100000 in
set_option maxHeartbeats 1000000 in
theorem tlX1_addLetters_2 {I0 : gM} (k : Nat) (v1 : Int32) (hk : kX1 k) (s : (Int32 × gM)) (hP : (0 ≤ (s.1).toInt ∧ (s.1).toInt ≤ 2147483647) ∧ MI true I0 s.2) : T (lX1_addLetters_2 k v1 s) (fun r : gM => MI true I0 r) := by
  have hk_1 := hk.1
  have hk_2 := hk.2.1
  unfold lX1_addLetters_2
  refine t_it (P := fun s : (Int32 × gM) => (0 ≤ (s.1).toInt ∧ (s.1).toInt ≤ 2147483647) ∧ MI true I0 s.2) (μ := fun s : (Int32 × gM) => (2147483648 - s.1.toInt).toNat) (fun s p => ?_) hP
  obtain ⟨b0, hs⟩ := p
  refine t_ite (fun c1 => ?_) (fun c1 => ?_)
  · have c1i := (iLE (a := (4 : Int32)) (b := s.1) (by decide : (4 : Int32).toInt = 4) rfl).mp c1
    exact t_ret (show MI true I0 s.2 from hs)
  · have c1i := mt (iLE (a := (4 : Int32)) (b := s.1) (by decide : (4 : Int32).toInt = 4) rfl).mpr c1
    have q2 : 0 ≤ ((v1 >>> (s.1 &&& 31)) &&& 1).toInt ∧ ((v1 >>> (s.1 &&& 31)) &&& 1).toInt ≤ 1 := and_b (v1 >>> (s.1 &&& 31)) (Or.inr (Or.inl rfl))
    refine t_ite (fun c3 => ?_) (fun c3 => ?_)
    · have c3i := (iEQ (a := (v1 >>> (s.1 &&& 31)) &&& 1) (b := (0 : Int32)) rfl (by decide : (0 : Int32).toInt = 0)).mp c3
      unfold bX1_addLetters_43
      have m0 := ((tA rfl (by decide : (1 : Int32).toInt = 1) (by omega) (by omega)) : (s.1 + 1).toInt = (s.1.toInt + 1))
      have mm : (2147483648 - (s.1 + 1).toInt).toNat < (2147483648 - s.1.toInt).toNat := by omega
      have pp : (0 ≤ (s.1 + 1).toInt ∧ (s.1 + 1).toInt ≤ 2147483647) ∧ MI true I0 s.2 := ⟨(by show (0 ≤ (s.1 + 1).toInt ∧ (s.1 + 1).toInt ≤ 2147483647); have q := ((tA rfl (by decide : (1 : Int32).toInt = 1) (by omega) (by omega)) : (s.1 + 1).toInt = (s.1.toInt + 1)); omega), hs⟩
      exact t_ret ⟨pp, mm⟩
    · have c3i := mt (iEQ (a := (v1 >>> (s.1 &&& 31)) &&& 1) (b := (0 : Int32)) rfl (by decide : (0 : Int32).toInt = 0)).mpr c3
      have q4 := hs.at (k := k) (j := 2) (lo := 0) (hi := 4) hk.2.2.2.2.1
      refine t_ite (fun c5 => ?_) (fun c5 => ?_)
      · have c5i := (iLE (a := (4 : Int32)) (b := s.2 k 2) (by decide : (4 : Int32).toInt = 4) rfl).mp c5
        unfold bX1_addLetters_43
        have m0 := ((tA rfl (by decide : (1 : Int32).toInt = 1) (by omega) (by omega)) : (s.1 + 1).toInt = (s.1.toInt + 1))
        have mm : (2147483648 - (s.1 + 1).toInt).toNat < (2147483648 - s.1.toInt).toNat := by omega
        have pp : (0 ≤ (s.1 + 1).toInt ∧ (s.1 + 1).toInt ≤ 2147483647) ∧ MI true I0 s.2 := ⟨(by show (0 ≤ (s.1 + 1).toInt ∧ (s.1 + 1).toInt ≤ 2147483647); have q := ((tA rfl (by decide : (1 : Int32).toInt = 1) (by omega) (by omega)) : (s.1 + 1).toInt = (s.1.toInt + 1)); omega), hs⟩
        exact t_ret ⟨pp, mm⟩
      · have c5i := mt (iLE (a := (4 : Int32)) (b := s.2 k 2) (by decide : (4 : Int32).toInt = 4) rfl).mpr c5
        refine t_wI (lo := 0) (hi := 3) hs (ble_lt (by omega)) (fun j _ => hk.2.2.2.2.2.2.1 j) rfl (by omega) (by omega) (by omega) (fun I1 eI1 hI1 => ?_)
        have q6 := hI1.at (k := k) (j := 2) (lo := 0) (hi := 4) hk.2.2.2.2.1
        have q7 : (I1 k 2).toInt = (s.2 k 2).toInt := by rw [eI1, g_up_row (by omega)]
        refine t_pU (lo := 0) (hi := 4) hI1 (ble_lt (by omega)) hk.2.2.2.2.1 (by have q := ((tA rfl (by decide : (1 : Int32).toInt = 1) (by omega) (by omega)) : ((I1 k 2) + 1).toInt = ((I1 k 2).toInt + 1)); omega) (fun I2 eI2 hI2 => ?_)
        unfold bX1_addLetters_43
        have m0 := ((tA rfl (by decide : (1 : Int32).toInt = 1) (by omega) (by omega)) : (s.1 + 1).toInt = (s.1.toInt + 1))
        have mm : (2147483648 - (s.1 + 1).toInt).toNat < (2147483648 - s.1.toInt).toNat := by omega
        have pp : (0 ≤ (s.1 + 1).toInt ∧ (s.1 + 1).toInt ≤ 2147483647) ∧ MI true I0 I2 := ⟨(by show (0 ≤ (s.1 + 1).toInt ∧ (s.1 + 1).toInt ≤ 2147483647); have q := ((tA rfl (by decide : (1 : Int32).toInt = 1) (by omega) (by omega)) : (s.1 + 1).toInt = (s.1.toInt + 1)); omega), hI2⟩
        exact t_ret ⟨pp, mm⟩
set_option maxRecDepth 100000 in
set_option maxHeartbeats 1000000 in
theorem tfX1_addLetters {I0 : gM} (k : Nat) (v1 : Int32) (I : gM) (hk : kX1 k) (hM : MI true I0 I) : T (fX1_addLetters k v1 I) (fun r => MI true I0 r) := by
  have hk_1 := hk.1
  have hk_2 := hk.2.1
  unfold fX1_addLetters
  refine t_bindE (tlX1_addLetters_2 k v1 hk ((0 : Int32), I) ⟨(by show (0 ≤ ((0 : Int32)).toInt ∧ ((0 : Int32)).toInt ≤ 2147483647); decide), hM⟩) (fun w3 ew3 pw3 => ?_)
  have hw3_0 : MI true I0 w3 := pw3
  exact t_ret hw3_0
set_option maxRecDepth 100000 in
set_option maxHeartbeats 1000000 in
theorem tlX5_columnOf_2 {I0 : gM} (k : Nat) (v1 : Int32) (v2 : Int32) (I : gM) (hk : kX5 k) (hM : MI true I0 I) (av1 : 0 ≤ v1.toInt ∧ v1.toInt ≤ 3) (s : Int32) (hP : (0 ≤ (s).toInt ∧ (s).toInt ≤ 2147483647)) : T (lX5_columnOf_2 k v1 v2 I s) (Sum.elim (fun r : Int32 => (0 ≤ r.toInt ∧ r.toInt ≤ 2)) (fun r : Unit => True)) := by
  have hk_1 := hk.1
  have hk_2 := hk.2.1
  unfold lX5_columnOf_2
  refine t_it (P := fun s : Int32 => (0 ≤ (s).toInt ∧ (s).toInt ≤ 2147483647)) (μ := fun s : Int32 => (2147483648 - s.toInt).toNat) (fun s p => ?_) hP
  have b0 : (0 ≤ (s).toInt ∧ (s).toInt ≤ 2147483647) := p
  refine t_rI (lo := 0) (hi := 3) hM (fun j _ => hk.2.2.2.2.2.1 j) rfl (by omega) (by omega) (fun u1 eu1 bu1 => ?_)
  refine t_ite (fun c1 => ?_) (fun c1 => ?_)
  · have c1i := (iLE (a := u1) (b := s) rfl rfl).mp c1
    exact t_ret (show True from trivial)
  · have c1i := mt (iLE (a := u1) (b := s) rfl rfl).mpr c1
    refine t_rI (lo := 0) (hi := 3) hM (fun j _ => hk.2.2.2.2.2.2.2.1 j) (tA (tM rfl (by decide : (3 : Int32).toInt = 3) (by omega) (by omega)) rfl (by omega) (by omega)) (by omega) (by omega) (fun u2 eu2 bu2 => ?_)
    refine t_ite (fun c2 => ?_) (fun c2 => ?_)
    · have c2i := (iEQ (a := u2) (b := v2) rfl rfl).mp c2
      exact t_ret (show (0 ≤ (s).toInt ∧ (s).toInt ≤ 2) from (by omega))
    · have c2i := mt (iEQ (a := u2) (b := v2) rfl rfl).mpr c2
      have m0 := ((tA rfl (by decide : (1 : Int32).toInt = 1) (by omega) (by omega)) : (s + 1).toInt = (s.toInt + 1))
      have mm : (2147483648 - (s + 1).toInt).toNat < (2147483648 - s.toInt).toNat := by omega
      have pp : (0 ≤ ((s + 1)).toInt ∧ ((s + 1)).toInt ≤ 2147483647) := (by show (0 ≤ ((s + 1)).toInt ∧ ((s + 1)).toInt ≤ 2147483647); have q := ((tA rfl (by decide : (1 : Int32).toInt = 1) (by omega) (by omega)) : (s + 1).toInt = (s.toInt + 1)); omega)
      exact t_ret ⟨pp, mm⟩
set_option maxRecDepth 100000 in
set_option maxHeartbeats 1000000 in
theorem tfX5_columnOf {I0 : gM} (k : Nat) (v1 : Int32) (v2 : Int32) (I : gM) (hk : kX5 k) (hM : MI true I0 I) (av1 : 0 ≤ v1.toInt ∧ v1.toInt ≤ 3) : T (fX5_columnOf k v1 v2 I) (fun r => ((-1) ≤ r.toInt ∧ r.toInt ≤ 2)) := by
  have hk_1 := hk.1
  have hk_2 := hk.2.1
  unfold fX5_columnOf
  refine t_bindE (tlX5_columnOf_2 k v1 v2 I hk hM (by omega) (0 : Int32) (by show (0 ≤ ((0 : Int32)).toInt ∧ ((0 : Int32)).toInt ≤ 2147483647); decide)) (fun w3 ew3 pw3 => ?_)
  rcases w3 with w3_0 | w3_1
  · refine t_el ?_
    have bw3_0_0 : (0 ≤ w3_0.toInt ∧ w3_0.toInt ≤ 2) := pw3
    exact t_ret (by show (-1) ≤ (w3_0).toInt ∧ (w3_0).toInt ≤ 2; omega)
  · refine t_er ?_
    exact t_ret (by show (-1) ≤ (((-1) : Int32)).toInt ∧ (((-1) : Int32)).toInt ≤ 2; decide)
set_option maxRecDepth 100000 in
set_option maxHeartbeats 1000000 in
theorem tlX1_addSorted_7 {I0 : gM} (k : Nat) (v1 : Int32) (v2 : Int32) (hk : kX1 k) (av1 : 0 ≤ v1.toInt ∧ v1.toInt ≤ 3) (s : (Int32 × gM)) (hP : (0 ≤ (s.1).toInt ∧ (s.1).toInt ≤ 47) ∧ MI true I0 s.2) : T (lX1_addSorted_7 k v1 v2 s) (fun r : Int32 × gM => (0 ≤ r.1.toInt ∧ r.1.toInt ≤ 47) ∧ MI true I0 r.2) := by
  have hk_1 := hk.1
  have hk_2 := hk.2.1
  unfold lX1_addSorted_7
  refine t_it (P := fun s : (Int32 × gM) => (0 ≤ (s.1).toInt ∧ (s.1).toInt ≤ 47) ∧ MI true I0 s.2) (μ := fun s : (Int32 × gM) => (s.1.toInt + 1).toNat) (fun s p => ?_) hP
  obtain ⟨b0, hs⟩ := p
  refine t_rI (lo := 0) (hi := 48) hs (fun j _ => hk.2.2.2.2.2.2.2.2.2.2.2.2.1 j) rfl (by omega) (by omega) (fun u2 eu2 bu2 => ?_)
  refine t_ite (fun c1 => ?_) (fun c1 => ?_)
  · have c1i := (iLE (a := s.1) (b := u2) rfl rfl).mp c1
    exact t_ret (show (0 ≤ (s.1).toInt ∧ (s.1).toInt ≤ 47) ∧ MI true I0 s.2 from ⟨(by omega), hs⟩)
  · have c1i := mt (iLE (a := s.1) (b := u2) rfl rfl).mpr c1
    refine t_rI (lo := (-2147483648)) (hi := 2147483647) hs (fun j _ => hk.2.2.2.2.2.2.2.2.2.1 j) (tS rfl (by decide : (1 : Int32).toInt = 1) (by omega) (by omega)) (by omega) (by omega) (fun u3 eu3 bu3 => ?_)
    refine t_ite (fun c2 => ?_) (fun c2 => ?_)
    · have c2i := (iLE (a := u3) (b := v2) rfl rfl).mp c2
      exact t_ret (show (0 ≤ (s.1).toInt ∧ (s.1).toInt ≤ 47) ∧ MI true I0 s.2 from ⟨(by omega), hs⟩)
    · have c2i := mt (iLE (a := u3) (b := v2) rfl rfl).mpr c2
      refine t_rI (lo := (-2147483648)) (hi := 2147483647) hs (fun j _ => hk.2.2.2.2.2.2.2.2.2.1 j) (tS rfl (by decide : (1 : Int32).toInt = 1) (by omega) (by omega)) (by omega) (by omega) (fun u4 eu4 bu4 => ?_)
      refine t_wI (lo := (-2147483648)) (hi := 2147483647) hs (ble_lt (by omega)) (fun j _ => hk.2.2.2.2.2.2.2.2.2.1 j) rfl (by omega) (by omega) (tTop _) (fun I5 eI5 hI5 => ?_)
      have m0 := ((tA rfl (by decide : ((-1) : Int32).toInt = (-1)) (by omega) (by omega)) : (s.1 + (-1)).toInt = (s.1.toInt + (-1)))
      have mm : ((s.1 + (-1)).toInt + 1).toNat < (s.1.toInt + 1).toNat := by omega
      have pp : (0 ≤ (s.1 + (-1)).toInt ∧ (s.1 + (-1)).toInt ≤ 47) ∧ MI true I0 I5 := ⟨(by show (0 ≤ (s.1 + (-1)).toInt ∧ (s.1 + (-1)).toInt ≤ 47); have q := ((tA rfl (by decide : ((-1) : Int32).toInt = (-1)) (by omega) (by omega)) : (s.1 + (-1)).toInt = (s.1.toInt + (-1))); omega), hI5⟩
      exact t_ret ⟨pp, mm⟩
set_option maxRecDepth 100000 in
set_option maxHeartbeats 1000000 in
theorem tfX1_addSorted {I0 : gM} (k : Nat) (v1 : Int32) (v2 : Int32) (I : gM) (hk : kX1 k) (hM : MI true I0 I) (av1 : 0 ≤ v1.toInt ∧ v1.toInt ≤ 3) (pre0 : (I (k + 9) (v1.toInt).toNat).toInt ≤ 47) : T (fX1_addSorted k v1 v2 I) (fun r => MI true I0 r ∧ ((r (k + 9) (v1.toInt).toNat).toInt = (I (k + 9) (v1.toInt).toNat).toInt + 1)) := by
  have hk_1 := hk.1
  have hk_2 := hk.2.1
  unfold fX1_addSorted
  refine t_rI (lo := 0) (hi := 48) hM (fun j _ => hk.2.2.2.2.2.2.2.2.2.2.2.2.2.1 j) rfl (by omega) (by omega) (fun u1 eu1 bu1 => ?_)
  have q1 : u1.toInt = (I (k + 9) (v1.toInt).toNat).toInt := by rw [eu1]
  refine t_bindE (tlX1_addSorted_7 k v1 v2 hk (by omega) (u1, I) ⟨(by show (0 ≤ (u1).toInt ∧ (u1).toInt ≤ 47); omega), hM⟩) (fun w6 ew6 pw6 => ?_)
  obtain ⟨bw6_0, hw6_1⟩ := (show (0 ≤ w6.1.toInt ∧ w6.1.toInt ≤ 47) ∧ MI true I0 w6.2 from pw6)
  unfold bX1_addSorted_49
  refine t_wI (lo := (-2147483648)) (hi := 2147483647) hw6_1 (ble_lt (by omega)) (fun j _ => hk.2.2.2.2.2.2.2.2.2.1 j) rfl (by omega) (by omega) (tTop _) (fun I7 eI7 hI7 => ?_)
  refine t_rI (lo := 0) (hi := 48) hI7 (fun j _ => hk.2.2.2.2.2.2.2.2.2.2.2.2.2.1 j) rfl (by omega) (by omega) (fun u8 eu8 bu8 => ?_)
  have q2 : u8.toInt = (I7 (k + 9) (v1.toInt).toNat).toInt := by rw [eu8]
  have q3 : (I7 (k + 9) (v1.toInt).toNat).toInt = (w6.2 (k + 9) (v1.toInt).toNat).toInt := congrArg (fun g : Nat → Int32 => (g (v1.toInt).toNat).toInt) (show I7 (k + 9) = w6.2 (k + 9) from by rw [eI7]; exact g_up_row (by omega))
  have q4 : (w6.2 (k + 9) (v1.toInt).toNat).toInt = (I (k + 9) (v1.toInt).toNat).toInt := congrArg (fun g : Nat → Int32 => (g (v1.toInt).toNat).toInt) (show w6.2 (k + 9) = I (k + 9) from zlX1_addSorted_7 k v1 v2 (u1, I) ew6 (k + 9) (by omega))
  refine t_wI (lo := 0) (hi := 48) hI7 (ble_lt (by omega)) (fun j _ => hk.2.2.2.2.2.2.2.2.2.2.2.2.2.1 j) rfl (by omega) (by omega) (by have q := ((tA rfl (by decide : (1 : Int32).toInt = 1) (by omega) (by omega)) : (u8 + 1).toInt = (u8.toInt + 1)); omega) (fun I9 eI9 hI9 => ?_)
  have q5 : (I9 (k + 9) (v1.toInt).toNat).toInt = (u8.toInt + 1) := by rw [eI9, g_up_self]; exact (tA rfl (by decide : (1 : Int32).toInt = 1) (by omega) (by omega))
  exact t_ret ⟨hI9, (by show (I9 (k + 9) (v1.toInt).toNat).toInt = (I (k + 9) (v1.toInt).toNat).toInt + 1; skip; omega)⟩
set_option maxRecDepth 100000 in
set_option maxHeartbeats 1000000 in
theorem tlX1_load_5 {I0 : gM} (k : Nat) (k1 : Nat) (v2 : Int32) (hk : kX1 k) (hk1 : kX5 k1) (av2 : 0 ≤ v2.toInt ∧ v2.toInt ≤ 3) (s : (Int32 × Int32 × gM)) (hP : (0 ≤ (s.1).toInt ∧ (s.1).toInt ≤ 3) ∧ (0 ≤ (s.2.1).toInt ∧ (s.2.1).toInt ≤ 2147483647) ∧ MI true I0 s.2.2) : T (lX1_load_5 k k1 v2 s) (fun r : Int32 × gM => (0 ≤ r.1.toInt ∧ r.1.toInt ≤ 3) ∧ MI true I0 r.2) := by
  have hk_1 := hk.1
  have hk_2 := hk.2.1
  have hk1_1 := hk1.1
  have hk1_2 := hk1.2.1
  unfold lX1_load_5
  refine t_it (P := fun s : (Int32 × Int32 × gM) => (0 ≤ (s.1).toInt ∧ (s.1).toInt ≤ 3) ∧ (0 ≤ (s.2.1).toInt ∧ (s.2.1).toInt ≤ 2147483647) ∧ MI true I0 s.2.2) (μ := fun s : (Int32 × Int32 × gM) => (2147483648 - s.2.1.toInt).toNat) (fun s p => ?_) hP
  obtain ⟨b0, b1, hs⟩ := p
  have q1 := hs.at (k := k) (j := 2) (lo := 0) (hi := 4) hk.2.2.2.2.1
  refine t_ite (fun c2 => ?_) (fun c2 => ?_)
  · have c2i := (iLE (a := s.2.2 k 2) (b := s.2.1) rfl rfl).mp c2
    exact t_ret (show (0 ≤ (s.1).toInt ∧ (s.1).toInt ≤ 3) ∧ MI true I0 s.2.2 from ⟨(by omega), hs⟩)
  · have c2i := mt (iLE (a := s.2.2 k 2) (b := s.2.1) rfl rfl).mpr c2
    refine t_rI (lo := 0) (hi := 3) hs (fun j _ => hk.2.2.2.2.2.2.1 j) rfl (by omega) (by omega) (fun u1 eu1 bu1 => ?_)
    refine t_bindE (tfX5_columnOf k1 v2 u1 s.2.2 hk1 hs (by omega)) (fun r2 er2 pr2 => ?_)
    have br2_0 : ((-1) ≤ r2.toInt ∧ r2.toInt ≤ 2) := pr2
    refine t_ite (fun c3 => ?_) (fun c3 => ?_)
    · have c3i := (iEQ (a := r2) (b := ((-1) : Int32)) rfl (by decide : ((-1) : Int32).toInt = (-1))).mp c3
      unfold bX1_load_68
      have m1 := ((tA rfl (by decide : (1 : Int32).toInt = 1) (by omega) (by omega)) : (s.2.1 + 1).toInt = (s.2.1.toInt + 1))
      have mm : (2147483648 - (s.2.1 + 1).toInt).toNat < (2147483648 - s.2.1.toInt).toNat := by omega
      have pp : (0 ≤ (s.1).toInt ∧ (s.1).toInt ≤ 3) ∧ (0 ≤ (s.2.1 + 1).toInt ∧ (s.2.1 + 1).toInt ≤ 2147483647) ∧ MI true I0 s.2.2 := ⟨(by show (0 ≤ (s.1).toInt ∧ (s.1).toInt ≤ 3); omega), (by show (0 ≤ (s.2.1 + 1).toInt ∧ (s.2.1 + 1).toInt ≤ 2147483647); have q := ((tA rfl (by decide : (1 : Int32).toInt = 1) (by omega) (by omega)) : (s.2.1 + 1).toInt = (s.2.1.toInt + 1)); omega), hs⟩
      exact t_ret ⟨pp, mm⟩
    · have c3i := mt (iEQ (a := r2) (b := ((-1) : Int32)) rfl (by decide : ((-1) : Int32).toInt = (-1))).mpr c3
      refine t_ite (fun c4 => ?_) (fun c4 => ?_)
      · have c4i := (iLE (a := (3 : Int32)) (b := s.1) (by decide : (3 : Int32).toInt = 3) rfl).mp c4
        unfold bX1_load_68
        have m1 := ((tA rfl (by decide : (1 : Int32).toInt = 1) (by omega) (by omega)) : (s.2.1 + 1).toInt = (s.2.1.toInt + 1))
        have mm : (2147483648 - (s.2.1 + 1).toInt).toNat < (2147483648 - s.2.1.toInt).toNat := by omega
        have pp : (0 ≤ (s.1).toInt ∧ (s.1).toInt ≤ 3) ∧ (0 ≤ (s.2.1 + 1).toInt ∧ (s.2.1 + 1).toInt ≤ 2147483647) ∧ MI true I0 s.2.2 := ⟨(by show (0 ≤ (s.1).toInt ∧ (s.1).toInt ≤ 3); omega), (by show (0 ≤ (s.2.1 + 1).toInt ∧ (s.2.1 + 1).toInt ≤ 2147483647); have q := ((tA rfl (by decide : (1 : Int32).toInt = 1) (by omega) (by omega)) : (s.2.1 + 1).toInt = (s.2.1.toInt + 1)); omega), hs⟩
        exact t_ret ⟨pp, mm⟩
      · have c4i := mt (iLE (a := (3 : Int32)) (b := s.1) (by decide : (3 : Int32).toInt = 3) rfl).mpr c4
        refine t_wI (lo := (-2147483648)) (hi := 2147483647) hs (ble_lt (by omega)) (fun j _ => hk.2.2.2.2.2.2.2.2.2.2.2.1 j) (tA (tM rfl (by decide : (4 : Int32).toInt = 4) (by omega) (by omega)) rfl (by omega) (by omega)) (by omega) (by omega) (tTop _) (fun I3 eI3 hI3 => ?_)
        refine t_wI (lo := (-2147483648)) (hi := 2147483647) hI3 (ble_lt (by omega)) (fun j _ => hk.2.2.2.2.2.2.2.2.2.2.1 j) rfl (by omega) (by omega) (tTop _) (fun I4 eI4 hI4 => ?_)
        unfold bX1_load_68
        have m0 := ((tA rfl (by decide : (1 : Int32).toInt = 1) (by omega) (by omega)) : (s.1 + 1).toInt = (s.1.toInt + 1))
        have m1 := ((tA rfl (by decide : (1 : Int32).toInt = 1) (by omega) (by omega)) : (s.2.1 + 1).toInt = (s.2.1.toInt + 1))
        have mm : (2147483648 - (s.2.1 + 1).toInt).toNat < (2147483648 - s.2.1.toInt).toNat := by omega
        have pp : (0 ≤ ((s.1 + 1)).toInt ∧ ((s.1 + 1)).toInt ≤ 3) ∧ (0 ≤ (s.2.1 + 1).toInt ∧ (s.2.1 + 1).toInt ≤ 2147483647) ∧ MI true I0 I4 := ⟨(by show (0 ≤ ((s.1 + 1)).toInt ∧ ((s.1 + 1)).toInt ≤ 3); have q := ((tA rfl (by decide : (1 : Int32).toInt = 1) (by omega) (by omega)) : (s.1 + 1).toInt = (s.1.toInt + 1)); omega), (by show (0 ≤ (s.2.1 + 1).toInt ∧ (s.2.1 + 1).toInt ≤ 2147483647); have q := ((tA rfl (by decide : (1 : Int32).toInt = 1) (by omega) (by omega)) : (s.2.1 + 1).toInt = (s.2.1.toInt + 1)); omega), hI4⟩
        exact t_ret ⟨pp, mm⟩
set_option maxRecDepth 100000 in
set_option maxHeartbeats 1000000 in
theorem tlX1_load_103 {I0 : gM} (k : Nat) (v3 : Int32) (v5 : Int32) (I : gM) (hk : kX1 k) (hM : MI true I0 I) (av3 : 0 ≤ v3.toInt ∧ v3.toInt ≤ 3) (s : (Int32 × Int32)) (hP : (0 ≤ (s.2).toInt ∧ (s.2).toInt ≤ 2147483647)) : T (lX1_load_103 k v3 v5 I s) (fun r : Int32 => True) := by
  have hk_1 := hk.1
  have hk_2 := hk.2.1
  unfold lX1_load_103
  refine t_it (P := fun s : (Int32 × Int32) => (0 ≤ (s.2).toInt ∧ (s.2).toInt ≤ 2147483647)) (μ := fun s : (Int32 × Int32) => (2147483648 - s.2.toInt).toNat) (fun s p => ?_) hP
  have b1 : (0 ≤ (s.2).toInt ∧ (s.2).toInt ≤ 2147483647) := p
  refine t_ite (fun c1 => ?_) (fun c1 => ?_)
  · have c1i := (iLE (a := v3) (b := s.2) rfl rfl).mp c1
    exact t_ret (show True from trivial)
  · have c1i := mt (iLE (a := v3) (b := s.2) rfl rfl).mpr c1
    refine t_rI (lo := (-2147483648)) (hi := 2147483647) hM (fun j _ => hk.2.2.2.2.2.2.2.2.2.2.1 j) rfl (by omega) (by omega) (fun u8 eu8 bu8 => ?_)
    have m1 := ((tA rfl (by decide : (1 : Int32).toInt = 1) (by omega) (by omega)) : (s.2 + 1).toInt = (s.2.toInt + 1))
    have mm : (2147483648 - (s.2 + 1).toInt).toNat < (2147483648 - s.2.toInt).toNat := by omega
    have pp : (0 ≤ (s.2 + 1).toInt ∧ (s.2 + 1).toInt ≤ 2147483647) := (by show (0 ≤ (s.2 + 1).toInt ∧ (s.2 + 1).toInt ≤ 2147483647); have q := ((tA rfl (by decide : (1 : Int32).toInt = 1) (by omega) (by omega)) : (s.2 + 1).toInt = (s.2.toInt + 1)); omega)
    exact t_ret ⟨pp, mm⟩
set_option maxRecDepth 100000 in
set_option maxHeartbeats 1000000 in
theorem tlX1_load_77 {I0 : gM} (k : Nat) (k1 : Nat) (v2 : Int32) (v3 : Int32) (hk : kX1 k) (hk1 : kX5 k1) (av2 : 0 ≤ v2.toInt ∧ v2.toInt ≤ 3) (av3 : 0 ≤ v3.toInt ∧ v3.toInt ≤ 3) (s : (Int32 × gM)) (hP : (0 ≤ (s.1).toInt ∧ (s.1).toInt ≤ 12) ∧ MI true I0 s.2 ∧ ((s.2 (k + 9) (v2.toInt).toNat).toInt = 12 * v2.toInt + s.1.toInt)) : T (lX1_load_77 k k1 v2 v3 s) (fun r : gM => MI true I0 r) := by
  have hk_1 := hk.1
  have hk_2 := hk.2.1
  have hk1_1 := hk1.1
  have hk1_2 := hk1.2.1
  unfold lX1_load_77
  refine t_it (P := fun s : (Int32 × gM) => (0 ≤ (s.1).toInt ∧ (s.1).toInt ≤ 12) ∧ MI true I0 s.2 ∧ ((s.2 (k + 9) (v2.toInt).toNat).toInt = 12 * v2.toInt + s.1.toInt)) (μ := fun s : (Int32 × gM) => (13 - s.1.toInt).toNat) (fun s p => ?_) hP
  obtain ⟨b0, hs, x2⟩ := p
  refine t_rI (lo := 0) (hi := 12) hs (fun j _ => hk1.2.2.2.2.2.2.1 j) rfl (by omega) (by omega) (fun u6 eu6 bu6 => ?_)
  have q1 : u6.toInt = (s.2 (k1 + 2) (v2.toInt).toNat).toInt := by rw [eu6]
  refine t_ite (fun c2 => ?_) (fun c2 => ?_)
  · have c2i := (iLE (a := u6) (b := s.1) rfl rfl).mp c2
    exact t_ret (show MI true I0 s.2 from hs)
  · have c2i := mt (iLE (a := u6) (b := s.1) rfl rfl).mpr c2
    refine t_bindE (tfX5_rowAt k1 v2 s.1 s.2 hk1 hs (by omega) (by omega)) (fun r7 er7 pr7 => ?_)
    refine t_bindE (tlX1_load_103 k v3 r7 s.2 hk hs (by omega) ((0 : Int32), (0 : Int32)) (by show (0 ≤ ((0 : Int32)).toInt ∧ ((0 : Int32)).toInt ≤ 2147483647); decide)) (fun w9 ew9 pw9 => ?_)
    refine t_bindE (tfX1_addSorted k v2 w9 s.2 hk hs (by omega) (by omega)) (fun r10 er10 pr10 => ?_)
    obtain ⟨hr10_0, xr10_0⟩ := (show MI true I0 r10 ∧ ((r10 (k + 9) (v2.toInt).toNat).toInt = (s.2 (k + 9) (v2.toInt).toNat).toInt + 1) from pr10)
    have m0 := ((tA rfl (by decide : (1 : Int32).toInt = 1) (by omega) (by omega)) : (s.1 + 1).toInt = (s.1.toInt + 1))
    have mm : (13 - (s.1 + 1).toInt).toNat < (13 - s.1.toInt).toNat := by omega
    have pp : (0 ≤ (s.1 + 1).toInt ∧ (s.1 + 1).toInt ≤ 12) ∧ MI true I0 r10 ∧ ((r10 (k + 9) (v2.toInt).toNat).toInt = 12 * v2.toInt + (s.1 + 1).toInt) := ⟨(by show (0 ≤ (s.1 + 1).toInt ∧ (s.1 + 1).toInt ≤ 12); have q := ((tA rfl (by decide : (1 : Int32).toInt = 1) (by omega) (by omega)) : (s.1 + 1).toInt = (s.1.toInt + 1)); omega), hr10_0, (by show ((r10 (k + 9) (v2.toInt).toNat).toInt = 12 * v2.toInt + (s.1 + 1).toInt); have q0 := ((tA rfl (by decide : (1 : Int32).toInt = 1) (by omega) (by omega)) : (s.1 + 1).toInt = (s.1.toInt + 1)); omega)⟩
    exact t_ret ⟨pp, mm⟩
set_option maxRecDepth 100000 in
set_option maxHeartbeats 1000000 in
theorem tfX1_load {I0 : gM} (k : Nat) (k1 : Nat) (v2 : Int32) (I : gM) (hk : kX1 k) (hk1 : kX5 k1) (hM : MI true I0 I) (av2 : 0 ≤ v2.toInt ∧ v2.toInt ≤ 3) (pre0 : (I (k + 9) (v2.toInt).toNat).toInt = 12 * v2.toInt) : T (fX1_load k k1 v2 I) (fun r => MI true I0 r) := by
  have hk_1 := hk.1
  have hk_2 := hk.2.1
  have hk1_1 := hk1.1
  have hk1_2 := hk1.2.1
  unfold fX1_load
  refine t_bindE (tlX1_load_5 k k1 v2 hk hk1 (by omega) ((0 : Int32), (0 : Int32), I) ⟨(by show (0 ≤ ((0 : Int32)).toInt ∧ ((0 : Int32)).toInt ≤ 3); decide), (by show (0 ≤ ((0 : Int32)).toInt ∧ ((0 : Int32)).toInt ≤ 2147483647); decide), hM⟩) (fun w5 ew5 pw5 => ?_)
  obtain ⟨bw5_0, hw5_1⟩ := (show (0 ≤ w5.1.toInt ∧ w5.1.toInt ≤ 3) ∧ MI true I0 w5.2 from pw5)
  have q1 : (w5.2 (k + 9) (v2.toInt).toNat).toInt = (I (k + 9) (v2.toInt).toNat).toInt := congrArg (fun g : Nat → Int32 => (g (v2.toInt).toNat).toInt) (show w5.2 (k + 9) = I (k + 9) from zlX1_load_5 k k1 v2 ((0 : Int32), (0 : Int32), I) ew5 (k + 9) (by omega) (by omega))
  refine t_bindE (tlX1_load_77 k k1 v2 w5.1 hk hk1 (by omega) (by omega) ((0 : Int32), w5.2) ⟨(by show (0 ≤ ((0 : Int32)).toInt ∧ ((0 : Int32)).toInt ≤ 12); decide), hw5_1, (by show ((w5.2 (k + 9) (v2.toInt).toNat).toInt = 12 * v2.toInt + (0 : Int32).toInt); have q0 : (0 : Int32).toInt = 0 := (by decide); omega)⟩) (fun w11 ew11 pw11 => ?_)
  have hw11_0 : MI true I0 w11 := pw11
  exact t_ret hw11_0
set_option maxRecDepth 100000 in
set_option maxHeartbeats 1000000 in
theorem tlX1_open_28 {I0 : gM} (k : Nat) (k1 : Nat) (hk : kX1 k) (hk1 : kX5 k1) (s : (Int32 × gM)) (hP : (0 ≤ (s.1).toInt ∧ (s.1).toInt ≤ 4) ∧ MI true I0 s.2) : T (lX1_open_28 k k1 s) (fun r : gM => MI true I0 r) := by
  have hk_1 := hk.1
  have hk_2 := hk.2.1
  have hk1_1 := hk1.1
  have hk1_2 := hk1.2.1
  unfold lX1_open_28
  refine t_it (P := fun s : (Int32 × gM) => (0 ≤ (s.1).toInt ∧ (s.1).toInt ≤ 4) ∧ MI true I0 s.2) (μ := fun s : (Int32 × gM) => (5 - s.1.toInt).toNat) (fun s p => ?_) hP
  obtain ⟨b0, hs⟩ := p
  refine t_ite (fun c1 => ?_) (fun c1 => ?_)
  · have c1i := (iLE (a := (4 : Int32)) (b := s.1) (by decide : (4 : Int32).toInt = 4) rfl).mp c1
    exact t_ret (show MI true I0 s.2 from hs)
  · have c1i := mt (iLE (a := (4 : Int32)) (b := s.1) (by decide : (4 : Int32).toInt = 4) rfl).mpr c1
    refine t_wI (lo := 0) (hi := 48) hs (ble_lt (by omega)) (fun j _ => hk.2.2.2.2.2.2.2.2.2.2.2.2.1 j) rfl (by omega) (by omega) (by have q := ((tM rfl (by decide : (12 : Int32).toInt = 12) (by omega) (by omega)) : (s.1 * 12).toInt = (s.1.toInt * 12)); omega) (fun I5 eI5 hI5 => ?_)
    refine t_wI (lo := 0) (hi := 48) hI5 (ble_lt (by omega)) (fun j _ => hk.2.2.2.2.2.2.2.2.2.2.2.2.2.1 j) rfl (by omega) (by omega) (by have q := ((tM rfl (by decide : (12 : Int32).toInt = 12) (by omega) (by omega)) : (s.1 * 12).toInt = (s.1.toInt * 12)); omega) (fun I6 eI6 hI6 => ?_)
    refine t_bindE (tfX5_isUsed k1 s.1 I6 hk1 hI6) (fun r7 er7 pr7 => ?_)
    obtain ⟨br7_0, xr7_0⟩ := (show (0 ≤ r7.toInt ∧ r7.toInt ≤ 1) ∧ (r7.toInt = 0 ∨ (0 ≤ s.1.toInt ∧ s.1.toInt < (I6 k1 0).toInt)) from pr7)
    have q2 := hI6.at (k := k1) (j := 0) (lo := 0) (hi := 4) hk1.2.2.1
    have q3 := hI5.at (k := k1) (j := 0) (lo := 0) (hi := 4) hk1.2.2.1
    have q4 := hs.at (k := k1) (j := 0) (lo := 0) (hi := 4) hk1.2.2.1
    have q5 : (I5 k1 0).toInt = (s.2 k1 0).toInt := by rw [eI5, g_up_row (by omega)]
    have q6 : (I6 k1 0).toInt = (I5 k1 0).toInt := by rw [eI6, g_up_row (by omega)]
    refine t_ite (fun c7 => ?_) (fun c7 => ?_)
    · have c7i := (iEQ (a := r7) (b := (0 : Int32)) rfl (by decide : (0 : Int32).toInt = 0)).mp c7
      unfold bX1_open_67
      have m0 := ((tA rfl (by decide : (1 : Int32).toInt = 1) (by omega) (by omega)) : (s.1 + 1).toInt = (s.1.toInt + 1))
      have mm : (5 - (s.1 + 1).toInt).toNat < (5 - s.1.toInt).toNat := by omega
      have pp : (0 ≤ (s.1 + 1).toInt ∧ (s.1 + 1).toInt ≤ 4) ∧ MI true I0 I6 := ⟨(by show (0 ≤ (s.1 + 1).toInt ∧ (s.1 + 1).toInt ≤ 4); have q := ((tA rfl (by decide : (1 : Int32).toInt = 1) (by omega) (by omega)) : (s.1 + 1).toInt = (s.1.toInt + 1)); omega), hI6⟩
      exact t_ret ⟨pp, mm⟩
    · have c7i := mt (iEQ (a := r7) (b := (0 : Int32)) rfl (by decide : (0 : Int32).toInt = 0)).mpr c7
      have q8 : (I6 (k + 9) (s.1.toInt).toNat).toInt = (s.1.toInt * 12) := by rw [eI6, g_up_self]; exact (tM rfl (by decide : (12 : Int32).toInt = 12) (by omega) (by omega))
      refine t_bindE (tfX1_load k k1 s.1 I6 hk hk1 hI6 (by omega) (by omega)) (fun r8 er8 pr8 => ?_)
      have hr8_0 : MI true I0 r8 := pr8
      unfold bX1_open_67
      have m0 := ((tA rfl (by decide : (1 : Int32).toInt = 1) (by omega) (by omega)) : (s.1 + 1).toInt = (s.1.toInt + 1))
      have mm : (5 - (s.1 + 1).toInt).toNat < (5 - s.1.toInt).toNat := by omega
      have pp : (0 ≤ (s.1 + 1).toInt ∧ (s.1 + 1).toInt ≤ 4) ∧ MI true I0 r8 := ⟨(by show (0 ≤ (s.1 + 1).toInt ∧ (s.1 + 1).toInt ≤ 4); have q := ((tA rfl (by decide : (1 : Int32).toInt = 1) (by omega) (by omega)) : (s.1 + 1).toInt = (s.1.toInt + 1)); omega), hr8_0⟩
      exact t_ret ⟨pp, mm⟩
set_option maxRecDepth 100000 in
set_option maxHeartbeats 1000000 in
theorem tfX1_open {I0 : gM} (k : Nat) (k1 : Nat) (I : gM) (hk : kX1 k) (hk1 : kX5 k1) (hM : MI true I0 I) : T (fX1_open k k1 I) (fun r => MI true I0 r) := by
  have hk_1 := hk.1
  have hk_2 := hk.2.1
  have hk1_1 := hk1.1
  have hk1_2 := hk1.2.1
  unfold fX1_open
  refine t_pU (lo := 0) (hi := 20736) hM (ble_lt (by omega)) hk.2.2.1 (by decide) (fun I1 eI1 hI1 => ?_)
  refine t_pU (lo := (-2147483648)) (hi := 2147483647) hI1 (ble_lt (by omega)) hk.2.2.2.1 (tTop _) (fun I2 eI2 hI2 => ?_)
  refine t_bind (t_fill (k + 1) 4 (0 : Int32) I2 (lo := (-2147483648)) (hi := 2147483647) hI2 (ble_lt (by omega)) (fun j _ => hk.2.2.2.2.2.1 j) (by decide) (tTop _)) (fun r3 pr3 => ?_)
  obtain ⟨hr3, yr3, zr3⟩ := pr3
  refine t_bind (t_fill (k + 7) 16 ((-1) : Int32) r3 (lo := (-2147483648)) (hi := 2147483647) hr3 (ble_lt (by omega)) (fun j _ => hk.2.2.2.2.2.2.2.2.2.2.2.1 j) (by decide) (tTop _)) (fun r4 pr4 => ?_)
  obtain ⟨hr4, yr4, zr4⟩ := pr4
  refine t_bindE (tlX1_open_28 k k1 hk hk1 ((0 : Int32), r4) ⟨(by show (0 ≤ ((0 : Int32)).toInt ∧ ((0 : Int32)).toInt ≤ 4); decide), hr4⟩) (fun w9 ew9 pw9 => ?_)
  have hw9_0 : MI true I0 w9 := pw9
  exact t_ret hw9_0
set_option maxRecDepth 100000 in
set_option maxHeartbeats 1000000 in
theorem tlX1_narrow_62 {I0 : gM} (k : Nat) (v2 : Int32) (v3 : Int32) (I : gM) (hk : kX1 k) (hM : MI true I0 I) (av3 : 0 ≤ v3.toInt ∧ v3.toInt ≤ 15) (s : Int32) (hP : (0 ≤ (s).toInt ∧ (s).toInt ≤ 48)) : T (lX1_narrow_62 k v2 v3 I s) (fun r : Int32 => (0 ≤ r.toInt ∧ r.toInt ≤ 48)) := by
  have hk_1 := hk.1
  have hk_2 := hk.2.1
  unfold lX1_narrow_62
  refine t_it (P := fun s : Int32 => (0 ≤ (s).toInt ∧ (s).toInt ≤ 48)) (μ := fun s : Int32 => (49 - s.toInt).toNat) (fun s p => ?_) hP
  have b0 : (0 ≤ (s).toInt ∧ (s).toInt ≤ 48) := p
  refine t_rI (lo := 0) (hi := 48) hM (fun j _ => hk.2.2.2.2.2.2.2.2.2.2.2.2.2.1 j) rfl (by omega) (by omega) (fun u7 eu7 bu7 => ?_)
  refine t_ite (fun c1 => ?_) (fun c1 => ?_)
  · have c1i := (iLE (a := u7) (b := s) rfl rfl).mp c1
    exact t_ret (show (0 ≤ (s).toInt ∧ (s).toInt ≤ 48) from (by omega))
  · have c1i := mt (iLE (a := u7) (b := s) rfl rfl).mpr c1
    refine t_rI (lo := (-2147483648)) (hi := 2147483647) hM (fun j _ => hk.2.2.2.2.2.2.2.2.2.1 j) rfl (by omega) (by omega) (fun u8 eu8 bu8 => ?_)
    refine t_rI (lo := (-2147483648)) (hi := 2147483647) hM (fun j _ => hk.2.2.2.2.2.2.2.2.2.2.2.1 j) rfl (by omega) (by omega) (fun u9 eu9 bu9 => ?_)
    have q2 : 0 ≤ ((u8 >>> (u9 &&& 31)) &&& 127).toInt ∧ ((u8 >>> (u9 &&& 31)) &&& 127).toInt ≤ 127 := and_b (u8 >>> (u9 &&& 31)) (Or.inl rfl)
    refine t_ite (fun c3 => ?_) (fun c3 => ?_)
    · have c3i := (iEQ (a := (u8 >>> (u9 &&& 31)) &&& 127) (b := v2) rfl rfl).mp c3
      have m0 := ((tA rfl (by decide : (1 : Int32).toInt = 1) (by omega) (by omega)) : (s + 1).toInt = (s.toInt + 1))
      have mm : (49 - (s + 1).toInt).toNat < (49 - s.toInt).toNat := by omega
      have pp : (0 ≤ ((s + 1)).toInt ∧ ((s + 1)).toInt ≤ 48) := (by show (0 ≤ ((s + 1)).toInt ∧ ((s + 1)).toInt ≤ 48); have q := ((tA rfl (by decide : (1 : Int32).toInt = 1) (by omega) (by omega)) : (s + 1).toInt = (s.toInt + 1)); omega)
      exact t_ret ⟨pp, mm⟩
    · have c3i := mt (iEQ (a := (u8 >>> (u9 &&& 31)) &&& 127) (b := v2) rfl rfl).mpr c3
      exact t_ret (show (0 ≤ (s).toInt ∧ (s).toInt ≤ 48) from (by omega))
set_option maxRecDepth 100000 in
set_option maxHeartbeats 1000000 in
theorem tlX1_narrow_4 {I0 : gM} (k : Nat) (v1 : Int32) (v2 : Int32) (hk : kX1 k) (av1 : 0 ≤ v1.toInt ∧ v1.toInt ≤ 2) (s : (Int32 × gM)) (hP : (0 ≤ (s.1).toInt ∧ (s.1).toInt ≤ 16) ∧ MI true I0 s.2) : T (lX1_narrow_4 k v1 v2 s) (fun r : gM => MI true I0 r) := by
  have hk_1 := hk.1
  have hk_2 := hk.2.1
  unfold lX1_narrow_4
  refine t_it (P := fun s : (Int32 × gM) => (0 ≤ (s.1).toInt ∧ (s.1).toInt ≤ 16) ∧ MI true I0 s.2) (μ := fun s : (Int32 × gM) => (17 - s.1.toInt).toNat) (fun s p => ?_) hP
  obtain ⟨b0, hs⟩ := p
  refine t_ite (fun c1 => ?_) (fun c1 => ?_)
  · have c1i := (iLE (a := (v1 + 1) * 4) (b := s.1) (tM (tA rfl (by decide : (1 : Int32).toInt = 1) (by omega) (by omega)) (by decide : (4 : Int32).toInt = 4) (by omega) (by omega)) rfl).mp c1
    exact t_ret (show MI true I0 s.2 from hs)
  · have c1i := mt (iLE (a := (v1 + 1) * 4) (b := s.1) (tM (tA rfl (by decide : (1 : Int32).toInt = 1) (by omega) (by omega)) (by decide : (4 : Int32).toInt = 4) (by omega) (by omega)) rfl).mpr c1
    refine t_rI (lo := 0) (hi := 48) hs (fun j _ => hk.2.2.2.2.2.2.2.2.2.2.2.2.2.2 j) rfl (by omega) (by omega) (fun u1 eu1 bu1 => ?_)
    refine t_wI (lo := 0) (hi := 48) hs (ble_lt (by omega)) (fun j _ => hk.2.2.2.2.2.2.2.2.2.2.2.2.1 j) (tA rfl (by decide : (4 : Int32).toInt = 4) (by omega) (by omega)) (by omega) (by omega) (by omega) (fun I2 eI2 hI2 => ?_)
    refine t_rI (lo := 0) (hi := 48) hI2 (fun j _ => hk.2.2.2.2.2.2.2.2.2.2.2.2.2.1 j) rfl (by omega) (by omega) (fun u3 eu3 bu3 => ?_)
    refine t_wI (lo := 0) (hi := 48) hI2 (ble_lt (by omega)) (fun j _ => hk.2.2.2.2.2.2.2.2.2.2.2.2.2.1 j) (tA rfl (by decide : (4 : Int32).toInt = 4) (by omega) (by omega)) (by omega) (by omega) (by omega) (fun I4 eI4 hI4 => ?_)
    refine t_rI (lo := (-2147483648)) (hi := 2147483647) hI4 (fun j _ => hk.2.2.2.2.2.2.2.2.2.2.2.1 j) rfl (by omega) (by omega) (fun u5 eu5 bu5 => ?_)
    refine t_ite (fun c2 => ?_) (fun c2 => ?_)
    · have c2i := (iEQ (a := u5) (b := ((-1) : Int32)) rfl (by decide : ((-1) : Int32).toInt = (-1))).mp c2
      unfold bX1_narrow_109
      have m0 := ((tA rfl (by decide : (1 : Int32).toInt = 1) (by omega) (by omega)) : (s.1 + 1).toInt = (s.1.toInt + 1))
      have mm : (17 - (s.1 + 1).toInt).toNat < (17 - s.1.toInt).toNat := by omega
      have pp : (0 ≤ (s.1 + 1).toInt ∧ (s.1 + 1).toInt ≤ 16) ∧ MI true I0 I4 := ⟨(by show (0 ≤ (s.1 + 1).toInt ∧ (s.1 + 1).toInt ≤ 16); have q := ((tA rfl (by decide : (1 : Int32).toInt = 1) (by omega) (by omega)) : (s.1 + 1).toInt = (s.1.toInt + 1)); omega), hI4⟩
      exact t_ret ⟨pp, mm⟩
    · have c2i := mt (iEQ (a := u5) (b := ((-1) : Int32)) rfl (by decide : ((-1) : Int32).toInt = (-1))).mpr c2
      refine t_rI (lo := 0) (hi := 48) hI4 (fun j _ => hk.2.2.2.2.2.2.2.2.2.2.2.2.2.2 j) rfl (by omega) (by omega) (fun u6 eu6 bu6 => ?_)
      refine t_bindE (tlX1_narrow_62 k v2 s.1 I4 hk hI4 (by omega) u6 (by show (0 ≤ (u6).toInt ∧ (u6).toInt ≤ 48); omega)) (fun w10 ew10 pw10 => ?_)
      have bw10_0 : (0 ≤ w10.toInt ∧ w10.toInt ≤ 48) := pw10
      unfold bX1_narrow_100
      refine t_wI (lo := 0) (hi := 48) hI4 (ble_lt (by omega)) (fun j _ => hk.2.2.2.2.2.2.2.2.2.2.2.2.2.1 j) (tA rfl (by decide : (4 : Int32).toInt = 4) (by omega) (by omega)) (by omega) (by omega) (by omega) (fun I11 eI11 hI11 => ?_)
      unfold bX1_narrow_109
      have m0 := ((tA rfl (by decide : (1 : Int32).toInt = 1) (by omega) (by omega)) : (s.1 + 1).toInt = (s.1.toInt + 1))
      have mm : (17 - (s.1 + 1).toInt).toNat < (17 - s.1.toInt).toNat := by omega
      have pp : (0 ≤ (s.1 + 1).toInt ∧ (s.1 + 1).toInt ≤ 16) ∧ MI true I0 I11 := ⟨(by show (0 ≤ (s.1 + 1).toInt ∧ (s.1 + 1).toInt ≤ 16); have q := ((tA rfl (by decide : (1 : Int32).toInt = 1) (by omega) (by omega)) : (s.1 + 1).toInt = (s.1.toInt + 1)); omega), hI11⟩
      exact t_ret ⟨pp, mm⟩
set_option maxRecDepth 100000 in
set_option maxHeartbeats 1000000 in
theorem tfX1_narrow {I0 : gM} (k : Nat) (v1 : Int32) (v2 : Int32) (I : gM) (hk : kX1 k) (hM : MI true I0 I) (av1 : 0 ≤ v1.toInt ∧ v1.toInt ≤ 2) : T (fX1_narrow k v1 v2 I) (fun r => MI true I0 r) := by
  have hk_1 := hk.1
  have hk_2 := hk.2.1
  unfold fX1_narrow
  refine t_bindE (tlX1_narrow_4 k v1 v2 hk (by omega) (v1 * 4, I) ⟨(by show (0 ≤ (v1 * 4).toInt ∧ (v1 * 4).toInt ≤ 16); have q := ((tM rfl (by decide : (4 : Int32).toInt = 4) (by omega) (by omega)) : (v1 * 4).toInt = (v1.toInt * 4)); omega), hM⟩) (fun w12 ew12 pw12 => ?_)
  have hw12_0 : MI true I0 w12 := pw12
  exact t_ret hw12_0
set_option maxRecDepth 100000 in
set_option maxHeartbeats 1000000 in
theorem tlX1_isLeapt_7 {I0 : gM} (k : Nat) (v1 : Int32) (v2 : Int32) (I : gM) (hk : kX1 k) (hM : MI true I0 I) (av1 : 0 ≤ v1.toInt ∧ v1.toInt ≤ 15) (s : Int32) (hP : (0 ≤ (s).toInt ∧ (s).toInt ≤ 48)) : T (lX1_isLeapt_7 k v1 v2 I s) (fun r : Int32 => (0 ≤ r.toInt ∧ r.toInt ≤ 48)) := by
  have hk_1 := hk.1
  have hk_2 := hk.2.1
  unfold lX1_isLeapt_7
  refine t_it (P := fun s : Int32 => (0 ≤ (s).toInt ∧ (s).toInt ≤ 48)) (μ := fun s : Int32 => (49 - s.toInt).toNat) (fun s p => ?_) hP
  have b0 : (0 ≤ (s).toInt ∧ (s).toInt ≤ 48) := p
  refine t_rI (lo := 0) (hi := 48) hM (fun j _ => hk.2.2.2.2.2.2.2.2.2.2.2.2.2.1 j) rfl (by omega) (by omega) (fun u2 eu2 bu2 => ?_)
  refine t_ite (fun c1 => ?_) (fun c1 => ?_)
  · have c1i := (iLE (a := u2) (b := s) rfl rfl).mp c1
    exact t_ret (show (0 ≤ (s).toInt ∧ (s).toInt ≤ 48) from (by omega))
  · have c1i := mt (iLE (a := u2) (b := s) rfl rfl).mpr c1
    refine t_rI (lo := (-2147483648)) (hi := 2147483647) hM (fun j _ => hk.2.2.2.2.2.2.2.2.2.1 j) rfl (by omega) (by omega) (fun u3 eu3 bu3 => ?_)
    refine t_rI (lo := (-2147483648)) (hi := 2147483647) hM (fun j _ => hk.2.2.2.2.2.2.2.2.2.2.2.1 j) rfl (by omega) (by omega) (fun u4 eu4 bu4 => ?_)
    have q2 : 0 ≤ ((u3 >>> (u4 &&& 31)) &&& 127).toInt ∧ ((u3 >>> (u4 &&& 31)) &&& 127).toInt ≤ 127 := and_b (u3 >>> (u4 &&& 31)) (Or.inl rfl)
    refine t_ite (fun c3 => ?_) (fun c3 => ?_)
    · have c3i := (iLE (a := v2) (b := (u3 >>> (u4 &&& 31)) &&& 127) rfl rfl).mp c3
      exact t_ret (show (0 ≤ (s).toInt ∧ (s).toInt ≤ 48) from (by omega))
    · have c3i := mt (iLE (a := v2) (b := (u3 >>> (u4 &&& 31)) &&& 127) rfl rfl).mpr c3
      have m0 := ((tA rfl (by decide : (1 : Int32).toInt = 1) (by omega) (by omega)) : (s + 1).toInt = (s.toInt + 1))
      have mm : (49 - (s + 1).toInt).toNat < (49 - s.toInt).toNat := by omega
      have pp : (0 ≤ ((s + 1)).toInt ∧ ((s + 1)).toInt ≤ 48) := (by show (0 ≤ ((s + 1)).toInt ∧ ((s + 1)).toInt ≤ 48); have q := ((tA rfl (by decide : (1 : Int32).toInt = 1) (by omega) (by omega)) : (s + 1).toInt = (s.toInt + 1)); omega)
      exact t_ret ⟨pp, mm⟩
set_option maxRecDepth 100000 in
set_option maxHeartbeats 1000000 in
theorem tfX1_isLeapt {I0 : gM} (k : Nat) (v1 : Int32) (v2 : Int32) (I : gM) (hk : kX1 k) (hM : MI true I0 I) (av1 : 0 ≤ v1.toInt ∧ v1.toInt ≤ 15) : T (fX1_isLeapt k v1 v2 I) (fun r => (0 ≤ r.1.toInt ∧ r.1.toInt ≤ 1) ∧ MI true I0 r.2 ∧ (r.1.toInt = 0 ∨ (r.2 (k + 10) (v1.toInt).toNat).toInt < (r.2 (k + 9) (v1.toInt).toNat).toInt)) := by
  have hk_1 := hk.1
  have hk_2 := hk.2.1
  unfold fX1_isLeapt
  refine t_rI (lo := 0) (hi := 48) hM (fun j _ => hk.2.2.2.2.2.2.2.2.2.2.2.2.2.2 j) rfl (by omega) (by omega) (fun u1 eu1 bu1 => ?_)
  have q1 : u1.toInt = (I (k + 10) (v1.toInt).toNat).toInt := by rw [eu1]
  refine t_bindE (tlX1_isLeapt_7 k v1 v2 I hk hM (by omega) u1 (by show (0 ≤ (u1).toInt ∧ (u1).toInt ≤ 48); omega)) (fun w5 ew5 pw5 => ?_)
  have bw5_0 : (0 ≤ w5.toInt ∧ w5.toInt ≤ 48) := pw5
  unfold bX1_isLeapt_43
  refine t_wI (lo := 0) (hi := 48) hM (ble_lt (by omega)) (fun j _ => hk.2.2.2.2.2.2.2.2.2.2.2.2.2.2 j) rfl (by omega) (by omega) (by omega) (fun I6 eI6 hI6 => ?_)
  refine t_pU (lo := (-2147483648)) (hi := 2147483647) hI6 (ble_lt (by omega)) hk.2.2.2.1 (tTop _) (fun I7 eI7 hI7 => ?_)
  refine t_rI (lo := 0) (hi := 48) hI7 (fun j _ => hk.2.2.2.2.2.2.2.2.2.2.2.2.2.1 j) rfl (by omega) (by omega) (fun u8 eu8 bu8 => ?_)
  have q2 : u8.toInt = (I7 (k + 9) (v1.toInt).toNat).toInt := by rw [eu8]
  have q3 : (I7 (k + 9) (v1.toInt).toNat).toInt = (I6 (k + 9) (v1.toInt).toNat).toInt := congrArg (fun g : Nat → Int32 => (g (v1.toInt).toNat).toInt) (show I7 (k + 9) = I6 (k + 9) from by rw [eI7]; exact g_up_row (by omega))
  have q4 : (I6 (k + 9) (v1.toInt).toNat).toInt = (I (k + 9) (v1.toInt).toNat).toInt := congrArg (fun g : Nat → Int32 => (g (v1.toInt).toNat).toInt) (show I6 (k + 9) = I (k + 9) from by rw [eI6]; exact g_up_row (by omega))
  refine t_ite (fun c5 => ?_) (fun c5 => ?_)
  · have c5i := (iLE (a := u8) (b := w5) rfl rfl).mp c5
    have q6 : (I7 (k + 10) (v1.toInt).toNat).toInt = (I6 (k + 10) (v1.toInt).toNat).toInt := congrArg (fun g : Nat → Int32 => (g (v1.toInt).toNat).toInt) (show I7 (k + 10) = I6 (k + 10) from by rw [eI7]; exact g_up_row (by omega))
    have q7 : (I6 (k + 10) (v1.toInt).toNat).toInt = w5.toInt := by rw [eI6, g_up_self]
    exact t_ret ⟨(by show 0 ≤ ((0 : Int32)).toInt ∧ ((0 : Int32)).toInt ≤ 1; decide), hI7, (by show (0 : Int32).toInt = 0 ∨ (I7 (k + 10) (v1.toInt).toNat).toInt < (I7 (k + 9) (v1.toInt).toNat).toInt; have q0 : (0 : Int32).toInt = 0 := (by decide); omega)⟩
  · have c5i := mt (iLE (a := u8) (b := w5) rfl rfl).mpr c5
    have q8 : (I7 (k + 10) (v1.toInt).toNat).toInt = (I6 (k + 10) (v1.toInt).toNat).toInt := congrArg (fun g : Nat → Int32 => (g (v1.toInt).toNat).toInt) (show I7 (k + 10) = I6 (k + 10) from by rw [eI7]; exact g_up_row (by omega))
    have q9 : (I6 (k + 10) (v1.toInt).toNat).toInt = w5.toInt := by rw [eI6, g_up_self]
    exact t_ret ⟨(by show 0 ≤ ((1 : Int32)).toInt ∧ ((1 : Int32)).toInt ≤ 1; decide), hI7, (by show (1 : Int32).toInt = 0 ∨ (I7 (k + 10) (v1.toInt).toNat).toInt < (I7 (k + 9) (v1.toInt).toNat).toInt; have q0 : (1 : Int32).toInt = 1 := (by decide); omega)⟩
