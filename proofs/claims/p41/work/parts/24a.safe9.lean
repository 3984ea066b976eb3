set_option maxRecDepth 100000 in
set_option maxHeartbeats 1000000 in
theorem tfX9_in (v0 : Int32) (v1 : Int32) (v2 : Int32)  : T (fX9_in v0 v1 v2) (fun r => (0 ≤ r.toInt ∧ r.toInt ≤ 1) ∧ (r.toInt = 0 ∨ (v1.toInt ≤ v0.toInt ∧ v0.toInt ≤ v2.toInt))) := by
  unfold fX9_in
  refine t_ite (fun c1 => ?_) (fun c1 => ?_)
  · have c1i := (iLT (a := v0) (b := v1) rfl rfl).mp c1
    exact t_ret ⟨(by show 0 ≤ ((0 : Int32)).toInt ∧ ((0 : Int32)).toInt ≤ 1; decide), (by show (0 : Int32).toInt = 0 ∨ (v1.toInt ≤ v0.toInt ∧ v0.toInt ≤ v2.toInt); have q0 : (0 : Int32).toInt = 0 := (by decide); omega)⟩
  · have c1i := mt (iLT (a := v0) (b := v1) rfl rfl).mpr c1
    refine t_ite (fun c2 => ?_) (fun c2 => ?_)
    · have c2i := (iLT (a := v2) (b := v0) rfl rfl).mp c2
      exact t_ret ⟨(by show 0 ≤ ((0 : Int32)).toInt ∧ ((0 : Int32)).toInt ≤ 1; decide), (by show (0 : Int32).toInt = 0 ∨ (v1.toInt ≤ v0.toInt ∧ v0.toInt ≤ v2.toInt); have q0 : (0 : Int32).toInt = 0 := (by decide); omega)⟩
    · have c2i := mt (iLT (a := v2) (b := v0) rfl rfl).mpr c2
      exact t_ret ⟨(by show 0 ≤ ((1 : Int32)).toInt ∧ ((1 : Int32)).toInt ≤ 1; decide), (by show (1 : Int32).toInt = 0 ∨ (v1.toInt ≤ v0.toInt ∧ v0.toInt ≤ v2.toInt); have q0 : (1 : Int32).toInt = 1 := (by decide); omega)⟩
set_option maxRecDepth 100000 in
set_option maxHeartbeats 1000000 in
theorem tfX9_has (v0 : Int32) (v1 : Int32)  : T (fX9_has v0 v1) (fun r => (0 ≤ r.toInt ∧ r.toInt ≤ 1)) := by
  unfold fX9_has
  have q1 : 0 ≤ ((v0 >>> (v1 &&& 31)) &&& 1).toInt ∧ ((v0 >>> (v1 &&& 31)) &&& 1).toInt ≤ 1 := and_b (v0 >>> (v1 &&& 31)) (Or.inr (Or.inl rfl))
  refine t_ite (fun c2 => ?_) (fun c2 => ?_)
  · have c2i := (iEQ (a := (v0 >>> (v1 &&& 31)) &&& 1) (b := (1 : Int32)) rfl (by decide : (1 : Int32).toInt = 1)).mp c2
    exact t_ret (by show 0 ≤ ((1 : Int32)).toInt ∧ ((1 : Int32)).toInt ≤ 1; decide)
  · have c2i := mt (iEQ (a := (v0 >>> (v1 &&& 31)) &&& 1) (b := (1 : Int32)) rfl (by decide : (1 : Int32).toInt = 1)).mpr c2
    exact t_ret (by show 0 ≤ ((0 : Int32)).toInt ∧ ((0 : Int32)).toInt ≤ 1; decide)
set_option maxRecDepth 100000 in
set_option maxHeartbeats 1000000 in
theorem tlX9_bits_4 (v0 : Int32)  (s : (Int32 × Int32)) (hP : (0 ≤ (s.2).toInt ∧ (s.2).toInt ≤ 2147483647)) : T (lX9_bits_4 v0 s) (fun r : Int32 => True) := by
  unfold lX9_bits_4
  refine t_it (P := fun s : (Int32 × Int32) => (0 ≤ (s.2).toInt ∧ (s.2).toInt ≤ 2147483647)) (μ := fun s : (Int32 × Int32) => (2147483648 - s.2.toInt).toNat) (fun s p => ?_) hP
  have b1 : (0 ≤ (s.2).toInt ∧ (s.2).toInt ≤ 2147483647) := p
  refine t_ite (fun c1 => ?_) (fun c1 => ?_)
  · have c1i := (iLE (a := (12 : Int32)) (b := s.2) (by decide : (12 : Int32).toInt = 12) rfl).mp c1
    exact t_ret (show True from trivial)
  · have c1i := mt (iLE (a := (12 : Int32)) (b := s.2) (by decide : (12 : Int32).toInt = 12) rfl).mpr c1
    have m1 := ((tA rfl (by decide : (1 : Int32).toInt = 1) (by omega) (by omega)) : (s.2 + 1).toInt = (s.2.toInt + 1))
    have mm : (2147483648 - (s.2 + 1).toInt).toNat < (2147483648 - s.2.toInt).toNat := by omega
    have pp : (0 ≤ (s.2 + 1).toInt ∧ (s.2 + 1).toInt ≤ 2147483647) := (by show (0 ≤ (s.2 + 1).toInt ∧ (s.2 + 1).toInt ≤ 2147483647); have q := ((tA rfl (by decide : (1 : Int32).toInt = 1) (by omega) (by omega)) : (s.2 + 1).toInt = (s.2.toInt + 1)); omega)
    exact t_ret ⟨pp, mm⟩
set_option maxRecDepth 100000 in
set_option maxHeartbeats 1000000 in
theorem tfX9_bits (v0 : Int32)  : T (fX9_bits v0) (fun r => True) := by
  unfold fX9_bits
  refine t_bindE (tlX9_bits_4 v0 ((0 : Int32), (0 : Int32)) (by show (0 ≤ ((0 : Int32)).toInt ∧ ((0 : Int32)).toInt ≤ 2147483647); decide)) (fun w1 ew1 pw1 => ?_)
  exact t_ret trivial
set_option maxRecDepth 100000 in
set_option maxHeartbeats 1000000 in
theorem tfX9_byteOf (v0 : Int32) (v1 : Int32) (v2 : Int32) (v3 : Int32) (v4 : Int32) (v5 : Int32)  : T (fX9_byteOf v0 v1 v2 v3 v4 v5) (fun r => (0 ≤ r.toInt ∧ r.toInt ≤ 255)) := by
  unfold fX9_byteOf
  refine t_ite (fun c1 => ?_) (fun c1 => ?_)
  · have c1i := (iLE (a := (4 : Int32)) (b := v5) (by decide : (4 : Int32).toInt = 4) rfl).mp c1
    refine t_ite (fun c2 => ?_) (fun c2 => ?_)
    · have c2i := (iLE (a := (8 : Int32)) (b := v5) (by decide : (8 : Int32).toInt = 8) rfl).mp c2
      refine t_ite (fun c3 => ?_) (fun c3 => ?_)
      · have c3i := (iLE (a := (12 : Int32)) (b := v5) (by decide : (12 : Int32).toInt = 12) rfl).mp c3
        refine t_ite (fun c4 => ?_) (fun c4 => ?_)
        · have c4i := (iLE (a := (16 : Int32)) (b := v5) (by decide : (16 : Int32).toInt = 16) rfl).mp c4
          unfold bX9_byteOf_45
          have q5 : 0 ≤ ((v4 >>> (((24 : Int32) - ((8 : Int32) * (iR v5 4))) &&& 31)) &&& 255).toInt ∧ ((v4 >>> (((24 : Int32) - ((8 : Int32) * (iR v5 4))) &&& 31)) &&& 255).toInt ≤ 255 := and_b (v4 >>> (((24 : Int32) - ((8 : Int32) * (iR v5 4))) &&& 31)) (Or.inr (Or.inr (Or.inl rfl)))
          exact t_ret (by show 0 ≤ (((v4 >>> (((24 : Int32) - ((8 : Int32) * (iR v5 4))) &&& 31)) &&& 255)).toInt ∧ (((v4 >>> (((24 : Int32) - ((8 : Int32) * (iR v5 4))) &&& 31)) &&& 255)).toInt ≤ 255; omega)
        · have c4i := mt (iLE (a := (16 : Int32)) (b := v5) (by decide : (16 : Int32).toInt = 16) rfl).mpr c4
          unfold bX9_byteOf_45
          have q6 : 0 ≤ ((v3 >>> (((24 : Int32) - ((8 : Int32) * (iR v5 4))) &&& 31)) &&& 255).toInt ∧ ((v3 >>> (((24 : Int32) - ((8 : Int32) * (iR v5 4))) &&& 31)) &&& 255).toInt ≤ 255 := and_b (v3 >>> (((24 : Int32) - ((8 : Int32) * (iR v5 4))) &&& 31)) (Or.inr (Or.inr (Or.inl rfl)))
          exact t_ret (by show 0 ≤ (((v3 >>> (((24 : Int32) - ((8 : Int32) * (iR v5 4))) &&& 31)) &&& 255)).toInt ∧ (((v3 >>> (((24 : Int32) - ((8 : Int32) * (iR v5 4))) &&& 31)) &&& 255)).toInt ≤ 255; omega)
      · have c3i := mt (iLE (a := (12 : Int32)) (b := v5) (by decide : (12 : Int32).toInt = 12) rfl).mpr c3
        unfold bX9_byteOf_45
        have q7 : 0 ≤ ((v2 >>> (((24 : Int32) - ((8 : Int32) * (iR v5 4))) &&& 31)) &&& 255).toInt ∧ ((v2 >>> (((24 : Int32) - ((8 : Int32) * (iR v5 4))) &&& 31)) &&& 255).toInt ≤ 255 := and_b (v2 >>> (((24 : Int32) - ((8 : Int32) * (iR v5 4))) &&& 31)) (Or.inr (Or.inr (Or.inl rfl)))
        exact t_ret (by show 0 ≤ (((v2 >>> (((24 : Int32) - ((8 : Int32) * (iR v5 4))) &&& 31)) &&& 255)).toInt ∧ (((v2 >>> (((24 : Int32) - ((8 : Int32) * (iR v5 4))) &&& 31)) &&& 255)).toInt ≤ 255; omega)
    · have c2i := mt (iLE (a := (8 : Int32)) (b := v5) (by decide : (8 : Int32).toInt = 8) rfl).mpr c2
      unfold bX9_byteOf_45
      have q8 : 0 ≤ ((v1 >>> (((24 : Int32) - ((8 : Int32) * (iR v5 4))) &&& 31)) &&& 255).toInt ∧ ((v1 >>> (((24 : Int32) - ((8 : Int32) * (iR v5 4))) &&& 31)) &&& 255).toInt ≤ 255 := and_b (v1 >>> (((24 : Int32) - ((8 : Int32) * (iR v5 4))) &&& 31)) (Or.inr (Or.inr (Or.inl rfl)))
      exact t_ret (by show 0 ≤ (((v1 >>> (((24 : Int32) - ((8 : Int32) * (iR v5 4))) &&& 31)) &&& 255)).toInt ∧ (((v1 >>> (((24 : Int32) - ((8 : Int32) * (iR v5 4))) &&& 31)) &&& 255)).toInt ≤ 255; omega)
  · have c1i := mt (iLE (a := (4 : Int32)) (b := v5) (by decide : (4 : Int32).toInt = 4) rfl).mpr c1
    unfold bX9_byteOf_45
    have q9 : 0 ≤ ((v0 >>> (((24 : Int32) - ((8 : Int32) * (iR v5 4))) &&& 31)) &&& 255).toInt ∧ ((v0 >>> (((24 : Int32) - ((8 : Int32) * (iR v5 4))) &&& 31)) &&& 255).toInt ≤ 255 := and_b (v0 >>> (((24 : Int32) - ((8 : Int32) * (iR v5 4))) &&& 31)) (Or.inr (Or.inr (Or.inl rfl)))
    exact t_ret (by show 0 ≤ (((v0 >>> (((24 : Int32) - ((8 : Int32) * (iR v5 4))) &&& 31)) &&& 255)).toInt ∧ (((v0 >>> (((24 : Int32) - ((8 : Int32) * (iR v5 4))) &&& 31)) &&& 255)).toInt ≤ 255; omega)
set_option maxRecDepth 100000 in
set_option maxHeartbeats 1000000 in
theorem tlX9_feed_6 (v1 : Int32) (v2 : Int32) (v3 : Int32) (v4 : Int32) (v5 : Int32)  (s : (Int32 × Int32)) (hP : (0 ≤ (s.1).toInt ∧ (s.1).toInt ≤ 20) ∧ (0 ≤ (s.2).toInt ∧ (s.2).toInt ≤ 20) ∧ (s.1.toInt ≤ s.2.toInt)) : T (lX9_feed_6 v1 v2 v3 v4 v5 s) (fun r : Int32 => (0 ≤ r.toInt ∧ r.toInt ≤ 20)) := by
  unfold lX9_feed_6
  refine t_it (P := fun s : (Int32 × Int32) => (0 ≤ (s.1).toInt ∧ (s.1).toInt ≤ 20) ∧ (0 ≤ (s.2).toInt ∧ (s.2).toInt ≤ 20) ∧ (s.1.toInt ≤ s.2.toInt)) (μ := fun s : (Int32 × Int32) => (21 - s.2.toInt).toNat) (fun s p => ?_) hP
  obtain ⟨b0, b1, x2⟩ := p
  refine t_ite (fun c1 => ?_) (fun c1 => ?_)
  · have c1i := (iLE (a := (20 : Int32)) (b := s.2) (by decide : (20 : Int32).toInt = 20) rfl).mp c1
    exact t_ret (show (0 ≤ (s.1).toInt ∧ (s.1).toInt ≤ 20) from (by omega))
  · have c1i := mt (iLE (a := (20 : Int32)) (b := s.2) (by decide : (20 : Int32).toInt = 20) rfl).mpr c1
    refine t_bindE (tfX9_byteOf v1 v2 v3 v4 v5 s.2) (fun r1 er1 pr1 => ?_)
    have br1_0 : (0 ≤ r1.toInt ∧ r1.toInt ≤ 255) := pr1
    refine t_ite (fun c2 => ?_) (fun c2 => ?_)
    · have c2i := (iEQ (a := r1) (b := (0 : Int32)) rfl (by decide : (0 : Int32).toInt = 0)).mp c2
      unfold bX9_feed_35
      have m0 := ((tA rfl (by decide : (0 : Int32).toInt = 0) (by omega) (by omega)) : (s.1 + (0 : Int32)).toInt = (s.1.toInt + 0))
      have m1 := ((tA rfl (by decide : (1 : Int32).toInt = 1) (by omega) (by omega)) : (s.2 + 1).toInt = (s.2.toInt + 1))
      have mm : (21 - (s.2 + 1).toInt).toNat < (21 - s.2.toInt).toNat := by omega
      have pp : (0 ≤ (s.1 + (0 : Int32)).toInt ∧ (s.1 + (0 : Int32)).toInt ≤ 20) ∧ (0 ≤ (s.2 + 1).toInt ∧ (s.2 + 1).toInt ≤ 20) ∧ ((s.1 + (0 : Int32)).toInt ≤ (s.2 + 1).toInt) := ⟨(by show (0 ≤ (s.1 + (0 : Int32)).toInt ∧ (s.1 + (0 : Int32)).toInt ≤ 20); have q := ((tA rfl (by decide : (0 : Int32).toInt = 0) (by omega) (by omega)) : (s.1 + (0 : Int32)).toInt = (s.1.toInt + 0)); omega), (by show (0 ≤ (s.2 + 1).toInt ∧ (s.2 + 1).toInt ≤ 20); have q := ((tA rfl (by decide : (1 : Int32).toInt = 1) (by omega) (by omega)) : (s.2 + 1).toInt = (s.2.toInt + 1)); omega), (by show ((s.1 + (0 : Int32)).toInt ≤ (s.2 + 1).toInt); have q0 := ((tA rfl (by decide : (0 : Int32).toInt = 0) (by omega) (by omega)) : (s.1 + (0 : Int32)).toInt = (s.1.toInt + 0)); have q1 := ((tA rfl (by decide : (1 : Int32).toInt = 1) (by omega) (by omega)) : (s.2 + 1).toInt = (s.2.toInt + 1)); omega)⟩
      exact t_ret ⟨pp, mm⟩
    · have c2i := mt (iEQ (a := r1) (b := (0 : Int32)) rfl (by decide : (0 : Int32).toInt = 0)).mpr c2
      unfold bX9_feed_35
      have m0 := ((tA rfl (by decide : (1 : Int32).toInt = 1) (by omega) (by omega)) : (s.1 + (1 : Int32)).toInt = (s.1.toInt + 1))
      have m1 := ((tA rfl (by decide : (1 : Int32).toInt = 1) (by omega) (by omega)) : (s.2 + 1).toInt = (s.2.toInt + 1))
      have mm : (21 - (s.2 + 1).toInt).toNat < (21 - s.2.toInt).toNat := by omega
      have pp : (0 ≤ (s.1 + (1 : Int32)).toInt ∧ (s.1 + (1 : Int32)).toInt ≤ 20) ∧ (0 ≤ (s.2 + 1).toInt ∧ (s.2 + 1).toInt ≤ 20) ∧ ((s.1 + (1 : Int32)).toInt ≤ (s.2 + 1).toInt) := ⟨(by show (0 ≤ (s.1 + (1 : Int32)).toInt ∧ (s.1 + (1 : Int32)).toInt ≤ 20); have q := ((tA rfl (by decide : (1 : Int32).toInt = 1) (by omega) (by omega)) : (s.1 + (1 : Int32)).toInt = (s.1.toInt + 1)); omega), (by show (0 ≤ (s.2 + 1).toInt ∧ (s.2 + 1).toInt ≤ 20); have q := ((tA rfl (by decide : (1 : Int32).toInt = 1) (by omega) (by omega)) : (s.2 + 1).toInt = (s.2.toInt + 1)); omega), (by show ((s.1 + (1 : Int32)).toInt ≤ (s.2 + 1).toInt); have q0 := ((tA rfl (by decide : (1 : Int32).toInt = 1) (by omega) (by omega)) : (s.1 + (1 : Int32)).toInt = (s.1.toInt + 1)); have q1 := ((tA rfl (by decide : (1 : Int32).toInt = 1) (by omega) (by omega)) : (s.2 + 1).toInt = (s.2.toInt + 1)); omega)⟩
      exact t_ret ⟨pp, mm⟩
set_option maxRecDepth 100000 in
set_option maxHeartbeats 1000000 in
theorem tfX9_end {I0 : gM} (v1 : Int32) (I : gM) (hM : MI false I0 I) : T (fX9_end v1 I) (fun r => (0 ≤ r.1.toInt ∧ r.1.toInt ≤ 1) ∧ MI false I0 r.2) := by
  unfold fX9_end
  refine t_bindE (tfX9_in v1 (0 : Int32) (I 62 2)) (fun r1 er1 pr1 => ?_)
  obtain ⟨br1_0, xr1_0⟩ := (show (0 ≤ r1.toInt ∧ r1.toInt ≤ 1) ∧ (r1.toInt = 0 ∨ ((0 : Int32).toInt ≤ v1.toInt ∧ v1.toInt ≤ (I 62 2).toInt)) from pr1)
  have q1 := hM.at (k := 62) (j := 2) (lo := 0) (hi := 400) rfl
  have q2 : (0 : Int32).toInt = 0 := by decide
  refine t_ite (fun c3 => ?_) (fun c3 => ?_)
  · have c3i := (iEQ (a := r1) (b := (0 : Int32)) rfl (by decide : (0 : Int32).toInt = 0)).mp c3
    exact t_ret ⟨(by show 0 ≤ ((0 : Int32)).toInt ∧ ((0 : Int32)).toInt ≤ 1; decide), hM⟩
  · have c3i := mt (iEQ (a := r1) (b := (0 : Int32)) rfl (by decide : (0 : Int32).toInt = 0)).mpr c3
    refine t_pU (lo := 0) (hi := 400) hM rfl rfl (by omega) (fun I2 eI2 hI2 => ?_)
    exact t_ret ⟨(by show 0 ≤ ((1 : Int32)).toInt ∧ ((1 : Int32)).toInt ≤ 1; decide), hI2⟩
set_option maxRecDepth 100000 in
set_option maxHeartbeats 1000000 in
theorem tfX9_here {I0 : gM} (I : gM) (hM : MI false I0 I) : T (fX9_here I) (fun r => ((-1) ≤ r.toInt ∧ r.toInt ≤ 255) ∧ (r.toInt = (-1) ∨ (I 62 3).toInt < 400)) := by
  unfold fX9_here
  have q1 := hM.at (k := 62) (j := 3) (lo := 0) (hi := 400) rfl
  have q2 := hM.at (k := 62) (j := 2) (lo := 0) (hi := 400) rfl
  refine t_ite (fun c3 => ?_) (fun c3 => ?_)
  · have c3i := (iLE (a := I 62 2) (b := I 62 3) rfl rfl).mp c3
    exact t_ret ⟨(by show (-1) ≤ (((-1) : Int32)).toInt ∧ (((-1) : Int32)).toInt ≤ 255; decide), (by show ((-1) : Int32).toInt = (-1) ∨ (I 62 3).toInt < 400; have q0 : ((-1) : Int32).toInt = (-1) := (by decide); omega)⟩
  · have c3i := mt (iLE (a := I 62 2) (b := I 62 3) rfl rfl).mpr c3
    refine t_rI (lo := (-1)) (hi := 255) hM (fun _ _ => rfl) rfl (by omega) (by omega) (fun u1 eu1 bu1 => ?_)
    exact t_ret ⟨(by show (-1) ≤ (u1).toInt ∧ (u1).toInt ≤ 255; omega), (by show u1.toInt = (-1) ∨ (I 62 3).toInt < 400; skip; omega)⟩
set_option maxRecDepth 100000 in
set_option maxHeartbeats 1000000 in
theorem tlX9_ahead_0 {I0 : gM} (G : gM)  (s : gM) (hP : MI false I0 s ∧ ((s 62 4).toInt = (G 62 4).toInt) ∧ ((G 62 3).toInt ≤ (s 62 3).toInt)) : T (lX9_ahead_0 s) (fun r : gM => MI false I0 r ∧ ((r 62 4).toInt = (G 62 4).toInt) ∧ ((G 62 3).toInt ≤ (r 62 3).toInt)) := by
  unfold lX9_ahead_0
  refine t_it (P := fun s : gM => MI false I0 s ∧ ((s 62 4).toInt = (G 62 4).toInt) ∧ ((G 62 3).toInt ≤ (s 62 3).toInt)) (μ := fun s : gM => (400 - (s 62 3).toInt).toNat) (fun s p => ?_) hP
  obtain ⟨hs, x1, x2⟩ := p
  have q1 := hs.at (k := 62) (j := 4) (lo := (-1)) (hi := 400) rfl
  have q2 := hs.at (k := 62) (j := 3) (lo := 0) (hi := 400) rfl
  refine t_bindE (tfX9_here s hs) (fun r1 er1 pr1 => ?_)
  obtain ⟨br1_0, xr1_0⟩ := (show ((-1) ≤ r1.toInt ∧ r1.toInt ≤ 255) ∧ (r1.toInt = (-1) ∨ (s 62 3).toInt < 400) from pr1)
  refine t_ite (fun c3 => ?_) (fun c3 => ?_)
  · have c3i := (iEQ (a := r1) (b := (32 : Int32)) rfl (by decide : (32 : Int32).toInt = 32)).mp c3
    refine t_pU (lo := 0) (hi := 400) hs rfl rfl (by have q := ((tA rfl (by decide : (1 : Int32).toInt = 1) (by omega) (by omega)) : ((s 62 3) + 1).toInt = ((s 62 3).toInt + 1)); omega) (fun I2 eI2 hI2 => ?_)
    have q4 := hI2.at (k := 62) (j := 4) (lo := (-1)) (hi := 400) rfl
    have q5 : (I2 62 4).toInt = (s 62 4).toInt := by rw [eI2, g_up_ne (Or.inr (by decide))]
    have q6 := hI2.at (k := 62) (j := 3) (lo := 0) (hi := 400) rfl
    have q7 : (I2 62 3).toInt = ((s 62 3).toInt + 1) := by rw [eI2, g_up_self]; exact (tA rfl (by decide : (1 : Int32).toInt = 1) (by omega) (by omega))
    have mm : (400 - (I2 62 3).toInt).toNat < (400 - (s 62 3).toInt).toNat := by omega
    have pp : MI false I0 I2 ∧ ((I2 62 4).toInt = (G 62 4).toInt) ∧ ((G 62 3).toInt ≤ (I2 62 3).toInt) := ⟨hI2, (by show ((I2 62 4).toInt = (G 62 4).toInt); skip; omega), (by show ((G 62 3).toInt ≤ (I2 62 3).toInt); skip; omega)⟩
    exact t_ret ⟨pp, mm⟩
  · have c3i := mt (iEQ (a := r1) (b := (32 : Int32)) rfl (by decide : (32 : Int32).toInt = 32)).mpr c3
    exact t_ret (show MI false I0 s ∧ ((s 62 4).toInt = (G 62 4).toInt) ∧ ((G 62 3).toInt ≤ (s 62 3).toInt) from ⟨hs, (by omega), (by omega)⟩)
set_option maxRecDepth 100000 in
set_option maxHeartbeats 1000000 in
theorem tfX9_ahead {I0 : gM} (I : gM) (hM : MI false I0 I) : T (fX9_ahead I) (fun r => ((-1) ≤ r.1.toInt ∧ r.1.toInt ≤ 255) ∧ MI false I0 r.2 ∧ (r.1.toInt = (-1) ∨ (r.2 62 3).toInt < 400) ∧ ((r.2 62 4).toInt = (I 62 4).toInt) ∧ ((I 62 3).toInt ≤ (r.2 62 3).toInt) ∧ (fX9_here r.2 = some r.1)) := by
  unfold fX9_ahead
  have q1 := hM.at (k := 62) (j := 4) (lo := (-1)) (hi := 400) rfl
  have q2 := hM.at (k := 62) (j := 3) (lo := 0) (hi := 400) rfl
  refine t_bindE (tlX9_ahead_0 I I ⟨hM, (by show ((I 62 4).toInt = (I 62 4).toInt); skip; omega), (by show ((I 62 3).toInt ≤ (I 62 3).toInt); skip; omega)⟩) (fun w3 ew3 pw3 => ?_)
  obtain ⟨hw3_0, xw3_0, xw3_1⟩ := (show MI false I0 w3 ∧ ((w3 62 4).toInt = (I 62 4).toInt) ∧ ((I 62 3).toInt ≤ (w3 62 3).toInt) from pw3)
  have q3 := hw3_0.at (k := 62) (j := 4) (lo := (-1)) (hi := 400) rfl
  have q4 : (w3 62 4).toInt = (I 62 4).toInt := congrArg Int32.toInt (show w3 62 4 = I 62 4 from xlX9_ahead_0 I ew3 62 4 (Or.inr (by decide)))
  have q5 := hw3_0.at (k := 62) (j := 3) (lo := 0) (hi := 400) rfl
  refine t_bindE (tfX9_here w3 hw3_0) (fun r4 er4 pr4 => ?_)
  obtain ⟨br4_0, xr4_0⟩ := (show ((-1) ≤ r4.toInt ∧ r4.toInt ≤ 255) ∧ (r4.toInt = (-1) ∨ (w3 62 3).toInt < 400) from pr4)
  exact t_ret ⟨(by show (-1) ≤ (r4).toInt ∧ (r4).toInt ≤ 255; omega), hw3_0, (by show r4.toInt = (-1) ∨ (w3 62 3).toInt < 400; skip; omega), (by show (w3 62 4).toInt = (I 62 4).toInt; skip; omega), (by show (I 62 3).toInt ≤ (w3 62 3).toInt; skip; omega), er4⟩
set_option maxRecDepth 100000 in
set_option maxHeartbeats 1000000 in
theorem tfX9_bad {I0 : gM} (I : gM) (hM : MI false I0 I) : T (fX9_bad I) (fun r => MI false I0 r ∧ (0 ≤ (r 62 4).toInt) ∧ ((r 62 3).toInt = (I 62 3).toInt)) := by
  unfold fX9_bad
  have q1 := hM.at (k := 62) (j := 3) (lo := 0) (hi := 400) rfl
  have q2 := hM.at (k := 62) (j := 4) (lo := (-1)) (hi := 400) rfl
  refine t_ite (fun c3 => ?_) (fun c3 => ?_)
  · have c3i := (iEQ (a := I 62 4) (b := ((-1) : Int32)) rfl (by decide : ((-1) : Int32).toInt = (-1))).mp c3
    refine t_pU (lo := (-1)) (hi := 400) hM rfl rfl (by omega) (fun I1 eI1 hI1 => ?_)
    have q4 := hI1.at (k := 62) (j := 4) (lo := (-1)) (hi := 400) rfl
    have q5 : (I1 62 4).toInt = (I 62 3).toInt := by rw [eI1, g_up_self]
    have q6 := hI1.at (k := 62) (j := 3) (lo := 0) (hi := 400) rfl
    have q7 : (I1 62 3).toInt = (I 62 3).toInt := by rw [eI1, g_up_ne (Or.inr (by decide))]
    exact t_ret ⟨hI1, (by show 0 ≤ (I1 62 4).toInt; skip; omega), (by show (I1 62 3).toInt = (I 62 3).toInt; skip; omega)⟩
  · have c3i := mt (iEQ (a := I 62 4) (b := ((-1) : Int32)) rfl (by decide : ((-1) : Int32).toInt = (-1))).mpr c3
    refine t_pU (lo := (-1)) (hi := 400) hM rfl rfl (by omega) (fun I2 eI2 hI2 => ?_)
    have q8 := hI2.at (k := 62) (j := 4) (lo := (-1)) (hi := 400) rfl
    have q9 : (I2 62 4).toInt = (I 62 4).toInt := by rw [eI2, g_up_self]
    have q10 := hI2.at (k := 62) (j := 3) (lo := 0) (hi := 400) rfl
    have q11 : (I2 62 3).toInt = (I 62 3).toInt := by rw [eI2, g_up_ne (Or.inr (by decide))]
    exact t_ret ⟨hI2, (by show 0 ≤ (I2 62 4).toInt; skip; omega), (by show (I2 62 3).toInt = (I 62 3).toInt; skip; omega)⟩
set_option maxRecDepth 100000 in
set_option maxHeartbeats 1000000 in
theorem tfX9_must {I0 : gM} (v1 : Int32) (I : gM) (hM : MI false I0 I) (av1 : 0 ≤ v1.toInt ∧ v1.toInt ≤ 255) : T (fX9_must v1 I) (fun r => MI false I0 r) := by
  unfold fX9_must
  have q1 := hM.at (k := 62) (j := 4) (lo := (-1)) (hi := 400) rfl
  refine t_ite (fun c2 => ?_) (fun c2 => ?_)
  · have c2i := (iEQ (a := I 62 4) (b := ((-1) : Int32)) rfl (by decide : ((-1) : Int32).toInt = (-1))).mp c2
    refine t_bindE (tfX9_ahead I hM) (fun r1 er1 pr1 => ?_)
    obtain ⟨br1_0, hr1_1, xr1_0, xr1_1, xr1_2, yr1_0⟩ := (show ((-1) ≤ r1.1.toInt ∧ r1.1.toInt ≤ 255) ∧ MI false I0 r1.2 ∧ (r1.1.toInt = (-1) ∨ (r1.2 62 3).toInt < 400) ∧ ((r1.2 62 4).toInt = (I 62 4).toInt) ∧ ((I 62 3).toInt ≤ (r1.2 62 3).toInt) ∧ (fX9_here r1.2 = some r1.1) from pr1)
    have q3 := hr1_1.at (k := 62) (j := 3) (lo := 0) (hi := 400) rfl
    have q4 := hr1_1.at (k := 62) (j := 4) (lo := (-1)) (hi := 400) rfl
    have q5 : (r1.2 62 4).toInt = (I 62 4).toInt := congrArg Int32.toInt (show r1.2 62 4 = I 62 4 from xfX9_ahead I er1 62 4 (Or.inr (by decide)))
    have q6 := hM.at (k := 62) (j := 3) (lo := 0) (hi := 400) rfl
    refine t_ite (fun c7 => ?_) (fun c7 => ?_)
    · have c7i := (iEQ (a := r1.1) (b := v1) rfl rfl).mp c7
      refine t_pU (lo := 0) (hi := 400) hr1_1 rfl rfl (by have q := ((tA rfl (by decide : (1 : Int32).toInt = 1) (by omega) (by omega)) : ((r1.2 62 3) + 1).toInt = ((r1.2 62 3).toInt + 1)); omega) (fun I2 eI2 hI2 => ?_)
      exact t_ret hI2
    · have c7i := mt (iEQ (a := r1.1) (b := v1) rfl rfl).mpr c7
      unfold bX9_must_29
      refine t_bindE (tfX9_bad r1.2 hr1_1) (fun r3 er3 pr3 => ?_)
      obtain ⟨hr3_0, xr3_0, xr3_1⟩ := (show MI false I0 r3 ∧ (0 ≤ (r3 62 4).toInt) ∧ ((r3 62 3).toInt = (r1.2 62 3).toInt) from pr3)
      have q8 := hr3_0.at (k := 62) (j := 4) (lo := (-1)) (hi := 400) rfl
      have q9 := hr3_0.at (k := 62) (j := 3) (lo := 0) (hi := 400) rfl
      have q10 : (r3 62 3).toInt = (r1.2 62 3).toInt := congrArg Int32.toInt (show r3 62 3 = r1.2 62 3 from xfX9_bad r1.2 er3 62 3 (Or.inr (by decide)))
      exact t_ret hr3_0
  · have c2i := mt (iEQ (a := I 62 4) (b := ((-1) : Int32)) rfl (by decide : ((-1) : Int32).toInt = (-1))).mpr c2
    unfold bX9_must_29
    refine t_bindE (tfX9_bad I hM) (fun r3 er3 pr3 => ?_)
    obtain ⟨hr3_0, xr3_0, xr3_1⟩ := (show MI false I0 r3 ∧ (0 ≤ (r3 62 4).toInt) ∧ ((r3 62 3).toInt = (I 62 3).toInt) from pr3)
    have q11 := hr3_0.at (k := 62) (j := 4) (lo := (-1)) (hi := 400) rfl
    have q12 := hr3_0.at (k := 62) (j := 3) (lo := 0) (hi := 400) rfl
    have q13 := hM.at (k := 62) (j := 3) (lo := 0) (hi := 400) rfl
    have q14 : (r3 62 3).toInt = (I 62 3).toInt := congrArg Int32.toInt (show r3 62 3 = I 62 3 from xfX9_bad I er3 62 3 (Or.inr (by decide)))
    exact t_ret hr3_0
set_option maxRecDepth 100000 in
set_option maxHeartbeats 1000000 in
theorem tfX9_isDigit (v0 : Int32)  : T (fX9_isDigit v0) (fun r => (0 ≤ r.toInt ∧ r.toInt ≤ 1) ∧ (r.toInt = 0 ∨ (48 ≤ v0.toInt ∧ v0.toInt ≤ 57))) := by
  unfold fX9_isDigit
  refine t_ite (fun c1 => ?_) (fun c1 => ?_)
  · have c1i := (iLT (a := v0) (b := (48 : Int32)) rfl (by decide : (48 : Int32).toInt = 48)).mp c1
    exact t_ret ⟨(by show 0 ≤ ((0 : Int32)).toInt ∧ ((0 : Int32)).toInt ≤ 1; decide), (by show (0 : Int32).toInt = 0 ∨ (48 ≤ v0.toInt ∧ v0.toInt ≤ 57); have q0 : (0 : Int32).toInt = 0 := (by decide); omega)⟩
  · have c1i := mt (iLT (a := v0) (b := (48 : Int32)) rfl (by decide : (48 : Int32).toInt = 48)).mpr c1
    refine t_ite (fun c2 => ?_) (fun c2 => ?_)
    · have c2i := (iLT (a := (57 : Int32)) (b := v0) (by decide : (57 : Int32).toInt = 57) rfl).mp c2
      exact t_ret ⟨(by show 0 ≤ ((0 : Int32)).toInt ∧ ((0 : Int32)).toInt ≤ 1; decide), (by show (0 : Int32).toInt = 0 ∨ (48 ≤ v0.toInt ∧ v0.toInt ≤ 57); have q0 : (0 : Int32).toInt = 0 := (by decide); omega)⟩
    · have c2i := mt (iLT (a := (57 : Int32)) (b := v0) (by decide : (57 : Int32).toInt = 57) rfl).mpr c2
      exact t_ret ⟨(by show 0 ≤ ((1 : Int32)).toInt ∧ ((1 : Int32)).toInt ≤ 1; decide), (by show (1 : Int32).toInt = 0 ∨ (48 ≤ v0.toInt ∧ v0.toInt ≤ 57); have q0 : (1 : Int32).toInt = 1 := (by decide); omega)⟩
set_option maxRecDepth 100000 in
set_option maxHeartbeats 1000000 in
theorem tlX9_number_28 {I0 : gM}   (s : (Int32 × Int32 × gM)) (hP : (0 ≤ (s.1).toInt ∧ (s.1).toInt ≤ 99) ∧ (0 ≤ (s.2.1).toInt ∧ (s.2.1).toInt ≤ 2) ∧ MI false I0 s.2.2 ∧ ((s.2.1.toInt = 0 ∧ s.1.toInt = 0) ∨ (s.2.1.toInt = 1 ∧ s.1.toInt ≤ 9) ∨ s.2.1.toInt = 2) ∧ (s.2.1.toInt = 0 ∨ 1 ≤ (s.2.2 62 3).toInt)) : T (lX9_number_28 s) (fun r : Int32 × gM => (0 ≤ r.1.toInt ∧ r.1.toInt ≤ 99) ∧ MI false I0 r.2 ∧ (r.1.toInt = 0 ∨ 1 ≤ (r.2 62 3).toInt)) := by
  unfold lX9_number_28
  refine t_it (P := fun s : (Int32 × Int32 × gM) => (0 ≤ (s.1).toInt ∧ (s.1).toInt ≤ 99) ∧ (0 ≤ (s.2.1).toInt ∧ (s.2.1).toInt ≤ 2) ∧ MI false I0 s.2.2 ∧ ((s.2.1.toInt = 0 ∧ s.1.toInt = 0) ∨ (s.2.1.toInt = 1 ∧ s.1.toInt ≤ 9) ∨ s.2.1.toInt = 2) ∧ (s.2.1.toInt = 0 ∨ 1 ≤ (s.2.2 62 3).toInt)) (μ := fun s : (Int32 × Int32 × gM) => (3 - s.2.1.toInt).toNat) (fun s p => ?_) hP
  obtain ⟨b0, b1, hs, x3, x4⟩ := p
  have q1 := hs.at (k := 62) (j := 3) (lo := 0) (hi := 400) rfl
  refine t_ite (fun c2 => ?_) (fun c2 => ?_)
  · have c2i := (iLE (a := (2 : Int32)) (b := s.2.1) (by decide : (2 : Int32).toInt = 2) rfl).mp c2
    exact t_ret (show (0 ≤ (s.1).toInt ∧ (s.1).toInt ≤ 99) ∧ MI false I0 s.2.2 ∧ (s.1.toInt = 0 ∨ 1 ≤ (s.2.2 62 3).toInt) from ⟨(by omega), hs, (by omega)⟩)
  · have c2i := mt (iLE (a := (2 : Int32)) (b := s.2.1) (by decide : (2 : Int32).toInt = 2) rfl).mpr c2
    refine t_bindE (tfX9_here s.2.2 hs) (fun r4 er4 pr4 => ?_)
    obtain ⟨br4_0, xr4_0⟩ := (show ((-1) ≤ r4.toInt ∧ r4.toInt ≤ 255) ∧ (r4.toInt = (-1) ∨ (s.2.2 62 3).toInt < 400) from pr4)
    refine t_bindE (tfX9_isDigit r4) (fun r5 er5 pr5 => ?_)
    obtain ⟨br5_0, xr5_0⟩ := (show (0 ≤ r5.toInt ∧ r5.toInt ≤ 1) ∧ (r5.toInt = 0 ∨ (48 ≤ r4.toInt ∧ r4.toInt ≤ 57)) from pr5)
    refine t_ite (fun c3 => ?_) (fun c3 => ?_)
    · have c3i := (iEQ (a := r5) (b := (0 : Int32)) rfl (by decide : (0 : Int32).toInt = 0)).mp c3
      exact t_ret (show (0 ≤ (s.1).toInt ∧ (s.1).toInt ≤ 99) ∧ MI false I0 s.2.2 ∧ (s.1.toInt = 0 ∨ 1 ≤ (s.2.2 62 3).toInt) from ⟨(by omega), hs, (by omega)⟩)
    · have c3i := mt (iEQ (a := r5) (b := (0 : Int32)) rfl (by decide : (0 : Int32).toInt = 0)).mpr c3
      refine t_bindE (tfX9_here s.2.2 hs) (fun r6 er6 pr6 => ?_)
      obtain ⟨br6_0, xr6_0⟩ := (show ((-1) ≤ r6.toInt ∧ r6.toInt ≤ 255) ∧ (r6.toInt = (-1) ∨ (s.2.2 62 3).toInt < 400) from pr6)
      have q4 : r6.toInt = r4.toInt := congrArg Int32.toInt (Option.some.inj (er6.symm.trans er4))
      refine t_pU (lo := 0) (hi := 400) hs rfl rfl (by have q := ((tA rfl (by decide : (1 : Int32).toInt = 1) (by omega) (by omega)) : ((s.2.2 62 3) + 1).toInt = ((s.2.2 62 3).toInt + 1)); omega) (fun I7 eI7 hI7 => ?_)
      have q5 := hI7.at (k := 62) (j := 3) (lo := 0) (hi := 400) rfl
      have q6 : (I7 62 3).toInt = ((s.2.2 62 3).toInt + 1) := by rw [eI7, g_up_self]; exact (tA rfl (by decide : (1 : Int32).toInt = 1) (by omega) (by omega))
      have m0 := ((tS (tA (tM (by decide : (10 : Int32).toInt = 10) rfl (by omega) (by omega)) rfl (by omega) (by omega)) (by decide : (48 : Int32).toInt = 48) (by omega) (by omega)) : ((((10 : Int32) * s.1) + r6) - 48).toInt = (((10 * s.1.toInt) + r6.toInt) - 48))
      have m1 := ((tA rfl (by decide : (1 : Int32).toInt = 1) (by omega) (by omega)) : (s.2.1 + 1).toInt = (s.2.1.toInt + 1))
      have mm : (3 - (s.2.1 + 1).toInt).toNat < (3 - s.2.1.toInt).toNat := by omega
      have pp : (0 ≤ ((((10 : Int32) * s.1) + r6) - 48).toInt ∧ ((((10 : Int32) * s.1) + r6) - 48).toInt ≤ 99) ∧ (0 ≤ (s.2.1 + 1).toInt ∧ (s.2.1 + 1).toInt ≤ 2) ∧ MI false I0 I7 ∧ (((s.2.1 + 1).toInt = 0 ∧ ((((10 : Int32) * s.1) + r6) - 48).toInt = 0) ∨ ((s.2.1 + 1).toInt = 1 ∧ ((((10 : Int32) * s.1) + r6) - 48).toInt ≤ 9) ∨ (s.2.1 + 1).toInt = 2) ∧ ((s.2.1 + 1).toInt = 0 ∨ 1 ≤ (I7 62 3).toInt) := ⟨(by show (0 ≤ ((((10 : Int32) * s.1) + r6) - 48).toInt ∧ ((((10 : Int32) * s.1) + r6) - 48).toInt ≤ 99); have q := ((tS (tA (tM (by decide : (10 : Int32).toInt = 10) rfl (by omega) (by omega)) rfl (by omega) (by omega)) (by decide : (48 : Int32).toInt = 48) (by omega) (by omega)) : ((((10 : Int32) * s.1) + r6) - 48).toInt = (((10 * s.1.toInt) + r6.toInt) - 48)); omega), (by show (0 ≤ (s.2.1 + 1).toInt ∧ (s.2.1 + 1).toInt ≤ 2); have q := ((tA rfl (by decide : (1 : Int32).toInt = 1) (by omega) (by omega)) : (s.2.1 + 1).toInt = (s.2.1.toInt + 1)); omega), hI7, (by show (((s.2.1 + 1).toInt = 0 ∧ ((((10 : Int32) * s.1) + r6) - 48).toInt = 0) ∨ ((s.2.1 + 1).toInt = 1 ∧ ((((10 : Int32) * s.1) + r6) - 48).toInt ≤ 9) ∨ (s.2.1 + 1).toInt = 2); have q0 := ((tS (tA (tM (by decide : (10 : Int32).toInt = 10) rfl (by omega) (by omega)) rfl (by omega) (by omega)) (by decide : (48 : Int32).toInt = 48) (by omega) (by omega)) : ((((10 : Int32) * s.1) + r6) - 48).toInt = (((10 * s.1.toInt) + r6.toInt) - 48)); have q1 := ((tA rfl (by decide : (1 : Int32).toInt = 1) (by omega) (by omega)) : (s.2.1 + 1).toInt = (s.2.1.toInt + 1)); omega), (by show ((s.2.1 + 1).toInt = 0 ∨ 1 ≤ (I7 62 3).toInt); have q0 := ((tS (tA (tM (by decide : (10 : Int32).toInt = 10) rfl (by omega) (by omega)) rfl (by omega) (by omega)) (by decide : (48 : Int32).toInt = 48) (by omega) (by omega)) : ((((10 : Int32) * s.1) + r6) - 48).toInt = (((10 * s.1.toInt) + r6.toInt) - 48)); have q1 := ((tA rfl (by decide : (1 : Int32).toInt = 1) (by omega) (by omega)) : (s.2.1 + 1).toInt = (s.2.1.toInt + 1)); omega)⟩
      exact t_ret ⟨pp, mm⟩
set_option maxRecDepth 100000 in
set_option maxHeartbeats 1000000 in
theorem tfX9_number {I0 : gM} (v1 : Int32) (I : gM) (hM : MI false I0 I) (av1 : 0 ≤ v1.toInt ∧ v1.toInt ≤ 99) : T (fX9_number v1 I) (fun r => (0 ≤ r.1.toInt ∧ r.1.toInt ≤ 99) ∧ MI false I0 r.2) := by
  unfold fX9_number
  have q1 := hM.at (k := 62) (j := 4) (lo := (-1)) (hi := 400) rfl
  refine t_ite (fun c2 => ?_) (fun c2 => ?_)
  · have c2i := (iEQ (a := I 62 4) (b := ((-1) : Int32)) rfl (by decide : ((-1) : Int32).toInt = (-1))).mp c2
    refine t_bindE (tfX9_ahead I hM) (fun r1 er1 pr1 => ?_)
    obtain ⟨br1_0, hr1_1, xr1_0, xr1_1, xr1_2, yr1_0⟩ := (show ((-1) ≤ r1.1.toInt ∧ r1.1.toInt ≤ 255) ∧ MI false I0 r1.2 ∧ (r1.1.toInt = (-1) ∨ (r1.2 62 3).toInt < 400) ∧ ((r1.2 62 4).toInt = (I 62 4).toInt) ∧ ((I 62 3).toInt ≤ (r1.2 62 3).toInt) ∧ (fX9_here r1.2 = some r1.1) from pr1)
    have q3 := hr1_1.at (k := 62) (j := 3) (lo := 0) (hi := 400) rfl
    have q4 := hr1_1.at (k := 62) (j := 4) (lo := (-1)) (hi := 400) rfl
    have q5 : (r1.2 62 4).toInt = (I 62 4).toInt := congrArg Int32.toInt (show r1.2 62 4 = I 62 4 from xfX9_ahead I er1 62 4 (Or.inr (by decide)))
    have q6 := hM.at (k := 62) (j := 3) (lo := 0) (hi := 400) rfl
    refine t_bindE (tfX9_isDigit r1.1) (fun r2 er2 pr2 => ?_)
    obtain ⟨br2_0, xr2_0⟩ := (show (0 ≤ r2.toInt ∧ r2.toInt ≤ 1) ∧ (r2.toInt = 0 ∨ (48 ≤ r1.1.toInt ∧ r1.1.toInt ≤ 57)) from pr2)
    refine t_ite (fun c7 => ?_) (fun c7 => ?_)
    · have c7i := (iEQ (a := r2) (b := (0 : Int32)) rfl (by decide : (0 : Int32).toInt = 0)).mp c7
      unfold bX9_number_18
      refine t_bindE (tfX9_bad r1.2 hr1_1) (fun r3 er3 pr3 => ?_)
      obtain ⟨hr3_0, xr3_0, xr3_1⟩ := (show MI false I0 r3 ∧ (0 ≤ (r3 62 4).toInt) ∧ ((r3 62 3).toInt = (r1.2 62 3).toInt) from pr3)
      have q8 := hr3_0.at (k := 62) (j := 4) (lo := (-1)) (hi := 400) rfl
      have q9 := hr3_0.at (k := 62) (j := 3) (lo := 0) (hi := 400) rfl
      have q10 : (r3 62 3).toInt = (r1.2 62 3).toInt := congrArg Int32.toInt (show r3 62 3 = r1.2 62 3 from xfX9_bad r1.2 er3 62 3 (Or.inr (by decide)))
      exact t_ret ⟨(by show 0 ≤ ((0 : Int32)).toInt ∧ ((0 : Int32)).toInt ≤ 99; decide), hr3_0⟩
    · have c7i := mt (iEQ (a := r2) (b := (0 : Int32)) rfl (by decide : (0 : Int32).toInt = 0)).mpr c7
      refine t_bindE (tlX9_number_28 ((0 : Int32), (0 : Int32), r1.2) ⟨(by show (0 ≤ ((0 : Int32)).toInt ∧ ((0 : Int32)).toInt ≤ 99); decide), (by show (0 ≤ ((0 : Int32)).toInt ∧ ((0 : Int32)).toInt ≤ 2); decide), hr1_1, (by show (((0 : Int32).toInt = 0 ∧ (0 : Int32).toInt = 0) ∨ ((0 : Int32).toInt = 1 ∧ (0 : Int32).toInt ≤ 9) ∨ (0 : Int32).toInt = 2); have q0 : (0 : Int32).toInt = 0 := (by decide); have q1 : (0 : Int32).toInt = 0 := (by decide); omega), (by show ((0 : Int32).toInt = 0 ∨ 1 ≤ (r1.2 62 3).toInt); have q0 : (0 : Int32).toInt = 0 := (by decide); have q1 : (0 : Int32).toInt = 0 := (by decide); omega)⟩) (fun w8 ew8 pw8 => ?_)
      obtain ⟨bw8_0, hw8_1, xw8_0⟩ := (show (0 ≤ w8.1.toInt ∧ w8.1.toInt ≤ 99) ∧ MI false I0 w8.2 ∧ (w8.1.toInt = 0 ∨ 1 ≤ (w8.2 62 3).toInt) from pw8)
      have q11 := hw8_1.at (k := 62) (j := 3) (lo := 0) (hi := 400) rfl
      unfold bX9_number_72
      refine t_bindE (tfX9_here w8.2 hw8_1) (fun r9 er9 pr9 => ?_)
      obtain ⟨br9_0, xr9_0⟩ := (show ((-1) ≤ r9.toInt ∧ r9.toInt ≤ 255) ∧ (r9.toInt = (-1) ∨ (w8.2 62 3).toInt < 400) from pr9)
      refine t_bindE (tfX9_isDigit r9) (fun r10 er10 pr10 => ?_)
      obtain ⟨br10_0, xr10_0⟩ := (show (0 ≤ r10.toInt ∧ r10.toInt ≤ 1) ∧ (r10.toInt = 0 ∨ (48 ≤ r9.toInt ∧ r9.toInt ≤ 57)) from pr10)
      refine t_ite (fun c12 => ?_) (fun c12 => ?_)
      · have c12i := (iEQ (a := r10) (b := (0 : Int32)) rfl (by decide : (0 : Int32).toInt = 0)).mp c12
        refine t_ite (fun c13 => ?_) (fun c13 => ?_)
        · have c13i := (iLE (a := w8.1) (b := v1) rfl rfl).mp c13
          exact t_ret ⟨(by show 0 ≤ (w8.1).toInt ∧ (w8.1).toInt ≤ 99; omega), hw8_1⟩
        · have c13i := mt (iLE (a := w8.1) (b := v1) rfl rfl).mpr c13
          refine t_pU (lo := 0) (hi := 400) hw8_1 rfl rfl (by have q := ((tS rfl (by decide : (1 : Int32).toInt = 1) (by omega) (by omega)) : ((w8.2 62 3) - 1).toInt = ((w8.2 62 3).toInt - 1)); omega) (fun I11 eI11 hI11 => ?_)
          refine t_bindE (tfX9_bad I11 hI11) (fun r12 er12 pr12 => ?_)
          obtain ⟨hr12_0, xr12_0, xr12_1⟩ := (show MI false I0 r12 ∧ (0 ≤ (r12 62 4).toInt) ∧ ((r12 62 3).toInt = (I11 62 3).toInt) from pr12)
          have q14 := hr12_0.at (k := 62) (j := 4) (lo := (-1)) (hi := 400) rfl
          have q15 := hr12_0.at (k := 62) (j := 3) (lo := 0) (hi := 400) rfl
          have q16 := hI11.at (k := 62) (j := 3) (lo := 0) (hi := 400) rfl
          have q17 : (I11 62 3).toInt = ((w8.2 62 3).toInt - 1) := by rw [eI11, g_up_self]; exact (tS rfl (by decide : (1 : Int32).toInt = 1) (by omega) (by omega))
          have q18 : (r12 62 3).toInt = (I11 62 3).toInt := congrArg Int32.toInt (show r12 62 3 = I11 62 3 from xfX9_bad I11 er12 62 3 (Or.inr (by decide)))
          exact t_ret ⟨(by show 0 ≤ (w8.1).toInt ∧ (w8.1).toInt ≤ 99; omega), hr12_0⟩
      · have c12i := mt (iEQ (a := r10) (b := (0 : Int32)) rfl (by decide : (0 : Int32).toInt = 0)).mpr c12
        refine t_bindE (tfX9_bad w8.2 hw8_1) (fun r13 er13 pr13 => ?_)
        obtain ⟨hr13_0, xr13_0, xr13_1⟩ := (show MI false I0 r13 ∧ (0 ≤ (r13 62 4).toInt) ∧ ((r13 62 3).toInt = (w8.2 62 3).toInt) from pr13)
        have q19 := hr13_0.at (k := 62) (j := 4) (lo := (-1)) (hi := 400) rfl
        have q20 := hr13_0.at (k := 62) (j := 3) (lo := 0) (hi := 400) rfl
        have q21 : (r13 62 3).toInt = (w8.2 62 3).toInt := congrArg Int32.toInt (show r13 62 3 = w8.2 62 3 from xfX9_bad w8.2 er13 62 3 (Or.inr (by decide)))
        exact t_ret ⟨(by show 0 ≤ (w8.1).toInt ∧ (w8.1).toInt ≤ 99; omega), hr13_0⟩
  · have c2i := mt (iEQ (a := I 62 4) (b := ((-1) : Int32)) rfl (by decide : ((-1) : Int32).toInt = (-1))).mpr c2
    unfold bX9_number_18
    refine t_bindE (tfX9_bad I hM) (fun r3 er3 pr3 => ?_)
    obtain ⟨hr3_0, xr3_0, xr3_1⟩ := (show MI false I0 r3 ∧ (0 ≤ (r3 62 4).toInt) ∧ ((r3 62 3).toInt = (I 62 3).toInt) from pr3)
    have q22 := hr3_0.at (k := 62) (j := 4) (lo := (-1)) (hi := 400) rfl
    have q23 := hr3_0.at (k := 62) (j := 3) (lo := 0) (hi := 400) rfl
    have q24 := hM.at (k := 62) (j := 3) (lo := 0) (hi := 400) rfl
    have q25 : (r3 62 3).toInt = (I 62 3).toInt := congrArg Int32.toInt (show r3 62 3 = I 62 3 from xfX9_bad I er3 62 3 (Or.inr (by decide)))
    exact t_ret ⟨(by show 0 ≤ ((0 : Int32)).toInt ∧ ((0 : Int32)).toInt ≤ 99; decide), hr3_0⟩
set_option maxRecDepth 100000 in
set_option maxHeartbeats 1000000 in
theorem tfX9_digit {I0 : gM} (I : gM) (hM : MI false I0 I) : T (fX9_digit I) (fun r => ((-49) ≤ r.1.toInt ∧ r.1.toInt ≤ 207) ∧ MI false I0 r.2) := by
  unfold fX9_digit
  have q1 := hM.at (k := 62) (j := 4) (lo := (-1)) (hi := 400) rfl
  refine t_ite (fun c2 => ?_) (fun c2 => ?_)
  · have c2i := (iEQ (a := I 62 4) (b := ((-1) : Int32)) rfl (by decide : ((-1) : Int32).toInt = (-1))).mp c2
    refine t_bindE (tfX9_ahead I hM) (fun r1 er1 pr1 => ?_)
    obtain ⟨br1_0, hr1_1, xr1_0, xr1_1, xr1_2, yr1_0⟩ := (show ((-1) ≤ r1.1.toInt ∧ r1.1.toInt ≤ 255) ∧ MI false I0 r1.2 ∧ (r1.1.toInt = (-1) ∨ (r1.2 62 3).toInt < 400) ∧ ((r1.2 62 4).toInt = (I 62 4).toInt) ∧ ((I 62 3).toInt ≤ (r1.2 62 3).toInt) ∧ (fX9_here r1.2 = some r1.1) from pr1)
    have q3 := hr1_1.at (k := 62) (j := 3) (lo := 0) (hi := 400) rfl
    have q4 := hr1_1.at (k := 62) (j := 4) (lo := (-1)) (hi := 400) rfl
    have q5 : (r1.2 62 4).toInt = (I 62 4).toInt := congrArg Int32.toInt (show r1.2 62 4 = I 62 4 from xfX9_ahead I er1 62 4 (Or.inr (by decide)))
    have q6 := hM.at (k := 62) (j := 3) (lo := 0) (hi := 400) rfl
    refine t_bindE (tfX9_isDigit r1.1) (fun r2 er2 pr2 => ?_)
    obtain ⟨br2_0, xr2_0⟩ := (show (0 ≤ r2.toInt ∧ r2.toInt ≤ 1) ∧ (r2.toInt = 0 ∨ (48 ≤ r1.1.toInt ∧ r1.1.toInt ≤ 57)) from pr2)
    refine t_ite (fun c7 => ?_) (fun c7 => ?_)
    · have c7i := (iEQ (a := r2) (b := (0 : Int32)) rfl (by decide : (0 : Int32).toInt = 0)).mp c7
      unfold bX9_digit_18
      refine t_bindE (tfX9_bad r1.2 hr1_1) (fun r3 er3 pr3 => ?_)
      obtain ⟨hr3_0, xr3_0, xr3_1⟩ := (show MI false I0 r3 ∧ (0 ≤ (r3 62 4).toInt) ∧ ((r3 62 3).toInt = (r1.2 62 3).toInt) from pr3)
      have q8 := hr3_0.at (k := 62) (j := 4) (lo := (-1)) (hi := 400) rfl
      have q9 := hr3_0.at (k := 62) (j := 3) (lo := 0) (hi := 400) rfl
      have q10 : (r3 62 3).toInt = (r1.2 62 3).toInt := congrArg Int32.toInt (show r3 62 3 = r1.2 62 3 from xfX9_bad r1.2 er3 62 3 (Or.inr (by decide)))
      exact t_ret ⟨(by show (-49) ≤ ((0 : Int32)).toInt ∧ ((0 : Int32)).toInt ≤ 207; decide), hr3_0⟩
    · have c7i := mt (iEQ (a := r2) (b := (0 : Int32)) rfl (by decide : (0 : Int32).toInt = 0)).mpr c7
      refine t_pU (lo := 0) (hi := 400) hr1_1 rfl rfl (by have q := ((tA rfl (by decide : (1 : Int32).toInt = 1) (by omega) (by omega)) : ((r1.2 62 3) + 1).toInt = ((r1.2 62 3).toInt + 1)); omega) (fun I4 eI4 hI4 => ?_)
      have q11 := hI4.at (k := 62) (j := 3) (lo := 0) (hi := 400) rfl
      have q12 : (I4 62 3).toInt = ((r1.2 62 3).toInt + 1) := by rw [eI4, g_up_self]; exact (tA rfl (by decide : (1 : Int32).toInt = 1) (by omega) (by omega))
      refine t_rI (lo := (-1)) (hi := 255) hI4 (fun _ _ => rfl) (tS rfl (by decide : (1 : Int32).toInt = 1) (by omega) (by omega)) (by omega) (by omega) (fun u5 eu5 bu5 => ?_)
      exact t_ret ⟨(by show (-49) ≤ (u5 - 48).toInt ∧ (u5 - 48).toInt ≤ 207; have q := ((tS rfl (by decide : (48 : Int32).toInt = 48) (by omega) (by omega)) : (u5 - 48).toInt = (u5.toInt - 48)); omega), hI4⟩
  · have c2i := mt (iEQ (a := I 62 4) (b := ((-1) : Int32)) rfl (by decide : ((-1) : Int32).toInt = (-1))).mpr c2
    unfold bX9_digit_18
    refine t_bindE (tfX9_bad I hM) (fun r3 er3 pr3 => ?_)
    obtain ⟨hr3_0, xr3_0, xr3_1⟩ := (show MI false I0 r3 ∧ (0 ≤ (r3 62 4).toInt) ∧ ((r3 62 3).toInt = (I 62 3).toInt) from pr3)
    have q13 := hr3_0.at (k := 62) (j := 4) (lo := (-1)) (hi := 400) rfl
    have q14 := hr3_0.at (k := 62) (j := 3) (lo := 0) (hi := 400) rfl
    have q15 := hM.at (k := 62) (j := 3) (lo := 0) (hi := 400) rfl
    have q16 : (r3 62 3).toInt = (I 62 3).toInt := congrArg Int32.toInt (show r3 62 3 = I 62 3 from xfX9_bad I er3 62 3 (Or.inr (by decide)))
    exact t_ret ⟨(by show (-49) ≤ ((0 : Int32)).toInt ∧ ((0 : Int32)).toInt ≤ 207; decide), hr3_0⟩
set_option maxRecDepth 100000 in
set_option maxHeartbeats 1000000 in
theorem tfX9_isLetter (v1 : Int32)  : T (fX9_isLetter v1) (fun r => (0 ≤ r.toInt ∧ r.toInt ≤ 1) ∧ (r.toInt = 0 ∨ (97 ≤ v1.toInt ∧ v1.toInt ≤ 100))) := by
  unfold fX9_isLetter
  refine t_ite (fun c1 => ?_) (fun c1 => ?_)
  · have c1i := (iLT (a := v1) (b := (97 : Int32)) rfl (by decide : (97 : Int32).toInt = 97)).mp c1
    exact t_ret ⟨(by show 0 ≤ ((0 : Int32)).toInt ∧ ((0 : Int32)).toInt ≤ 1; decide), (by show (0 : Int32).toInt = 0 ∨ (97 ≤ v1.toInt ∧ v1.toInt ≤ 100); have q0 : (0 : Int32).toInt = 0 := (by decide); omega)⟩
  · have c1i := mt (iLT (a := v1) (b := (97 : Int32)) rfl (by decide : (97 : Int32).toInt = 97)).mpr c1
    refine t_ite (fun c2 => ?_) (fun c2 => ?_)
    · have c2i := (iLT (a := (100 : Int32)) (b := v1) (by decide : (100 : Int32).toInt = 100) rfl).mp c2
      exact t_ret ⟨(by show 0 ≤ ((0 : Int32)).toInt ∧ ((0 : Int32)).toInt ≤ 1; decide), (by show (0 : Int32).toInt = 0 ∨ (97 ≤ v1.toInt ∧ v1.toInt ≤ 100); have q0 : (0 : Int32).toInt = 0 := (by decide); omega)⟩
    · have c2i := mt (iLT (a := (100 : Int32)) (b := v1) (by decide : (100 : Int32).toInt = 100) rfl).mpr c2
      exact t_ret ⟨(by show 0 ≤ ((1 : Int32)).toInt ∧ ((1 : Int32)).toInt ≤ 1; decide), (by show (1 : Int32).toInt = 0 ∨ (97 ≤ v1.toInt ∧ v1.toInt ≤ 100); have q0 : (1 : Int32).toInt = 1 := (by decide); omega)⟩
set_option maxRecDepth 100000 in
set_option maxHeartbeats 1000000 in
theorem tlX9_readHead_24 {I0 : gM} (v1 : Int32) (av1 : 0 ≤ v1.toInt ∧ v1.toInt ≤ 3) (s : (Int32 × gM)) (hP : MI false I0 s.2) : T (lX9_readHead_24 v1 s) (fun r : gM => MI false I0 r) := by
  unfold lX9_readHead_24
  refine t_it (P := fun s : (Int32 × gM) => MI false I0 s.2) (μ := fun s : (Int32 × gM) => (802 - 2 * (s.2 62 3).toInt - min (s.2 62 4).toInt 0).toNat) (fun s p => ?_) hP
  have hs : MI false I0 s.2 := p
  have q1 := hs.at (k := 62) (j := 4) (lo := (-1)) (hi := 400) rfl
  refine t_ite (fun c2 => ?_) (fun c2 => ?_)
  · have c2i := (iEQ (a := s.2 62 4) (b := ((-1) : Int32)) rfl (by decide : ((-1) : Int32).toInt = (-1))).mp c2
    refine t_bindE (tfX9_ahead s.2 hs) (fun r5 er5 pr5 => ?_)
    obtain ⟨br5_0, hr5_1, xr5_0, xr5_1, xr5_2, yr5_0⟩ := (show ((-1) ≤ r5.1.toInt ∧ r5.1.toInt ≤ 255) ∧ MI false I0 r5.2 ∧ (r5.1.toInt = (-1) ∨ (r5.2 62 3).toInt < 400) ∧ ((r5.2 62 4).toInt = (s.2 62 4).toInt) ∧ ((s.2 62 3).toInt ≤ (r5.2 62 3).toInt) ∧ (fX9_here r5.2 = some r5.1) from pr5)
    have q3 := hr5_1.at (k := 62) (j := 3) (lo := 0) (hi := 400) rfl
    have q4 := hr5_1.at (k := 62) (j := 4) (lo := (-1)) (hi := 400) rfl
    have q5 : (r5.2 62 4).toInt = (s.2 62 4).toInt := congrArg Int32.toInt (show r5.2 62 4 = s.2 62 4 from xfX9_ahead s.2 er5 62 4 (Or.inr (by decide)))
    have q6 := hs.at (k := 62) (j := 3) (lo := 0) (hi := 400) rfl
    refine t_bindE (tfX9_isLetter r5.1) (fun r6 er6 pr6 => ?_)
    obtain ⟨br6_0, xr6_0⟩ := (show (0 ≤ r6.toInt ∧ r6.toInt ≤ 1) ∧ (r6.toInt = 0 ∨ (97 ≤ r5.1.toInt ∧ r5.1.toInt ≤ 100)) from pr6)
    refine t_ite (fun c7 => ?_) (fun c7 => ?_)
    · have c7i := (iEQ (a := r6) (b := (0 : Int32)) rfl (by decide : (0 : Int32).toInt = 0)).mp c7
      exact t_ret (show MI false I0 r5.2 from hr5_1)
    · have c7i := mt (iEQ (a := r6) (b := (0 : Int32)) rfl (by decide : (0 : Int32).toInt = 0)).mpr c7
      refine t_bindE (tfX9_here r5.2 hr5_1) (fun r7 er7 pr7 => ?_)
      obtain ⟨br7_0, xr7_0⟩ := (show ((-1) ≤ r7.toInt ∧ r7.toInt ≤ 255) ∧ (r7.toInt = (-1) ∨ (r5.2 62 3).toInt < 400) from pr7)
      have q8 : r7.toInt = r5.1.toInt := congrArg Int32.toInt (Option.some.inj (er7.symm.trans yr5_0))
      refine t_rI (lo := 0) (hi := 3) hr5_1 (fun _ _ => rfl) rfl (by omega) (by omega) (fun u8 eu8 bu8 => ?_)
      have q9 : u8.toInt = (r5.2 64 (v1.toInt).toNat).toInt := by rw [eu8]
      have q10 : (r5.2 64 (v1.toInt).toNat).toInt = (s.2 64 (v1.toInt).toNat).toInt := congrArg (fun g : Nat → Int32 => (g (v1.toInt).toNat).toInt) (show r5.2 64 = s.2 64 from zfX9_ahead s.2 er5 64 (by decide))
      refine t_ite (fun c11 => ?_) (fun c11 => ?_)
      · have c11i := (iEQ (a := u8) (b := (3 : Int32)) rfl (by decide : (3 : Int32).toInt = 3)).mp c11
        unfold bX9_readHead_69
        refine t_bindE (tfX9_bad r5.2 hr5_1) (fun r9 er9 pr9 => ?_)
        obtain ⟨hr9_0, xr9_0, xr9_1⟩ := (show MI false I0 r9 ∧ (0 ≤ (r9 62 4).toInt) ∧ ((r9 62 3).toInt = (r5.2 62 3).toInt) from pr9)
        have q12 := hr9_0.at (k := 62) (j := 4) (lo := (-1)) (hi := 400) rfl
        have q13 := hr9_0.at (k := 62) (j := 3) (lo := 0) (hi := 400) rfl
        have q14 : (r9 62 3).toInt = (r5.2 62 3).toInt := congrArg Int32.toInt (show r9 62 3 = r5.2 62 3 from xfX9_bad r5.2 er9 62 3 (Or.inr (by decide)))
        unfold bX9_readHead_118
        have mm : (802 - 2 * (r9 62 3).toInt - min (r9 62 4).toInt 0).toNat < (802 - 2 * (s.2 62 3).toInt - min (s.2 62 4).toInt 0).toNat := by omega
        have pp : MI false I0 r9 := hr9_0
        exact t_ret ⟨pp, mm⟩
      · have c11i := mt (iEQ (a := u8) (b := (3 : Int32)) rfl (by decide : (3 : Int32).toInt = 3)).mpr c11
        refine t_bindE (tfX9_has s.1 (r7 - 97)) (fun r10 er10 pr10 => ?_)
        have br10_0 : (0 ≤ r10.toInt ∧ r10.toInt ≤ 1) := pr10
        refine t_ite (fun c15 => ?_) (fun c15 => ?_)
        · have c15i := (iEQ (a := r10) (b := (0 : Int32)) rfl (by decide : (0 : Int32).toInt = 0)).mp c15
          refine t_rI (lo := 0) (hi := 3) hr5_1 (fun _ _ => rfl) rfl (by omega) (by omega) (fun u11 eu11 bu11 => ?_)
          have q16 : u11.toInt = (r5.2 64 (v1.toInt).toNat).toInt := by rw [eu11]
          refine t_wI (lo := 0) (hi := 3) hr5_1 rfl (fun _ _ => rfl) (tA (tM (by decide : (3 : Int32).toInt = 3) rfl (by omega) (by omega)) rfl (by omega) (by omega)) (by omega) (by omega) (by have q := ((tS rfl (by decide : (97 : Int32).toInt = 97) (by omega) (by omega)) : (r7 - 97).toInt = (r7.toInt - 97)); omega) (fun I12 eI12 hI12 => ?_)
          refine t_rI (lo := 0) (hi := 3) hI12 (fun _ _ => rfl) rfl (by omega) (by omega) (fun u13 eu13 bu13 => ?_)
          have q17 : u13.toInt = (I12 64 (v1.toInt).toNat).toInt := by rw [eu13]
          have q18 : (I12 64 (v1.toInt).toNat).toInt = (r5.2 64 (v1.toInt).toNat).toInt := congrArg (fun g : Nat → Int32 => (g (v1.toInt).toNat).toInt) (show I12 64 = r5.2 64 from by rw [eI12]; exact g_up_row (by decide))
          refine t_wI (lo := 0) (hi := 3) hI12 rfl (fun _ _ => rfl) rfl (by omega) (by omega) (by have q := ((tA rfl (by decide : (1 : Int32).toInt = 1) (by omega) (by omega)) : (u13 + 1).toInt = (u13.toInt + 1)); omega) (fun I14 eI14 hI14 => ?_)
          have q19 := hI14.at (k := 62) (j := 3) (lo := 0) (hi := 400) rfl
          have q20 := hI12.at (k := 62) (j := 3) (lo := 0) (hi := 400) rfl
          have q21 : (I12 62 3).toInt = (r5.2 62 3).toInt := by rw [eI12, g_up_row (by decide)]
          have q22 : (I14 62 3).toInt = (I12 62 3).toInt := by rw [eI14, g_up_row (by decide)]
          refine t_pU (lo := 0) (hi := 400) hI14 rfl rfl (by have q := ((tA rfl (by decide : (1 : Int32).toInt = 1) (by omega) (by omega)) : ((I14 62 3) + 1).toInt = ((I14 62 3).toInt + 1)); omega) (fun I15 eI15 hI15 => ?_)
          unfold bX9_readHead_118
          have q23 := hI15.at (k := 62) (j := 3) (lo := 0) (hi := 400) rfl
          have q24 : (I15 62 3).toInt = ((I14 62 3).toInt + 1) := by rw [eI15, g_up_self]; exact (tA rfl (by decide : (1 : Int32).toInt = 1) (by omega) (by omega))
          have q25 := hI15.at (k := 62) (j := 4) (lo := (-1)) (hi := 400) rfl
          have q26 := hI14.at (k := 62) (j := 4) (lo := (-1)) (hi := 400) rfl
          have q27 := hI12.at (k := 62) (j := 4) (lo := (-1)) (hi := 400) rfl
          have q28 : (I12 62 4).toInt = (r5.2 62 4).toInt := by rw [eI12, g_up_row (by decide)]
          have q29 : (I14 62 4).toInt = (I12 62 4).toInt := by rw [eI14, g_up_row (by decide)]
          have q30 : (I15 62 4).toInt = (I14 62 4).toInt := by rw [eI15, g_up_ne (Or.inr (by decide))]
          have mm : (802 - 2 * (I15 62 3).toInt - min (I15 62 4).toInt 0).toNat < (802 - 2 * (s.2 62 3).toInt - min (s.2 62 4).toInt 0).toNat := by omega
          have pp : MI false I0 I15 := hI15
          exact t_ret ⟨pp, mm⟩
        · have c15i := mt (iEQ (a := r10) (b := (0 : Int32)) rfl (by decide : (0 : Int32).toInt = 0)).mpr c15
          unfold bX9_readHead_69
          refine t_bindE (tfX9_bad r5.2 hr5_1) (fun r9 er9 pr9 => ?_)
          obtain ⟨hr9_0, xr9_0, xr9_1⟩ := (show MI false I0 r9 ∧ (0 ≤ (r9 62 4).toInt) ∧ ((r9 62 3).toInt = (r5.2 62 3).toInt) from pr9)
          have q31 := hr9_0.at (k := 62) (j := 4) (lo := (-1)) (hi := 400) rfl
          have q32 := hr9_0.at (k := 62) (j := 3) (lo := 0) (hi := 400) rfl
          have q33 : (r9 62 3).toInt = (r5.2 62 3).toInt := congrArg Int32.toInt (show r9 62 3 = r5.2 62 3 from xfX9_bad r5.2 er9 62 3 (Or.inr (by decide)))
          unfold bX9_readHead_118
          have mm : (802 - 2 * (r9 62 3).toInt - min (r9 62 4).toInt 0).toNat < (802 - 2 * (s.2 62 3).toInt - min (s.2 62 4).toInt 0).toNat := by omega
          have pp : MI false I0 r9 := hr9_0
          exact t_ret ⟨pp, mm⟩
  · have c2i := mt (iEQ (a := s.2 62 4) (b := ((-1) : Int32)) rfl (by decide : ((-1) : Int32).toInt = (-1))).mpr c2
    exact t_ret (show MI false I0 s.2 from hs)
set_option maxRecDepth 100000 in
set_option maxHeartbeats 1000000 in
theorem tfX9_readHead {I0 : gM} (v1 : Int32) (I : gM) (hM : MI false I0 I) (av1 : 0 ≤ v1.toInt ∧ v1.toInt ≤ 3) : T (fX9_readHead v1 I) (fun r => MI false I0 r) := by
  unfold fX9_readHead
  refine t_wI (lo := 0) (hi := 3) hM rfl (fun _ _ => rfl) rfl (by omega) (by omega) (by decide) (fun I1 eI1 hI1 => ?_)
  refine t_bindE (tfX9_ahead I1 hI1) (fun r2 er2 pr2 => ?_)
  obtain ⟨br2_0, hr2_1, xr2_0, xr2_1, xr2_2, yr2_0⟩ := (show ((-1) ≤ r2.1.toInt ∧ r2.1.toInt ≤ 255) ∧ MI false I0 r2.2 ∧ (r2.1.toInt = (-1) ∨ (r2.2 62 3).toInt < 400) ∧ ((r2.2 62 4).toInt = (I1 62 4).toInt) ∧ ((I1 62 3).toInt ≤ (r2.2 62 3).toInt) ∧ (fX9_here r2.2 = some r2.1) from pr2)
  have q1 := hr2_1.at (k := 62) (j := 3) (lo := 0) (hi := 400) rfl
  have q2 := hr2_1.at (k := 62) (j := 4) (lo := (-1)) (hi := 400) rfl
  have q3 := hI1.at (k := 62) (j := 4) (lo := (-1)) (hi := 400) rfl
  have q4 := hM.at (k := 62) (j := 4) (lo := (-1)) (hi := 400) rfl
  have q5 : (I1 62 4).toInt = (I 62 4).toInt := by rw [eI1, g_up_row (by decide)]
  have q6 : (r2.2 62 4).toInt = (I1 62 4).toInt := congrArg Int32.toInt (show r2.2 62 4 = I1 62 4 from xfX9_ahead I1 er2 62 4 (Or.inr (by decide)))
  have q7 := hI1.at (k := 62) (j := 3) (lo := 0) (hi := 400) rfl
  have q8 := hM.at (k := 62) (j := 3) (lo := 0) (hi := 400) rfl
  have q9 : (I1 62 3).toInt = (I 62 3).toInt := by rw [eI1, g_up_row (by decide)]
  refine t_bindE (tfX9_isLetter r2.1) (fun r3 er3 pr3 => ?_)
  obtain ⟨br3_0, xr3_0⟩ := (show (0 ≤ r3.toInt ∧ r3.toInt ≤ 1) ∧ (r3.toInt = 0 ∨ (97 ≤ r2.1.toInt ∧ r2.1.toInt ≤ 100)) from pr3)
  refine t_ite (fun c10 => ?_) (fun c10 => ?_)
  · have c10i := (iEQ (a := r3) (b := (0 : Int32)) rfl (by decide : (0 : Int32).toInt = 0)).mp c10
    refine t_bindE (tfX9_bad r2.2 hr2_1) (fun r4 er4 pr4 => ?_)
    obtain ⟨hr4_0, xr4_0, xr4_1⟩ := (show MI false I0 r4 ∧ (0 ≤ (r4 62 4).toInt) ∧ ((r4 62 3).toInt = (r2.2 62 3).toInt) from pr4)
    have q11 := hr4_0.at (k := 62) (j := 4) (lo := (-1)) (hi := 400) rfl
    have q12 := hr4_0.at (k := 62) (j := 3) (lo := 0) (hi := 400) rfl
    have q13 : (r4 62 3).toInt = (r2.2 62 3).toInt := congrArg Int32.toInt (show r4 62 3 = r2.2 62 3 from xfX9_bad r2.2 er4 62 3 (Or.inr (by decide)))
    refine t_bindE (tlX9_readHead_24 v1 (by omega) ((0 : Int32), r4) hr4_0) (fun w16 ew16 pw16 => ?_)
    have hw16_0 : MI false I0 w16 := pw16
    unfold bX9_readHead_121
    refine t_bindE (tfX9_must (58 : Int32) w16 hw16_0 (by decide)) (fun r17 er17 pr17 => ?_)
    have hr17_0 : MI false I0 r17 := pr17
    exact t_ret hr17_0
  · have c10i := mt (iEQ (a := r3) (b := (0 : Int32)) rfl (by decide : (0 : Int32).toInt = 0)).mpr c10
    refine t_bindE (tlX9_readHead_24 v1 (by omega) ((0 : Int32), r2.2) hr2_1) (fun w18 ew18 pw18 => ?_)
    have hw18_0 : MI false I0 w18 := pw18
    unfold bX9_readHead_121
    refine t_bindE (tfX9_must (58 : Int32) w18 hw18_0 (by decide)) (fun r17 er17 pr17 => ?_)
    have hr17_0 : MI false I0 r17 := pr17
    exact t_ret hr17_0
set_option maxRecDepth 100000 in
set_option maxHeartbeats 1000000 in
theorem tlX9_readRow_16 {I0 : gM} (v1 : Int32) (v2 : Int32) (av1 : 0 ≤ v1.toInt ∧ v1.toInt ≤ 3) (av2 : 0 ≤ v2.toInt ∧ v2.toInt ≤ 141) (s : (Int32 × gM)) (hP : (0 ≤ (s.1).toInt ∧ (s.1).toInt ≤ 2147483647) ∧ MI false I0 s.2) : T (lX9_readRow_16 v1 v2 s) (fun r : gM => MI false I0 r) := by
  unfold lX9_readRow_16
  refine t_it (P := fun s : (Int32 × gM) => (0 ≤ (s.1).toInt ∧ (s.1).toInt ≤ 2147483647) ∧ MI false I0 s.2) (μ := fun s : (Int32 × gM) => (2147483648 - s.1.toInt).toNat) (fun s p => ?_) hP
  obtain ⟨b0, hs⟩ := p
  refine t_ite (fun c1 => ?_) (fun c1 => ?_)
  · have c1i := (iLE (a := (3 : Int32)) (b := s.1) (by decide : (3 : Int32).toInt = 3) rfl).mp c1
    exact t_ret (show MI false I0 s.2 from hs)
  · have c1i := mt (iLE (a := (3 : Int32)) (b := s.1) (by decide : (3 : Int32).toInt = 3) rfl).mpr c1
    refine t_ite (fun c2 => ?_) (fun c2 => ?_)
    · have c2i := (iLE (a := s.1) (b := (0 : Int32)) rfl (by decide : (0 : Int32).toInt = 0)).mp c2
      unfold bX9_readRow_41
      refine t_rI (lo := 0) (hi := 3) hs (fun _ _ => rfl) rfl (by omega) (by omega) (fun u2 eu2 bu2 => ?_)
      refine t_ite (fun c3 => ?_) (fun c3 => ?_)
      · have c3i := (iLE (a := u2) (b := s.1) rfl rfl).mp c3
        unfold bX9_readRow_68
        refine t_wI (lo := (-1)) (hi := 99) hs rfl (fun _ _ => rfl) (tA rfl rfl (by omega) (by omega)) (by omega) (by omega) (by decide) (fun I3 eI3 hI3 => ?_)
        have m0 := ((tA rfl (by decide : (1 : Int32).toInt = 1) (by omega) (by omega)) : (s.1 + 1).toInt = (s.1.toInt + 1))
        have mm : (2147483648 - (s.1 + 1).toInt).toNat < (2147483648 - s.1.toInt).toNat := by omega
        have pp : (0 ≤ (s.1 + 1).toInt ∧ (s.1 + 1).toInt ≤ 2147483647) ∧ MI false I0 I3 := ⟨(by show (0 ≤ (s.1 + 1).toInt ∧ (s.1 + 1).toInt ≤ 2147483647); have q := ((tA rfl (by decide : (1 : Int32).toInt = 1) (by omega) (by omega)) : (s.1 + 1).toInt = (s.1.toInt + 1)); omega), hI3⟩
        exact t_ret ⟨pp, mm⟩
      · have c3i := mt (iLE (a := u2) (b := s.1) rfl rfl).mpr c3
        refine t_bindE (tfX9_number (99 : Int32) s.2 hs (by decide)) (fun r4 er4 pr4 => ?_)
        obtain ⟨br4_0, hr4_1⟩ := (show (0 ≤ r4.1.toInt ∧ r4.1.toInt ≤ 99) ∧ MI false I0 r4.2 from pr4)
        unfold bX9_readRow_68
        refine t_wI (lo := (-1)) (hi := 99) hr4_1 rfl (fun _ _ => rfl) (tA rfl rfl (by omega) (by omega)) (by omega) (by omega) (by omega) (fun I3 eI3 hI3 => ?_)
        have m0 := ((tA rfl (by decide : (1 : Int32).toInt = 1) (by omega) (by omega)) : (s.1 + 1).toInt = (s.1.toInt + 1))
        have mm : (2147483648 - (s.1 + 1).toInt).toNat < (2147483648 - s.1.toInt).toNat := by omega
        have pp : (0 ≤ (s.1 + 1).toInt ∧ (s.1 + 1).toInt ≤ 2147483647) ∧ MI false I0 I3 := ⟨(by show (0 ≤ (s.1 + 1).toInt ∧ (s.1 + 1).toInt ≤ 2147483647); have q := ((tA rfl (by decide : (1 : Int32).toInt = 1) (by omega) (by omega)) : (s.1 + 1).toInt = (s.1.toInt + 1)); omega), hI3⟩
        exact t_ret ⟨pp, mm⟩
    · have c2i := mt (iLE (a := s.1) (b := (0 : Int32)) rfl (by decide : (0 : Int32).toInt = 0)).mpr c2
      refine t_rI (lo := 0) (hi := 3) hs (fun _ _ => rfl) rfl (by omega) (by omega) (fun u5 eu5 bu5 => ?_)
      refine t_ite (fun c4 => ?_) (fun c4 => ?_)
      · have c4i := (iLE (a := u5) (b := s.1) rfl rfl).mp c4
        unfold bX9_readRow_41
        refine t_rI (lo := 0) (hi := 3) hs (fun _ _ => rfl) rfl (by omega) (by omega) (fun u2 eu2 bu2 => ?_)
        refine t_ite (fun c5 => ?_) (fun c5 => ?_)
        · have c5i := (iLE (a := u2) (b := s.1) rfl rfl).mp c5
          unfold bX9_readRow_68
          refine t_wI (lo := (-1)) (hi := 99) hs rfl (fun _ _ => rfl) (tA rfl rfl (by omega) (by omega)) (by omega) (by omega) (by decide) (fun I3 eI3 hI3 => ?_)
          have m0 := ((tA rfl (by decide : (1 : Int32).toInt = 1) (by omega) (by omega)) : (s.1 + 1).toInt = (s.1.toInt + 1))
          have mm : (2147483648 - (s.1 + 1).toInt).toNat < (2147483648 - s.1.toInt).toNat := by omega
          have pp : (0 ≤ (s.1 + 1).toInt ∧ (s.1 + 1).toInt ≤ 2147483647) ∧ MI false I0 I3 := ⟨(by show (0 ≤ (s.1 + 1).toInt ∧ (s.1 + 1).toInt ≤ 2147483647); have q := ((tA rfl (by decide : (1 : Int32).toInt = 1) (by omega) (by omega)) : (s.1 + 1).toInt = (s.1.toInt + 1)); omega), hI3⟩
          exact t_ret ⟨pp, mm⟩
        · have c5i := mt (iLE (a := u2) (b := s.1) rfl rfl).mpr c5
          refine t_bindE (tfX9_number (99 : Int32) s.2 hs (by decide)) (fun r4 er4 pr4 => ?_)
          obtain ⟨br4_0, hr4_1⟩ := (show (0 ≤ r4.1.toInt ∧ r4.1.toInt ≤ 99) ∧ MI false I0 r4.2 from pr4)
          unfold bX9_readRow_68
          refine t_wI (lo := (-1)) (hi := 99) hr4_1 rfl (fun _ _ => rfl) (tA rfl rfl (by omega) (by omega)) (by omega) (by omega) (by omega) (fun I3 eI3 hI3 => ?_)
          have m0 := ((tA rfl (by decide : (1 : Int32).toInt = 1) (by omega) (by omega)) : (s.1 + 1).toInt = (s.1.toInt + 1))
          have mm : (2147483648 - (s.1 + 1).toInt).toNat < (2147483648 - s.1.toInt).toNat := by omega
          have pp : (0 ≤ (s.1 + 1).toInt ∧ (s.1 + 1).toInt ≤ 2147483647) ∧ MI false I0 I3 := ⟨(by show (0 ≤ (s.1 + 1).toInt ∧ (s.1 + 1).toInt ≤ 2147483647); have q := ((tA rfl (by decide : (1 : Int32).toInt = 1) (by omega) (by omega)) : (s.1 + 1).toInt = (s.1.toInt + 1)); omega), hI3⟩
          exact t_ret ⟨pp, mm⟩
      · have c4i := mt (iLE (a := u5) (b := s.1) rfl rfl).mpr c4
        refine t_bindE (tfX9_must (44 : Int32) s.2 hs (by decide)) (fun r6 er6 pr6 => ?_)
        have hr6_0 : MI false I0 r6 := pr6
        unfold bX9_readRow_41
        refine t_rI (lo := 0) (hi := 3) hr6_0 (fun _ _ => rfl) rfl (by omega) (by omega) (fun u2 eu2 bu2 => ?_)
        refine t_ite (fun c6 => ?_) (fun c6 => ?_)
        · have c6i := (iLE (a := u2) (b := s.1) rfl rfl).mp c6
          unfold bX9_readRow_68
          refine t_wI (lo := (-1)) (hi := 99) hr6_0 rfl (fun _ _ => rfl) (tA rfl rfl (by omega) (by omega)) (by omega) (by omega) (by decide) (fun I3 eI3 hI3 => ?_)
          have m0 := ((tA rfl (by decide : (1 : Int32).toInt = 1) (by omega) (by omega)) : (s.1 + 1).toInt = (s.1.toInt + 1))
          have mm : (2147483648 - (s.1 + 1).toInt).toNat < (2147483648 - s.1.toInt).toNat := by omega
          have pp : (0 ≤ (s.1 + 1).toInt ∧ (s.1 + 1).toInt ≤ 2147483647) ∧ MI false I0 I3 := ⟨(by show (0 ≤ (s.1 + 1).toInt ∧ (s.1 + 1).toInt ≤ 2147483647); have q := ((tA rfl (by decide : (1 : Int32).toInt = 1) (by omega) (by omega)) : (s.1 + 1).toInt = (s.1.toInt + 1)); omega), hI3⟩
          exact t_ret ⟨pp, mm⟩
        · have c6i := mt (iLE (a := u2) (b := s.1) rfl rfl).mpr c6
          refine t_bindE (tfX9_number (99 : Int32) r6 hr6_0 (by decide)) (fun r4 er4 pr4 => ?_)
          obtain ⟨br4_0, hr4_1⟩ := (show (0 ≤ r4.1.toInt ∧ r4.1.toInt ≤ 99) ∧ MI false I0 r4.2 from pr4)
          unfold bX9_readRow_68
          refine t_wI (lo := (-1)) (hi := 99) hr4_1 rfl (fun _ _ => rfl) (tA rfl rfl (by omega) (by omega)) (by omega) (by omega) (by omega) (fun I3 eI3 hI3 => ?_)
          have m0 := ((tA rfl (by decide : (1 : Int32).toInt = 1) (by omega) (by omega)) : (s.1 + 1).toInt = (s.1.toInt + 1))
          have mm : (2147483648 - (s.1 + 1).toInt).toNat < (2147483648 - s.1.toInt).toNat := by omega
          have pp : (0 ≤ (s.1 + 1).toInt ∧ (s.1 + 1).toInt ≤ 2147483647) ∧ MI false I0 I3 := ⟨(by show (0 ≤ (s.1 + 1).toInt ∧ (s.1 + 1).toInt ≤ 2147483647); have q := ((tA rfl (by decide : (1 : Int32).toInt = 1) (by omega) (by omega)) : (s.1 + 1).toInt = (s.1.toInt + 1)); omega), hI3⟩
          exact t_ret ⟨pp, mm⟩
set_option maxRecDepth 100000 in
set_option maxHeartbeats 1000000 in
theorem tfX9_readRow {I0 : gM} (v1 : Int32) (I : gM) (hM : MI false I0 I) (av1 : 0 ≤ v1.toInt ∧ v1.toInt ≤ 3) (pre0 : (I 66 (v1.toInt).toNat).toInt ≤ 11) : T (fX9_readRow v1 I) (fun r => MI false I0 r ∧ ((r 66 (v1.toInt).toNat).toInt = (I 66 (v1.toInt).toNat).toInt + 1)) := by
  unfold fX9_readRow
  refine t_rI (lo := 0) (hi := 12) hM (fun _ _ => rfl) rfl (by omega) (by omega) (fun u1 eu1 bu1 => ?_)
  have q1 : u1.toInt = (I 66 (v1.toInt).toNat).toInt := by rw [eu1]
  refine t_bindE (tlX9_readRow_16 v1 ((3 : Int32) * (((12 : Int32) * v1) + u1)) (by omega) (by have q := ((tM (by decide : (3 : Int32).toInt = 3) (tA (tM (by decide : (12 : Int32).toInt = 12) rfl (by omega) (by omega)) rfl (by omega) (by omega)) (by omega) (by omega)) : ((3 : Int32) * (((12 : Int32) * v1) + u1)).toInt = (3 * ((12 * v1.toInt) + u1.toInt))); omega) ((0 : Int32), I) ⟨(by show (0 ≤ ((0 : Int32)).toInt ∧ ((0 : Int32)).toInt ≤ 2147483647); decide), hM⟩) (fun w7 ew7 pw7 => ?_)
  have hw7_0 : MI false I0 w7 := pw7
  refine t_rI (lo := 0) (hi := 12) hw7_0 (fun _ _ => rfl) rfl (by omega) (by omega) (fun u8 eu8 bu8 => ?_)
  have q2 : u8.toInt = (w7 66 (v1.toInt).toNat).toInt := by rw [eu8]
  have q3 : (w7 66 (v1.toInt).toNat).toInt = (I 66 (v1.toInt).toNat).toInt := congrArg (fun g : Nat → Int32 => (g (v1.toInt).toNat).toInt) (show w7 66 = I 66 from zlX9_readRow_16 v1 ((3 : Int32) * (((12 : Int32) * v1) + u1)) ((0 : Int32), I) ew7 66 (by decide) (by decide))
  refine t_wI (lo := 0) (hi := 12) hw7_0 rfl (fun _ _ => rfl) rfl (by omega) (by omega) (by have q := ((tA rfl (by decide : (1 : Int32).toInt = 1) (by omega) (by omega)) : (u8 + 1).toInt = (u8.toInt + 1)); omega) (fun I9 eI9 hI9 => ?_)
  have q4 : (I9 66 (v1.toInt).toNat).toInt = (u8.toInt + 1) := by rw [eI9, g_up_self]; exact (tA rfl (by decide : (1 : Int32).toInt = 1) (by omega) (by omega))
  exact t_ret ⟨hI9, (by show (I9 66 (v1.toInt).toNat).toInt = (I 66 (v1.toInt).toNat).toInt + 1; skip; omega)⟩
set_option maxRecDepth 100000 in
set_option maxHeartbeats 1000000 in
theorem tlX9_readTable_36 {I0 : gM} (v1 : Int32) (av1 : 0 ≤ v1.toInt ∧ v1.toInt ≤ 3) (s : (Int32 × gM)) (hP : (0 ≤ (s.1).toInt ∧ (s.1).toInt ≤ 1) ∧ MI false I0 s.2 ∧ (s.1.toInt = 0 ∨ (s.2 66 (v1.toInt).toNat).toInt ≤ 11)) : T (lX9_readTable_36 v1 s) (fun r : gM => MI false I0 r) := by
  unfold lX9_readTable_36
  refine t_it (P := fun s : (Int32 × gM) => (0 ≤ (s.1).toInt ∧ (s.1).toInt ≤ 1) ∧ MI false I0 s.2 ∧ (s.1.toInt = 0 ∨ (s.2 66 (v1.toInt).toNat).toInt ≤ 11)) (μ := fun s : (Int32 × gM) => (13 - (s.2 66 (v1.toInt).toNat).toInt).toNat) (fun s p => ?_) hP
  obtain ⟨b0, hs, x2⟩ := p
  refine t_ite (fun c1 => ?_) (fun c1 => ?_)
  · have c1i := (iEQ (a := s.1) (b := (0 : Int32)) rfl (by decide : (0 : Int32).toInt = 0)).mp c1
    exact t_ret (show MI false I0 s.2 from hs)
  · have c1i := mt (iEQ (a := s.1) (b := (0 : Int32)) rfl (by decide : (0 : Int32).toInt = 0)).mpr c1
    refine t_bindE (tfX9_readRow v1 s.2 hs (by omega) (by omega)) (fun r5 er5 pr5 => ?_)
    obtain ⟨hr5_0, xr5_0⟩ := (show MI false I0 r5 ∧ ((r5 66 (v1.toInt).toNat).toInt = (s.2 66 (v1.toInt).toNat).toInt + 1) from pr5)
    have q2 := hr5_0.at (k := 62) (j := 4) (lo := (-1)) (hi := 400) rfl
    refine t_ite (fun c3 => ?_) (fun c3 => ?_)
    · have c3i := (iEQ (a := r5 62 4) (b := ((-1) : Int32)) rfl (by decide : ((-1) : Int32).toInt = (-1))).mp c3
      refine t_bindE (tfX9_ahead r5 hr5_0) (fun r6 er6 pr6 => ?_)
      obtain ⟨br6_0, hr6_1, xr6_0, xr6_1, xr6_2, yr6_0⟩ := (show ((-1) ≤ r6.1.toInt ∧ r6.1.toInt ≤ 255) ∧ MI false I0 r6.2 ∧ (r6.1.toInt = (-1) ∨ (r6.2 62 3).toInt < 400) ∧ ((r6.2 62 4).toInt = (r5 62 4).toInt) ∧ ((r5 62 3).toInt ≤ (r6.2 62 3).toInt) ∧ (fX9_here r6.2 = some r6.1) from pr6)
      have q4 := hr6_1.at (k := 62) (j := 3) (lo := 0) (hi := 400) rfl
      have q5 := hr6_1.at (k := 62) (j := 4) (lo := (-1)) (hi := 400) rfl
      have q6 : (r6.2 62 4).toInt = (r5 62 4).toInt := congrArg Int32.toInt (show r6.2 62 4 = r5 62 4 from xfX9_ahead r5 er6 62 4 (Or.inr (by decide)))
      have q7 := hr5_0.at (k := 62) (j := 3) (lo := 0) (hi := 400) rfl
      refine t_ite (fun c8 => ?_) (fun c8 => ?_)
      · have c8i := (iEQ (a := r6.1) (b := (47 : Int32)) rfl (by decide : (47 : Int32).toInt = 47)).mp c8
        refine t_rI (lo := 0) (hi := 12) hr6_1 (fun _ _ => rfl) rfl (by omega) (by omega) (fun u7 eu7 bu7 => ?_)
        have q9 : u7.toInt = (r6.2 66 (v1.toInt).toNat).toInt := by rw [eu7]
        have q10 : (r6.2 66 (v1.toInt).toNat).toInt = (r5 66 (v1.toInt).toNat).toInt := congrArg (fun g : Nat → Int32 => (g (v1.toInt).toNat).toInt) (show r6.2 66 = r5 66 from zfX9_ahead r5 er6 66 (by decide))
        refine t_ite (fun c11 => ?_) (fun c11 => ?_)
        · have c11i := (iLE (a := (12 : Int32)) (b := u7) (by decide : (12 : Int32).toInt = 12) rfl).mp c11
          unfold bX9_readTable_77
          unfold bX9_readTable_78
          refine t_ite (fun c12 => ?_) (fun c12 => ?_)
          · have c12i := (iEQ (a := (0 : Int32)) (b := (0 : Int32)) (by decide : (0 : Int32).toInt = 0) (by decide : (0 : Int32).toInt = 0)).mp c12
            unfold bX9_readTable_93
            refine t_pU (lo := 0) (hi := 400) hr6_1 rfl rfl (by have q := ((tA rfl (by decide : (0 : Int32).toInt = 0) (by omega) (by omega)) : ((r6.2 62 3) + (0 : Int32)).toInt = ((r6.2 62 3).toInt + 0)); omega) (fun I8 eI8 hI8 => ?_)
            have q13 : (I8 66 (v1.toInt).toNat).toInt = (r6.2 66 (v1.toInt).toNat).toInt := congrArg (fun g : Nat → Int32 => (g (v1.toInt).toNat).toInt) (show I8 66 = r6.2 66 from by rw [eI8]; exact g_up_row (by decide))
            have m0 : (0 : Int32).toInt = 0 := (by decide)
            have mm : (13 - (I8 66 (v1.toInt).toNat).toInt).toNat < (13 - (s.2 66 (v1.toInt).toNat).toInt).toNat := by omega
            have pp : (0 ≤ ((0 : Int32)).toInt ∧ ((0 : Int32)).toInt ≤ 1) ∧ MI false I0 I8 ∧ ((0 : Int32).toInt = 0 ∨ (I8 66 (v1.toInt).toNat).toInt ≤ 11) := ⟨(by show (0 ≤ ((0 : Int32)).toInt ∧ ((0 : Int32)).toInt ≤ 1); decide), hI8, (by show ((0 : Int32).toInt = 0 ∨ (I8 66 (v1.toInt).toNat).toInt ≤ 11); have q0 : (0 : Int32).toInt = 0 := (by decide); omega)⟩
            exact t_ret ⟨pp, mm⟩
          · have c12i := mt (iEQ (a := (0 : Int32)) (b := (0 : Int32)) (by decide : (0 : Int32).toInt = 0) (by decide : (0 : Int32).toInt = 0)).mpr c12
            omega
        · have c11i := mt (iLE (a := (12 : Int32)) (b := u7) (by decide : (12 : Int32).toInt = 12) rfl).mpr c11
          unfold bX9_readTable_78
          refine t_ite (fun c14 => ?_) (fun c14 => ?_)
          · have c14i := (iEQ (a := (1 : Int32)) (b := (0 : Int32)) (by decide : (1 : Int32).toInt = 1) (by decide : (0 : Int32).toInt = 0)).mp c14
            omega
          · have c14i := mt (iEQ (a := (1 : Int32)) (b := (0 : Int32)) (by decide : (1 : Int32).toInt = 1) (by decide : (0 : Int32).toInt = 0)).mpr c14
            unfold bX9_readTable_93
            refine t_pU (lo := 0) (hi := 400) hr6_1 rfl rfl (by have q := ((tA rfl (by decide : (1 : Int32).toInt = 1) (by omega) (by omega)) : ((r6.2 62 3) + (1 : Int32)).toInt = ((r6.2 62 3).toInt + 1)); omega) (fun I8 eI8 hI8 => ?_)
            have q15 : (I8 66 (v1.toInt).toNat).toInt = (r6.2 66 (v1.toInt).toNat).toInt := congrArg (fun g : Nat → Int32 => (g (v1.toInt).toNat).toInt) (show I8 66 = r6.2 66 from by rw [eI8]; exact g_up_row (by decide))
            have m0 : (1 : Int32).toInt = 1 := (by decide)
            have mm : (13 - (I8 66 (v1.toInt).toNat).toInt).toNat < (13 - (s.2 66 (v1.toInt).toNat).toInt).toNat := by omega
            have pp : (0 ≤ ((1 : Int32)).toInt ∧ ((1 : Int32)).toInt ≤ 1) ∧ MI false I0 I8 ∧ ((1 : Int32).toInt = 0 ∨ (I8 66 (v1.toInt).toNat).toInt ≤ 11) := ⟨(by show (0 ≤ ((1 : Int32)).toInt ∧ ((1 : Int32)).toInt ≤ 1); decide), hI8, (by show ((1 : Int32).toInt = 0 ∨ (I8 66 (v1.toInt).toNat).toInt ≤ 11); have q0 : (1 : Int32).toInt = 1 := (by decide); omega)⟩
            exact t_ret ⟨pp, mm⟩
      · have c8i := mt (iEQ (a := r6.1) (b := (47 : Int32)) rfl (by decide : (47 : Int32).toInt = 47)).mpr c8
        unfold bX9_readTable_77
        unfold bX9_readTable_78
        refine t_ite (fun c16 => ?_) (fun c16 => ?_)
        · have c16i := (iEQ (a := (0 : Int32)) (b := (0 : Int32)) (by decide : (0 : Int32).toInt = 0) (by decide : (0 : Int32).toInt = 0)).mp c16
          unfold bX9_readTable_93
          refine t_pU (lo := 0) (hi := 400) hr6_1 rfl rfl (by have q := ((tA rfl (by decide : (0 : Int32).toInt = 0) (by omega) (by omega)) : ((r6.2 62 3) + (0 : Int32)).toInt = ((r6.2 62 3).toInt + 0)); omega) (fun I8 eI8 hI8 => ?_)
          have q17 : (I8 66 (v1.toInt).toNat).toInt = (r6.2 66 (v1.toInt).toNat).toInt := congrArg (fun g : Nat → Int32 => (g (v1.toInt).toNat).toInt) (show I8 66 = r6.2 66 from by rw [eI8]; exact g_up_row (by decide))
          have q18 : (r6.2 66 (v1.toInt).toNat).toInt = (r5 66 (v1.toInt).toNat).toInt := congrArg (fun g : Nat → Int32 => (g (v1.toInt).toNat).toInt) (show r6.2 66 = r5 66 from zfX9_ahead r5 er6 66 (by decide))
          have m0 : (0 : Int32).toInt = 0 := (by decide)
          have mm : (13 - (I8 66 (v1.toInt).toNat).toInt).toNat < (13 - (s.2 66 (v1.toInt).toNat).toInt).toNat := by omega
          have pp : (0 ≤ ((0 : Int32)).toInt ∧ ((0 : Int32)).toInt ≤ 1) ∧ MI false I0 I8 ∧ ((0 : Int32).toInt = 0 ∨ (I8 66 (v1.toInt).toNat).toInt ≤ 11) := ⟨(by show (0 ≤ ((0 : Int32)).toInt ∧ ((0 : Int32)).toInt ≤ 1); decide), hI8, (by show ((0 : Int32).toInt = 0 ∨ (I8 66 (v1.toInt).toNat).toInt ≤ 11); have q0 : (0 : Int32).toInt = 0 := (by decide); omega)⟩
          exact t_ret ⟨pp, mm⟩
        · have c16i := mt (iEQ (a := (0 : Int32)) (b := (0 : Int32)) (by decide : (0 : Int32).toInt = 0) (by decide : (0 : Int32).toInt = 0)).mpr c16
          omega
    · have c3i := mt (iEQ (a := r5 62 4) (b := ((-1) : Int32)) rfl (by decide : ((-1) : Int32).toInt = (-1))).mpr c3
      unfold bX9_readTable_77
      unfold bX9_readTable_78
      refine t_ite (fun c19 => ?_) (fun c19 => ?_)
      · have c19i := (iEQ (a := (0 : Int32)) (b := (0 : Int32)) (by decide : (0 : Int32).toInt = 0) (by decide : (0 : Int32).toInt = 0)).mp c19
        unfold bX9_readTable_93
        have q20 := hr5_0.at (k := 62) (j := 3) (lo := 0) (hi := 400) rfl
        refine t_pU (lo := 0) (hi := 400) hr5_0 rfl rfl (by have q := ((tA rfl (by decide : (0 : Int32).toInt = 0) (by omega) (by omega)) : ((r5 62 3) + (0 : Int32)).toInt = ((r5 62 3).toInt + 0)); omega) (fun I8 eI8 hI8 => ?_)
        have q21 : (I8 66 (v1.toInt).toNat).toInt = (r5 66 (v1.toInt).toNat).toInt := congrArg (fun g : Nat → Int32 => (g (v1.toInt).toNat).toInt) (show I8 66 = r5 66 from by rw [eI8]; exact g_up_row (by decide))
        have m0 : (0 : Int32).toInt = 0 := (by decide)
        have mm : (13 - (I8 66 (v1.toInt).toNat).toInt).toNat < (13 - (s.2 66 (v1.toInt).toNat).toInt).toNat := by omega
        have pp : (0 ≤ ((0 : Int32)).toInt ∧ ((0 : Int32)).toInt ≤ 1) ∧ MI false I0 I8 ∧ ((0 : Int32).toInt = 0 ∨ (I8 66 (v1.toInt).toNat).toInt ≤ 11) := ⟨(by show (0 ≤ ((0 : Int32)).toInt ∧ ((0 : Int32)).toInt ≤ 1); decide), hI8, (by show ((0 : Int32).toInt = 0 ∨ (I8 66 (v1.toInt).toNat).toInt ≤ 11); have q0 : (0 : Int32).toInt = 0 := (by decide); omega)⟩
        exact t_ret ⟨pp, mm⟩
      · have c19i := mt (iEQ (a := (0 : Int32)) (b := (0 : Int32)) (by decide : (0 : Int32).toInt = 0) (by decide : (0 : Int32).toInt = 0)).mpr c19
        omega
set_option maxRecDepth 100000 in
set_option maxHeartbeats 1000000 in
theorem tfX9_readTable {I0 : gM} (v1 : Int32) (I : gM) (hM : MI false I0 I) (av1 : 0 ≤ v1.toInt ∧ v1.toInt ≤ 3) : T (fX9_readTable v1 I) (fun r => MI false I0 r) := by
  unfold fX9_readTable
  refine t_bindE (tfX9_readHead v1 I hM (by omega)) (fun r1 er1 pr1 => ?_)
  have hr1_0 : MI false I0 r1 := pr1
  refine t_wI (lo := 0) (hi := 12) hr1_0 rfl (fun _ _ => rfl) rfl (by omega) (by omega) (by decide) (fun I2 eI2 hI2 => ?_)
  have q1 := hI2.at (k := 62) (j := 4) (lo := (-1)) (hi := 400) rfl
  have q2 := hr1_0.at (k := 62) (j := 4) (lo := (-1)) (hi := 400) rfl
  have q3 : (I2 62 4).toInt = (r1 62 4).toInt := by rw [eI2, g_up_row (by decide)]
  refine t_ite (fun c4 => ?_) (fun c4 => ?_)
  · have c4i := (iEQ (a := I2 62 4) (b := ((-1) : Int32)) rfl (by decide : ((-1) : Int32).toInt = (-1))).mp c4
    refine t_bindE (tfX9_ahead I2 hI2) (fun r3 er3 pr3 => ?_)
    obtain ⟨br3_0, hr3_1, xr3_0, xr3_1, xr3_2, yr3_0⟩ := (show ((-1) ≤ r3.1.toInt ∧ r3.1.toInt ≤ 255) ∧ MI false I0 r3.2 ∧ (r3.1.toInt = (-1) ∨ (r3.2 62 3).toInt < 400) ∧ ((r3.2 62 4).toInt = (I2 62 4).toInt) ∧ ((I2 62 3).toInt ≤ (r3.2 62 3).toInt) ∧ (fX9_here r3.2 = some r3.1) from pr3)
    have q5 := hr3_1.at (k := 62) (j := 3) (lo := 0) (hi := 400) rfl
    have q6 := hr3_1.at (k := 62) (j := 4) (lo := (-1)) (hi := 400) rfl
    have q7 : (r3.2 62 4).toInt = (I2 62 4).toInt := congrArg Int32.toInt (show r3.2 62 4 = I2 62 4 from xfX9_ahead I2 er3 62 4 (Or.inr (by decide)))
    have q8 := hI2.at (k := 62) (j := 3) (lo := 0) (hi := 400) rfl
    have q9 := hr1_0.at (k := 62) (j := 3) (lo := 0) (hi := 400) rfl
    have q10 : (I2 62 3).toInt = (r1 62 3).toInt := by rw [eI2, g_up_row (by decide)]
    refine t_bindE (tfX9_isDigit r3.1) (fun r4 er4 pr4 => ?_)
    obtain ⟨br4_0, xr4_0⟩ := (show (0 ≤ r4.toInt ∧ r4.toInt ≤ 1) ∧ (r4.toInt = 0 ∨ (48 ≤ r3.1.toInt ∧ r3.1.toInt ≤ 57)) from pr4)
    refine t_ite (fun c11 => ?_) (fun c11 => ?_)
    · have c11i := (iEQ (a := r4) (b := (0 : Int32)) rfl (by decide : (0 : Int32).toInt = 0)).mp c11
      unfold bX9_readTable_34
      unfold bX9_readTable_35
      have q12 : (r3.2 66 (v1.toInt).toNat).toInt = (I2 66 (v1.toInt).toNat).toInt := congrArg (fun g : Nat → Int32 => (g (v1.toInt).toNat).toInt) (show r3.2 66 = I2 66 from zfX9_ahead I2 er3 66 (by decide))
      have q13 : (I2 66 (v1.toInt).toNat).toInt = 0 := by rw [eI2, g_up_self]; exact (by decide : (0 : Int32).toInt = 0)
      refine t_bindE (tlX9_readTable_36 v1 (by omega) ((0 : Int32), r3.2) ⟨(by show (0 ≤ ((0 : Int32)).toInt ∧ ((0 : Int32)).toInt ≤ 1); decide), hr3_1, (by show ((0 : Int32).toInt = 0 ∨ (r3.2 66 (v1.toInt).toNat).toInt ≤ 11); have q0 : (0 : Int32).toInt = 0 := (by decide); omega)⟩) (fun w9 ew9 pw9 => ?_)
      have hw9_0 : MI false I0 w9 := pw9
      exact t_ret hw9_0
    · have c11i := mt (iEQ (a := r4) (b := (0 : Int32)) rfl (by decide : (0 : Int32).toInt = 0)).mpr c11
      unfold bX9_readTable_35
      have q14 : (r3.2 66 (v1.toInt).toNat).toInt = (I2 66 (v1.toInt).toNat).toInt := congrArg (fun g : Nat → Int32 => (g (v1.toInt).toNat).toInt) (show r3.2 66 = I2 66 from zfX9_ahead I2 er3 66 (by decide))
      have q15 : (I2 66 (v1.toInt).toNat).toInt = 0 := by rw [eI2, g_up_self]; exact (by decide : (0 : Int32).toInt = 0)
      refine t_bindE (tlX9_readTable_36 v1 (by omega) ((1 : Int32), r3.2) ⟨(by show (0 ≤ ((1 : Int32)).toInt ∧ ((1 : Int32)).toInt ≤ 1); decide), hr3_1, (by show ((1 : Int32).toInt = 0 ∨ (r3.2 66 (v1.toInt).toNat).toInt ≤ 11); have q0 : (1 : Int32).toInt = 1 := (by decide); omega)⟩) (fun w9 ew9 pw9 => ?_)
      have hw9_0 : MI false I0 w9 := pw9
      exact t_ret hw9_0
  · have c4i := mt (iEQ (a := I2 62 4) (b := ((-1) : Int32)) rfl (by decide : ((-1) : Int32).toInt = (-1))).mpr c4
    unfold bX9_readTable_34
    unfold bX9_readTable_35
    have q16 : (I2 66 (v1.toInt).toNat).toInt = 0 := by rw [eI2, g_up_self]; exact (by decide : (0 : Int32).toInt = 0)
    refine t_bindE (tlX9_readTable_36 v1 (by omega) ((0 : Int32), I2) ⟨(by show (0 ≤ ((0 : Int32)).toInt ∧ ((0 : Int32)).toInt ≤ 1); decide), hI2, (by show ((0 : Int32).toInt = 0 ∨ (I2 66 (v1.toInt).toNat).toInt ≤ 11); have q0 : (0 : Int32).toInt = 0 := (by decide); omega)⟩) (fun w9 ew9 pw9 => ?_)
    have hw9_0 : MI false I0 w9 := pw9
    exact t_ret hw9_0
set_option maxRecDepth 100000 in
set_option maxHeartbeats 1000000 in
theorem tfX9_ends {I0 : gM} (I : gM) (hM : MI false I0 I) : T (fX9_ends I) (fun r => ((-1) ≤ r.1.toInt ∧ r.1.toInt ≤ 400) ∧ MI false I0 r.2) := by
  unfold fX9_ends
  have q1 := hM.at (k := 62) (j := 4) (lo := (-1)) (hi := 400) rfl
  refine t_ite (fun c2 => ?_) (fun c2 => ?_)
  · have c2i := (iEQ (a := I 62 4) (b := ((-1) : Int32)) rfl (by decide : ((-1) : Int32).toInt = (-1))).mp c2
    refine t_bindE (tfX9_ahead I hM) (fun r1 er1 pr1 => ?_)
    obtain ⟨br1_0, hr1_1, xr1_0, xr1_1, xr1_2, yr1_0⟩ := (show ((-1) ≤ r1.1.toInt ∧ r1.1.toInt ≤ 255) ∧ MI false I0 r1.2 ∧ (r1.1.toInt = (-1) ∨ (r1.2 62 3).toInt < 400) ∧ ((r1.2 62 4).toInt = (I 62 4).toInt) ∧ ((I 62 3).toInt ≤ (r1.2 62 3).toInt) ∧ (fX9_here r1.2 = some r1.1) from pr1)
    have q3 := hr1_1.at (k := 62) (j := 3) (lo := 0) (hi := 400) rfl
    have q4 := hr1_1.at (k := 62) (j := 4) (lo := (-1)) (hi := 400) rfl
    have q5 : (r1.2 62 4).toInt = (I 62 4).toInt := congrArg Int32.toInt (show r1.2 62 4 = I 62 4 from xfX9_ahead I er1 62 4 (Or.inr (by decide)))
    have q6 := hM.at (k := 62) (j := 3) (lo := 0) (hi := 400) rfl
    refine t_ite (fun c7 => ?_) (fun c7 => ?_)
    · have c7i := (iEQ (a := r1.1) (b := ((-1) : Int32)) rfl (by decide : ((-1) : Int32).toInt = (-1))).mp c7
      exact t_ret ⟨(by show (-1) ≤ (r1.2 62 4).toInt ∧ (r1.2 62 4).toInt ≤ 400; omega), hr1_1⟩
    · have c7i := mt (iEQ (a := r1.1) (b := ((-1) : Int32)) rfl (by decide : ((-1) : Int32).toInt = (-1))).mpr c7
      refine t_bindE (tfX9_bad r1.2 hr1_1) (fun r2 er2 pr2 => ?_)
      obtain ⟨hr2_0, xr2_0, xr2_1⟩ := (show MI false I0 r2 ∧ (0 ≤ (r2 62 4).toInt) ∧ ((r2 62 3).toInt = (r1.2 62 3).toInt) from pr2)
      have q8 := hr2_0.at (k := 62) (j := 4) (lo := (-1)) (hi := 400) rfl
      have q9 := hr2_0.at (k := 62) (j := 3) (lo := 0) (hi := 400) rfl
      have q10 : (r2 62 3).toInt = (r1.2 62 3).toInt := congrArg Int32.toInt (show r2 62 3 = r1.2 62 3 from xfX9_bad r1.2 er2 62 3 (Or.inr (by decide)))
      exact t_ret ⟨(by show (-1) ≤ (r2 62 4).toInt ∧ (r2 62 4).toInt ≤ 400; omega), hr2_0⟩
  · have c2i := mt (iEQ (a := I 62 4) (b := ((-1) : Int32)) rfl (by decide : ((-1) : Int32).toInt = (-1))).mpr c2
    exact t_ret ⟨(by show (-1) ≤ (I 62 4).toInt ∧ (I 62 4).toInt ≤ 400; omega), hM⟩
set_option maxRecDepth 100000 in
set_option maxHeartbeats 1000000 in
theorem tfX9_begins {I0 : gM} (I : gM) (hM : MI false I0 I) : T (fX9_begins I) (fun r => MI false I0 r) := by
  unfold fX9_begins
  refine t_pU (lo := 0) (hi := 400) hM rfl rfl (by decide) (fun I1 eI1 hI1 => ?_)
  refine t_pU (lo := (-1)) (hi := 400) hI1 rfl rfl (by decide) (fun I2 eI2 hI2 => ?_)
  exact t_ret hI2
set_option maxRecDepth 100000 in
set_option maxHeartbeats 1000000 in
theorem tlX9_readAll_11 {I0 : gM}   (s : (Int32 × gM)) (hP : (0 ≤ (s.1).toInt ∧ (s.1).toInt ≤ 1) ∧ MI false I0 s.2 ∧ (s.1.toInt = 0 ∨ (s.2 62 9).toInt ≤ 3)) : T (lX9_readAll_11 s) (fun r : gM => MI false I0 r) := by
  unfold lX9_readAll_11
  refine t_it (P := fun s : (Int32 × gM) => (0 ≤ (s.1).toInt ∧ (s.1).toInt ≤ 1) ∧ MI false I0 s.2 ∧ (s.1.toInt = 0 ∨ (s.2 62 9).toInt ≤ 3)) (μ := fun s : (Int32 × gM) => (5 - (s.2 62 9).toInt).toNat) (fun s p => ?_) hP
  obtain ⟨b0, hs, x2⟩ := p
  have q1 := hs.at (k := 62) (j := 9) (lo := 0) (hi := 4) rfl
  refine t_ite (fun c2 => ?_) (fun c2 => ?_)
  · have c2i := (iEQ (a := s.1) (b := (0 : Int32)) rfl (by decide : (0 : Int32).toInt = 0)).mp c2
    exact t_ret (show MI false I0 s.2 from hs)
  · have c2i := mt (iEQ (a := s.1) (b := (0 : Int32)) rfl (by decide : (0 : Int32).toInt = 0)).mpr c2
    refine t_bindE (tfX9_readTable (s.2 62 9) s.2 hs (by omega)) (fun r3 er3 pr3 => ?_)
    have hr3_0 : MI false I0 r3 := pr3
    have q3 := hr3_0.at (k := 62) (j := 9) (lo := 0) (hi := 4) rfl
    have q4 : (r3 62 9).toInt = (s.2 62 9).toInt := congrArg Int32.toInt (show r3 62 9 = s.2 62 9 from xfX9_readTable (s.2 62 9) s.2 er3 62 9 (by decide) (Or.inr (by decide)) (Or.inr (by decide)) (by decide) (by decide) (by decide))
    refine t_pU (lo := 0) (hi := 4) hr3_0 rfl rfl (by have q := ((tA rfl (by decide : (1 : Int32).toInt = 1) (by omega) (by omega)) : ((r3 62 9) + 1).toInt = ((r3 62 9).toInt + 1)); omega) (fun I4 eI4 hI4 => ?_)
    have q5 := hI4.at (k := 62) (j := 4) (lo := (-1)) (hi := 400) rfl
    have q6 := hr3_0.at (k := 62) (j := 4) (lo := (-1)) (hi := 400) rfl
    have q7 : (I4 62 4).toInt = (r3 62 4).toInt := by rw [eI4, g_up_ne (Or.inr (by decide))]
    refine t_ite (fun c8 => ?_) (fun c8 => ?_)
    · have c8i := (iEQ (a := I4 62 4) (b := ((-1) : Int32)) rfl (by decide : ((-1) : Int32).toInt = (-1))).mp c8
      refine t_bindE (tfX9_ahead I4 hI4) (fun r5 er5 pr5 => ?_)
      obtain ⟨br5_0, hr5_1, xr5_0, xr5_1, xr5_2, yr5_0⟩ := (show ((-1) ≤ r5.1.toInt ∧ r5.1.toInt ≤ 255) ∧ MI false I0 r5.2 ∧ (r5.1.toInt = (-1) ∨ (r5.2 62 3).toInt < 400) ∧ ((r5.2 62 4).toInt = (I4 62 4).toInt) ∧ ((I4 62 3).toInt ≤ (r5.2 62 3).toInt) ∧ (fX9_here r5.2 = some r5.1) from pr5)
      have q9 := hr5_1.at (k := 62) (j := 3) (lo := 0) (hi := 400) rfl
      have q10 := hr5_1.at (k := 62) (j := 4) (lo := (-1)) (hi := 400) rfl
      have q11 : (r5.2 62 4).toInt = (I4 62 4).toInt := congrArg Int32.toInt (show r5.2 62 4 = I4 62 4 from xfX9_ahead I4 er5 62 4 (Or.inr (by decide)))
      have q12 := hI4.at (k := 62) (j := 3) (lo := 0) (hi := 400) rfl
      have q13 := hr3_0.at (k := 62) (j := 3) (lo := 0) (hi := 400) rfl
      have q14 : (I4 62 3).toInt = (r3 62 3).toInt := by rw [eI4, g_up_ne (Or.inr (by decide))]
      refine t_ite (fun c15 => ?_) (fun c15 => ?_)
      · have c15i := (iEQ (a := r5.1) (b := (59 : Int32)) rfl (by decide : (59 : Int32).toInt = 59)).mp c15
        have q16 := hr5_1.at (k := 62) (j := 9) (lo := 0) (hi := 4) rfl
        have q17 := hI4.at (k := 62) (j := 9) (lo := 0) (hi := 4) rfl
        have q18 : (I4 62 9).toInt = ((r3 62 9).toInt + 1) := by rw [eI4, g_up_self]; exact (tA rfl (by decide : (1 : Int32).toInt = 1) (by omega) (by omega))
        have q19 : (r5.2 62 9).toInt = (I4 62 9).toInt := congrArg Int32.toInt (show r5.2 62 9 = I4 62 9 from xfX9_ahead I4 er5 62 9 (Or.inr (by decide)))
        refine t_ite (fun c20 => ?_) (fun c20 => ?_)
        · have c20i := (iLE (a := (4 : Int32)) (b := r5.2 62 9) (by decide : (4 : Int32).toInt = 4) rfl).mp c20
          unfold bX9_readAll_62
          unfold bX9_readAll_63
          refine t_ite (fun c21 => ?_) (fun c21 => ?_)
          · have c21i := (iEQ (a := (0 : Int32)) (b := (0 : Int32)) (by decide : (0 : Int32).toInt = 0) (by decide : (0 : Int32).toInt = 0)).mp c21
            unfold bX9_readAll_78
            refine t_pU (lo := 0) (hi := 400) hr5_1 rfl rfl (by have q := ((tA rfl (by decide : (0 : Int32).toInt = 0) (by omega) (by omega)) : ((r5.2 62 3) + (0 : Int32)).toInt = ((r5.2 62 3).toInt + 0)); omega) (fun I6 eI6 hI6 => ?_)
            have q22 := hI6.at (k := 62) (j := 9) (lo := 0) (hi := 4) rfl
            have q23 : (I6 62 9).toInt = (r5.2 62 9).toInt := by rw [eI6, g_up_ne (Or.inr (by decide))]
            have m0 : (0 : Int32).toInt = 0 := (by decide)
            have mm : (5 - (I6 62 9).toInt).toNat < (5 - (s.2 62 9).toInt).toNat := by omega
            have pp : (0 ≤ ((0 : Int32)).toInt ∧ ((0 : Int32)).toInt ≤ 1) ∧ MI false I0 I6 ∧ ((0 : Int32).toInt = 0 ∨ (I6 62 9).toInt ≤ 3) := ⟨(by show (0 ≤ ((0 : Int32)).toInt ∧ ((0 : Int32)).toInt ≤ 1); decide), hI6, (by show ((0 : Int32).toInt = 0 ∨ (I6 62 9).toInt ≤ 3); have q0 : (0 : Int32).toInt = 0 := (by decide); omega)⟩
            exact t_ret ⟨pp, mm⟩
          · have c21i := mt (iEQ (a := (0 : Int32)) (b := (0 : Int32)) (by decide : (0 : Int32).toInt = 0) (by decide : (0 : Int32).toInt = 0)).mpr c21
            omega
        · have c20i := mt (iLE (a := (4 : Int32)) (b := r5.2 62 9) (by decide : (4 : Int32).toInt = 4) rfl).mpr c20
          unfold bX9_readAll_63
          refine t_ite (fun c24 => ?_) (fun c24 => ?_)
          · have c24i := (iEQ (a := (1 : Int32)) (b := (0 : Int32)) (by decide : (1 : Int32).toInt = 1) (by decide : (0 : Int32).toInt = 0)).mp c24
            omega
          · have c24i := mt (iEQ (a := (1 : Int32)) (b := (0 : Int32)) (by decide : (1 : Int32).toInt = 1) (by decide : (0 : Int32).toInt = 0)).mpr c24
            unfold bX9_readAll_78
            refine t_pU (lo := 0) (hi := 400) hr5_1 rfl rfl (by have q := ((tA rfl (by decide : (1 : Int32).toInt = 1) (by omega) (by omega)) : ((r5.2 62 3) + (1 : Int32)).toInt = ((r5.2 62 3).toInt + 1)); omega) (fun I6 eI6 hI6 => ?_)
            have q25 := hI6.at (k := 62) (j := 9) (lo := 0) (hi := 4) rfl
            have q26 : (I6 62 9).toInt = (r5.2 62 9).toInt := by rw [eI6, g_up_ne (Or.inr (by decide))]
            have m0 : (1 : Int32).toInt = 1 := (by decide)
            have mm : (5 - (I6 62 9).toInt).toNat < (5 - (s.2 62 9).toInt).toNat := by omega
            have pp : (0 ≤ ((1 : Int32)).toInt ∧ ((1 : Int32)).toInt ≤ 1) ∧ MI false I0 I6 ∧ ((1 : Int32).toInt = 0 ∨ (I6 62 9).toInt ≤ 3) := ⟨(by show (0 ≤ ((1 : Int32)).toInt ∧ ((1 : Int32)).toInt ≤ 1); decide), hI6, (by show ((1 : Int32).toInt = 0 ∨ (I6 62 9).toInt ≤ 3); have q0 : (1 : Int32).toInt = 1 := (by decide); omega)⟩
            exact t_ret ⟨pp, mm⟩
      · have c15i := mt (iEQ (a := r5.1) (b := (59 : Int32)) rfl (by decide : (59 : Int32).toInt = 59)).mpr c15
        unfold bX9_readAll_62
        unfold bX9_readAll_63
        refine t_ite (fun c27 => ?_) (fun c27 => ?_)
        · have c27i := (iEQ (a := (0 : Int32)) (b := (0 : Int32)) (by decide : (0 : Int32).toInt = 0) (by decide : (0 : Int32).toInt = 0)).mp c27
          unfold bX9_readAll_78
          refine t_pU (lo := 0) (hi := 400) hr5_1 rfl rfl (by have q := ((tA rfl (by decide : (0 : Int32).toInt = 0) (by omega) (by omega)) : ((r5.2 62 3) + (0 : Int32)).toInt = ((r5.2 62 3).toInt + 0)); omega) (fun I6 eI6 hI6 => ?_)
          have q28 := hI6.at (k := 62) (j := 9) (lo := 0) (hi := 4) rfl
          have q29 := hr5_1.at (k := 62) (j := 9) (lo := 0) (hi := 4) rfl
          have q30 := hI4.at (k := 62) (j := 9) (lo := 0) (hi := 4) rfl
          have q31 : (I4 62 9).toInt = ((r3 62 9).toInt + 1) := by rw [eI4, g_up_self]; exact (tA rfl (by decide : (1 : Int32).toInt = 1) (by omega) (by omega))
          have q32 : (r5.2 62 9).toInt = (I4 62 9).toInt := congrArg Int32.toInt (show r5.2 62 9 = I4 62 9 from xfX9_ahead I4 er5 62 9 (Or.inr (by decide)))
          have q33 : (I6 62 9).toInt = (r5.2 62 9).toInt := by rw [eI6, g_up_ne (Or.inr (by decide))]
          have m0 : (0 : Int32).toInt = 0 := (by decide)
          have mm : (5 - (I6 62 9).toInt).toNat < (5 - (s.2 62 9).toInt).toNat := by omega
          have pp : (0 ≤ ((0 : Int32)).toInt ∧ ((0 : Int32)).toInt ≤ 1) ∧ MI false I0 I6 ∧ ((0 : Int32).toInt = 0 ∨ (I6 62 9).toInt ≤ 3) := ⟨(by show (0 ≤ ((0 : Int32)).toInt ∧ ((0 : Int32)).toInt ≤ 1); decide), hI6, (by show ((0 : Int32).toInt = 0 ∨ (I6 62 9).toInt ≤ 3); have q0 : (0 : Int32).toInt = 0 := (by decide); omega)⟩
          exact t_ret ⟨pp, mm⟩
        · have c27i := mt (iEQ (a := (0 : Int32)) (b := (0 : Int32)) (by decide : (0 : Int32).toInt = 0) (by decide : (0 : Int32).toInt = 0)).mpr c27
          omega
    · have c8i := mt (iEQ (a := I4 62 4) (b := ((-1) : Int32)) rfl (by decide : ((-1) : Int32).toInt = (-1))).mpr c8
      unfold bX9_readAll_62
      unfold bX9_readAll_63
      refine t_ite (fun c34 => ?_) (fun c34 => ?_)
      · have c34i := (iEQ (a := (0 : Int32)) (b := (0 : Int32)) (by decide : (0 : Int32).toInt = 0) (by decide : (0 : Int32).toInt = 0)).mp c34
        unfold bX9_readAll_78
        have q35 := hI4.at (k := 62) (j := 3) (lo := 0) (hi := 400) rfl
        have q36 := hr3_0.at (k := 62) (j := 3) (lo := 0) (hi := 400) rfl
        have q37 : (I4 62 3).toInt = (r3 62 3).toInt := by rw [eI4, g_up_ne (Or.inr (by decide))]
        refine t_pU (lo := 0) (hi := 400) hI4 rfl rfl (by have q := ((tA rfl (by decide : (0 : Int32).toInt = 0) (by omega) (by omega)) : ((I4 62 3) + (0 : Int32)).toInt = ((I4 62 3).toInt + 0)); omega) (fun I6 eI6 hI6 => ?_)
        have q38 := hI6.at (k := 62) (j := 9) (lo := 0) (hi := 4) rfl
        have q39 := hI4.at (k := 62) (j := 9) (lo := 0) (hi := 4) rfl
        have q40 : (I4 62 9).toInt = ((r3 62 9).toInt + 1) := by rw [eI4, g_up_self]; exact (tA rfl (by decide : (1 : Int32).toInt = 1) (by omega) (by omega))
        have q41 : (I6 62 9).toInt = (I4 62 9).toInt := by rw [eI6, g_up_ne (Or.inr (by decide))]
        have m0 : (0 : Int32).toInt = 0 := (by decide)
        have mm : (5 - (I6 62 9).toInt).toNat < (5 - (s.2 62 9).toInt).toNat := by omega
        have pp : (0 ≤ ((0 : Int32)).toInt ∧ ((0 : Int32)).toInt ≤ 1) ∧ MI false I0 I6 ∧ ((0 : Int32).toInt = 0 ∨ (I6 62 9).toInt ≤ 3) := ⟨(by show (0 ≤ ((0 : Int32)).toInt ∧ ((0 : Int32)).toInt ≤ 1); decide), hI6, (by show ((0 : Int32).toInt = 0 ∨ (I6 62 9).toInt ≤ 3); have q0 : (0 : Int32).toInt = 0 := (by decide); omega)⟩
        exact t_ret ⟨pp, mm⟩
      · have c34i := mt (iEQ (a := (0 : Int32)) (b := (0 : Int32)) (by decide : (0 : Int32).toInt = 0) (by decide : (0 : Int32).toInt = 0)).mpr c34
        omega
set_option maxRecDepth 100000 in
set_option maxHeartbeats 1000000 in
theorem tfX9_readAll {I0 : gM} (I : gM) (hM : MI false I0 I) : T (fX9_readAll I) (fun r => ((-1) ≤ r.1.toInt ∧ r.1.toInt ≤ 400) ∧ MI false I0 r.2) := by
  unfold fX9_readAll
  refine t_bindE (tfX9_begins I hM) (fun r1 er1 pr1 => ?_)
  have hr1_0 : MI false I0 r1 := pr1
  refine t_pU (lo := 0) (hi := 4) hr1_0 rfl rfl (by decide) (fun I2 eI2 hI2 => ?_)
  have q1 := hI2.at (k := 62) (j := 9) (lo := 0) (hi := 4) rfl
  have q2 : (I2 62 9).toInt = 0 := by rw [eI2, g_up_self]; exact (by decide : (0 : Int32).toInt = 0)
  refine t_bindE (tlX9_readAll_11 ((1 : Int32), I2) ⟨(by show (0 ≤ ((1 : Int32)).toInt ∧ ((1 : Int32)).toInt ≤ 1); decide), hI2, (by show ((1 : Int32).toInt = 0 ∨ (I2 62 9).toInt ≤ 3); have q0 : (1 : Int32).toInt = 1 := (by decide); omega)⟩) (fun w7 ew7 pw7 => ?_)
  have hw7_0 : MI false I0 w7 := pw7
  refine t_bindE (tfX9_ends w7 hw7_0) (fun r8 er8 pr8 => ?_)
  obtain ⟨br8_0, hr8_1⟩ := (show ((-1) ≤ r8.1.toInt ∧ r8.1.toInt ≤ 400) ∧ MI false I0 r8.2 from pr8)
  exact t_ret ⟨(by show (-1) ≤ (r8.1).toInt ∧ (r8.1).toInt ≤ 400; omega), hr8_1⟩
set_option maxRecDepth 100000 in
set_option maxHeartbeats 1000000 in
theorem tlX9_readStep_103 {I0 : gM} (v1 : Int32) (av1 : 0 ≤ v1.toInt ∧ v1.toInt ≤ 295) (s : (Int32 × gM)) (hP : (0 ≤ (s.1).toInt ∧ (s.1).toInt ≤ 2147483647) ∧ MI false I0 s.2) : T (lX9_readStep_103 v1 s) (fun r : gM => MI false I0 r) := by
  unfold lX9_readStep_103
  refine t_it (P := fun s : (Int32 × gM) => (0 ≤ (s.1).toInt ∧ (s.1).toInt ≤ 2147483647) ∧ MI false I0 s.2) (μ := fun s : (Int32 × gM) => (2147483648 - s.1.toInt).toNat) (fun s p => ?_) hP
  obtain ⟨b0, hs⟩ := p
  refine t_ite (fun c1 => ?_) (fun c1 => ?_)
  · have c1i := (iLE (a := (3 : Int32)) (b := s.1) (by decide : (3 : Int32).toInt = 3) rfl).mp c1
    exact t_ret (show MI false I0 s.2 from hs)
  · have c1i := mt (iLE (a := (3 : Int32)) (b := s.1) (by decide : (3 : Int32).toInt = 3) rfl).mpr c1
    refine t_wI (lo := (-2147483648)) (hi := 2147483647) hs rfl (fun _ _ => rfl) (tA (tA rfl (by decide : (2 : Int32).toInt = 2) (by omega) (by omega)) rfl (by omega) (by omega)) (by omega) (by omega) (tTop _) (fun I7 eI7 hI7 => ?_)
    have m0 := ((tA rfl (by decide : (1 : Int32).toInt = 1) (by omega) (by omega)) : (s.1 + 1).toInt = (s.1.toInt + 1))
    have mm : (2147483648 - (s.1 + 1).toInt).toNat < (2147483648 - s.1.toInt).toNat := by omega
    have pp : (0 ≤ (s.1 + 1).toInt ∧ (s.1 + 1).toInt ≤ 2147483647) ∧ MI false I0 I7 := ⟨(by show (0 ≤ (s.1 + 1).toInt ∧ (s.1 + 1).toInt ≤ 2147483647); have q := ((tA rfl (by decide : (1 : Int32).toInt = 1) (by omega) (by omega)) : (s.1 + 1).toInt = (s.1.toInt + 1)); omega), hI7⟩
    exact t_ret ⟨pp, mm⟩
set_option maxRecDepth 100000 in
set_option maxHeartbeats 1000000 in
theorem tlX9_readStep_157 {I0 : gM} (v1 : Int32) (av1 : 0 ≤ v1.toInt ∧ v1.toInt ≤ 295) (s : (Int32 × Int32 × gM)) (hP : (0 ≤ (s.2.1).toInt ∧ (s.2.1).toInt ≤ 2147483647) ∧ MI false I0 s.2.2) : T (lX9_readStep_157 v1 s) (fun r : gM => MI false I0 r) := by
  unfold lX9_readStep_157
  refine t_it (P := fun s : (Int32 × Int32 × gM) => (0 ≤ (s.2.1).toInt ∧ (s.2.1).toInt ≤ 2147483647) ∧ MI false I0 s.2.2) (μ := fun s : (Int32 × Int32 × gM) => (2147483648 - s.2.1.toInt).toNat) (fun s p => ?_) hP
  obtain ⟨b1, hs⟩ := p
  refine t_ite (fun c1 => ?_) (fun c1 => ?_)
  · have c1i := (iLE (a := (3 : Int32)) (b := s.2.1) (by decide : (3 : Int32).toInt = 3) rfl).mp c1
    exact t_ret (show MI false I0 s.2.2 from hs)
  · have c1i := mt (iLE (a := (3 : Int32)) (b := s.2.1) (by decide : (3 : Int32).toInt = 3) rfl).mpr c1
    refine t_ite (fun c2 => ?_) (fun c2 => ?_)
    · have c2i := (iEQ (a := s.1) (b := (0 : Int32)) rfl (by decide : (0 : Int32).toInt = 0)).mp c2
      exact t_ret (show MI false I0 s.2.2 from hs)
    · have c2i := mt (iEQ (a := s.1) (b := (0 : Int32)) rfl (by decide : (0 : Int32).toInt = 0)).mpr c2
      refine t_bindE (tfX9_number (99 : Int32) s.2.2 hs (by decide)) (fun r10 er10 pr10 => ?_)
      obtain ⟨br10_0, hr10_1⟩ := (show (0 ≤ r10.1.toInt ∧ r10.1.toInt ≤ 99) ∧ MI false I0 r10.2 from pr10)
      refine t_wI (lo := (-2147483648)) (hi := 2147483647) hr10_1 rfl (fun _ _ => rfl) (tA (tA rfl (by decide : (2 : Int32).toInt = 2) (by omega) (by omega)) rfl (by omega) (by omega)) (by omega) (by omega) (tTop _) (fun I11 eI11 hI11 => ?_)
      have q3 := hI11.at (k := 62) (j := 4) (lo := (-1)) (hi := 400) rfl
      have q4 := hr10_1.at (k := 62) (j := 4) (lo := (-1)) (hi := 400) rfl
      have q5 : (I11 62 4).toInt = (r10.2 62 4).toInt := by rw [eI11, g_up_row (by decide)]
      refine t_ite (fun c6 => ?_) (fun c6 => ?_)
      · have c6i := (iEQ (a := I11 62 4) (b := ((-1) : Int32)) rfl (by decide : ((-1) : Int32).toInt = (-1))).mp c6
        refine t_ite (fun c7 => ?_) (fun c7 => ?_)
        · have c7i := (iLE (a := (2 : Int32)) (b := s.2.1) (by decide : (2 : Int32).toInt = 2) rfl).mp c7
          unfold bX9_readStep_212
          unfold bX9_readStep_213
          refine t_ite (fun c8 => ?_) (fun c8 => ?_)
          · have c8i := (iEQ (a := (0 : Int32)) (b := (0 : Int32)) (by decide : (0 : Int32).toInt = 0) (by decide : (0 : Int32).toInt = 0)).mp c8
            unfold bX9_readStep_230
            have q9 := hI11.at (k := 62) (j := 3) (lo := 0) (hi := 400) rfl
            have q10 := hr10_1.at (k := 62) (j := 3) (lo := 0) (hi := 400) rfl
            have q11 : (I11 62 3).toInt = (r10.2 62 3).toInt := by rw [eI11, g_up_row (by decide)]
            refine t_pU (lo := 0) (hi := 400) hI11 rfl rfl (by have q := ((tA rfl (by decide : (0 : Int32).toInt = 0) (by omega) (by omega)) : ((I11 62 3) + (0 : Int32)).toInt = ((I11 62 3).toInt + 0)); omega) (fun I12 eI12 hI12 => ?_)
            have m0 : (0 : Int32).toInt = 0 := (by decide)
            have m1 := ((tA rfl (by decide : (1 : Int32).toInt = 1) (by omega) (by omega)) : (s.2.1 + 1).toInt = (s.2.1.toInt + 1))
            have mm : (2147483648 - (s.2.1 + 1).toInt).toNat < (2147483648 - s.2.1.toInt).toNat := by omega
            have pp : (0 ≤ (s.2.1 + 1).toInt ∧ (s.2.1 + 1).toInt ≤ 2147483647) ∧ MI false I0 I12 := ⟨(by show (0 ≤ (s.2.1 + 1).toInt ∧ (s.2.1 + 1).toInt ≤ 2147483647); have q := ((tA rfl (by decide : (1 : Int32).toInt = 1) (by omega) (by omega)) : (s.2.1 + 1).toInt = (s.2.1.toInt + 1)); omega), hI12⟩
            exact t_ret ⟨pp, mm⟩
          · have c8i := mt (iEQ (a := (0 : Int32)) (b := (0 : Int32)) (by decide : (0 : Int32).toInt = 0) (by decide : (0 : Int32).toInt = 0)).mpr c8
            omega
        · have c7i := mt (iLE (a := (2 : Int32)) (b := s.2.1) (by decide : (2 : Int32).toInt = 2) rfl).mpr c7
          refine t_bindE (tfX9_ahead I11 hI11) (fun r13 er13 pr13 => ?_)
          obtain ⟨br13_0, hr13_1, xr13_0, xr13_1, xr13_2, yr13_0⟩ := (show ((-1) ≤ r13.1.toInt ∧ r13.1.toInt ≤ 255) ∧ MI false I0 r13.2 ∧ (r13.1.toInt = (-1) ∨ (r13.2 62 3).toInt < 400) ∧ ((r13.2 62 4).toInt = (I11 62 4).toInt) ∧ ((I11 62 3).toInt ≤ (r13.2 62 3).toInt) ∧ (fX9_here r13.2 = some r13.1) from pr13)
          have q12 := hr13_1.at (k := 62) (j := 3) (lo := 0) (hi := 400) rfl
          have q13 := hr13_1.at (k := 62) (j := 4) (lo := (-1)) (hi := 400) rfl
          have q14 : (r13.2 62 4).toInt = (I11 62 4).toInt := congrArg Int32.toInt (show r13.2 62 4 = I11 62 4 from xfX9_ahead I11 er13 62 4 (Or.inr (by decide)))
          have q15 := hI11.at (k := 62) (j := 3) (lo := 0) (hi := 400) rfl
          have q16 := hr10_1.at (k := 62) (j := 3) (lo := 0) (hi := 400) rfl
          have q17 : (I11 62 3).toInt = (r10.2 62 3).toInt := by rw [eI11, g_up_row (by decide)]
          refine t_ite (fun c18 => ?_) (fun c18 => ?_)
          · have c18i := (iEQ (a := r13.1) (b := (44 : Int32)) rfl (by decide : (44 : Int32).toInt = 44)).mp c18
            unfold bX9_readStep_213
            refine t_ite (fun c19 => ?_) (fun c19 => ?_)
            · have c19i := (iEQ (a := (1 : Int32)) (b := (0 : Int32)) (by decide : (1 : Int32).toInt = 1) (by decide : (0 : Int32).toInt = 0)).mp c19
              omega
            · have c19i := mt (iEQ (a := (1 : Int32)) (b := (0 : Int32)) (by decide : (1 : Int32).toInt = 1) (by decide : (0 : Int32).toInt = 0)).mpr c19
              unfold bX9_readStep_230
              refine t_pU (lo := 0) (hi := 400) hr13_1 rfl rfl (by have q := ((tA rfl (by decide : (1 : Int32).toInt = 1) (by omega) (by omega)) : ((r13.2 62 3) + (1 : Int32)).toInt = ((r13.2 62 3).toInt + 1)); omega) (fun I12 eI12 hI12 => ?_)
              have m0 : (1 : Int32).toInt = 1 := (by decide)
              have m1 := ((tA rfl (by decide : (1 : Int32).toInt = 1) (by omega) (by omega)) : (s.2.1 + 1).toInt = (s.2.1.toInt + 1))
              have mm : (2147483648 - (s.2.1 + 1).toInt).toNat < (2147483648 - s.2.1.toInt).toNat := by omega
              have pp : (0 ≤ (s.2.1 + 1).toInt ∧ (s.2.1 + 1).toInt ≤ 2147483647) ∧ MI false I0 I12 := ⟨(by show (0 ≤ (s.2.1 + 1).toInt ∧ (s.2.1 + 1).toInt ≤ 2147483647); have q := ((tA rfl (by decide : (1 : Int32).toInt = 1) (by omega) (by omega)) : (s.2.1 + 1).toInt = (s.2.1.toInt + 1)); omega), hI12⟩
              exact t_ret ⟨pp, mm⟩
          · have c18i := mt (iEQ (a := r13.1) (b := (44 : Int32)) rfl (by decide : (44 : Int32).toInt = 44)).mpr c18
            unfold bX9_readStep_212
            unfold bX9_readStep_213
            refine t_ite (fun c20 => ?_) (fun c20 => ?_)
            · have c20i := (iEQ (a := (0 : Int32)) (b := (0 : Int32)) (by decide : (0 : Int32).toInt = 0) (by decide : (0 : Int32).toInt = 0)).mp c20
              unfold bX9_readStep_230
              refine t_pU (lo := 0) (hi := 400) hr13_1 rfl rfl (by have q := ((tA rfl (by decide : (0 : Int32).toInt = 0) (by omega) (by omega)) : ((r13.2 62 3) + (0 : Int32)).toInt = ((r13.2 62 3).toInt + 0)); omega) (fun I12 eI12 hI12 => ?_)
              have m0 : (0 : Int32).toInt = 0 := (by decide)
              have m1 := ((tA rfl (by decide : (1 : Int32).toInt = 1) (by omega) (by omega)) : (s.2.1 + 1).toInt = (s.2.1.toInt + 1))
              have mm : (2147483648 - (s.2.1 + 1).toInt).toNat < (2147483648 - s.2.1.toInt).toNat := by omega
              have pp : (0 ≤ (s.2.1 + 1).toInt ∧ (s.2.1 + 1).toInt ≤ 2147483647) ∧ MI false I0 I12 := ⟨(by show (0 ≤ (s.2.1 + 1).toInt ∧ (s.2.1 + 1).toInt ≤ 2147483647); have q := ((tA rfl (by decide : (1 : Int32).toInt = 1) (by omega) (by omega)) : (s.2.1 + 1).toInt = (s.2.1.toInt + 1)); omega), hI12⟩
              exact t_ret ⟨pp, mm⟩
            · have c20i := mt (iEQ (a := (0 : Int32)) (b := (0 : Int32)) (by decide : (0 : Int32).toInt = 0) (by decide : (0 : Int32).toInt = 0)).mpr c20
              omega
      · have c6i := mt (iEQ (a := I11 62 4) (b := ((-1) : Int32)) rfl (by decide : ((-1) : Int32).toInt = (-1))).mpr c6
        unfold bX9_readStep_212
        unfold bX9_readStep_213
        refine t_ite (fun c21 => ?_) (fun c21 => ?_)
        · have c21i := (iEQ (a := (0 : Int32)) (b := (0 : Int32)) (by decide : (0 : Int32).toInt = 0) (by decide : (0 : Int32).toInt = 0)).mp c21
          unfold bX9_readStep_230
          have q22 := hI11.at (k := 62) (j := 3) (lo := 0) (hi := 400) rfl
          have q23 := hr10_1.at (k := 62) (j := 3) (lo := 0) (hi := 400) rfl
          have q24 : (I11 62 3).toInt = (r10.2 62 3).toInt := by rw [eI11, g_up_row (by decide)]
          refine t_pU (lo := 0) (hi := 400) hI11 rfl rfl (by have q := ((tA rfl (by decide : (0 : Int32).toInt = 0) (by omega) (by omega)) : ((I11 62 3) + (0 : Int32)).toInt = ((I11 62 3).toInt + 0)); omega) (fun I12 eI12 hI12 => ?_)
          have m0 : (0 : Int32).toInt = 0 := (by decide)
          have m1 := ((tA rfl (by decide : (1 : Int32).toInt = 1) (by omega) (by omega)) : (s.2.1 + 1).toInt = (s.2.1.toInt + 1))
          have mm : (2147483648 - (s.2.1 + 1).toInt).toNat < (2147483648 - s.2.1.toInt).toNat := by omega
          have pp : (0 ≤ (s.2.1 + 1).toInt ∧ (s.2.1 + 1).toInt ≤ 2147483647) ∧ MI false I0 I12 := ⟨(by show (0 ≤ (s.2.1 + 1).toInt ∧ (s.2.1 + 1).toInt ≤ 2147483647); have q := ((tA rfl (by decide : (1 : Int32).toInt = 1) (by omega) (by omega)) : (s.2.1 + 1).toInt = (s.2.1.toInt + 1)); omega), hI12⟩
          exact t_ret ⟨pp, mm⟩
        · have c21i := mt (iEQ (a := (0 : Int32)) (b := (0 : Int32)) (by decide : (0 : Int32).toInt = 0) (by decide : (0 : Int32).toInt = 0)).mpr c21
          omega
set_option maxRecDepth 100000 in
set_option maxHeartbeats 1000000 in
theorem tfX9_readStep {I0 : gM} (v1 : Int32) (I : gM) (hM : MI false I0 I) (av1 : 0 ≤ v1.toInt ∧ v1.toInt ≤ 295) : T (fX9_readStep v1 I) (fun r => MI false I0 r) := by
  unfold fX9_readStep
  refine t_bindE (tfX9_ahead I hM) (fun r1 er1 pr1 => ?_)
  obtain ⟨br1_0, hr1_1, xr1_0, xr1_1, xr1_2, yr1_0⟩ := (show ((-1) ≤ r1.1.toInt ∧ r1.1.toInt ≤ 255) ∧ MI false I0 r1.2 ∧ (r1.1.toInt = (-1) ∨ (r1.2 62 3).toInt < 400) ∧ ((r1.2 62 4).toInt = (I 62 4).toInt) ∧ ((I 62 3).toInt ≤ (r1.2 62 3).toInt) ∧ (fX9_here r1.2 = some r1.1) from pr1)
  have q1 := hr1_1.at (k := 62) (j := 3) (lo := 0) (hi := 400) rfl
  have q2 := hr1_1.at (k := 62) (j := 4) (lo := (-1)) (hi := 400) rfl
  have q3 := hM.at (k := 62) (j := 4) (lo := (-1)) (hi := 400) rfl
  have q4 : (r1.2 62 4).toInt = (I 62 4).toInt := congrArg Int32.toInt (show r1.2 62 4 = I 62 4 from xfX9_ahead I er1 62 4 (Or.inr (by decide)))
  have q5 := hM.at (k := 62) (j := 3) (lo := 0) (hi := 400) rfl
  refine t_ite (fun c6 => ?_) (fun c6 => ?_)
  · have c6i := (iEQ (a := r1.1) (b := (112 : Int32)) rfl (by decide : (112 : Int32).toInt = 112)).mp c6
    unfold bX9_readStep_46
    refine t_ite (fun c7 => ?_) (fun c7 => ?_)
    · have c7i := (iEQ (a := (0 : Int32)) (b := ((-1) : Int32)) (by decide : (0 : Int32).toInt = 0) (by decide : ((-1) : Int32).toInt = (-1))).mp c7
      omega
    · have c7i := mt (iEQ (a := (0 : Int32)) (b := ((-1) : Int32)) (by decide : (0 : Int32).toInt = 0) (by decide : ((-1) : Int32).toInt = (-1))).mpr c7
      refine t_pU (lo := 0) (hi := 400) hr1_1 rfl rfl (by have q := ((tA rfl (by decide : (1 : Int32).toInt = 1) (by omega) (by omega)) : ((r1.2 62 3) + 1).toInt = ((r1.2 62 3).toInt + 1)); omega) (fun I3 eI3 hI3 => ?_)
      refine t_wI (lo := (-2147483648)) (hi := 2147483647) hI3 rfl (fun _ _ => rfl) rfl (by omega) (by omega) (tTop _) (fun I4 eI4 hI4 => ?_)
      refine t_ite (fun c8 => ?_) (fun c8 => ?_)
      · have c8i := (iEQ (a := (0 : Int32)) (b := (3 : Int32)) (by decide : (0 : Int32).toInt = 0) (by decide : (3 : Int32).toInt = 3)).mp c8
        omega
      · have c8i := mt (iEQ (a := (0 : Int32)) (b := (3 : Int32)) (by decide : (0 : Int32).toInt = 0) (by decide : (3 : Int32).toInt = 3)).mpr c8
        refine t_bindE (tfX9_digit I4 hI4) (fun r15 er15 pr15 => ?_)
        obtain ⟨br15_0, hr15_1⟩ := (show ((-49) ≤ r15.1.toInt ∧ r15.1.toInt ≤ 207) ∧ MI false I0 r15.2 from pr15)
        unfold bX9_readStep_99
        refine t_wI (lo := (-2147483648)) (hi := 2147483647) hr15_1 rfl (fun _ _ => rfl) (tA rfl (by decide : (1 : Int32).toInt = 1) (by omega) (by omega)) (by omega) (by omega) (tTop _) (fun I6 eI6 hI6 => ?_)
        refine t_bindE (tlX9_readStep_103 v1 (by omega) ((0 : Int32), I6) ⟨(by show (0 ≤ ((0 : Int32)).toInt ∧ ((0 : Int32)).toInt ≤ 2147483647); decide), hI6⟩) (fun w8 ew8 pw8 => ?_)
        have hw8_0 : MI false I0 w8 := pw8
        refine t_ite (fun c9 => ?_) (fun c9 => ?_)
        · have c9i := (iLE (a := (0 : Int32)) (b := (1 : Int32)) (by decide : (0 : Int32).toInt = 0) (by decide : (1 : Int32).toInt = 1)).mp c9
          refine t_bindE (tfX9_must (58 : Int32) w8 hw8_0 (by decide)) (fun r9 er9 pr9 => ?_)
          have hr9_0 : MI false I0 r9 := pr9
          have q10 := hr9_0.at (k := 62) (j := 4) (lo := (-1)) (hi := 400) rfl
          refine t_ite (fun c11 => ?_) (fun c11 => ?_)
          · have c11i := (iEQ (a := r9 62 4) (b := ((-1) : Int32)) rfl (by decide : ((-1) : Int32).toInt = (-1))).mp c11
            unfold bX9_readStep_152
            refine t_bindE (tlX9_readStep_157 v1 (by omega) ((1 : Int32), (0 : Int32), r9) ⟨(by show (0 ≤ ((0 : Int32)).toInt ∧ ((0 : Int32)).toInt ≤ 2147483647); decide), hr9_0⟩) (fun w14 ew14 pw14 => ?_)
            have hw14_0 : MI false I0 w14 := pw14
            exact t_ret hw14_0
          · have c11i := mt (iEQ (a := r9 62 4) (b := ((-1) : Int32)) rfl (by decide : ((-1) : Int32).toInt = (-1))).mpr c11
            unfold bX9_readStep_152
            refine t_bindE (tlX9_readStep_157 v1 (by omega) ((0 : Int32), (0 : Int32), r9) ⟨(by show (0 ≤ ((0 : Int32)).toInt ∧ ((0 : Int32)).toInt ≤ 2147483647); decide), hr9_0⟩) (fun w14 ew14 pw14 => ?_)
            have hw14_0 : MI false I0 w14 := pw14
            exact t_ret hw14_0
        · have c9i := mt (iLE (a := (0 : Int32)) (b := (1 : Int32)) (by decide : (0 : Int32).toInt = 0) (by decide : (1 : Int32).toInt = 1)).mpr c9
          omega
  · have c6i := mt (iEQ (a := r1.1) (b := (112 : Int32)) rfl (by decide : (112 : Int32).toInt = 112)).mpr c6
    refine t_ite (fun c12 => ?_) (fun c12 => ?_)
    · have c12i := (iEQ (a := r1.1) (b := (116 : Int32)) rfl (by decide : (116 : Int32).toInt = 116)).mp c12
      unfold bX9_readStep_46
      refine t_ite (fun c13 => ?_) (fun c13 => ?_)
      · have c13i := (iEQ (a := (1 : Int32)) (b := ((-1) : Int32)) (by decide : (1 : Int32).toInt = 1) (by decide : ((-1) : Int32).toInt = (-1))).mp c13
        omega
      · have c13i := mt (iEQ (a := (1 : Int32)) (b := ((-1) : Int32)) (by decide : (1 : Int32).toInt = 1) (by decide : ((-1) : Int32).toInt = (-1))).mpr c13
        refine t_pU (lo := 0) (hi := 400) hr1_1 rfl rfl (by have q := ((tA rfl (by decide : (1 : Int32).toInt = 1) (by omega) (by omega)) : ((r1.2 62 3) + 1).toInt = ((r1.2 62 3).toInt + 1)); omega) (fun I3 eI3 hI3 => ?_)
        refine t_wI (lo := (-2147483648)) (hi := 2147483647) hI3 rfl (fun _ _ => rfl) rfl (by omega) (by omega) (tTop _) (fun I4 eI4 hI4 => ?_)
        refine t_ite (fun c14 => ?_) (fun c14 => ?_)
        · have c14i := (iEQ (a := (1 : Int32)) (b := (3 : Int32)) (by decide : (1 : Int32).toInt = 1) (by decide : (3 : Int32).toInt = 3)).mp c14
          omega
        · have c14i := mt (iEQ (a := (1 : Int32)) (b := (3 : Int32)) (by decide : (1 : Int32).toInt = 1) (by decide : (3 : Int32).toInt = 3)).mpr c14
          refine t_bindE (tfX9_digit I4 hI4) (fun r15 er15 pr15 => ?_)
          obtain ⟨br15_0, hr15_1⟩ := (show ((-49) ≤ r15.1.toInt ∧ r15.1.toInt ≤ 207) ∧ MI false I0 r15.2 from pr15)
          unfold bX9_readStep_99
          refine t_wI (lo := (-2147483648)) (hi := 2147483647) hr15_1 rfl (fun _ _ => rfl) (tA rfl (by decide : (1 : Int32).toInt = 1) (by omega) (by omega)) (by omega) (by omega) (tTop _) (fun I6 eI6 hI6 => ?_)
          refine t_bindE (tlX9_readStep_103 v1 (by omega) ((0 : Int32), I6) ⟨(by show (0 ≤ ((0 : Int32)).toInt ∧ ((0 : Int32)).toInt ≤ 2147483647); decide), hI6⟩) (fun w8 ew8 pw8 => ?_)
          have hw8_0 : MI false I0 w8 := pw8
          refine t_ite (fun c15 => ?_) (fun c15 => ?_)
          · have c15i := (iLE (a := (1 : Int32)) (b := (1 : Int32)) (by decide : (1 : Int32).toInt = 1) (by decide : (1 : Int32).toInt = 1)).mp c15
            refine t_bindE (tfX9_must (58 : Int32) w8 hw8_0 (by decide)) (fun r9 er9 pr9 => ?_)
            have hr9_0 : MI false I0 r9 := pr9
            have q16 := hr9_0.at (k := 62) (j := 4) (lo := (-1)) (hi := 400) rfl
            refine t_ite (fun c17 => ?_) (fun c17 => ?_)
            · have c17i := (iEQ (a := r9 62 4) (b := ((-1) : Int32)) rfl (by decide : ((-1) : Int32).toInt = (-1))).mp c17
              unfold bX9_readStep_152
              refine t_bindE (tlX9_readStep_157 v1 (by omega) ((1 : Int32), (0 : Int32), r9) ⟨(by show (0 ≤ ((0 : Int32)).toInt ∧ ((0 : Int32)).toInt ≤ 2147483647); decide), hr9_0⟩) (fun w14 ew14 pw14 => ?_)
              have hw14_0 : MI false I0 w14 := pw14
              exact t_ret hw14_0
            · have c17i := mt (iEQ (a := r9 62 4) (b := ((-1) : Int32)) rfl (by decide : ((-1) : Int32).toInt = (-1))).mpr c17
              unfold bX9_readStep_152
              refine t_bindE (tlX9_readStep_157 v1 (by omega) ((0 : Int32), (0 : Int32), r9) ⟨(by show (0 ≤ ((0 : Int32)).toInt ∧ ((0 : Int32)).toInt ≤ 2147483647); decide), hr9_0⟩) (fun w14 ew14 pw14 => ?_)
              have hw14_0 : MI false I0 w14 := pw14
              exact t_ret hw14_0
          · have c15i := mt (iLE (a := (1 : Int32)) (b := (1 : Int32)) (by decide : (1 : Int32).toInt = 1) (by decide : (1 : Int32).toInt = 1)).mpr c15
            omega
    · have c12i := mt (iEQ (a := r1.1) (b := (116 : Int32)) rfl (by decide : (116 : Int32).toInt = 116)).mpr c12
      refine t_ite (fun c18 => ?_) (fun c18 => ?_)
      · have c18i := (iEQ (a := r1.1) (b := (117 : Int32)) rfl (by decide : (117 : Int32).toInt = 117)).mp c18
        unfold bX9_readStep_46
        refine t_ite (fun c19 => ?_) (fun c19 => ?_)
        · have c19i := (iEQ (a := (2 : Int32)) (b := ((-1) : Int32)) (by decide : (2 : Int32).toInt = 2) (by decide : ((-1) : Int32).toInt = (-1))).mp c19
          omega
        · have c19i := mt (iEQ (a := (2 : Int32)) (b := ((-1) : Int32)) (by decide : (2 : Int32).toInt = 2) (by decide : ((-1) : Int32).toInt = (-1))).mpr c19
          refine t_pU (lo := 0) (hi := 400) hr1_1 rfl rfl (by have q := ((tA rfl (by decide : (1 : Int32).toInt = 1) (by omega) (by omega)) : ((r1.2 62 3) + 1).toInt = ((r1.2 62 3).toInt + 1)); omega) (fun I3 eI3 hI3 => ?_)
          refine t_wI (lo := (-2147483648)) (hi := 2147483647) hI3 rfl (fun _ _ => rfl) rfl (by omega) (by omega) (tTop _) (fun I4 eI4 hI4 => ?_)
          refine t_ite (fun c20 => ?_) (fun c20 => ?_)
          · have c20i := (iEQ (a := (2 : Int32)) (b := (3 : Int32)) (by decide : (2 : Int32).toInt = 2) (by decide : (3 : Int32).toInt = 3)).mp c20
            omega
          · have c20i := mt (iEQ (a := (2 : Int32)) (b := (3 : Int32)) (by decide : (2 : Int32).toInt = 2) (by decide : (3 : Int32).toInt = 3)).mpr c20
            refine t_bindE (tfX9_digit I4 hI4) (fun r15 er15 pr15 => ?_)
            obtain ⟨br15_0, hr15_1⟩ := (show ((-49) ≤ r15.1.toInt ∧ r15.1.toInt ≤ 207) ∧ MI false I0 r15.2 from pr15)
            unfold bX9_readStep_99
            refine t_wI (lo := (-2147483648)) (hi := 2147483647) hr15_1 rfl (fun _ _ => rfl) (tA rfl (by decide : (1 : Int32).toInt = 1) (by omega) (by omega)) (by omega) (by omega) (tTop _) (fun I6 eI6 hI6 => ?_)
            refine t_bindE (tlX9_readStep_103 v1 (by omega) ((0 : Int32), I6) ⟨(by show (0 ≤ ((0 : Int32)).toInt ∧ ((0 : Int32)).toInt ≤ 2147483647); decide), hI6⟩) (fun w8 ew8 pw8 => ?_)
            have hw8_0 : MI false I0 w8 := pw8
            refine t_ite (fun c21 => ?_) (fun c21 => ?_)
            · have c21i := (iLE (a := (2 : Int32)) (b := (1 : Int32)) (by decide : (2 : Int32).toInt = 2) (by decide : (1 : Int32).toInt = 1)).mp c21
              omega
            · have c21i := mt (iLE (a := (2 : Int32)) (b := (1 : Int32)) (by decide : (2 : Int32).toInt = 2) (by decide : (1 : Int32).toInt = 1)).mpr c21
              exact t_ret hw8_0
      · have c18i := mt (iEQ (a := r1.1) (b := (117 : Int32)) rfl (by decide : (117 : Int32).toInt = 117)).mpr c18
        refine t_ite (fun c22 => ?_) (fun c22 => ?_)
        · have c22i := (iEQ (a := r1.1) (b := (111 : Int32)) rfl (by decide : (111 : Int32).toInt = 111)).mp c22
          unfold bX9_readStep_46
          refine t_ite (fun c23 => ?_) (fun c23 => ?_)
          · have c23i := (iEQ (a := (3 : Int32)) (b := ((-1) : Int32)) (by decide : (3 : Int32).toInt = 3) (by decide : ((-1) : Int32).toInt = (-1))).mp c23
            omega
          · have c23i := mt (iEQ (a := (3 : Int32)) (b := ((-1) : Int32)) (by decide : (3 : Int32).toInt = 3) (by decide : ((-1) : Int32).toInt = (-1))).mpr c23
            refine t_pU (lo := 0) (hi := 400) hr1_1 rfl rfl (by have q := ((tA rfl (by decide : (1 : Int32).toInt = 1) (by omega) (by omega)) : ((r1.2 62 3) + 1).toInt = ((r1.2 62 3).toInt + 1)); omega) (fun I3 eI3 hI3 => ?_)
            refine t_wI (lo := (-2147483648)) (hi := 2147483647) hI3 rfl (fun _ _ => rfl) rfl (by omega) (by omega) (tTop _) (fun I4 eI4 hI4 => ?_)
            refine t_ite (fun c24 => ?_) (fun c24 => ?_)
            · have c24i := (iEQ (a := (3 : Int32)) (b := (3 : Int32)) (by decide : (3 : Int32).toInt = 3) (by decide : (3 : Int32).toInt = 3)).mp c24
              refine t_bindE (tfX9_number (23 : Int32) I4 hI4 (by decide)) (fun r5 er5 pr5 => ?_)
              obtain ⟨br5_0, hr5_1⟩ := (show (0 ≤ r5.1.toInt ∧ r5.1.toInt ≤ 99) ∧ MI false I0 r5.2 from pr5)
              unfold bX9_readStep_99
              refine t_wI (lo := (-2147483648)) (hi := 2147483647) hr5_1 rfl (fun _ _ => rfl) (tA rfl (by decide : (1 : Int32).toInt = 1) (by omega) (by omega)) (by omega) (by omega) (tTop _) (fun I6 eI6 hI6 => ?_)
              refine t_bindE (tlX9_readStep_103 v1 (by omega) ((0 : Int32), I6) ⟨(by show (0 ≤ ((0 : Int32)).toInt ∧ ((0 : Int32)).toInt ≤ 2147483647); decide), hI6⟩) (fun w8 ew8 pw8 => ?_)
              have hw8_0 : MI false I0 w8 := pw8
              refine t_ite (fun c25 => ?_) (fun c25 => ?_)
              · have c25i := (iLE (a := (3 : Int32)) (b := (1 : Int32)) (by decide : (3 : Int32).toInt = 3) (by decide : (1 : Int32).toInt = 1)).mp c25
                omega
              · have c25i := mt (iLE (a := (3 : Int32)) (b := (1 : Int32)) (by decide : (3 : Int32).toInt = 3) (by decide : (1 : Int32).toInt = 1)).mpr c25
                exact t_ret hw8_0
            · have c24i := mt (iEQ (a := (3 : Int32)) (b := (3 : Int32)) (by decide : (3 : Int32).toInt = 3) (by decide : (3 : Int32).toInt = 3)).mpr c24
              omega
        · have c22i := mt (iEQ (a := r1.1) (b := (111 : Int32)) rfl (by decide : (111 : Int32).toInt = 111)).mpr c22
          unfold bX9_readStep_46
          refine t_ite (fun c26 => ?_) (fun c26 => ?_)
          · have c26i := (iEQ (a := ((-1) : Int32)) (b := ((-1) : Int32)) (by decide : ((-1) : Int32).toInt = (-1)) (by decide : ((-1) : Int32).toInt = (-1))).mp c26
            refine t_bindE (tfX9_bad r1.2 hr1_1) (fun r2 er2 pr2 => ?_)
            obtain ⟨hr2_0, xr2_0, xr2_1⟩ := (show MI false I0 r2 ∧ (0 ≤ (r2 62 4).toInt) ∧ ((r2 62 3).toInt = (r1.2 62 3).toInt) from pr2)
            have q27 := hr2_0.at (k := 62) (j := 4) (lo := (-1)) (hi := 400) rfl
            have q28 := hr2_0.at (k := 62) (j := 3) (lo := 0) (hi := 400) rfl
            have q29 : (r2 62 3).toInt = (r1.2 62 3).toInt := congrArg Int32.toInt (show r2 62 3 = r1.2 62 3 from xfX9_bad r1.2 er2 62 3 (Or.inr (by decide)))
            exact t_ret hr2_0
          · have c26i := mt (iEQ (a := ((-1) : Int32)) (b := ((-1) : Int32)) (by decide : ((-1) : Int32).toInt = (-1)) (by decide : ((-1) : Int32).toInt = (-1))).mpr c26
            omega
set_option maxRecDepth 100000 in
set_option maxHeartbeats 1000000 in
theorem tlX9_readScript_13 {I0 : gM} (v1 : Int32) (av1 : 0 ≤ v1.toInt ∧ v1.toInt ≤ 4) (s : (Int32 × gM)) (hP : (0 ≤ (s.1).toInt ∧ (s.1).toInt ≤ 1) ∧ MI false I0 s.2 ∧ (s.1.toInt = 0 ∨ (s.2 69 (v1.toInt).toNat).toInt ≤ 11)) : T (lX9_readScript_13 v1 s) (fun r : gM => MI false I0 r) := by
  unfold lX9_readScript_13
  refine t_it (P := fun s : (Int32 × gM) => (0 ≤ (s.1).toInt ∧ (s.1).toInt ≤ 1) ∧ MI false I0 s.2 ∧ (s.1.toInt = 0 ∨ (s.2 69 (v1.toInt).toNat).toInt ≤ 11)) (μ := fun s : (Int32 × gM) => (13 - (s.2 69 (v1.toInt).toNat).toInt).toNat) (fun s p => ?_) hP
  obtain ⟨b0, hs, x2⟩ := p
  refine t_ite (fun c1 => ?_) (fun c1 => ?_)
  · have c1i := (iEQ (a := s.1) (b := (0 : Int32)) rfl (by decide : (0 : Int32).toInt = 0)).mp c1
    exact t_ret (show MI false I0 s.2 from hs)
  · have c1i := mt (iEQ (a := s.1) (b := (0 : Int32)) rfl (by decide : (0 : Int32).toInt = 0)).mpr c1
    refine t_rI (lo := 0) (hi := 12) hs (fun _ _ => rfl) rfl (by omega) (by omega) (fun u3 eu3 bu3 => ?_)
    have q2 : u3.toInt = (s.2 69 (v1.toInt).toNat).toInt := by rw [eu3]
    refine t_bindE (tfX9_readStep ((5 : Int32) * (((12 : Int32) * v1) + u3)) s.2 hs (by have q := ((tM (by decide : (5 : Int32).toInt = 5) (tA (tM (by decide : (12 : Int32).toInt = 12) rfl (by omega) (by omega)) rfl (by omega) (by omega)) (by omega) (by omega)) : ((5 : Int32) * (((12 : Int32) * v1) + u3)).toInt = (5 * ((12 * v1.toInt) + u3.toInt))); omega)) (fun r4 er4 pr4 => ?_)
    have hr4_0 : MI false I0 r4 := pr4
    refine t_rI (lo := 0) (hi := 12) hr4_0 (fun _ _ => rfl) rfl (by omega) (by omega) (fun u5 eu5 bu5 => ?_)
    have q3 : u5.toInt = (r4 69 (v1.toInt).toNat).toInt := by rw [eu5]
    have q4 : (r4 69 (v1.toInt).toNat).toInt = (s.2 69 (v1.toInt).toNat).toInt := congrArg (fun g : Nat → Int32 => (g (v1.toInt).toNat).toInt) (show r4 69 = s.2 69 from zfX9_readStep ((5 : Int32) * (((12 : Int32) * v1) + u3)) s.2 er4 69 (by decide) (by decide))
    refine t_wI (lo := 0) (hi := 12) hr4_0 rfl (fun _ _ => rfl) rfl (by omega) (by omega) (by have q := ((tA rfl (by decide : (1 : Int32).toInt = 1) (by omega) (by omega)) : (u5 + 1).toInt = (u5.toInt + 1)); omega) (fun I6 eI6 hI6 => ?_)
    have q5 := hI6.at (k := 62) (j := 4) (lo := (-1)) (hi := 400) rfl
    have q6 := hr4_0.at (k := 62) (j := 4) (lo := (-1)) (hi := 400) rfl
    have q7 : (I6 62 4).toInt = (r4 62 4).toInt := by rw [eI6, g_up_row (by decide)]
    refine t_ite (fun c8 => ?_) (fun c8 => ?_)
    · have c8i := (iEQ (a := I6 62 4) (b := ((-1) : Int32)) rfl (by decide : ((-1) : Int32).toInt = (-1))).mp c8
      refine t_bindE (tfX9_ahead I6 hI6) (fun r7 er7 pr7 => ?_)
      obtain ⟨br7_0, hr7_1, xr7_0, xr7_1, xr7_2, yr7_0⟩ := (show ((-1) ≤ r7.1.toInt ∧ r7.1.toInt ≤ 255) ∧ MI false I0 r7.2 ∧ (r7.1.toInt = (-1) ∨ (r7.2 62 3).toInt < 400) ∧ ((r7.2 62 4).toInt = (I6 62 4).toInt) ∧ ((I6 62 3).toInt ≤ (r7.2 62 3).toInt) ∧ (fX9_here r7.2 = some r7.1) from pr7)
      have q9 := hr7_1.at (k := 62) (j := 3) (lo := 0) (hi := 400) rfl
      have q10 := hr7_1.at (k := 62) (j := 4) (lo := (-1)) (hi := 400) rfl
      have q11 : (r7.2 62 4).toInt = (I6 62 4).toInt := congrArg Int32.toInt (show r7.2 62 4 = I6 62 4 from xfX9_ahead I6 er7 62 4 (Or.inr (by decide)))
      have q12 := hI6.at (k := 62) (j := 3) (lo := 0) (hi := 400) rfl
      have q13 := hr4_0.at (k := 62) (j := 3) (lo := 0) (hi := 400) rfl
      have q14 : (I6 62 3).toInt = (r4 62 3).toInt := by rw [eI6, g_up_row (by decide)]
      refine t_ite (fun c15 => ?_) (fun c15 => ?_)
      · have c15i := (iEQ (a := r7.1) (b := (59 : Int32)) rfl (by decide : (59 : Int32).toInt = 59)).mp c15
        refine t_rI (lo := 0) (hi := 12) hr7_1 (fun _ _ => rfl) rfl (by omega) (by omega) (fun u8 eu8 bu8 => ?_)
        have q16 : u8.toInt = (r7.2 69 (v1.toInt).toNat).toInt := by rw [eu8]
        have q17 : (r7.2 69 (v1.toInt).toNat).toInt = (I6 69 (v1.toInt).toNat).toInt := congrArg (fun g : Nat → Int32 => (g (v1.toInt).toNat).toInt) (show r7.2 69 = I6 69 from zfX9_ahead I6 er7 69 (by decide))
        have q18 : (I6 69 (v1.toInt).toNat).toInt = (u5.toInt + 1) := by rw [eI6, g_up_self]; exact (tA rfl (by decide : (1 : Int32).toInt = 1) (by omega) (by omega))
        refine t_ite (fun c19 => ?_) (fun c19 => ?_)
        · have c19i := (iLE (a := (12 : Int32)) (b := u8) (by decide : (12 : Int32).toInt = 12) rfl).mp c19
          unfold bX9_readScript_76
          unfold bX9_readScript_77
          refine t_ite (fun c20 => ?_) (fun c20 => ?_)
          · have c20i := (iEQ (a := (0 : Int32)) (b := (0 : Int32)) (by decide : (0 : Int32).toInt = 0) (by decide : (0 : Int32).toInt = 0)).mp c20
            unfold bX9_readScript_92
            refine t_pU (lo := 0) (hi := 400) hr7_1 rfl rfl (by have q := ((tA rfl (by decide : (0 : Int32).toInt = 0) (by omega) (by omega)) : ((r7.2 62 3) + (0 : Int32)).toInt = ((r7.2 62 3).toInt + 0)); omega) (fun I9 eI9 hI9 => ?_)
            have q21 : (I9 69 (v1.toInt).toNat).toInt = (r7.2 69 (v1.toInt).toNat).toInt := congrArg (fun g : Nat → Int32 => (g (v1.toInt).toNat).toInt) (show I9 69 = r7.2 69 from by rw [eI9]; exact g_up_row (by decide))
            have m0 : (0 : Int32).toInt = 0 := (by decide)
            have mm : (13 - (I9 69 (v1.toInt).toNat).toInt).toNat < (13 - (s.2 69 (v1.toInt).toNat).toInt).toNat := by omega
            have pp : (0 ≤ ((0 : Int32)).toInt ∧ ((0 : Int32)).toInt ≤ 1) ∧ MI false I0 I9 ∧ ((0 : Int32).toInt = 0 ∨ (I9 69 (v1.toInt).toNat).toInt ≤ 11) := ⟨(by show (0 ≤ ((0 : Int32)).toInt ∧ ((0 : Int32)).toInt ≤ 1); decide), hI9, (by show ((0 : Int32).toInt = 0 ∨ (I9 69 (v1.toInt).toNat).toInt ≤ 11); have q0 : (0 : Int32).toInt = 0 := (by decide); omega)⟩
            exact t_ret ⟨pp, mm⟩
          · have c20i := mt (iEQ (a := (0 : Int32)) (b := (0 : Int32)) (by decide : (0 : Int32).toInt = 0) (by decide : (0 : Int32).toInt = 0)).mpr c20
            omega
        · have c19i := mt (iLE (a := (12 : Int32)) (b := u8) (by decide : (12 : Int32).toInt = 12) rfl).mpr c19
          unfold bX9_readScript_77
          refine t_ite (fun c22 => ?_) (fun c22 => ?_)
          · have c22i := (iEQ (a := (1 : Int32)) (b := (0 : Int32)) (by decide : (1 : Int32).toInt = 1) (by decide : (0 : Int32).toInt = 0)).mp c22
            omega
          · have c22i := mt (iEQ (a := (1 : Int32)) (b := (0 : Int32)) (by decide : (1 : Int32).toInt = 1) (by decide : (0 : Int32).toInt = 0)).mpr c22
            unfold bX9_readScript_92
            refine t_pU (lo := 0) (hi := 400) hr7_1 rfl rfl (by have q := ((tA rfl (by decide : (1 : Int32).toInt = 1) (by omega) (by omega)) : ((r7.2 62 3) + (1 : Int32)).toInt = ((r7.2 62 3).toInt + 1)); omega) (fun I9 eI9 hI9 => ?_)
            have q23 : (I9 69 (v1.toInt).toNat).toInt = (r7.2 69 (v1.toInt).toNat).toInt := congrArg (fun g : Nat → Int32 => (g (v1.toInt).toNat).toInt) (show I9 69 = r7.2 69 from by rw [eI9]; exact g_up_row (by decide))
            have m0 : (1 : Int32).toInt = 1 := (by decide)
            have mm : (13 - (I9 69 (v1.toInt).toNat).toInt).toNat < (13 - (s.2 69 (v1.toInt).toNat).toInt).toNat := by omega
            have pp : (0 ≤ ((1 : Int32)).toInt ∧ ((1 : Int32)).toInt ≤ 1) ∧ MI false I0 I9 ∧ ((1 : Int32).toInt = 0 ∨ (I9 69 (v1.toInt).toNat).toInt ≤ 11) := ⟨(by show (0 ≤ ((1 : Int32)).toInt ∧ ((1 : Int32)).toInt ≤ 1); decide), hI9, (by show ((1 : Int32).toInt = 0 ∨ (I9 69 (v1.toInt).toNat).toInt ≤ 11); have q0 : (1 : Int32).toInt = 1 := (by decide); omega)⟩
            exact t_ret ⟨pp, mm⟩
      · have c15i := mt (iEQ (a := r7.1) (b := (59 : Int32)) rfl (by decide : (59 : Int32).toInt = 59)).mpr c15
        unfold bX9_readScript_76
        unfold bX9_readScript_77
        refine t_ite (fun c24 => ?_) (fun c24 => ?_)
        · have c24i := (iEQ (a := (0 : Int32)) (b := (0 : Int32)) (by decide : (0 : Int32).toInt = 0) (by decide : (0 : Int32).toInt = 0)).mp c24
          unfold bX9_readScript_92
          refine t_pU (lo := 0) (hi := 400) hr7_1 rfl rfl (by have q := ((tA rfl (by decide : (0 : Int32).toInt = 0) (by omega) (by omega)) : ((r7.2 62 3) + (0 : Int32)).toInt = ((r7.2 62 3).toInt + 0)); omega) (fun I9 eI9 hI9 => ?_)
          have q25 : (I9 69 (v1.toInt).toNat).toInt = (r7.2 69 (v1.toInt).toNat).toInt := congrArg (fun g : Nat → Int32 => (g (v1.toInt).toNat).toInt) (show I9 69 = r7.2 69 from by rw [eI9]; exact g_up_row (by decide))
          have q26 : (r7.2 69 (v1.toInt).toNat).toInt = (I6 69 (v1.toInt).toNat).toInt := congrArg (fun g : Nat → Int32 => (g (v1.toInt).toNat).toInt) (show r7.2 69 = I6 69 from zfX9_ahead I6 er7 69 (by decide))
          have q27 : (I6 69 (v1.toInt).toNat).toInt = (u5.toInt + 1) := by rw [eI6, g_up_self]; exact (tA rfl (by decide : (1 : Int32).toInt = 1) (by omega) (by omega))
          have m0 : (0 : Int32).toInt = 0 := (by decide)
          have mm : (13 - (I9 69 (v1.toInt).toNat).toInt).toNat < (13 - (s.2 69 (v1.toInt).toNat).toInt).toNat := by omega
          have pp : (0 ≤ ((0 : Int32)).toInt ∧ ((0 : Int32)).toInt ≤ 1) ∧ MI false I0 I9 ∧ ((0 : Int32).toInt = 0 ∨ (I9 69 (v1.toInt).toNat).toInt ≤ 11) := ⟨(by show (0 ≤ ((0 : Int32)).toInt ∧ ((0 : Int32)).toInt ≤ 1); decide), hI9, (by show ((0 : Int32).toInt = 0 ∨ (I9 69 (v1.toInt).toNat).toInt ≤ 11); have q0 : (0 : Int32).toInt = 0 := (by decide); omega)⟩
          exact t_ret ⟨pp, mm⟩
        · have c24i := mt (iEQ (a := (0 : Int32)) (b := (0 : Int32)) (by decide : (0 : Int32).toInt = 0) (by decide : (0 : Int32).toInt = 0)).mpr c24
          omega
    · have c8i := mt (iEQ (a := I6 62 4) (b := ((-1) : Int32)) rfl (by decide : ((-1) : Int32).toInt = (-1))).mpr c8
      unfold bX9_readScript_76
      unfold bX9_readScript_77
      refine t_ite (fun c28 => ?_) (fun c28 => ?_)
      · have c28i := (iEQ (a := (0 : Int32)) (b := (0 : Int32)) (by decide : (0 : Int32).toInt = 0) (by decide : (0 : Int32).toInt = 0)).mp c28
        unfold bX9_readScript_92
        have q29 := hI6.at (k := 62) (j := 3) (lo := 0) (hi := 400) rfl
        have q30 := hr4_0.at (k := 62) (j := 3) (lo := 0) (hi := 400) rfl
        have q31 : (I6 62 3).toInt = (r4 62 3).toInt := by rw [eI6, g_up_row (by decide)]
        refine t_pU (lo := 0) (hi := 400) hI6 rfl rfl (by have q := ((tA rfl (by decide : (0 : Int32).toInt = 0) (by omega) (by omega)) : ((I6 62 3) + (0 : Int32)).toInt = ((I6 62 3).toInt + 0)); omega) (fun I9 eI9 hI9 => ?_)
        have q32 : (I9 69 (v1.toInt).toNat).toInt = (I6 69 (v1.toInt).toNat).toInt := congrArg (fun g : Nat → Int32 => (g (v1.toInt).toNat).toInt) (show I9 69 = I6 69 from by rw [eI9]; exact g_up_row (by decide))
        have q33 : (I6 69 (v1.toInt).toNat).toInt = (u5.toInt + 1) := by rw [eI6, g_up_self]; exact (tA rfl (by decide : (1 : Int32).toInt = 1) (by omega) (by omega))
        have m0 : (0 : Int32).toInt = 0 := (by decide)
        have mm : (13 - (I9 69 (v1.toInt).toNat).toInt).toNat < (13 - (s.2 69 (v1.toInt).toNat).toInt).toNat := by omega
        have pp : (0 ≤ ((0 : Int32)).toInt ∧ ((0 : Int32)).toInt ≤ 1) ∧ MI false I0 I9 ∧ ((0 : Int32).toInt = 0 ∨ (I9 69 (v1.toInt).toNat).toInt ≤ 11) := ⟨(by show (0 ≤ ((0 : Int32)).toInt ∧ ((0 : Int32)).toInt ≤ 1); decide), hI9, (by show ((0 : Int32).toInt = 0 ∨ (I9 69 (v1.toInt).toNat).toInt ≤ 11); have q0 : (0 : Int32).toInt = 0 := (by decide); omega)⟩
        exact t_ret ⟨pp, mm⟩
      · have c28i := mt (iEQ (a := (0 : Int32)) (b := (0 : Int32)) (by decide : (0 : Int32).toInt = 0) (by decide : (0 : Int32).toInt = 0)).mpr c28
        omega
set_option maxRecDepth 100000 in
set_option maxHeartbeats 1000000 in
theorem tfX9_readScript {I0 : gM} (v1 : Int32) (I : gM) (hM : MI false I0 I) (av1 : 0 ≤ v1.toInt ∧ v1.toInt ≤ 4) : T (fX9_readScript v1 I) (fun r => ((-1) ≤ r.1.toInt ∧ r.1.toInt ≤ 400) ∧ MI false I0 r.2) := by
  unfold fX9_readScript
  refine t_bindE (tfX9_begins I hM) (fun r1 er1 pr1 => ?_)
  have hr1_0 : MI false I0 r1 := pr1
  refine t_wI (lo := 0) (hi := 12) hr1_0 rfl (fun _ _ => rfl) rfl (by omega) (by omega) (by decide) (fun I2 eI2 hI2 => ?_)
  have q1 : (I2 69 (v1.toInt).toNat).toInt = 0 := by rw [eI2, g_up_self]; exact (by decide : (0 : Int32).toInt = 0)
  refine t_bindE (tlX9_readScript_13 v1 (by omega) ((1 : Int32), I2) ⟨(by show (0 ≤ ((1 : Int32)).toInt ∧ ((1 : Int32)).toInt ≤ 1); decide), hI2, (by show ((1 : Int32).toInt = 0 ∨ (I2 69 (v1.toInt).toNat).toInt ≤ 11); have q0 : (1 : Int32).toInt = 1 := (by decide); omega)⟩) (fun w10 ew10 pw10 => ?_)
  have hw10_0 : MI false I0 w10 := pw10
  refine t_bindE (tfX9_ends w10 hw10_0) (fun r11 er11 pr11 => ?_)
  obtain ⟨br11_0, hr11_1⟩ := (show ((-1) ≤ r11.1.toInt ∧ r11.1.toInt ≤ 400) ∧ MI false I0 r11.2 from pr11)
  exact t_ret ⟨(by show (-1) ≤ (r11.1).toInt ∧ (r11.1).toInt ≤ 400; omega), hr11_1⟩
set_option maxRecDepth 100000 in
set_option maxHeartbeats 1000000 in
theorem tfX9_fault {I0 : gM} (v1 : Int32) (I : gM) (hM : MI false I0 I) : T (fX9_fault v1 I) (fun r => ((-2) ≤ r.1.toInt ∧ r.1.toInt ≤ 400) ∧ MI false I0 r.2) := by
  unfold fX9_fault
  refine t_ite (fun c1 => ?_) (fun c1 => ?_)
  · have c1i := (iEQ (a := v1) (b := (0 : Int32)) rfl (by decide : (0 : Int32).toInt = 0)).mp c1
    refine t_bindE (tfX9_readAll I hM) (fun r1 er1 pr1 => ?_)
    obtain ⟨br1_0, hr1_1⟩ := (show ((-1) ≤ r1.1.toInt ∧ r1.1.toInt ≤ 400) ∧ MI false I0 r1.2 from pr1)
    exact t_ret ⟨(by show (-2) ≤ (r1.1).toInt ∧ (r1.1).toInt ≤ 400; omega), hr1_1⟩
  · have c1i := mt (iEQ (a := v1) (b := (0 : Int32)) rfl (by decide : (0 : Int32).toInt = 0)).mpr c1
    refine t_ite (fun c2 => ?_) (fun c2 => ?_)
    · have c2i := (iEQ (a := v1) (b := (1 : Int32)) rfl (by decide : (1 : Int32).toInt = 1)).mp c2
      refine t_bindE (tfX9_readScript (4 : Int32) I hM (by decide)) (fun r2 er2 pr2 => ?_)
      obtain ⟨br2_0, hr2_1⟩ := (show ((-1) ≤ r2.1.toInt ∧ r2.1.toInt ≤ 400) ∧ MI false I0 r2.2 from pr2)
      exact t_ret ⟨(by show (-2) ≤ (r2.1).toInt ∧ (r2.1).toInt ≤ 400; omega), hr2_1⟩
    · have c2i := mt (iEQ (a := v1) (b := (1 : Int32)) rfl (by decide : (1 : Int32).toInt = 1)).mpr c2
      exact t_ret ⟨(by show (-2) ≤ (((-2) : Int32)).toInt ∧ (((-2) : Int32)).toInt ≤ 400; decide), hM⟩
set_option maxRecDepth 100000 in
set_option maxHeartbeats 1000000 in
theorem tfX9_areTables {I0 : gM} (I : gM) (hM : MI false I0 I) : T (fX9_areTables I) (fun r => (0 ≤ r.toInt ∧ r.toInt ≤ 1)) := by
  unfold fX9_areTables
  have q1 := hM.at (k := 62) (j := 17) (lo := 0) (hi := 4) rfl
  refine t_ite (fun c2 => ?_) (fun c2 => ?_)
  · have c2i := (iLE (a := I 62 17) (b := (0 : Int32)) rfl (by decide : (0 : Int32).toInt = 0)).mp c2
    exact t_ret (by show 0 ≤ ((0 : Int32)).toInt ∧ ((0 : Int32)).toInt ≤ 1; decide)
  · have c2i := mt (iLE (a := I 62 17) (b := (0 : Int32)) rfl (by decide : (0 : Int32).toInt = 0)).mpr c2
    exact t_ret (by show 0 ≤ ((1 : Int32)).toInt ∧ ((1 : Int32)).toInt ≤ 1; decide)
set_option maxRecDepth 100000 in
set_option maxHeartbeats 1000000 in
theorem tfX9_isTable {I0 : gM} (v1 : Int32) (I : gM) (hM : MI false I0 I) : T (fX9_isTable v1 I) (fun r => (0 ≤ r.toInt ∧ r.toInt ≤ 1) ∧ (r.toInt = 0 ∨ (0 ≤ v1.toInt ∧ v1.toInt < (I 62 17).toInt))) := by
  unfold fX9_isTable
  have q1 := hM.at (k := 62) (j := 17) (lo := 0) (hi := 4) rfl
  refine t_bindE (tfX9_in v1 (0 : Int32) ((I 62 17) - 1)) (fun r1 er1 pr1 => ?_)
  obtain ⟨br1_0, xr1_0⟩ := (show (0 ≤ r1.toInt ∧ r1.toInt ≤ 1) ∧ (r1.toInt = 0 ∨ ((0 : Int32).toInt ≤ v1.toInt ∧ v1.toInt ≤ ((I 62 17) - 1).toInt)) from pr1)
  have q2 : (0 : Int32).toInt = 0 := by decide
  have q3 := ((tS rfl (by decide : (1 : Int32).toInt = 1) (by omega) (by omega)) : ((I 62 17) - 1).toInt = ((I 62 17).toInt - 1))
  refine t_bO (by omega) ?_
  exact t_ret ⟨(by show 0 ≤ (r1).toInt ∧ (r1).toInt ≤ 1; omega), (by show r1.toInt = 0 ∨ (0 ≤ v1.toInt ∧ v1.toInt < (I 62 17).toInt); skip; omega)⟩
set_option maxRecDepth 100000 in
set_option maxHeartbeats 1000000 in
theorem tfX9_isUsed {I0 : gM} (v1 : Int32) (I : gM) (hM : MI false I0 I) : T (fX9_isUsed v1 I) (fun r => (0 ≤ r.toInt ∧ r.toInt ≤ 1)) := by
  unfold fX9_isUsed
  refine t_rJ (lo := (-2147483648)) (hi := 2147483647) hM (by decide : (0 : Int32).toInt = 0) (by omega) (by omega) rfl (fun u1 eu1 bu1 => ?_)
  refine t_bindE (tfX9_has u1 v1) (fun r2 er2 pr2 => ?_)
  have br2_0 : (0 ≤ r2.toInt ∧ r2.toInt ≤ 1) := pr2
  refine t_bO (by omega) ?_
  exact t_ret (by show 0 ≤ (r2).toInt ∧ (r2).toInt ≤ 1; omega)
set_option maxRecDepth 100000 in
set_option maxHeartbeats 1000000 in
theorem tfX9_rowAt (v0 : Int32) (v1 : Int32) (av0 : 0 ≤ v0.toInt ∧ v0.toInt ≤ 3) (av1 : (-1) ≤ v1.toInt ∧ v1.toInt ≤ 12) : T (fX9_rowAt v0 v1) (fun r => (3 ≤ r.toInt ∧ r.toInt ≤ 150) ∧ (r.toInt = 6 + 3 * (12 * v0.toInt + v1.toInt))) := by
  unfold fX9_rowAt
  exact t_ret ⟨(by show 3 ≤ (((6 : Int32) + ((3 : Int32) * (((12 : Int32) * v0) + v1)))).toInt ∧ (((6 : Int32) + ((3 : Int32) * (((12 : Int32) * v0) + v1)))).toInt ≤ 150; have q := ((tA (by decide : (6 : Int32).toInt = 6) (tM (by decide : (3 : Int32).toInt = 3) (tA (tM (by decide : (12 : Int32).toInt = 12) rfl (by omega) (by omega)) rfl (by omega) (by omega)) (by omega) (by omega)) (by omega) (by omega)) : ((6 : Int32) + ((3 : Int32) * (((12 : Int32) * v0) + v1))).toInt = (6 + (3 * ((12 * v0.toInt) + v1.toInt)))); omega), (by show ((6 : Int32) + ((3 : Int32) * (((12 : Int32) * v0) + v1))).toInt = 6 + 3 * (12 * v0.toInt + v1.toInt); have q0 := ((tA (by decide : (6 : Int32).toInt = 6) (tM (by decide : (3 : Int32).toInt = 3) (tA (tM (by decide : (12 : Int32).toInt = 12) rfl (by omega) (by omega)) rfl (by omega) (by omega)) (by omega) (by omega)) (by omega) (by omega)) : ((6 : Int32) + ((3 : Int32) * (((12 : Int32) * v0) + v1))).toInt = (6 + (3 * ((12 * v0.toInt) + v1.toInt)))); omega)⟩
set_option maxRecDepth 100000 in
set_option maxHeartbeats 1000000 in
theorem tfX9_many {I0 : gM} (v1 : Int32) (I : gM) (hM : MI false I0 I) (av1 : 0 ≤ v1.toInt ∧ v1.toInt ≤ 3) : T (fX9_many v1 I) (fun r => (0 ≤ r.toInt ∧ r.toInt ≤ 12) ∧ (r.toInt = (I 70 (2 + v1.toInt).toNat).toInt)) := by
  unfold fX9_many
  refine t_rJ (lo := 0) (hi := 12) hM (tA (by decide : (2 : Int32).toInt = 2) rfl (by omega) (by omega)) (by omega) (by omega) (rgMany (by omega) (by omega)) (fun u1 eu1 bu1 => ?_)
  have q1 : u1.toInt = (I 70 ((2 + v1.toInt)).toNat).toInt := by rw [eu1]
  have q2 := hM.at (k := 70) (j := (2 + v1.toInt).toNat) (rgMany (by omega) (by omega))
  exact t_ret ⟨(by show 0 ≤ (u1).toInt ∧ (u1).toInt ≤ 12; omega), (by show u1.toInt = (I 70 (2 + v1.toInt).toNat).toInt; skip; omega)⟩
set_option maxRecDepth 100000 in
set_option maxHeartbeats 1000000 in
theorem tlX9_lettersOf_4 {I0 : gM} (v1 : Int32) (I : gM) (hM : MI false I0 I) (av1 : 0 ≤ v1.toInt ∧ v1.toInt ≤ 3) (s : (Int32 × Int32)) (hP : (0 ≤ (s.2).toInt ∧ (s.2).toInt ≤ 2147483647)) : T (lX9_lettersOf_4 v1 I s) (fun r : Int32 => True) := by
  unfold lX9_lettersOf_4
  refine t_it (P := fun s : (Int32 × Int32) => (0 ≤ (s.2).toInt ∧ (s.2).toInt ≤ 2147483647)) (μ := fun s : (Int32 × Int32) => (2147483648 - s.2.toInt).toNat) (fun s p => ?_) hP
  have b1 : (0 ≤ (s.2).toInt ∧ (s.2).toInt ≤ 2147483647) := p
  refine t_rI (lo := 0) (hi := 3) hM (fun _ _ => rfl) rfl (by omega) (by omega) (fun u1 eu1 bu1 => ?_)
  refine t_ite (fun c1 => ?_) (fun c1 => ?_)
  · have c1i := (iLE (a := u1) (b := s.2) rfl rfl).mp c1
    exact t_ret (show True from trivial)
  · have c1i := mt (iLE (a := u1) (b := s.2) rfl rfl).mpr c1
    refine t_rI (lo := 0) (hi := 3) hM (fun _ _ => rfl) (tA (tM (by decide : (3 : Int32).toInt = 3) rfl (by omega) (by omega)) rfl (by omega) (by omega)) (by omega) (by omega) (fun u2 eu2 bu2 => ?_)
    have m1 := ((tA rfl (by decide : (1 : Int32).toInt = 1) (by omega) (by omega)) : (s.2 + 1).toInt = (s.2.toInt + 1))
    have mm : (2147483648 - (s.2 + 1).toInt).toNat < (2147483648 - s.2.toInt).toNat := by omega
    have pp : (0 ≤ (s.2 + 1).toInt ∧ (s.2 + 1).toInt ≤ 2147483647) := (by show (0 ≤ (s.2 + 1).toInt ∧ (s.2 + 1).toInt ≤ 2147483647); have q := ((tA rfl (by decide : (1 : Int32).toInt = 1) (by omega) (by omega)) : (s.2 + 1).toInt = (s.2.toInt + 1)); omega)
    exact t_ret ⟨pp, mm⟩
set_option maxRecDepth 100000 in
set_option maxHeartbeats 1000000 in
theorem tfX9_lettersOf {I0 : gM} (v1 : Int32) (I : gM) (hM : MI false I0 I) (av1 : 0 ≤ v1.toInt ∧ v1.toInt ≤ 3) : T (fX9_lettersOf v1 I) (fun r => True) := by
  unfold fX9_lettersOf
  refine t_bindE (tlX9_lettersOf_4 v1 I hM (by omega) ((0 : Int32), (0 : Int32)) (by show (0 ≤ ((0 : Int32)).toInt ∧ ((0 : Int32)).toInt ≤ 2147483647); decide)) (fun w3 ew3 pw3 => ?_)
  exact t_ret trivial
set_option maxRecDepth 100000 in
set_option maxHeartbeats 1000000 in
theorem tlX9_asked_4 {I0 : gM} (I : gM) (hM : MI false I0 I) (s : (Int32 × Int32)) (hP : (0 ≤ (s.2).toInt ∧ (s.2).toInt ≤ 2147483647)) : T (lX9_asked_4 I s) (fun r : Int32 => True) := by
  unfold lX9_asked_4
  refine t_it (P := fun s : (Int32 × Int32) => (0 ≤ (s.2).toInt ∧ (s.2).toInt ≤ 2147483647)) (μ := fun s : (Int32 × Int32) => (2147483648 - s.2.toInt).toNat) (fun s p => ?_) hP
  have b1 : (0 ≤ (s.2).toInt ∧ (s.2).toInt ≤ 2147483647) := p
  have q1 := hM.at (k := 62) (j := 17) (lo := 0) (hi := 4) rfl
  refine t_ite (fun c2 => ?_) (fun c2 => ?_)
  · have c2i := (iLE (a := I 62 17) (b := s.2) rfl rfl).mp c2
    exact t_ret (show True from trivial)
  · have c2i := mt (iLE (a := I 62 17) (b := s.2) rfl rfl).mpr c2
    refine t_bindE (tfX9_isUsed s.2 I hM) (fun r1 er1 pr1 => ?_)
    have br1_0 : (0 ≤ r1.toInt ∧ r1.toInt ≤ 1) := pr1
    refine t_ite (fun c3 => ?_) (fun c3 => ?_)
    · have c3i := (iEQ (a := r1) (b := (0 : Int32)) rfl (by decide : (0 : Int32).toInt = 0)).mp c3
      unfold bX9_asked_30
      have m1 := ((tA rfl (by decide : (1 : Int32).toInt = 1) (by omega) (by omega)) : (s.2 + 1).toInt = (s.2.toInt + 1))
      have mm : (2147483648 - (s.2 + 1).toInt).toNat < (2147483648 - s.2.toInt).toNat := by omega
      have pp : (0 ≤ (s.2 + 1).toInt ∧ (s.2 + 1).toInt ≤ 2147483647) := (by show (0 ≤ (s.2 + 1).toInt ∧ (s.2 + 1).toInt ≤ 2147483647); have q := ((tA rfl (by decide : (1 : Int32).toInt = 1) (by omega) (by omega)) : (s.2 + 1).toInt = (s.2.toInt + 1)); omega)
      exact t_ret ⟨pp, mm⟩
    · have c3i := mt (iEQ (a := r1) (b := (0 : Int32)) rfl (by decide : (0 : Int32).toInt = 0)).mpr c3
      refine t_bindE (tfX9_lettersOf s.2 I hM (by omega)) (fun r2 er2 pr2 => ?_)
      unfold bX9_asked_30
      have m1 := ((tA rfl (by decide : (1 : Int32).toInt = 1) (by omega) (by omega)) : (s.2 + 1).toInt = (s.2.toInt + 1))
      have mm : (2147483648 - (s.2 + 1).toInt).toNat < (2147483648 - s.2.toInt).toNat := by omega
      have pp : (0 ≤ (s.2 + 1).toInt ∧ (s.2 + 1).toInt ≤ 2147483647) := (by show (0 ≤ (s.2 + 1).toInt ∧ (s.2 + 1).toInt ≤ 2147483647); have q := ((tA rfl (by decide : (1 : Int32).toInt = 1) (by omega) (by omega)) : (s.2 + 1).toInt = (s.2.toInt + 1)); omega)
      exact t_ret ⟨pp, mm⟩
set_option maxRecDepth 100000 in
set_option maxHeartbeats 1000000 in
theorem tfX9_asked {I0 : gM} (I : gM) (hM : MI false I0 I) : T (fX9_asked I) (fun r => True) := by
  unfold fX9_asked
  refine t_bindE (tlX9_asked_4 I hM ((0 : Int32), (0 : Int32)) (by show (0 ≤ ((0 : Int32)).toInt ∧ ((0 : Int32)).toInt ≤ 2147483647); decide)) (fun w3 ew3 pw3 => ?_)
  exact t_ret trivial
set_option maxRecDepth 100000 in
set_option maxHeartbeats 1000000 in
theorem tfX9_compares {I0 : gM} (v1 : Int32) (v2 : Int32) (v3 : Int32) (v4 : Int32) (v5 : Int32) (I : gM) (hM : MI false I0 I) (av1 : 0 ≤ v1.toInt ∧ v1.toInt ≤ 3) (av2 : 0 ≤ v2.toInt ∧ v2.toInt ≤ 11) : T (fX9_compares v1 v2 v3 v4 v5 I) (fun r => True) := by
  unfold fX9_compares
  refine t_bindE (tfX9_rowAt v1 v2 (by omega) (by omega)) (fun r1 er1 pr1 => ?_)
  obtain ⟨br1_0, xr1_0⟩ := (show (3 ≤ r1.toInt ∧ r1.toInt ≤ 150) ∧ (r1.toInt = 6 + 3 * (12 * v1.toInt + v2.toInt)) from pr1)
  refine t_rJ (lo := (-1)) (hi := 99) hM rfl (by omega) (by omega) (rgRow (by omega) (by omega)) (fun u2 eu2 bu2 => ?_)
  refine t_ite (fun c1 => ?_) (fun c1 => ?_)
  · have c1i := (iEQ (a := u2) (b := v3) rfl rfl).mp c1
    refine t_rJ (lo := (-1)) (hi := 99) hM (tA rfl (by decide : (1 : Int32).toInt = 1) (by omega) (by omega)) (by omega) (by omega) (rgRow (by omega) (by omega)) (fun u3 eu3 bu3 => ?_)
    refine t_ite (fun c2 => ?_) (fun c2 => ?_)
    · have c2i := (iEQ (a := u3) (b := v4) rfl rfl).mp c2
      refine t_rJ (lo := (-1)) (hi := 99) hM (tA rfl (by decide : (2 : Int32).toInt = 2) (by omega) (by omega)) (by omega) (by omega) (rgRow (by omega) (by omega)) (fun u4 eu4 bu4 => ?_)
      exact t_ret trivial
    · have c2i := mt (iEQ (a := u3) (b := v4) rfl rfl).mpr c2
      refine t_rJ (lo := (-1)) (hi := 99) hM (tA rfl (by decide : (1 : Int32).toInt = 1) (by omega) (by omega)) (by omega) (by omega) (rgRow (by omega) (by omega)) (fun u5 eu5 bu5 => ?_)
      exact t_ret trivial
  · have c1i := mt (iEQ (a := u2) (b := v3) rfl rfl).mpr c1
    refine t_rJ (lo := (-1)) (hi := 99) hM rfl (by omega) (by omega) (rgRow (by omega) (by omega)) (fun u6 eu6 bu6 => ?_)
    exact t_ret trivial
set_option maxRecDepth 100000 in
set_option maxHeartbeats 1000000 in
theorem tlX9_countLess_3 {I0 : gM} (v1 : Int32) (v2 : Int32) (v3 : Int32) (v4 : Int32) (I : gM) (hM : MI false I0 I) (av1 : 0 ≤ v1.toInt ∧ v1.toInt ≤ 3) (s : Int32) (hP : (0 ≤ (s).toInt ∧ (s).toInt ≤ 12) ∧ (s.toInt ≤ (I 70 (2 + v1.toInt).toNat).toInt)) : T (lX9_countLess_3 v1 v2 v3 v4 I s) (fun r : Int32 => (0 ≤ r.toInt ∧ r.toInt ≤ 12) ∧ (r.toInt ≤ (I 70 (2 + v1.toInt).toNat).toInt)) := by
  unfold lX9_countLess_3
  refine t_it (P := fun s : Int32 => (0 ≤ (s).toInt ∧ (s).toInt ≤ 12) ∧ (s.toInt ≤ (I 70 (2 + v1.toInt).toNat).toInt)) (μ := fun s : Int32 => (13 - s.toInt).toNat) (fun s p => ?_) hP
  obtain ⟨b0, x1⟩ := p
  refine t_bindE (tfX9_many v1 I hM (by omega)) (fun r1 er1 pr1 => ?_)
  obtain ⟨br1_0, xr1_0⟩ := (show (0 ≤ r1.toInt ∧ r1.toInt ≤ 12) ∧ (r1.toInt = (I 70 (2 + v1.toInt).toNat).toInt) from pr1)
  refine t_ite (fun c1 => ?_) (fun c1 => ?_)
  · have c1i := (iLE (a := r1) (b := s) rfl rfl).mp c1
    have q2 := hM.at (k := 70) (j := (2 + v1.toInt).toNat) (rgMany (by omega) (by omega))
    exact t_ret (show (0 ≤ (s).toInt ∧ (s).toInt ≤ 12) ∧ (s.toInt ≤ (I 70 (2 + v1.toInt).toNat).toInt) from ⟨(by omega), (by omega)⟩)
  · have c1i := mt (iLE (a := r1) (b := s) rfl rfl).mpr c1
    refine t_bindE (tfX9_compares v1 s v2 v3 v4 I hM (by omega) (by omega)) (fun r2 er2 pr2 => ?_)
    refine t_ite (fun c3 => ?_) (fun c3 => ?_)
    · have c3i := (iLE (a := (0 : Int32)) (b := r2) (by decide : (0 : Int32).toInt = 0) rfl).mp c3
      have q4 := hM.at (k := 70) (j := (2 + v1.toInt).toNat) (rgMany (by omega) (by omega))
      exact t_ret (show (0 ≤ (s).toInt ∧ (s).toInt ≤ 12) ∧ (s.toInt ≤ (I 70 (2 + v1.toInt).toNat).toInt) from ⟨(by omega), (by omega)⟩)
    · have c3i := mt (iLE (a := (0 : Int32)) (b := r2) (by decide : (0 : Int32).toInt = 0) rfl).mpr c3
      have q5 := hM.at (k := 70) (j := (2 + v1.toInt).toNat) (rgMany (by omega) (by omega))
      have m0 := ((tA rfl (by decide : (1 : Int32).toInt = 1) (by omega) (by omega)) : (s + 1).toInt = (s.toInt + 1))
      have mm : (13 - (s + 1).toInt).toNat < (13 - s.toInt).toNat := by omega
      have pp : (0 ≤ ((s + 1)).toInt ∧ ((s + 1)).toInt ≤ 12) ∧ ((s + 1).toInt ≤ (I 70 (2 + v1.toInt).toNat).toInt) := ⟨(by show (0 ≤ ((s + 1)).toInt ∧ ((s + 1)).toInt ≤ 12); have q := ((tA rfl (by decide : (1 : Int32).toInt = 1) (by omega) (by omega)) : (s + 1).toInt = (s.toInt + 1)); omega), (by show ((s + 1).toInt ≤ (I 70 (2 + v1.toInt).toNat).toInt); have q0 := ((tA rfl (by decide : (1 : Int32).toInt = 1) (by omega) (by omega)) : (s + 1).toInt = (s.toInt + 1)); omega)⟩
      exact t_ret ⟨pp, mm⟩
set_option maxRecDepth 100000 in
set_option maxHeartbeats 1000000 in
theorem tfX9_countLess {I0 : gM} (v1 : Int32) (v2 : Int32) (v3 : Int32) (v4 : Int32) (I : gM) (hM : MI false I0 I) (av1 : 0 ≤ v1.toInt ∧ v1.toInt ≤ 3) : T (fX9_countLess v1 v2 v3 v4 I) (fun r => (0 ≤ r.toInt ∧ r.toInt ≤ 12) ∧ (r.toInt ≤ (I 70 (2 + v1.toInt).toNat).toInt)) := by
  unfold fX9_countLess
  have q1 := hM.at (k := 70) (j := (2 + v1.toInt).toNat) (rgMany (by omega) (by omega))
  refine t_bindE (tlX9_countLess_3 v1 v2 v3 v4 I hM (by omega) (0 : Int32) ⟨(by show (0 ≤ ((0 : Int32)).toInt ∧ ((0 : Int32)).toInt ≤ 12); decide), (by show ((0 : Int32).toInt ≤ (I 70 (2 + v1.toInt).toNat).toInt); have q0 : (0 : Int32).toInt = 0 := (by decide); omega)⟩) (fun w3 ew3 pw3 => ?_)
  obtain ⟨bw3_0, xw3_0⟩ := (show (0 ≤ w3.toInt ∧ w3.toInt ≤ 12) ∧ (w3.toInt ≤ (I 70 (2 + v1.toInt).toNat).toInt) from pw3)
  exact t_ret ⟨(by show 0 ≤ (w3).toInt ∧ (w3).toInt ≤ 12; omega), (by show w3.toInt ≤ (I 70 (2 + v1.toInt).toNat).toInt; skip; omega)⟩
set_option maxRecDepth 100000 in
set_option maxHeartbeats 1000000 in
theorem tfX9_hasRow {I0 : gM} (v1 : Int32) (v2 : Int32) (v3 : Int32) (v4 : Int32) (I : gM) (hM : MI false I0 I) (av1 : 0 ≤ v1.toInt ∧ v1.toInt ≤ 3) : T (fX9_hasRow v1 v2 v3 v4 I) (fun r => (0 ≤ r.toInt ∧ r.toInt ≤ 1)) := by
  unfold fX9_hasRow
  refine t_bindE (tfX9_countLess v1 v2 v3 v4 I hM (by omega)) (fun r1 er1 pr1 => ?_)
  obtain ⟨br1_0, xr1_0⟩ := (show (0 ≤ r1.toInt ∧ r1.toInt ≤ 12) ∧ (r1.toInt ≤ (I 70 (2 + v1.toInt).toNat).toInt) from pr1)
  refine t_bindE (tfX9_many v1 I hM (by omega)) (fun r2 er2 pr2 => ?_)
  obtain ⟨br2_0, xr2_0⟩ := (show (0 ≤ r2.toInt ∧ r2.toInt ≤ 12) ∧ (r2.toInt = (I 70 (2 + v1.toInt).toNat).toInt) from pr2)
  refine t_ite (fun c1 => ?_) (fun c1 => ?_)
  · have c1i := (iLE (a := r2) (b := r1) rfl rfl).mp c1
    exact t_ret (by show 0 ≤ ((0 : Int32)).toInt ∧ ((0 : Int32)).toInt ≤ 1; decide)
  · have c1i := mt (iLE (a := r2) (b := r1) rfl rfl).mpr c1
    refine t_bindE (tfX9_compares v1 r1 v2 v3 v4 I hM (by omega) (by omega)) (fun r3 er3 pr3 => ?_)
    refine t_ite (fun c2 => ?_) (fun c2 => ?_)
    · have c2i := (iEQ (a := r3) (b := (0 : Int32)) rfl (by decide : (0 : Int32).toInt = 0)).mp c2
      exact t_ret (by show 0 ≤ ((1 : Int32)).toInt ∧ ((1 : Int32)).toInt ≤ 1; decide)
    · have c2i := mt (iEQ (a := r3) (b := (0 : Int32)) rfl (by decide : (0 : Int32).toInt = 0)).mpr c2
      exact t_ret (by show 0 ≤ ((0 : Int32)).toInt ∧ ((0 : Int32)).toInt ≤ 1; decide)
