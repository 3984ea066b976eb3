set_option maxRecDepth 100000 in
set_option maxHeartbeats 1000000 in
theorem xlX0_tallyUp_10 (k1 : Nat) (v2 : Int32) (s : (Int32 × gM)) {r : gM} (h : lX0_tallyUp_10 k1 v2 s = some r) (q j : Nat) (cq0 : q ≠ 41) : r q j = s.2 q j := by
  unfold lX0_tallyUp_10 at h
  revert s
  refine itO_ind (P := fun s : (Int32 × gM) => r q j = s.2 q j) (fun s y h hl hr => ?_)
  rcases oi h with ⟨-, h⟩ | ⟨-, h⟩
  · obtain rfl := Option.some.inj h
    have hh := hr _ rfl
    subst hh
    exact rfl
  · obtain ⟨r2, -, h⟩ := ob h
    rcases oi h with ⟨-, h⟩ | ⟨-, h⟩
    · unfold bX0_tallyUp_44 at h
      obtain rfl := Option.some.inj h
      exact (hl _ rfl).trans rfl
    · obtain ⟨u3, -, h⟩ := ob h
      obtain ⟨I4, eI4, h⟩ := ob h
      have q1 : I4 q j = _ := (by rw [← (wI_some eI4).2.2]; exact g_up_ne (Or.inl cq0) : I4 q j = s.2 q j).trans rfl
      unfold bX0_tallyUp_44 at h
      obtain rfl := Option.some.inj h
      exact (hl _ rfl).trans q1
set_option maxRecDepth 100000 in
set_option maxHeartbeats 1000000 in
theorem xfX0_tallyUp (k1 : Nat) (v2 : Int32) (I : gM) {r : gM} (h : fX0_tallyUp k1 v2 I = some r) (q j : Nat) (cq0 : q ≠ 41) : r q j = I q j := by
  unfold fX0_tallyUp at h
  obtain ⟨r1, er1, h⟩ := ob h
  have q1 : r1 q j = _ := (congrFun (zfJ7_fill_53178 41 100 (0 : Int32) I er1 q cq0) j).trans rfl
  obtain ⟨w5, ew5, h⟩ := ob h
  have q2 : w5 q j = _ := (xlX0_tallyUp_10 k1 v2 ((0 : Int32), r1) ew5 q j cq0).trans q1
  obtain rfl := Option.some.inj h
  exact q2
set_option maxRecDepth 100000 in
set_option maxHeartbeats 1000000 in
theorem xlX0_isTold_11 (k1 : Nat) (v2 : Int32) (v3 : Int32) (s : (Int32 × gM)) {r : (gM) ⊕ (gM)} (h : lX0_isTold_11 k1 v2 v3 s = some r) (q j : Nat) (cq0 : q ≠ 42) : ((Sum.elim (fun x : gM => x q j) (fun x : gM => x q j)) r) = s.2 q j := by
  unfold lX0_isTold_11 at h
  revert s
  refine itO_ind (P := fun s : (Int32 × gM) => ((Sum.elim (fun x : gM => x q j) (fun x : gM => x q j)) r) = s.2 q j) (fun s y h hl hr => ?_)
  rcases oi h with ⟨-, h⟩ | ⟨-, h⟩
  · obtain rfl := Option.some.inj h
    have hh := hr _ rfl
    subst hh
    exact rfl
  · obtain ⟨r2, -, h⟩ := ob h
    obtain ⟨r3, -, h⟩ := ob h
    rcases oi h with ⟨-, h⟩ | ⟨-, h⟩
    · obtain rfl := Option.some.inj h
      have hh := hr _ rfl
      subst hh
      exact rfl
    · obtain ⟨u4, -, h⟩ := ob h
      rcases oi h with ⟨-, h⟩ | ⟨-, h⟩
      · unfold bX0_isTold_70 at h
        obtain ⟨I5, eI5, h⟩ := ob h
        have q1 : I5 q j = _ := (by rw [← (wI_some eI5).2.2]; exact g_up_ne (Or.inl cq0) : I5 q j = s.2 q j).trans rfl
        obtain rfl := Option.some.inj h
        exact (hl _ rfl).trans q1
      · obtain ⟨u6, -, h⟩ := ob h
        rcases oi h with ⟨-, h⟩ | ⟨-, h⟩
        · unfold bX0_isTold_70 at h
          obtain ⟨I5, eI5, h⟩ := ob h
          have q2 : I5 q j = _ := (by rw [← (wI_some eI5).2.2]; exact g_up_ne (Or.inl cq0) : I5 q j = s.2 q j).trans rfl
          obtain rfl := Option.some.inj h
          exact (hl _ rfl).trans q2
        · obtain rfl := Option.some.inj h
          have hh := hr _ rfl
          subst hh
          exact rfl
set_option maxRecDepth 100000 in
set_option maxHeartbeats 1000000 in
theorem xfX0_isTold (k1 : Nat) (v2 : Int32) (v3 : Int32) (I : gM) {r : Int32 × gM} (h : fX0_isTold k1 v2 v3 I = some r) (q j : Nat) (cq0 : q ≠ 42) : r.2 q j = I q j := by
  unfold fX0_isTold at h
  obtain ⟨r1, er1, h⟩ := ob h
  have q1 : r1 q j = _ := (congrFun (zfJ7_fill_53178 42 100 ((-1) : Int32) I er1 q cq0) j).trans rfl
  obtain ⟨w7, ew7, h⟩ := ob h
  have q2 := (xlX0_isTold_11 k1 v2 v3 ((0 : Int32), r1) ew7 q j cq0).trans q1
  rcases w7 with w7_0 | w7_1
  · replace h := oE1 h
    have q3 : w7_0 q j = _ := q2
    obtain rfl := Option.some.inj h
    exact q3
  · replace h := oE2 h
    have q4 : w7_1 q j = _ := q2
    obtain rfl := Option.some.inj h
    exact q4
set_option maxRecDepth 100000 in
set_option maxHeartbeats 1000000 in
theorem xlX1_addLetters_2 (k : Nat) (v1 : Int32) (s : (Int32 × gM)) {r : gM} (h : lX1_addLetters_2 k v1 s = some r) (q j : Nat) (cq0 : q ≠ k + 2) (cq1 : q ≠ k ∨ j ≠ 2) : r q j = s.2 q j := by
  unfold lX1_addLetters_2 at h
  revert s
  refine itO_ind (P := fun s : (Int32 × gM) => r q j = s.2 q j) (fun s y h hl hr => ?_)
  rcases oi h with ⟨-, h⟩ | ⟨-, h⟩
  · obtain rfl := Option.some.inj h
    have hh := hr _ rfl
    subst hh
    exact rfl
  · rcases oi h with ⟨-, h⟩ | ⟨-, h⟩
    · unfold bX1_addLetters_43 at h
      obtain rfl := Option.some.inj h
      exact (hl _ rfl).trans rfl
    · rcases oi h with ⟨-, h⟩ | ⟨-, h⟩
      · unfold bX1_addLetters_43 at h
        obtain rfl := Option.some.inj h
        exact (hl _ rfl).trans rfl
      · obtain ⟨I1, eI1, h⟩ := ob h
        have q1 : I1 q j = _ := (by rw [← (wI_some eI1).2.2]; exact g_up_ne (Or.inl cq0) : I1 q j = s.2 q j).trans rfl
        obtain ⟨I2, eI2, h⟩ := ob h
        have q2 : I2 q j = _ := (by rw [← pU_some eI2]; exact g_up_ne cq1 : I2 q j = I1 q j).trans q1
        unfold bX1_addLetters_43 at h
        obtain rfl := Option.some.inj h
        exact (hl _ rfl).trans q2
set_option maxRecDepth 100000 in
set_option maxHeartbeats 1000000 in
theorem xfX1_addLetters (k : Nat) (v1 : Int32) (I : gM) {r : gM} (h : fX1_addLetters k v1 I = some r) (q j : Nat) (cq0 : q ≠ k + 2) (cq1 : q ≠ k ∨ j ≠ 2) : r q j = I q j := by
  unfold fX1_addLetters at h
  obtain ⟨w3, ew3, h⟩ := ob h
  have q1 : w3 q j = _ := (xlX1_addLetters_2 k v1 ((0 : Int32), I) ew3 q j cq0 cq1).trans rfl
  obtain rfl := Option.some.inj h
  exact q1
set_option maxRecDepth 100000 in
set_option maxHeartbeats 1000000 in
theorem xlX1_addSorted_7 (k : Nat) (v1 : Int32) (v2 : Int32) (s : (Int32 × gM)) {r : Int32 × gM} (h : lX1_addSorted_7 k v1 v2 s = some r) (q j : Nat) (cq0 : q ≠ k + 5) : r.2 q j = s.2 q j := by
  unfold lX1_addSorted_7 at h
  revert s
  refine itO_ind (P := fun s : (Int32 × gM) => r.2 q j = s.2 q j) (fun s y h hl hr => ?_)
  obtain ⟨u2, -, h⟩ := ob h
  rcases oi h with ⟨-, h⟩ | ⟨-, h⟩
  · obtain rfl := Option.some.inj h
    have hh := hr _ rfl
    subst hh
    exact rfl
  · obtain ⟨u3, -, h⟩ := ob h
    rcases oi h with ⟨-, h⟩ | ⟨-, h⟩
    · obtain rfl := Option.some.inj h
      have hh := hr _ rfl
      subst hh
      exact rfl
    · obtain ⟨u4, -, h⟩ := ob h
      obtain ⟨I5, eI5, h⟩ := ob h
      have q1 : I5 q j = _ := (by rw [← (wI_some eI5).2.2]; exact g_up_ne (Or.inl cq0) : I5 q j = s.2 q j).trans rfl
      obtain rfl := Option.some.inj h
      exact (hl _ rfl).trans q1
set_option maxRecDepth 100000 in
set_option maxHeartbeats 1000000 in
theorem xfX1_addSorted (k : Nat) (v1 : Int32) (v2 : Int32) (I : gM) {r : gM} (h : fX1_addSorted k v1 v2 I = some r) (q j : Nat) (cq0 : q ≠ k + 5) (cq1 : q ≠ k + 9) : r q j = I q j := by
  unfold fX1_addSorted at h
  obtain ⟨u1, -, h⟩ := ob h
  obtain ⟨w6, ew6, h⟩ := ob h
  have q1 : w6.2 q j = _ := (xlX1_addSorted_7 k v1 v2 (u1, I) ew6 q j cq0).trans rfl
  unfold bX1_addSorted_49 at h
  obtain ⟨I7, eI7, h⟩ := ob h
  have q2 : I7 q j = _ := (by rw [← (wI_some eI7).2.2]; exact g_up_ne (Or.inl cq0) : I7 q j = w6.2 q j).trans q1
  obtain ⟨u8, -, h⟩ := ob h
  obtain ⟨I9, eI9, h⟩ := ob h
  have q3 : I9 q j = _ := (by rw [← (wI_some eI9).2.2]; exact g_up_ne (Or.inl cq1) : I9 q j = I7 q j).trans q2
  obtain rfl := Option.some.inj h
  exact q3
set_option maxRecDepth 100000 in
set_option maxHeartbeats 1000000 in
theorem xlX1_load_5 (k : Nat) (k1 : Nat) (v2 : Int32) (s : (Int32 × Int32 × gM)) {r : Int32 × gM} (h : lX1_load_5 k k1 v2 s = some r) (q j : Nat) (cq0 : q ≠ k + 7) (cq1 : q ≠ k + 6) : r.2 q j = s.2.2 q j := by
  unfold lX1_load_5 at h
  revert s
  refine itO_ind (P := fun s : (Int32 × Int32 × gM) => r.2 q j = s.2.2 q j) (fun s y h hl hr => ?_)
  rcases oi h with ⟨-, h⟩ | ⟨-, h⟩
  · obtain rfl := Option.some.inj h
    have hh := hr _ rfl
    subst hh
    exact rfl
  · obtain ⟨u1, -, h⟩ := ob h
    obtain ⟨r2, -, h⟩ := ob h
    rcases oi h with ⟨-, h⟩ | ⟨-, h⟩
    · unfold bX1_load_68 at h
      obtain rfl := Option.some.inj h
      exact (hl _ rfl).trans rfl
    · rcases oi h with ⟨-, h⟩ | ⟨-, h⟩
      · unfold bX1_load_68 at h
        obtain rfl := Option.some.inj h
        exact (hl _ rfl).trans rfl
      · obtain ⟨I3, eI3, h⟩ := ob h
        have q1 : I3 q j = _ := (by rw [← (wI_some eI3).2.2]; exact g_up_ne (Or.inl cq0) : I3 q j = s.2.2 q j).trans rfl
        obtain ⟨I4, eI4, h⟩ := ob h
        have q2 : I4 q j = _ := (by rw [← (wI_some eI4).2.2]; exact g_up_ne (Or.inl cq1) : I4 q j = I3 q j).trans q1
        unfold bX1_load_68 at h
        obtain rfl := Option.some.inj h
        exact (hl _ rfl).trans q2
set_option maxRecDepth 100000 in
set_option maxHeartbeats 1000000 in
theorem xlX1_load_77 (k : Nat) (k1 : Nat) (v2 : Int32) (v3 : Int32) (s : (Int32 × gM)) {r : gM} (h : lX1_load_77 k k1 v2 v3 s = some r) (q j : Nat) (cq0 : q ≠ k + 5) (cq1 : q ≠ k + 9) : r q j = s.2 q j := by
  unfold lX1_load_77 at h
  revert s
  refine itO_ind (P := fun s : (Int32 × gM) => r q j = s.2 q j) (fun s y h hl hr => ?_)
  obtain ⟨u6, -, h⟩ := ob h
  rcases oi h with ⟨-, h⟩ | ⟨-, h⟩
  · obtain rfl := Option.some.inj h
    have hh := hr _ rfl
    subst hh
    exact rfl
  · obtain ⟨r7, -, h⟩ := ob h
    obtain ⟨w9, -, h⟩ := ob h
    obtain ⟨r10, er10, h⟩ := ob h
    have q1 : r10 q j = _ := (xfX1_addSorted k v2 w9 s.2 er10 q j cq0 cq1).trans rfl
    obtain rfl := Option.some.inj h
    exact (hl _ rfl).trans q1
set_option maxRecDepth 100000 in
set_option maxHeartbeats 1000000 in
theorem xfX1_load (k : Nat) (k1 : Nat) (v2 : Int32) (I : gM) {r : gM} (h : fX1_load k k1 v2 I = some r) (q j : Nat) (cq0 : q ≠ k + 7) (cq1 : q ≠ k + 6) (cq2 : q ≠ k + 5) (cq3 : q ≠ k + 9) : r q j = I q j := by
  unfold fX1_load at h
  obtain ⟨w5, ew5, h⟩ := ob h
  have q1 : w5.2 q j = _ := (xlX1_load_5 k k1 v2 ((0 : Int32), (0 : Int32), I) ew5 q j cq0 cq1).trans rfl
  obtain ⟨w11, ew11, h⟩ := ob h
  have q2 : w11 q j = _ := (xlX1_load_77 k k1 v2 w5.1 ((0 : Int32), w5.2) ew11 q j cq2 cq3).trans q1
  obtain rfl := Option.some.inj h
  exact q2
set_option maxRecDepth 100000 in
set_option maxHeartbeats 1000000 in
theorem xlX1_open_28 (k : Nat) (k1 : Nat) (s : (Int32 × gM)) {r : gM} (h : lX1_open_28 k k1 s = some r) (q j : Nat) (cq0 : q ≠ k + 8) (cq1 : q ≠ k + 9) (cq2 : q ≠ k + 7) (cq3 : q ≠ k + 6) (cq4 : q ≠ k + 5) : r q j = s.2 q j := by
  unfold lX1_open_28 at h
  revert s
  refine itO_ind (P := fun s : (Int32 × gM) => r q j = s.2 q j) (fun s y h hl hr => ?_)
  rcases oi h with ⟨-, h⟩ | ⟨-, h⟩
  · obtain rfl := Option.some.inj h
    have hh := hr _ rfl
    subst hh
    exact rfl
  · obtain ⟨I5, eI5, h⟩ := ob h
    have q1 : I5 q j = _ := (by rw [← (wI_some eI5).2.2]; exact g_up_ne (Or.inl cq0) : I5 q j = s.2 q j).trans rfl
    obtain ⟨I6, eI6, h⟩ := ob h
    have q2 : I6 q j = _ := (by rw [← (wI_some eI6).2.2]; exact g_up_ne (Or.inl cq1) : I6 q j = I5 q j).trans q1
    obtain ⟨r7, -, h⟩ := ob h
    rcases oi h with ⟨-, h⟩ | ⟨-, h⟩
    · unfold bX1_open_67 at h
      obtain rfl := Option.some.inj h
      exact (hl _ rfl).trans q2
    · obtain ⟨r8, er8, h⟩ := ob h
      have q3 : r8 q j = _ := (xfX1_load k k1 s.1 I6 er8 q j cq2 cq3 cq4 cq1).trans q2
      unfold bX1_open_67 at h
      obtain rfl := Option.some.inj h
      exact (hl _ rfl).trans q3
set_option maxRecDepth 100000 in
set_option maxHeartbeats 1000000 in
theorem xfX1_open (k : Nat) (k1 : Nat) (I : gM) {r : gM} (h : fX1_open k k1 I = some r) (q j : Nat) (cq0 : q ≠ k ∨ j ≠ 0) (cq1 : q ≠ k ∨ j ≠ 1) (cq2 : q ≠ k + 1) (cq3 : q ≠ k + 7) (cq4 : q ≠ k + 8) (cq5 : q ≠ k + 9) (cq6 : q ≠ k + 6) (cq7 : q ≠ k + 5) : r q j = I q j := by
  unfold fX1_open at h
  obtain ⟨I1, eI1, h⟩ := ob h
  have q1 : I1 q j = _ := (by rw [← pU_some eI1]; exact g_up_ne cq0 : I1 q j = I q j).trans rfl
  obtain ⟨I2, eI2, h⟩ := ob h
  have q2 : I2 q j = _ := (by rw [← pU_some eI2]; exact g_up_ne cq1 : I2 q j = I1 q j).trans q1
  obtain ⟨r3, er3, h⟩ := ob h
  have q3 : r3 q j = _ := (congrFun (zfJ7_fill_53178 (k + 1) 4 (0 : Int32) I2 er3 q cq2) j).trans q2
  obtain ⟨r4, er4, h⟩ := ob h
  have q4 : r4 q j = _ := (congrFun (zfJ7_fill_53178 (k + 7) 16 ((-1) : Int32) r3 er4 q cq3) j).trans q3
  obtain ⟨w9, ew9, h⟩ := ob h
  have q5 : w9 q j = _ := (xlX1_open_28 k k1 ((0 : Int32), r4) ew9 q j cq4 cq5 cq3 cq6 cq7).trans q4
  obtain rfl := Option.some.inj h
  exact q5
set_option maxRecDepth 100000 in
set_option maxHeartbeats 1000000 in
theorem xlX1_isOpened_4 (k : Nat) (v1 : Int32) (s : (Int32 × gM)) {r : (gM) ⊕ (gM)} (h : lX1_isOpened_4 k v1 s = some r) (q j : Nat) (cq0 : q ≠ k + 10) : ((Sum.elim (fun x : gM => x q j) (fun x : gM => x q j)) r) = s.2 q j := by
  unfold lX1_isOpened_4 at h
  revert s
  refine itO_ind (P := fun s : (Int32 × gM) => ((Sum.elim (fun x : gM => x q j) (fun x : gM => x q j)) r) = s.2 q j) (fun s y h hl hr => ?_)
  rcases oi h with ⟨-, h⟩ | ⟨-, h⟩
  · obtain rfl := Option.some.inj h
    have hh := hr _ rfl
    subst hh
    exact rfl
  · obtain ⟨u1, -, h⟩ := ob h
    obtain ⟨I2, eI2, h⟩ := ob h
    have q1 : I2 q j = _ := (by rw [← (wI_some eI2).2.2]; exact g_up_ne (Or.inl cq0) : I2 q j = s.2 q j).trans rfl
    obtain ⟨u3, -, h⟩ := ob h
    rcases oi h with ⟨-, h⟩ | ⟨-, h⟩
    · unfold bX1_isOpened_52 at h
      obtain rfl := Option.some.inj h
      exact (hl _ rfl).trans q1
    · obtain ⟨u4, -, h⟩ := ob h
      obtain ⟨u5, -, h⟩ := ob h
      rcases oi h with ⟨-, h⟩ | ⟨-, h⟩
      · unfold bX1_isOpened_52 at h
        obtain rfl := Option.some.inj h
        exact (hl _ rfl).trans q1
      · obtain rfl := Option.some.inj h
        have hh := hr _ rfl
        subst hh
        exact q1
set_option maxRecDepth 100000 in
set_option maxHeartbeats 1000000 in
theorem xfX1_isOpened (k : Nat) (v1 : Int32) (I : gM) {r : Int32 × gM} (h : fX1_isOpened k v1 I = some r) (q j : Nat) (cq0 : q ≠ k + 10) : r.2 q j = I q j := by
  unfold fX1_isOpened at h
  obtain ⟨w6, ew6, h⟩ := ob h
  have q1 := (xlX1_isOpened_4 k v1 (v1 * 4, I) ew6 q j cq0).trans rfl
  rcases w6 with w6_0 | w6_1
  · replace h := oE1 h
    have q2 : w6_0 q j = _ := q1
    obtain rfl := Option.some.inj h
    exact q2
  · replace h := oE2 h
    have q3 : w6_1 q j = _ := q1
    obtain rfl := Option.some.inj h
    exact q3
set_option maxRecDepth 100000 in
set_option maxHeartbeats 1000000 in
theorem xlX1_narrow_4 (k : Nat) (v1 : Int32) (v2 : Int32) (s : (Int32 × gM)) {r : gM} (h : lX1_narrow_4 k v1 v2 s = some r) (q j : Nat) (cq0 : q ≠ k + 8) (cq1 : q ≠ k + 9) : r q j = s.2 q j := by
  unfold lX1_narrow_4 at h
  revert s
  refine itO_ind (P := fun s : (Int32 × gM) => r q j = s.2 q j) (fun s y h hl hr => ?_)
  rcases oi h with ⟨-, h⟩ | ⟨-, h⟩
  · obtain rfl := Option.some.inj h
    have hh := hr _ rfl
    subst hh
    exact rfl
  · obtain ⟨u1, -, h⟩ := ob h
    obtain ⟨I2, eI2, h⟩ := ob h
    have q1 : I2 q j = _ := (by rw [← (wI_some eI2).2.2]; exact g_up_ne (Or.inl cq0) : I2 q j = s.2 q j).trans rfl
    obtain ⟨u3, -, h⟩ := ob h
    obtain ⟨I4, eI4, h⟩ := ob h
    have q2 : I4 q j = _ := (by rw [← (wI_some eI4).2.2]; exact g_up_ne (Or.inl cq1) : I4 q j = I2 q j).trans q1
    obtain ⟨u5, -, h⟩ := ob h
    rcases oi h with ⟨-, h⟩ | ⟨-, h⟩
    · unfold bX1_narrow_109 at h
      obtain rfl := Option.some.inj h
      exact (hl _ rfl).trans q2
    · obtain ⟨u6, -, h⟩ := ob h
      obtain ⟨w10, -, h⟩ := ob h
      unfold bX1_narrow_100 at h
      obtain ⟨I11, eI11, h⟩ := ob h
      have q3 : I11 q j = _ := (by rw [← (wI_some eI11).2.2]; exact g_up_ne (Or.inl cq1) : I11 q j = I4 q j).trans q2
      unfold bX1_narrow_109 at h
      obtain rfl := Option.some.inj h
      exact (hl _ rfl).trans q3
set_option maxRecDepth 100000 in
set_option maxHeartbeats 1000000 in
theorem xfX1_narrow (k : Nat) (v1 : Int32) (v2 : Int32) (I : gM) {r : gM} (h : fX1_narrow k v1 v2 I = some r) (q j : Nat) (cq0 : q ≠ k + 8) (cq1 : q ≠ k + 9) : r q j = I q j := by
  unfold fX1_narrow at h
  obtain ⟨w12, ew12, h⟩ := ob h
  have q1 : w12 q j = _ := (xlX1_narrow_4 k v1 v2 (v1 * 4, I) ew12 q j cq0 cq1).trans rfl
  obtain rfl := Option.some.inj h
  exact q1
set_option maxRecDepth 100000 in
set_option maxHeartbeats 1000000 in
theorem xfX1_deepen (rec : Int32 → gM → Option gM) (k : Nat) (v1 : Int32) (v2 : Int32) (I : gM) {r : gM} (h : fX1_deepen rec k v1 v2 I = some r) (q j : Nat) (hrec : ∀ (d : Int32) (I r : gM), rec d I = some r → r q j = I q j) (cq0 : q ≠ k + 10) (cq1 : q ≠ k + 1) (cq2 : q ≠ k + 4) (cq3 : q ≠ k + 3) (cq4 : q ≠ k ∨ j ≠ 0) (cq5 : q ≠ k + 8) (cq6 : q ≠ k + 9) (cq7 : q ≠ k ∨ j ≠ 1) : r q j = I q j := by
  unfold fX1_deepen at h
  obtain ⟨u1, -, h⟩ := ob h
  obtain ⟨I2, eI2, h⟩ := ob h
  have q1 : I2 q j = _ := (by rw [← (wI_some eI2).2.2]; exact g_up_ne (Or.inl cq1) : I2 q j = I q j).trans rfl
  obtain ⟨u3, -, h⟩ := ob h
  obtain ⟨u4, -, h⟩ := ob h
  obtain ⟨I5, eI5, h⟩ := ob h
  have q2 : I5 q j = _ := (by rw [← (wI_some eI5).2.2]; exact g_up_ne (Or.inl cq2) : I5 q j = I2 q j).trans q1
  rcases oi h with ⟨-, h⟩ | ⟨-, h⟩
  · rcases oi h with ⟨-, h⟩ | ⟨-, h⟩
    · obtain rfl := Option.some.inj h
      exact q2
    · obtain ⟨u6, -, h⟩ := ob h
      obtain ⟨I7, eI7, h⟩ := ob h
      have q3 : I7 q j = _ := (by rw [← (wI_some eI7).2.2]; exact g_up_ne (Or.inl cq3) : I7 q j = I5 q j).trans q2
      obtain ⟨I8, eI8, h⟩ := ob h
      have q4 : I8 q j = _ := (by rw [← pU_some eI8]; exact g_up_ne cq4 : I8 q j = I7 q j).trans q3
      obtain rfl := Option.some.inj h
      exact q4
  · obtain ⟨r9, er9, h⟩ := ob h
    have q5 : r9 q j = _ := (xfX1_narrow k v1 v2 I5 er9 q j cq5 cq6).trans q2
    obtain ⟨r10, er10, h⟩ := ob h
    have q6 : r10 q j = _ := (hrec _ _ _ er10).trans q5
    obtain rfl := Option.some.inj h
    exact q6
set_option maxRecDepth 100000 in
set_option maxHeartbeats 1000000 in
theorem xfX1_isLeapt (k : Nat) (v1 : Int32) (v2 : Int32) (I : gM) {r : Int32 × gM} (h : fX1_isLeapt k v1 v2 I = some r) (q j : Nat) (cq0 : q ≠ k + 10) (cq1 : q ≠ k ∨ j ≠ 1) : r.2 q j = I q j := by
  unfold fX1_isLeapt at h
  obtain ⟨u1, -, h⟩ := ob h
  obtain ⟨w5, -, h⟩ := ob h
  unfold bX1_isLeapt_43 at h
  obtain ⟨I6, eI6, h⟩ := ob h
  have q1 : I6 q j = _ := (by rw [← (wI_some eI6).2.2]; exact g_up_ne (Or.inl cq0) : I6 q j = I q j).trans rfl
  obtain ⟨I7, eI7, h⟩ := ob h
  have q2 : I7 q j = _ := (by rw [← pU_some eI7]; exact g_up_ne cq1 : I7 q j = I6 q j).trans q1
  obtain ⟨u8, -, h⟩ := ob h
  rcases oi h with ⟨-, h⟩ | ⟨-, h⟩
  · obtain rfl := Option.some.inj h
    exact q2
  · obtain rfl := Option.some.inj h
    exact q2
set_option maxRecDepth 100000 in
set_option maxHeartbeats 1000000 in
theorem xlX1_search_19 (rec : Int32 → gM → Option gM) (k : Nat) (v1 : Int32) (s : (Int32 × gM)) {r : (gM) ⊕ (gM)} (h : lX1_search_19 rec k v1 s = some r) (q j : Nat) (hrec : ∀ (d : Int32) (I r : gM), rec d I = some r → r q j = I q j) (cq0 : q ≠ k + 10) (cq1 : q ≠ k + 1) (cq2 : q ≠ k + 4) (cq3 : q ≠ k + 3) (cq4 : q ≠ k ∨ j ≠ 0) (cq5 : q ≠ k + 8) (cq6 : q ≠ k + 9) (cq7 : q ≠ k ∨ j ≠ 1) : ((Sum.elim (fun x : gM => x q j) (fun x : gM => x q j)) r) = s.2 q j := by
  unfold lX1_search_19 at h
  revert s
  refine itO_ind (P := fun s : (Int32 × gM) => ((Sum.elim (fun x : gM => x q j) (fun x : gM => x q j)) r) = s.2 q j) (fun s y h hl hr => ?_)
  rcases oi h with ⟨-, h⟩ | ⟨-, h⟩
  · obtain rfl := Option.some.inj h
    have hh := hr _ rfl
    subst hh
    exact rfl
  · obtain ⟨r2, -, h⟩ := ob h
    obtain ⟨r3, -, h⟩ := ob h
    rcases oi h with ⟨-, h⟩ | ⟨-, h⟩
    · obtain ⟨r4, er4, h⟩ := ob h
      have q1 : r4 q j = _ := (xfX1_deepen rec k v1 r2 s.2 er4 q j hrec cq0 cq1 cq2 cq3 cq4 cq5 cq6 cq7).trans rfl
      obtain ⟨r5, -, h⟩ := ob h
      unfold bX1_search_63 at h
      rcases oi h with ⟨-, h⟩ | ⟨-, h⟩
      · obtain rfl := Option.some.inj h
        have hh := hr _ rfl
        subst hh
        exact q1
      · obtain ⟨r6, er6, h⟩ := ob h
        have q2 : r6.2 q j = _ := (xfX1_isLeapt k ((v1 * 4) + r5) (r2 + 1) r4 er6 q j cq0 cq7).trans q1
        rcases oi h with ⟨-, h⟩ | ⟨-, h⟩
        · obtain rfl := Option.some.inj h
          have hh := hr _ rfl
          subst hh
          exact q2
        · obtain rfl := Option.some.inj h
          exact (hl _ rfl).trans q2
    · unfold bX1_search_63 at h
      rcases oi h with ⟨-, h⟩ | ⟨-, h⟩
      · obtain rfl := Option.some.inj h
        have hh := hr _ rfl
        subst hh
        exact rfl
      · obtain ⟨r6, er6, h⟩ := ob h
        have q3 : r6.2 q j = _ := (xfX1_isLeapt k ((v1 * 4) + r3) r2 s.2 er6 q j cq0 cq7).trans rfl
        rcases oi h with ⟨-, h⟩ | ⟨-, h⟩
        · obtain rfl := Option.some.inj h
          have hh := hr _ rfl
          subst hh
          exact q3
        · obtain rfl := Option.some.inj h
          exact (hl _ rfl).trans q3
set_option maxRecDepth 100000 in
set_option maxHeartbeats 1000000 in
theorem xfX1_searchB (rec : Int32 → gM → Option gM) (k : Nat) (v1 : Int32) (I : gM) {r : gM} (h : fX1_searchB rec k v1 I = some r) (q j : Nat) (hrec : ∀ (d : Int32) (I r : gM), rec d I = some r → r q j = I q j) (cq0 : q ≠ k + 10) (cq1 : q ≠ k + 1) (cq2 : q ≠ k + 4) (cq3 : q ≠ k + 3) (cq4 : q ≠ k ∨ j ≠ 0) (cq5 : q ≠ k + 8) (cq6 : q ≠ k + 9) (cq7 : q ≠ k ∨ j ≠ 1) : r q j = I q j := by
  unfold fX1_searchB at h
  rcases oi h with ⟨-, h⟩ | ⟨-, h⟩
  · obtain rfl := Option.some.inj h
    exact rfl
  · obtain ⟨r1, er1, h⟩ := ob h
    have q1 : r1.2 q j = _ := (xfX1_isOpened k v1 I er1 q j cq0).trans rfl
    rcases oi h with ⟨-, h⟩ | ⟨-, h⟩
    · obtain rfl := Option.some.inj h
      exact q1
    · obtain ⟨w7, ew7, h⟩ := ob h
      have q2 := (xlX1_search_19 rec k v1 ((0 : Int32), r1.2) ew7 q j hrec cq0 cq1 cq2 cq3 cq4 cq5 cq6 cq7).trans q1
      rcases w7 with w7_0 | w7_1
      · replace h := oE1 h
        have q3 : w7_0 q j = _ := q2
        obtain rfl := Option.some.inj h
        exact q3
      · replace h := oE2 h
        have q4 : w7_1 q j = _ := q2
        obtain rfl := Option.some.inj h
        exact q4
theorem xfX1_search (n : Nat) (k : Nat) (d : Int32) (I : gM) {r : gM} (h : fX1_search n k d I = some r) (q j : Nat) (cq0 : q ≠ k + 10) (cq1 : q ≠ k + 1) (cq2 : q ≠ k + 4) (cq3 : q ≠ k + 3) (cq4 : q ≠ k ∨ j ≠ 0) (cq5 : q ≠ k + 8) (cq6 : q ≠ k + 9) (cq7 : q ≠ k ∨ j ≠ 1) : r q j = I q j := by
  induction n generalizing d I r with
  | zero => cases h
  | succ n ih => exact xfX1_searchB _ k d I h q j (fun d I r h => ih d I h) cq0 cq1 cq2 cq3 cq4 cq5 cq6 cq7
set_option maxRecDepth 100000 in
set_option maxHeartbeats 1000000 in
theorem xlX1_findBy_20 (k : Nat) (v3 : Int32) (s : (Int32 × Int32 × Int32 × gM)) {r : gM} (h : lX1_findBy_20 k v3 s = some r) (q j : Nat) (cq0 : q ≠ k + 2) (cq1 : q ≠ k ∨ j ≠ 2) : r q j = s.2.2.2 q j := by
  unfold lX1_findBy_20 at h
  revert s
  refine itO_ind (P := fun s : (Int32 × Int32 × Int32 × gM) => r q j = s.2.2.2 q j) (fun s y h hl hr => ?_)
  rcases oi h with ⟨-, h⟩ | ⟨-, h⟩
  · obtain rfl := Option.some.inj h
    have hh := hr _ rfl
    subst hh
    exact rfl
  · obtain ⟨u3, -, h⟩ := ob h
    obtain ⟨u4, -, h⟩ := ob h
    obtain ⟨r5, -, h⟩ := ob h
    obtain ⟨u6, -, h⟩ := ob h
    obtain ⟨u7, -, h⟩ := ob h
    obtain ⟨r8, er8, h⟩ := ob h
    have q1 : r8 q j = _ := (xfX1_addLetters k (v3 &&& ((1 : Int32) <<< (r5 &&& 31))) s.2.2.2 er8 q j cq0 cq1).trans rfl
    obtain rfl := Option.some.inj h
    exact (hl _ rfl).trans q1
set_option maxRecDepth 100000 in
set_option maxHeartbeats 1000000 in
theorem xfX1_findBy (k : Nat) (k1 : Nat) (v2 : Int32) (I : gM) {r : gM} (h : fX1_findBy k k1 v2 I = some r) (q j : Nat) (cq0 : q ≠ k ∨ j ≠ 2) (cq1 : q ≠ k + 2) (cq2 : q ≠ k ∨ j ≠ 0) (cq3 : q ≠ k ∨ j ≠ 1) (cq4 : q ≠ k + 1) (cq5 : q ≠ k + 7) (cq6 : q ≠ k + 8) (cq7 : q ≠ k + 9) (cq8 : q ≠ k + 6) (cq9 : q ≠ k + 5) (cq10 : q ≠ k + 10) (cq11 : q ≠ k + 4) (cq12 : q ≠ k + 3) : r q j = I q j := by
  unfold fX1_findBy at h
  obtain ⟨r1, -, h⟩ := ob h
  obtain ⟨I2, eI2, h⟩ := ob h
  have q1 : I2 q j = _ := (by rw [← pU_some eI2]; exact g_up_ne cq0 : I2 q j = I q j).trans rfl
  obtain ⟨w9, ew9, h⟩ := ob h
  have q2 : w9 q j = _ := (xlX1_findBy_20 k r1 ((15 : Int32), v2, (0 : Int32), I2) ew9 q j cq1 cq0).trans q1
  obtain ⟨r10, er10, h⟩ := ob h
  have q3 : r10 q j = _ := (xfX1_open k k1 w9 er10 q j cq2 cq3 cq4 cq5 cq6 cq7 cq8 cq9).trans q2
  obtain ⟨r11, er11, h⟩ := ob h
  have q4 : r11 q j = _ := (xfX1_search 6 k (0 : Int32) r10 er11 q j cq10 cq4 cq11 cq12 cq2 cq6 cq7 cq3).trans q3
  obtain rfl := Option.some.inj h
  exact q4
set_option maxRecDepth 100000 in
set_option maxHeartbeats 1000000 in
theorem xfX1_findLeading (k : Nat) (k1 : Nat) (v2 : Int32) (I : gM) {r : gM} (h : fX1_findLeading k k1 v2 I = some r) (q j : Nat) (cq0 : q ≠ k ∨ j ≠ 2) (cq1 : q ≠ k + 2) (cq2 : q ≠ k ∨ j ≠ 0) (cq3 : q ≠ k ∨ j ≠ 1) (cq4 : q ≠ k + 1) (cq5 : q ≠ k + 7) (cq6 : q ≠ k + 8) (cq7 : q ≠ k + 9) (cq8 : q ≠ k + 6) (cq9 : q ≠ k + 5) (cq10 : q ≠ k + 10) (cq11 : q ≠ k + 4) (cq12 : q ≠ k + 3) : r q j = I q j := by
  unfold fX1_findLeading at h
  obtain ⟨r1, -, h⟩ := ob h
  obtain ⟨I2, eI2, h⟩ := ob h
  have q1 : I2 q j = _ := (by rw [← pU_some eI2]; exact g_up_ne cq0 : I2 q j = I q j).trans rfl
  obtain ⟨r3, er3, h⟩ := ob h
  have q2 : r3 q j = _ := (xfX1_addLetters k (r1 &&& v2) I2 er3 q j cq1 cq0).trans q1
  obtain ⟨r4, er4, h⟩ := ob h
  have q3 : r4 q j = _ := (xfX1_addLetters k (r1 &&& (v2 ^^^ (-1))) r3 er4 q j cq1 cq0).trans q2
  obtain ⟨r5, er5, h⟩ := ob h
  have q4 : r5 q j = _ := (xfX1_open k k1 r4 er5 q j cq2 cq3 cq4 cq5 cq6 cq7 cq8 cq9).trans q3
  obtain ⟨r6, er6, h⟩ := ob h
  have q5 : r6 q j = _ := (xfX1_search 6 k (0 : Int32) r5 er6 q j cq10 cq4 cq11 cq12 cq2 cq6 cq7 cq3).trans q4
  obtain rfl := Option.some.inj h
  exact q5
set_option maxRecDepth 100000 in
set_option maxHeartbeats 1000000 in
theorem xfX2_clear (k : Nat) (I : gM) {r : gM} (h : fX2_clear k I = some r) (q j : Nat) (cq0 : q ≠ k ∨ j ≠ 1) (cq1 : q ≠ k ∨ j ≠ 2) : r q j = I q j := by
  unfold fX2_clear at h
  obtain ⟨I1, eI1, h⟩ := ob h
  have q1 : I1 q j = _ := (by rw [← pU_some eI1]; exact g_up_ne cq0 : I1 q j = I q j).trans rfl
  obtain ⟨I2, eI2, h⟩ := ob h
  have q2 : I2 q j = _ := (by rw [← pU_some eI2]; exact g_up_ne cq1 : I2 q j = I1 q j).trans q1
  obtain rfl := Option.some.inj h
  exact q2
set_option maxRecDepth 100000 in
set_option maxHeartbeats 1000000 in
theorem xfX2_copyFrom (k : Nat) (k1 : Nat) (I : gM) {r : gM} (h : fX2_copyFrom k k1 I = some r) (q j : Nat) (cq0 : q ≠ k + 1) (cq1 : q ≠ k ∨ j ≠ 1) (cq2 : q ≠ k ∨ j ≠ 2) : r q j = I q j := by
  unfold fX2_copyFrom at h
  obtain ⟨I1, eI1, h⟩ := ob h
  have q1 : I1 q j = _ := (by rw [← (cpI_some eI1).2.2.2.2.2]; exact if_neg cq0 : I1 q j = I q j).trans rfl
  obtain ⟨I2, eI2, h⟩ := ob h
  have q2 : I2 q j = _ := (by rw [← pU_some eI2]; exact g_up_ne cq1 : I2 q j = I1 q j).trans q1
  obtain ⟨I3, eI3, h⟩ := ob h
  have q3 : I3 q j = _ := (by rw [← pU_some eI3]; exact g_up_ne cq2 : I3 q j = I2 q j).trans q2
  obtain rfl := Option.some.inj h
  exact q3
set_option maxRecDepth 100000 in
set_option maxHeartbeats 1000000 in
theorem xfX2_add (k : Nat) (v1 : Int32) (v2 : Int32) (v3 : Int32) (I : gM) {r : gM} (h : fX2_add k v1 v2 v3 I = some r) (q j : Nat) (cq0 : q ≠ k + 1) (cq1 : q ≠ k ∨ j ≠ 1) (cq2 : q ≠ k ∨ j ≠ 2) : r q j = I q j := by
  unfold fX2_add at h
  obtain ⟨I1, eI1, h⟩ := ob h
  have q1 : I1 q j = _ := (by rw [← (wI_some eI1).2.2]; exact g_up_ne (Or.inl cq0) : I1 q j = I q j).trans rfl
  obtain ⟨I2, eI2, h⟩ := ob h
  have q2 : I2 q j = _ := (by rw [← (wI_some eI2).2.2]; exact g_up_ne (Or.inl cq0) : I2 q j = I1 q j).trans q1
  obtain ⟨I3, eI3, h⟩ := ob h
  have q3 : I3 q j = _ := (by rw [← (wI_some eI3).2.2]; exact g_up_ne (Or.inl cq0) : I3 q j = I2 q j).trans q2
  obtain ⟨I4, eI4, h⟩ := ob h
  have q4 : I4 q j = _ := (by rw [← pU_some eI4]; exact g_up_ne cq1 : I4 q j = I3 q j).trans q3
  obtain ⟨I5, eI5, h⟩ := ob h
  have q5 : I5 q j = _ := (by rw [← pU_some eI5]; exact g_up_ne cq2 : I5 q j = I4 q j).trans q4
  obtain rfl := Option.some.inj h
  exact q5
set_option maxRecDepth 100000 in
set_option maxHeartbeats 1000000 in
theorem xfX2_dropLatest (k : Nat) (I : gM) {r : gM} (h : fX2_dropLatest k I = some r) (q j : Nat) (cq0 : q ≠ k ∨ j ≠ 1) (cq1 : q ≠ k ∨ j ≠ 2) : r q j = I q j := by
  unfold fX2_dropLatest at h
  rcases oi h with ⟨-, h⟩ | ⟨-, h⟩
  · obtain rfl := Option.some.inj h
    exact rfl
  · obtain ⟨I1, eI1, h⟩ := ob h
    have q1 : I1 q j = _ := (by rw [← pU_some eI1]; exact g_up_ne cq0 : I1 q j = I q j).trans rfl
    obtain ⟨I2, eI2, h⟩ := ob h
    have q2 : I2 q j = _ := (by rw [← pU_some eI2]; exact g_up_ne cq1 : I2 q j = I1 q j).trans q1
    obtain rfl := Option.some.inj h
    exact q2
set_option maxRecDepth 100000 in
set_option maxHeartbeats 1000000 in
theorem xfX3_clear (I : gM) {r : gM} (h : fX3_clear I = some r) (q j : Nat) (cq0 : q ≠ 48 ∨ j ≠ 0) (cq1 : q ≠ 48 ∨ j ≠ 2) : r q j = I q j := by
  unfold fX3_clear at h
  obtain ⟨I1, eI1, h⟩ := ob h
  have q1 : I1 q j = _ := (by rw [← pU_some eI1]; exact g_up_ne cq0 : I1 q j = I q j).trans rfl
  obtain ⟨I2, eI2, h⟩ := ob h
  have q2 : I2 q j = _ := (by rw [← pU_some eI2]; exact g_up_ne cq1 : I2 q j = I1 q j).trans q1
  obtain rfl := Option.some.inj h
  exact q2
set_option maxRecDepth 100000 in
set_option maxHeartbeats 1000000 in
theorem xfX3_add (v1 : Int32) (v2 : Int32) (v3 : Int32) (I : gM) {r : gM} (h : fX3_add v1 v2 v3 I = some r) (q j : Nat) (cq0 : q ≠ 49) (cq1 : q ≠ 48 ∨ j ≠ 2) (cq2 : q ≠ 48 ∨ j ≠ 0) : r q j = I q j := by
  unfold fX3_add at h
  obtain ⟨I1, eI1, h⟩ := ob h
  have q1 : I1 q j = _ := (by rw [← (wI_some eI1).2.2]; exact g_up_ne (Or.inl cq0) : I1 q j = I q j).trans rfl
  obtain ⟨I2, eI2, h⟩ := ob h
  have q2 : I2 q j = _ := (by rw [← (wI_some eI2).2.2]; exact g_up_ne (Or.inl cq0) : I2 q j = I1 q j).trans q1
  obtain ⟨I3, eI3, h⟩ := ob h
  have q3 : I3 q j = _ := (by rw [← (wI_some eI3).2.2]; exact g_up_ne (Or.inl cq0) : I3 q j = I2 q j).trans q2
  obtain ⟨I4, eI4, h⟩ := ob h
  have q4 : I4 q j = _ := (by rw [← pU_some eI4]; exact g_up_ne cq1 : I4 q j = I3 q j).trans q3
  obtain ⟨I5, eI5, h⟩ := ob h
  have q5 : I5 q j = _ := (by rw [← pU_some eI5]; exact g_up_ne cq2 : I5 q j = I4 q j).trans q4
  obtain rfl := Option.some.inj h
  exact q5
set_option maxRecDepth 100000 in
set_option maxHeartbeats 1000000 in
theorem xfX3_dropLatest (I : gM) {r : gM} (h : fX3_dropLatest I = some r) (q j : Nat) (cq0 : q ≠ 48 ∨ j ≠ 2) (cq1 : q ≠ 48 ∨ j ≠ 0) : r q j = I q j := by
  unfold fX3_dropLatest at h
  rcases oi h with ⟨-, h⟩ | ⟨-, h⟩
  · obtain rfl := Option.some.inj h
    exact rfl
  · obtain ⟨I1, eI1, h⟩ := ob h
    have q1 : I1 q j = _ := (by rw [← pU_some eI1]; exact g_up_ne cq0 : I1 q j = I q j).trans rfl
    obtain ⟨I2, eI2, h⟩ := ob h
    have q2 : I2 q j = _ := (by rw [← pU_some eI2]; exact g_up_ne cq1 : I2 q j = I1 q j).trans q1
    obtain rfl := Option.some.inj h
    exact q2
set_option maxRecDepth 100000 in
set_option maxHeartbeats 1000000 in
theorem xfX4_clear (k : Nat) (I : gM) {r : gM} (h : fX4_clear k I = some r) (q j : Nat) (cq0 : q ≠ k ∨ j ≠ 0) : r q j = I q j := by
  unfold fX4_clear at h
  obtain ⟨I1, eI1, h⟩ := ob h
  have q1 : I1 q j = _ := (by rw [← pU_some eI1]; exact g_up_ne cq0 : I1 q j = I q j).trans rfl
  obtain rfl := Option.some.inj h
  exact q1
set_option maxRecDepth 100000 in
set_option maxHeartbeats 1000000 in
theorem xfX4_copyFrom (k : Nat) (k1 : Nat) (I : gM) {r : gM} (h : fX4_copyFrom k k1 I = some r) (q j : Nat) (cq0 : q ≠ k ∨ j ≠ 0) (cq1 : q ≠ k + 1) : r q j = I q j := by
  unfold fX4_copyFrom at h
  obtain ⟨I1, eI1, h⟩ := ob h
  have q1 : I1 q j = _ := (by rw [← pU_some eI1]; exact g_up_ne cq0 : I1 q j = I q j).trans rfl
  obtain ⟨I2, eI2, h⟩ := ob h
  have q2 : I2 q j = _ := (by rw [← (cpI_some eI2).2.2.2.2.2]; exact if_neg cq1 : I2 q j = I1 q j).trans q1
  obtain rfl := Option.some.inj h
  exact q2
set_option maxRecDepth 100000 in
set_option maxHeartbeats 1000000 in
theorem xfX4_add (k : Nat) (v1 : Int32) (v2 : Int32) (I : gM) {r : gM} (h : fX4_add k v1 v2 I = some r) (q j : Nat) (cq0 : q ≠ k + 1) (cq1 : q ≠ k ∨ j ≠ 0) : r q j = I q j := by
  unfold fX4_add at h
  rcases oi h with ⟨-, h⟩ | ⟨-, h⟩
  · obtain rfl := Option.some.inj h
    exact rfl
  · obtain ⟨I1, eI1, h⟩ := ob h
    have q1 : I1 q j = _ := (by rw [← (wI_some eI1).2.2]; exact g_up_ne (Or.inl cq0) : I1 q j = I q j).trans rfl
    obtain ⟨I2, eI2, h⟩ := ob h
    have q2 : I2 q j = _ := (by rw [← (wI_some eI2).2.2]; exact g_up_ne (Or.inl cq0) : I2 q j = I1 q j).trans q1
    obtain ⟨r3, er3, h⟩ := ob h
    have q3 : r3 q j = _ := (congrFun (zfJ7_fill_fda19 (k + 1) 60 (((I k 0) * 5) + 2) (((I k 0) * 5) + 5) ((-1) : Int32) I2 er3 q cq0) j).trans q2
    obtain ⟨I4, eI4, h⟩ := ob h
    have q4 : I4 q j = _ := (by rw [← pU_some eI4]; exact g_up_ne cq1 : I4 q j = r3 q j).trans q3
    obtain rfl := Option.some.inj h
    exact q4
set_option maxRecDepth 100000 in
set_option maxHeartbeats 1000000 in
theorem xfX4_setNumber (k : Nat) (v1 : Int32) (v2 : Int32) (I : gM) {r : gM} (h : fX4_setNumber k v1 v2 I = some r) (q j : Nat) (cq0 : q ≠ k + 1) : r q j = I q j := by
  unfold fX4_setNumber at h
  rcases oi h with ⟨-, h⟩ | ⟨-, h⟩
  · obtain rfl := Option.some.inj h
    exact rfl
  · rcases oi h with ⟨-, h⟩ | ⟨-, h⟩
    · obtain rfl := Option.some.inj h
      exact rfl
    · rcases oi h with ⟨-, h⟩ | ⟨-, h⟩
      · obtain rfl := Option.some.inj h
        exact rfl
      · obtain ⟨I1, eI1, h⟩ := ob h
        have q1 : I1 q j = _ := (by rw [← (wI_some eI1).2.2]; exact g_up_ne (Or.inl cq0) : I1 q j = I q j).trans rfl
        obtain rfl := Option.some.inj h
        exact q1
set_option maxRecDepth 100000 in
set_option maxHeartbeats 1000000 in
theorem xlX5_insert_45 (k : Nat) (v2 : Int32) (v3 : Int32) (s : (Int32 × gM)) {r : Int32 × gM} (h : lX5_insert_45 k v2 v3 s = some r) (q j : Nat) (cq0 : q ≠ k + 4) : r.2 q j = s.2 q j := by
  unfold lX5_insert_45 at h
  revert s
  refine itO_ind (P := fun s : (Int32 × gM) => r.2 q j = s.2 q j) (fun s y h hl hr => ?_)
  rcases oi h with ⟨-, h⟩ | ⟨-, h⟩
  · obtain rfl := Option.some.inj h
    have hh := hr _ rfl
    subst hh
    exact rfl
  · obtain ⟨u5, -, h⟩ := ob h
    rcases oi h with ⟨-, h⟩ | ⟨-, h⟩
    · obtain rfl := Option.some.inj h
      have hh := hr _ rfl
      subst hh
      exact rfl
    · obtain ⟨u6, -, h⟩ := ob h
      obtain ⟨I7, eI7, h⟩ := ob h
      have q1 : I7 q j = _ := (by rw [← (wI_some eI7).2.2]; exact g_up_ne (Or.inl cq0) : I7 q j = s.2 q j).trans rfl
      obtain rfl := Option.some.inj h
      exact (hl _ rfl).trans q1
set_option maxRecDepth 100000 in
set_option maxHeartbeats 1000000 in
theorem xfX5_insert (k : Nat) (v1 : Int32) (v2 : Int32) (I : gM) {r : gM} (h : fX5_insert k v1 v2 I = some r) (q j : Nat) (cq0 : q ≠ k + 4) (cq1 : q ≠ k + 2) : r q j = I q j := by
  unfold fX5_insert at h
  obtain ⟨r1, -, h⟩ := ob h
  rcases oi h with ⟨-, h⟩ | ⟨-, h⟩
  · obtain rfl := Option.some.inj h
    exact rfl
  · obtain ⟨u2, -, h⟩ := ob h
    rcases oi h with ⟨-, h⟩ | ⟨-, h⟩
    · obtain rfl := Option.some.inj h
      exact rfl
    · obtain ⟨r3, -, h⟩ := ob h
      rcases oi h with ⟨-, h⟩ | ⟨-, h⟩
      · obtain ⟨u4, -, h⟩ := ob h
        obtain ⟨w8, ew8, h⟩ := ob h
        have q1 : w8.2 q j = _ := (xlX5_insert_45 k v2 (v1 * 12) ((v1 * 12) + u4, I) ew8 q j cq0).trans rfl
        unfold bX5_insert_86 at h
        obtain ⟨I9, eI9, h⟩ := ob h
        have q2 : I9 q j = _ := (by rw [← (wI_some eI9).2.2]; exact g_up_ne (Or.inl cq0) : I9 q j = w8.2 q j).trans q1
        obtain ⟨u10, -, h⟩ := ob h
        obtain ⟨I11, eI11, h⟩ := ob h
        have q3 : I11 q j = _ := (by rw [← (wI_some eI11).2.2]; exact g_up_ne (Or.inl cq1) : I11 q j = I9 q j).trans q2
        obtain rfl := Option.some.inj h
        exact q3
      · obtain rfl := Option.some.inj h
        exact rfl
set_option maxRecDepth 100000 in
set_option maxHeartbeats 1000000 in
theorem xlX5_remove_56 (k : Nat) (v4 : Int32) (s : (Int32 × gM)) {r : gM} (h : lX5_remove_56 k v4 s = some r) (q j : Nat) (cq0 : q ≠ k + 4) : r q j = s.2 q j := by
  unfold lX5_remove_56 at h
  revert s
  refine itO_ind (P := fun s : (Int32 × gM) => r q j = s.2 q j) (fun s y h hl hr => ?_)
  rcases oi h with ⟨-, h⟩ | ⟨-, h⟩
  · obtain rfl := Option.some.inj h
    have hh := hr _ rfl
    subst hh
    exact rfl
  · obtain ⟨u5, -, h⟩ := ob h
    obtain ⟨I6, eI6, h⟩ := ob h
    have q1 : I6 q j = _ := (by rw [← (wI_some eI6).2.2]; exact g_up_ne (Or.inl cq0) : I6 q j = s.2 q j).trans rfl
    obtain rfl := Option.some.inj h
    exact (hl _ rfl).trans q1
set_option maxRecDepth 100000 in
set_option maxHeartbeats 1000000 in
theorem xfX5_remove (k : Nat) (v1 : Int32) (v2 : Int32) (I : gM) {r : gM} (h : fX5_remove k v1 v2 I = some r) (q j : Nat) (cq0 : q ≠ k + 2) (cq1 : q ≠ k + 4) : r q j = I q j := by
  unfold fX5_remove at h
  obtain ⟨r1, -, h⟩ := ob h
  rcases oi h with ⟨-, h⟩ | ⟨-, h⟩
  · unfold bX5_remove_18 at h
    rcases oi h with ⟨-, h⟩ | ⟨-, h⟩
    · obtain rfl := Option.some.inj h
      exact rfl
    · obtain ⟨u2, -, h⟩ := ob h
      obtain ⟨I3, eI3, h⟩ := ob h
      have q1 : I3 q j = _ := (by rw [← (wI_some eI3).2.2]; exact g_up_ne (Or.inl cq0) : I3 q j = I q j).trans rfl
      obtain ⟨u4, -, h⟩ := ob h
      obtain ⟨w7, ew7, h⟩ := ob h
      have q2 : w7 q j = _ := (xlX5_remove_56 k ((v1 * 12) + u4) ((v1 * 12) + ((-1) : Int32), I3) ew7 q j cq1).trans q1
      obtain rfl := Option.some.inj h
      exact q2
  · obtain ⟨r8, -, h⟩ := ob h
    unfold bX5_remove_18 at h
    rcases oi h with ⟨-, h⟩ | ⟨-, h⟩
    · obtain rfl := Option.some.inj h
      exact rfl
    · obtain ⟨u2, -, h⟩ := ob h
      obtain ⟨I3, eI3, h⟩ := ob h
      have q3 : I3 q j = _ := (by rw [← (wI_some eI3).2.2]; exact g_up_ne (Or.inl cq0) : I3 q j = I q j).trans rfl
      obtain ⟨u4, -, h⟩ := ob h
      obtain ⟨w7, ew7, h⟩ := ob h
      have q4 : w7 q j = _ := (xlX5_remove_56 k ((v1 * 12) + u4) ((v1 * 12) + r8, I3) ew7 q j cq1).trans q3
      obtain rfl := Option.some.inj h
      exact q4
set_option maxRecDepth 100000 in
set_option maxHeartbeats 1000000 in
theorem xfX5_change (k : Nat) (v1 : Int32) (v2 : Int32) (v3 : Int32) (I : gM) {r : gM} (h : fX5_change k v1 v2 v3 I = some r) (q j : Nat) (cq0 : q ≠ k + 4) (cq1 : q ≠ k + 2) (cq2 : q ≠ k ∨ j ≠ 1) (cq3 : q ≠ k ∨ j ≠ 2) : r q j = I q j := by
  unfold fX5_change at h
  rcases oi h with ⟨-, h⟩ | ⟨-, h⟩
  · obtain ⟨r1, er1, h⟩ := ob h
    have q1 : r1 q j = _ := (xfX5_insert k v2 v3 I er1 q j cq0 cq1).trans rfl
    obtain rfl := Option.some.inj h
    exact q1
  · rcases oi h with ⟨-, h⟩ | ⟨-, h⟩
    · obtain ⟨r2, er2, h⟩ := ob h
      have q2 : r2 q j = _ := (xfX5_remove k v2 v3 I er2 q j cq1 cq0).trans rfl
      obtain rfl := Option.some.inj h
      exact q2
    · rcases oi h with ⟨-, h⟩ | ⟨-, h⟩
      · obtain ⟨I3, eI3, h⟩ := ob h
        have q3 : I3 q j = _ := (by rw [← pU_some eI3]; exact g_up_ne cq2 : I3 q j = I q j).trans rfl
        obtain rfl := Option.some.inj h
        exact q3
      · obtain ⟨I4, eI4, h⟩ := ob h
        have q4 : I4 q j = _ := (by rw [← pU_some eI4]; exact g_up_ne cq3 : I4 q j = I q j).trans rfl
        obtain rfl := Option.some.inj h
        exact q4
set_option maxRecDepth 100000 in
set_option maxHeartbeats 1000000 in
theorem xlX4_rehearse_2 (k : Nat) (k1 : Nat) (s : (Int32 × gM)) {r : (Int32 × gM) ⊕ (gM)} (h : lX4_rehearse_2 k k1 s = some r) (q j : Nat) (cq0 : q ≠ k1 + 4) (cq1 : q ≠ k1 + 2) (cq2 : q ≠ k1 ∨ j ≠ 1) (cq3 : q ≠ k1 ∨ j ≠ 2) : ((Sum.elim (fun x : Int32 × gM => x.2 q j) (fun x : gM => x q j)) r) = s.2 q j := by
  unfold lX4_rehearse_2 at h
  revert s
  refine itO_ind (P := fun s : (Int32 × gM) => ((Sum.elim (fun x : Int32 × gM => x.2 q j) (fun x : gM => x q j)) r) = s.2 q j) (fun s y h hl hr => ?_)
  rcases oi h with ⟨-, h⟩ | ⟨-, h⟩
  · obtain rfl := Option.some.inj h
    have hh := hr _ rfl
    subst hh
    exact rfl
  · obtain ⟨r1, -, h⟩ := ob h
    obtain ⟨r2, -, h⟩ := ob h
    obtain ⟨r3, -, h⟩ := ob h
    obtain ⟨r4, -, h⟩ := ob h
    obtain ⟨r5, -, h⟩ := ob h
    obtain ⟨r6, -, h⟩ := ob h
    rcases oi h with ⟨-, h⟩ | ⟨-, h⟩
    · obtain ⟨r7, -, h⟩ := ob h
      obtain ⟨r8, er8, h⟩ := ob h
      have q1 : r8 q j = _ := (xfX5_change k1 r1 r2 r7 s.2 er8 q j cq0 cq1 cq2 cq3).trans rfl
      obtain rfl := Option.some.inj h
      exact (hl _ rfl).trans q1
    · obtain rfl := Option.some.inj h
      have hh := hr _ rfl
      subst hh
      exact rfl
set_option maxRecDepth 100000 in
set_option maxHeartbeats 1000000 in
theorem xfX4_rehearse (k : Nat) (k1 : Nat) (I : gM) {r : Int32 × gM} (h : fX4_rehearse k k1 I = some r) (q j : Nat) (cq0 : q ≠ k1 + 4) (cq1 : q ≠ k1 + 2) (cq2 : q ≠ k1 ∨ j ≠ 1) (cq3 : q ≠ k1 ∨ j ≠ 2) : r.2 q j = I q j := by
  unfold fX4_rehearse at h
  obtain ⟨w9, ew9, h⟩ := ob h
  have q1 := (xlX4_rehearse_2 k k1 ((0 : Int32), I) ew9 q j cq0 cq1 cq2 cq3).trans rfl
  rcases w9 with w9_0 | w9_1
  · replace h := oE1 h
    have q2 : w9_0.2 q j = _ := q1
    obtain rfl := Option.some.inj h
    exact q2
  · replace h := oE2 h
    have q3 : w9_1 q j = _ := q1
    obtain rfl := Option.some.inj h
    exact q3
set_option maxRecDepth 100000 in
set_option maxHeartbeats 1000000 in
theorem xfX5_clear (k : Nat) (I : gM) {r : gM} (h : fX5_clear k I = some r) (q j : Nat) (cq0 : q ≠ k ∨ j ≠ 0) (cq1 : q ≠ k ∨ j ≠ 1) (cq2 : q ≠ k ∨ j ≠ 2) (cq3 : q ≠ k + 1) (cq4 : q ≠ k + 2) : r q j = I q j := by
  unfold fX5_clear at h
  obtain ⟨I1, eI1, h⟩ := ob h
  have q1 : I1 q j = _ := (by rw [← pU_some eI1]; exact g_up_ne cq0 : I1 q j = I q j).trans rfl
  obtain ⟨I2, eI2, h⟩ := ob h
  have q2 : I2 q j = _ := (by rw [← pU_some eI2]; exact g_up_ne cq1 : I2 q j = I1 q j).trans q1
  obtain ⟨I3, eI3, h⟩ := ob h
  have q3 : I3 q j = _ := (by rw [← pU_some eI3]; exact g_up_ne cq2 : I3 q j = I2 q j).trans q2
  obtain ⟨r4, er4, h⟩ := ob h
  have q4 : r4 q j = _ := (congrFun (zfJ7_fill_53178 (k + 1) 4 (0 : Int32) I3 er4 q cq3) j).trans q3
  obtain ⟨r5, er5, h⟩ := ob h
  have q5 : r5 q j = _ := (congrFun (zfJ7_fill_53178 (k + 2) 4 (0 : Int32) r4 er5 q cq4) j).trans q4
  obtain rfl := Option.some.inj h
  exact q5
set_option maxRecDepth 100000 in
set_option maxHeartbeats 1000000 in
theorem xfX5_copyFrom (k : Nat) (k1 : Nat) (I : gM) {r : gM} (h : fX5_copyFrom k k1 I = some r) (q j : Nat) (cq0 : q ≠ k ∨ j ≠ 0) (cq1 : q ≠ k ∨ j ≠ 1) (cq2 : q ≠ k ∨ j ≠ 2) (cq3 : q ≠ k + 1) (cq4 : q ≠ k + 2) (cq5 : q ≠ k + 3) (cq6 : q ≠ k + 4) : r q j = I q j := by
  unfold fX5_copyFrom at h
  obtain ⟨I1, eI1, h⟩ := ob h
  have q1 : I1 q j = _ := (by rw [← pU_some eI1]; exact g_up_ne cq0 : I1 q j = I q j).trans rfl
  obtain ⟨I2, eI2, h⟩ := ob h
  have q2 : I2 q j = _ := (by rw [← pU_some eI2]; exact g_up_ne cq1 : I2 q j = I1 q j).trans q1
  obtain ⟨I3, eI3, h⟩ := ob h
  have q3 : I3 q j = _ := (by rw [← pU_some eI3]; exact g_up_ne cq2 : I3 q j = I2 q j).trans q2
  obtain ⟨I4, eI4, h⟩ := ob h
  have q4 : I4 q j = _ := (by rw [← (cpI_some eI4).2.2.2.2.2]; exact if_neg cq3 : I4 q j = I3 q j).trans q3
  obtain ⟨I5, eI5, h⟩ := ob h
  have q5 : I5 q j = _ := (by rw [← (cpI_some eI5).2.2.2.2.2]; exact if_neg cq4 : I5 q j = I4 q j).trans q4
  obtain ⟨I6, eI6, h⟩ := ob h
  have q6 : I6 q j = _ := (by rw [← (cpI_some eI6).2.2.2.2.2]; exact if_neg cq5 : I6 q j = I5 q j).trans q5
  obtain ⟨I7, eI7, h⟩ := ob h
  have q7 : I7 q j = _ := (by rw [← (cpI_some eI7).2.2.2.2.2]; exact if_neg cq6 : I7 q j = I6 q j).trans q6
  obtain rfl := Option.some.inj h
  exact q7
set_option maxRecDepth 100000 in
set_option maxHeartbeats 1000000 in
theorem xfX5_open (k : Nat) (I : gM) {r : gM} (h : fX5_open k I = some r) (q j : Nat) (cq0 : q ≠ k + 1) (cq1 : q ≠ k + 2) (cq2 : q ≠ k ∨ j ≠ 1) (cq3 : q ≠ k ∨ j ≠ 0) : r q j = I q j := by
  unfold fX5_open at h
  rcases oi h with ⟨-, h⟩ | ⟨-, h⟩
  · obtain rfl := Option.some.inj h
    exact rfl
  · obtain ⟨I1, eI1, h⟩ := ob h
    have q1 : I1 q j = _ := (by rw [← (wI_some eI1).2.2]; exact g_up_ne (Or.inl cq0) : I1 q j = I q j).trans rfl
    obtain ⟨I2, eI2, h⟩ := ob h
    have q2 : I2 q j = _ := (by rw [← (wI_some eI2).2.2]; exact g_up_ne (Or.inl cq1) : I2 q j = I1 q j).trans q1
    obtain ⟨I3, eI3, h⟩ := ob h
    have q3 : I3 q j = _ := (by rw [← pU_some eI3]; exact g_up_ne cq2 : I3 q j = I2 q j).trans q2
    obtain ⟨I4, eI4, h⟩ := ob h
    have q4 : I4 q j = _ := (by rw [← pU_some eI4]; exact g_up_ne cq3 : I4 q j = I3 q j).trans q3
    obtain rfl := Option.some.inj h
    exact q4
set_option maxRecDepth 100000 in
set_option maxHeartbeats 1000000 in
theorem xfX5_addLetter (k : Nat) (v1 : Int32) (I : gM) {r : Int32 × gM} (h : fX5_addLetter k v1 I = some r) (q j : Nat) (cq0 : q ≠ k + 3) (cq1 : q ≠ k + 1) : r.2 q j = I q j := by
  unfold fX5_addLetter at h
  obtain ⟨r1, -, h⟩ := ob h
  rcases oi h with ⟨-, h⟩ | ⟨-, h⟩
  · obtain rfl := Option.some.inj h
    exact rfl
  · obtain ⟨u2, -, h⟩ := ob h
    rcases oi h with ⟨-, h⟩ | ⟨-, h⟩
    · obtain rfl := Option.some.inj h
      exact rfl
    · obtain ⟨r3, -, h⟩ := ob h
      rcases oi h with ⟨-, h⟩ | ⟨-, h⟩
      · obtain ⟨u4, -, h⟩ := ob h
        obtain ⟨I5, eI5, h⟩ := ob h
        have q1 : I5 q j = _ := (by rw [← (wI_some eI5).2.2]; exact g_up_ne (Or.inl cq0) : I5 q j = I q j).trans rfl
        obtain ⟨u6, -, h⟩ := ob h
        obtain ⟨I7, eI7, h⟩ := ob h
        have q2 : I7 q j = _ := (by rw [← (wI_some eI7).2.2]; exact g_up_ne (Or.inl cq1) : I7 q j = I5 q j).trans q1
        obtain rfl := Option.some.inj h
        exact q2
      · obtain rfl := Option.some.inj h
        exact rfl
set_option maxRecDepth 100000 in
set_option maxHeartbeats 1000000 in
theorem xfX5_changeBack (k : Nat) (v1 : Int32) (v2 : Int32) (v3 : Int32) (I : gM) {r : gM} (h : fX5_changeBack k v1 v2 v3 I = some r) (q j : Nat) (cq0 : q ≠ k + 2) (cq1 : q ≠ k + 4) (cq2 : q ≠ k ∨ j ≠ 1) (cq3 : q ≠ k ∨ j ≠ 2) : r q j = I q j := by
  unfold fX5_changeBack at h
  rcases oi h with ⟨-, h⟩ | ⟨-, h⟩
  · obtain ⟨r1, er1, h⟩ := ob h
    have q1 : r1 q j = _ := (xfX5_remove k v2 v3 I er1 q j cq0 cq1).trans rfl
    obtain rfl := Option.some.inj h
    exact q1
  · rcases oi h with ⟨-, h⟩ | ⟨-, h⟩
    · obtain ⟨r2, er2, h⟩ := ob h
      have q2 : r2 q j = _ := (xfX5_insert k v2 v3 I er2 q j cq1 cq0).trans rfl
      obtain rfl := Option.some.inj h
      exact q2
    · obtain ⟨r3, er3, h⟩ := ob h
      have q3 : r3 q j = _ := (xfX5_change k v1 v2 v3 I er3 q j cq1 cq0 cq2 cq3).trans rfl
      obtain rfl := Option.some.inj h
      exact q3
set_option maxRecDepth 100000 in
set_option maxHeartbeats 1000000 in
theorem xlX6_append_3 (v1 : Int32) (s : (Int32 × gM)) {r : gM} (h : lX6_append_3 v1 s = some r) (q j : Nat) (cq0 : q ≠ 2) (cq1 : q ≠ 1 ∨ j ≠ 0) : r q j = s.2 q j := by
  unfold lX6_append_3 at h
  revert s
  refine itO_ind (P := fun s : (Int32 × gM) => r q j = s.2 q j) (fun s y h hl hr => ?_)
  rcases oi h with ⟨-, h⟩ | ⟨-, h⟩
  · obtain rfl := Option.some.inj h
    have hh := hr _ rfl
    subst hh
    exact rfl
  · rcases oi h with ⟨-, h⟩ | ⟨-, h⟩
    · unfold bX6_append_50 at h
      obtain rfl := Option.some.inj h
      exact (hl _ rfl).trans rfl
    · rcases oi h with ⟨-, h⟩ | ⟨-, h⟩
      · unfold bX6_append_50 at h
        obtain rfl := Option.some.inj h
        exact (hl _ rfl).trans rfl
      · obtain ⟨I1, eI1, h⟩ := ob h
        have q1 : I1 q j = _ := (by rw [← (wI_some eI1).2.2]; exact g_up_ne (Or.inl cq0) : I1 q j = s.2 q j).trans rfl
        obtain ⟨I2, eI2, h⟩ := ob h
        have q2 : I2 q j = _ := (by rw [← pU_some eI2]; exact g_up_ne cq1 : I2 q j = I1 q j).trans q1
        unfold bX6_append_50 at h
        obtain rfl := Option.some.inj h
        exact (hl _ rfl).trans q2
set_option maxRecDepth 100000 in
set_option maxHeartbeats 1000000 in
theorem xfX6_append (v1 : Int32) (I : gM) {r : gM} (h : fX6_append v1 I = some r) (q j : Nat) (cq0 : q ≠ 2) (cq1 : q ≠ 1 ∨ j ≠ 0) : r q j = I q j := by
  unfold fX6_append at h
  obtain ⟨w3, ew3, h⟩ := ob h
  have q1 : w3 q j = _ := (xlX6_append_3 v1 ((24 : Int32), I) ew3 q j cq0 cq1).trans rfl
  obtain rfl := Option.some.inj h
  exact q1
set_option maxRecDepth 100000 in
set_option maxHeartbeats 1000000 in
theorem xlX6_peek_0  (s : gM) {r : gM} (h : lX6_peek_0 s = some r) (q j : Nat) (cq0 : q ≠ 1 ∨ j ≠ 2) : r q j = s q j := by
  unfold lX6_peek_0 at h
  revert s
  refine itO_ind (P := fun s : gM => r q j = s q j) (fun s y h hl hr => ?_)
  rcases oi h with ⟨-, h⟩ | ⟨-, h⟩
  · obtain rfl := Option.some.inj h
    have hh := hr _ rfl
    subst hh
    exact rfl
  · rcases oi h with ⟨-, h⟩ | ⟨-, h⟩
    · obtain rfl := Option.some.inj h
      have hh := hr _ rfl
      subst hh
      exact rfl
    · obtain ⟨u1, -, h⟩ := ob h
      rcases oi h with ⟨-, h⟩ | ⟨-, h⟩
      · obtain ⟨I2, eI2, h⟩ := ob h
        have q1 : I2 q j = _ := (by rw [← pU_some eI2]; exact g_up_ne cq0 : I2 q j = s q j).trans rfl
        obtain rfl := Option.some.inj h
        exact (hl _ rfl).trans q1
      · obtain rfl := Option.some.inj h
        have hh := hr _ rfl
        subst hh
        exact rfl
set_option maxRecDepth 100000 in
set_option maxHeartbeats 1000000 in
theorem xfX6_peek (I : gM) {r : Int32 × gM} (h : fX6_peek I = some r) (q j : Nat) (cq0 : q ≠ 1 ∨ j ≠ 2) : r.2 q j = I q j := by
  unfold fX6_peek at h
  obtain ⟨w3, ew3, h⟩ := ob h
  have q1 : w3 q j = _ := (xlX6_peek_0 I ew3 q j cq0).trans rfl
  unfold bX6_peek_48 at h
  rcases oi h with ⟨-, h⟩ | ⟨-, h⟩
  · obtain rfl := Option.some.inj h
    exact q1
  · rcases oi h with ⟨-, h⟩ | ⟨-, h⟩
    · obtain rfl := Option.some.inj h
      exact q1
    · obtain ⟨u4, -, h⟩ := ob h
      obtain rfl := Option.some.inj h
      exact q1
set_option maxRecDepth 100000 in
set_option maxHeartbeats 1000000 in
theorem xfX6_number (I : gM) {r : Int32 × gM} (h : fX6_number I = some r) (q j : Nat) (cq0 : q ≠ 1 ∨ j ≠ 2) : r.2 q j = I q j := by
  unfold fX6_number at h
  obtain ⟨r1, er1, h⟩ := ob h
  have q1 : r1.2 q j = _ := (xfX6_peek I er1 q j cq0).trans rfl
  obtain ⟨r2, -, h⟩ := ob h
  rcases oi h with ⟨-, h⟩ | ⟨-, h⟩
  · obtain rfl := Option.some.inj h
    exact q1
  · obtain ⟨I3, eI3, h⟩ := ob h
    have q2 : I3 q j = _ := (by rw [← pU_some eI3]; exact g_up_ne cq0 : I3 q j = r1.2 q j).trans q1
    rcases oi h with ⟨-, h⟩ | ⟨-, h⟩
    · obtain rfl := Option.some.inj h
      exact q2
    · rcases oi h with ⟨-, h⟩ | ⟨-, h⟩
      · obtain rfl := Option.some.inj h
        exact q2
      · obtain ⟨u4, -, h⟩ := ob h
        obtain ⟨r5, -, h⟩ := ob h
        rcases oi h with ⟨-, h⟩ | ⟨-, h⟩
        · obtain rfl := Option.some.inj h
          exact q2
        · obtain ⟨u6, -, h⟩ := ob h
          obtain ⟨I7, eI7, h⟩ := ob h
          have q3 : I7 q j = _ := (by rw [← pU_some eI7]; exact g_up_ne cq0 : I7 q j = I3 q j).trans q2
          obtain rfl := Option.some.inj h
          exact q3
set_option maxRecDepth 100000 in
set_option maxHeartbeats 1000000 in
theorem xlX6_isRow_5 (k1 : Nat) (v2 : Int32) (s : (Int32 × Int32 × gM)) {r : (gM) ⊕ ((gM) ⊕ (Int32 × gM))} (h : lX6_isRow_5 k1 v2 s = some r) (q j : Nat) (cq0 : q ≠ 1 ∨ j ≠ 2) : ((Sum.elim (fun x : gM => x q j) (Sum.elim (fun x : gM => x q j) (fun x : Int32 × gM => x.2 q j))) r) = s.2.2 q j := by
  unfold lX6_isRow_5 at h
  revert s
  refine itO_ind (P := fun s : (Int32 × Int32 × gM) => ((Sum.elim (fun x : gM => x q j) (Sum.elim (fun x : gM => x q j) (fun x : Int32 × gM => x.2 q j))) r) = s.2.2 q j) (fun s y h hl hr => ?_)
  obtain ⟨u1, -, h⟩ := ob h
  rcases oi h with ⟨-, h⟩ | ⟨-, h⟩
  · obtain rfl := Option.some.inj h
    have hh := hr _ rfl
    subst hh
    exact rfl
  · rcases oi h with ⟨-, h⟩ | ⟨-, h⟩
    · unfold bX6_isRow_42 at h
      obtain ⟨r2, er2, h⟩ := ob h
      have q1 : r2.2 q j = _ := (xfX6_number s.2.2 er2 q j cq0).trans rfl
      rcases oi h with ⟨-, h⟩ | ⟨-, h⟩
      · obtain rfl := Option.some.inj h
        have hh := hr _ rfl
        subst hh
        exact q1
      · obtain rfl := Option.some.inj h
        exact (hl _ rfl).trans q1
    · obtain ⟨r3, er3, h⟩ := ob h
      have q2 : r3.2 q j = _ := (xfX6_peek s.2.2 er3 q j cq0).trans rfl
      rcases oi h with ⟨-, h⟩ | ⟨-, h⟩
      · obtain ⟨I4, eI4, h⟩ := ob h
        have q3 : I4 q j = _ := (by rw [← pU_some eI4]; exact g_up_ne cq0 : I4 q j = r3.2 q j).trans q2
        unfold bX6_isRow_42 at h
        obtain ⟨r2, er2, h⟩ := ob h
        have q4 : r2.2 q j = _ := (xfX6_number I4 er2 q j cq0).trans q3
        rcases oi h with ⟨-, h⟩ | ⟨-, h⟩
        · obtain rfl := Option.some.inj h
          have hh := hr _ rfl
          subst hh
          exact q4
        · obtain rfl := Option.some.inj h
          exact (hl _ rfl).trans q4
      · obtain rfl := Option.some.inj h
        have hh := hr _ rfl
        subst hh
        exact q2
set_option maxRecDepth 100000 in
set_option maxHeartbeats 1000000 in
theorem xfX6_isRow (k1 : Nat) (v2 : Int32) (I : gM) {r : Int32 × gM} (h : fX6_isRow k1 v2 I = some r) (q j : Nat) (cq0 : q ≠ 1 ∨ j ≠ 2) (cq1 : q ≠ k1 + 4) (cq2 : q ≠ k1 + 2) : r.2 q j = I q j := by
  unfold fX6_isRow at h
  obtain ⟨w5, ew5, h⟩ := ob h
  have q1 := (xlX6_isRow_5 k1 v2 ((0 : Int32), (0 : Int32), I) ew5 q j cq0).trans rfl
  rcases w5 with w5_0 | w5r
  · replace h := oE1 h
    have q2 : w5_0 q j = _ := q1
    obtain rfl := Option.some.inj h
    exact q2
  · replace h := oE2 h
    rcases w5r with w5_1 | w5_2
    · replace h := oE1 h
      have q3 : w5_1 q j = _ := q1
      obtain rfl := Option.some.inj h
      exact q3
    · replace h := oE2 h
      have q4 : w5_2.2 q j = _ := q1
      obtain ⟨r6, er6, h⟩ := ob h
      have q5 : r6 q j = _ := (xfX5_insert k1 v2 w5_2.1 w5_2.2 er6 q j cq1 cq2).trans q4
      obtain rfl := Option.some.inj h
      exact q5
set_option maxRecDepth 100000 in
set_option maxHeartbeats 1000000 in
theorem xlX6_isClause_13 (k1 : Nat) (s : (Int32 × gM)) {r : (gM) ⊕ (gM)} (h : lX6_isClause_13 k1 s = some r) (q j : Nat) (cq0 : q ≠ 1 ∨ j ≠ 2) (cq1 : q ≠ k1 + 3) (cq2 : q ≠ k1 + 1) : ((Sum.elim (fun x : gM => x q j) (fun x : gM => x q j)) r) = s.2 q j := by
  unfold lX6_isClause_13 at h
  revert s
  refine itO_ind (P := fun s : (Int32 × gM) => ((Sum.elim (fun x : gM => x q j) (fun x : gM => x q j)) r) = s.2 q j) (fun s y h hl hr => ?_)
  rcases oi h with ⟨-, h⟩ | ⟨-, h⟩
  · obtain rfl := Option.some.inj h
    have hh := hr _ rfl
    subst hh
    exact rfl
  · obtain ⟨r2, er2, h⟩ := ob h
    have q1 : r2.2 q j = _ := (xfX6_peek s.2 er2 q j cq0).trans rfl
    rcases oi h with ⟨-, h⟩ | ⟨-, h⟩
    · obtain rfl := Option.some.inj h
      have hh := hr _ rfl
      subst hh
      exact q1
    · rcases oi h with ⟨-, h⟩ | ⟨-, h⟩
      · obtain rfl := Option.some.inj h
        have hh := hr _ rfl
        subst hh
        exact q1
      · obtain ⟨r3, er3, h⟩ := ob h
        have q2 : r3.2 q j = _ := (xfX5_addLetter k1 (r2.1 - 97) r2.2 er3 q j cq1 cq2).trans q1
        rcases oi h with ⟨-, h⟩ | ⟨-, h⟩
        · obtain rfl := Option.some.inj h
          have hh := hr _ rfl
          subst hh
          exact q2
        · obtain ⟨I4, eI4, h⟩ := ob h
          have q3 : I4 q j = _ := (by rw [← pU_some eI4]; exact g_up_ne cq0 : I4 q j = r3.2 q j).trans q2
          obtain rfl := Option.some.inj h
          exact (hl _ rfl).trans q3
set_option maxRecDepth 100000 in
set_option maxHeartbeats 1000000 in
theorem xlX6_isClause_114 (k1 : Nat) (v2 : Int32) (s : (Int32 × gM)) {r : (gM) ⊕ ((gM) ⊕ (gM))} (h : lX6_isClause_114 k1 v2 s = some r) (q j : Nat) (cq0 : q ≠ 1 ∨ j ≠ 2) (cq1 : q ≠ k1 + 4) (cq2 : q ≠ k1 + 2) : ((Sum.elim (fun x : gM => x q j) (Sum.elim (fun x : gM => x q j) (fun x : gM => x q j))) r) = s.2 q j := by
  unfold lX6_isClause_114 at h
  revert s
  refine itO_ind (P := fun s : (Int32 × gM) => ((Sum.elim (fun x : gM => x q j) (Sum.elim (fun x : gM => x q j) (fun x : gM => x q j))) r) = s.2 q j) (fun s y h hl hr => ?_)
  rcases oi h with ⟨-, h⟩ | ⟨-, h⟩
  · obtain rfl := Option.some.inj h
    have hh := hr _ rfl
    subst hh
    exact rfl
  · obtain ⟨r11, er11, h⟩ := ob h
    have q1 : r11.2 q j = _ := (xfX6_isRow k1 v2 s.2 er11 q j cq0 cq1 cq2).trans rfl
    rcases oi h with ⟨-, h⟩ | ⟨-, h⟩
    · obtain rfl := Option.some.inj h
      have hh := hr _ rfl
      subst hh
      exact q1
    · obtain ⟨r12, er12, h⟩ := ob h
      have q2 : r12.2 q j = _ := (xfX6_peek r11.2 er12 q j cq0).trans q1
      rcases oi h with ⟨-, h⟩ | ⟨-, h⟩
      · obtain ⟨I13, eI13, h⟩ := ob h
        have q3 : I13 q j = _ := (by rw [← pU_some eI13]; exact g_up_ne cq0 : I13 q j = r12.2 q j).trans q2
        obtain rfl := Option.some.inj h
        exact (hl _ rfl).trans q3
      · obtain rfl := Option.some.inj h
        have hh := hr _ rfl
        subst hh
        exact q2
set_option maxRecDepth 100000 in
set_option maxHeartbeats 1000000 in
theorem xfX6_isClause (k1 : Nat) (I : gM) {r : Int32 × gM} (h : fX6_isClause k1 I = some r) (q j : Nat) (cq0 : q ≠ k1 + 1) (cq1 : q ≠ k1 + 2) (cq2 : q ≠ k1 ∨ j ≠ 1) (cq3 : q ≠ k1 ∨ j ≠ 0) (cq4 : q ≠ 1 ∨ j ≠ 2) (cq5 : q ≠ k1 + 3) (cq6 : q ≠ k1 + 4) : r.2 q j = I q j := by
  unfold fX6_isClause at h
  obtain ⟨r1, er1, h⟩ := ob h
  have q1 : r1 q j = _ := (xfX5_open k1 I er1 q j cq0 cq1 cq2 cq3).trans rfl
  obtain ⟨w5, ew5, h⟩ := ob h
  have q2 := (xlX6_isClause_13 k1 ((0 : Int32), r1) ew5 q j cq4 cq5 cq0).trans q1
  rcases w5 with w5_0 | w5_1
  · replace h := oE1 h
    have q3 : w5_0 q j = _ := q2
    unfold bX6_isClause_66 at h
    rcases oi h with ⟨-, h⟩ | ⟨-, h⟩
    · obtain rfl := Option.some.inj h
      exact q3
    · obtain ⟨u6, -, h⟩ := ob h
      rcases oi h with ⟨-, h⟩ | ⟨-, h⟩
      · obtain rfl := Option.some.inj h
        exact q3
      · obtain ⟨r7, er7, h⟩ := ob h
        have q4 : r7.2 q j = _ := (xfX6_peek w5_0 er7 q j cq4).trans q3
        rcases oi h with ⟨-, h⟩ | ⟨-, h⟩
        · obtain ⟨I8, eI8, h⟩ := ob h
          have q5 : I8 q j = _ := (by rw [← pU_some eI8]; exact g_up_ne cq4 : I8 q j = r7.2 q j).trans q4
          obtain ⟨r9, er9, h⟩ := ob h
          have q6 : r9.2 q j = _ := (xfX6_peek I8 er9 q j cq4).trans q5
          obtain ⟨r10, -, h⟩ := ob h
          rcases oi h with ⟨-, h⟩ | ⟨-, h⟩
          · obtain rfl := Option.some.inj h
            exact q6
          · obtain ⟨w14, ew14, h⟩ := ob h
            have q7 := (xlX6_isClause_114 k1 ((r1 k1 0) - 1) ((1 : Int32), r9.2) ew14 q j cq4 cq6 cq1).trans q6
            rcases w14 with w14_0 | w14r
            · replace h := oE1 h
              have q8 : w14_0 q j = _ := q7
              obtain rfl := Option.some.inj h
              exact q8
            · replace h := oE2 h
              rcases w14r with w14_1 | w14_2
              · replace h := oE1 h
                have q9 : w14_1 q j = _ := q7
                obtain rfl := Option.some.inj h
                exact q9
              · replace h := oE2 h
                have q10 : w14_2 q j = _ := q7
                obtain ⟨r15, er15, h⟩ := ob h
                have q11 : r15.2 q j = _ := (xfX6_isRow k1 ((r1 k1 0) - 1) w14_2 er15 q j cq4 cq6 cq1).trans q10
                obtain ⟨u16, -, h⟩ := ob h
                obtain rfl := Option.some.inj h
                exact q11
        · obtain rfl := Option.some.inj h
          exact q4
  · replace h := oE2 h
    have q12 : w5_1 q j = _ := q2
    unfold bX6_isClause_66 at h
    rcases oi h with ⟨-, h⟩ | ⟨-, h⟩
    · obtain rfl := Option.some.inj h
      exact q12
    · obtain ⟨u6, -, h⟩ := ob h
      rcases oi h with ⟨-, h⟩ | ⟨-, h⟩
      · obtain rfl := Option.some.inj h
        exact q12
      · obtain ⟨r7, er7, h⟩ := ob h
        have q13 : r7.2 q j = _ := (xfX6_peek w5_1 er7 q j cq4).trans q12
        rcases oi h with ⟨-, h⟩ | ⟨-, h⟩
        · obtain ⟨I8, eI8, h⟩ := ob h
          have q14 : I8 q j = _ := (by rw [← pU_some eI8]; exact g_up_ne cq4 : I8 q j = r7.2 q j).trans q13
          obtain ⟨r9, er9, h⟩ := ob h
          have q15 : r9.2 q j = _ := (xfX6_peek I8 er9 q j cq4).trans q14
          obtain ⟨r10, -, h⟩ := ob h
          rcases oi h with ⟨-, h⟩ | ⟨-, h⟩
          · obtain rfl := Option.some.inj h
            exact q15
          · obtain ⟨w14, ew14, h⟩ := ob h
            have q16 := (xlX6_isClause_114 k1 ((r1 k1 0) - 1) ((1 : Int32), r9.2) ew14 q j cq4 cq6 cq1).trans q15
            rcases w14 with w14_0 | w14r
            · replace h := oE1 h
              have q17 : w14_0 q j = _ := q16
              obtain rfl := Option.some.inj h
              exact q17
            · replace h := oE2 h
              rcases w14r with w14_1 | w14_2
              · replace h := oE1 h
                have q18 : w14_1 q j = _ := q16
                obtain rfl := Option.some.inj h
                exact q18
              · replace h := oE2 h
                have q19 : w14_2 q j = _ := q16
                obtain ⟨r15, er15, h⟩ := ob h
                have q20 : r15.2 q j = _ := (xfX6_isRow k1 ((r1 k1 0) - 1) w14_2 er15 q j cq4 cq6 cq1).trans q19
                obtain ⟨u16, -, h⟩ := ob h
                obtain rfl := Option.some.inj h
                exact q20
        · obtain rfl := Option.some.inj h
          exact q13
set_option maxRecDepth 100000 in
set_option maxHeartbeats 1000000 in
theorem xlX6_readTables_17 (k1 : Nat) (s : (Int32 × Int32 × gM)) {r : Int32 × gM} (h : lX6_readTables_17 k1 s = some r) (q j : Nat) (cq0 : q ≠ 1 ∨ j ≠ 2) (cq1 : q ≠ k1 + 1) (cq2 : q ≠ k1 + 2) (cq3 : q ≠ k1 ∨ j ≠ 1) (cq4 : q ≠ k1 ∨ j ≠ 0) (cq5 : q ≠ k1 + 3) (cq6 : q ≠ k1 + 4) : r.2 q j = s.2.2 q j := by
  unfold lX6_readTables_17 at h
  revert s
  refine itO_ind (P := fun s : (Int32 × Int32 × gM) => r.2 q j = s.2.2 q j) (fun s y h hl hr => ?_)
  rcases oi h with ⟨-, h⟩ | ⟨-, h⟩
  · obtain rfl := Option.some.inj h
    have hh := hr _ rfl
    subst hh
    exact rfl
  · rcases oi h with ⟨-, h⟩ | ⟨-, h⟩
    · obtain rfl := Option.some.inj h
      have hh := hr _ rfl
      subst hh
      exact rfl
    · obtain ⟨r4, er4, h⟩ := ob h
      have q1 : r4.2 q j = _ := (xfX6_peek s.2.2 er4 q j cq0).trans rfl
      rcases oi h with ⟨-, h⟩ | ⟨-, h⟩
      · obtain ⟨I5, eI5, h⟩ := ob h
        have q2 : I5 q j = _ := (by rw [← pU_some eI5]; exact g_up_ne cq0 : I5 q j = r4.2 q j).trans q1
        obtain ⟨r6, er6, h⟩ := ob h
        have q3 : r6.2 q j = _ := (xfX6_isClause k1 I5 er6 q j cq1 cq2 cq3 cq4 cq0 cq5 cq6).trans q2
        obtain rfl := Option.some.inj h
        exact (hl _ rfl).trans q3
      · obtain rfl := Option.some.inj h
        have hh := hr _ rfl
        subst hh
        exact q1
set_option maxRecDepth 100000 in
set_option maxHeartbeats 1000000 in
theorem xfX6_readTables (k1 : Nat) (I : gM) {r : Int32 × gM} (h : fX6_readTables k1 I = some r) (q j : Nat) (cq0 : q ≠ 1 ∨ j ≠ 2) (cq1 : q ≠ k1 ∨ j ≠ 0) (cq2 : q ≠ k1 ∨ j ≠ 1) (cq3 : q ≠ k1 ∨ j ≠ 2) (cq4 : q ≠ k1 + 1) (cq5 : q ≠ k1 + 2) (cq6 : q ≠ k1 + 3) (cq7 : q ≠ k1 + 4) : r.2 q j = I q j := by
  unfold fX6_readTables at h
  obtain ⟨I1, eI1, h⟩ := ob h
  have q1 : I1 q j = _ := (by rw [← pU_some eI1]; exact g_up_ne cq0 : I1 q j = I q j).trans rfl
  obtain ⟨r2, er2, h⟩ := ob h
  have q2 : r2 q j = _ := (xfX5_clear k1 I1 er2 q j cq1 cq2 cq3 cq4 cq5).trans q1
  obtain ⟨r3, er3, h⟩ := ob h
  have q3 : r3.2 q j = _ := (xfX6_isClause k1 r2 er3 q j cq4 cq5 cq2 cq1 cq0 cq6 cq7).trans q2
  obtain ⟨w7, ew7, h⟩ := ob h
  have q4 : w7.2 q j = _ := (xlX6_readTables_17 k1 (r3.1, (1 : Int32), r3.2) ew7 q j cq0 cq4 cq5 cq2 cq1 cq6 cq7).trans q3
  unfold bX6_readTables_57 at h
  rcases oi h with ⟨-, h⟩ | ⟨-, h⟩
  · obtain rfl := Option.some.inj h
    exact q4
  · obtain ⟨r8, er8, h⟩ := ob h
    have q5 : r8.2 q j = _ := (xfX6_peek w7.2 er8 q j cq0).trans q4
    rcases oi h with ⟨-, h⟩ | ⟨-, h⟩
    · obtain rfl := Option.some.inj h
      exact q5
    · obtain rfl := Option.some.inj h
      exact q5
set_option maxRecDepth 100000 in
set_option maxHeartbeats 1000000 in
theorem xfX6_isOrder (k1 : Nat) (I : gM) {r : Int32 × gM} (h : fX6_isOrder k1 I = some r) (q j : Nat) (cq0 : q ≠ 1 ∨ j ≠ 2) (cq1 : q ≠ k1 + 1) (cq2 : q ≠ k1 ∨ j ≠ 0) : r.2 q j = I q j := by
  unfold fX6_isOrder at h
  obtain ⟨r1, er1, h⟩ := ob h
  have q1 : r1.2 q j = _ := (xfX6_number I er1 q j cq0).trans rfl
  rcases oi h with ⟨-, h⟩ | ⟨-, h⟩
  · obtain rfl := Option.some.inj h
    exact q1
  · rcases oi h with ⟨-, h⟩ | ⟨-, h⟩
    · obtain ⟨r2, er2, h⟩ := ob h
      have q2 : r2 q j = _ := (xfX4_add k1 (3 : Int32) r1.1 r1.2 er2 q j cq1 cq2).trans q1
      obtain rfl := Option.some.inj h
      exact q2
    · obtain ⟨I3, eI3, h⟩ := ob h
      have q3 : I3 q j = _ := (by rw [← pU_some eI3]; exact g_up_ne cq0 : I3 q j = r1.2 q j).trans q1
      obtain rfl := Option.some.inj h
      exact q3
set_option maxRecDepth 100000 in
set_option maxHeartbeats 1000000 in
theorem xlX6_isRowOfStep_13 (k1 : Nat) (s : (Int32 × gM)) {r : (gM) ⊕ ((gM) ⊕ (gM))} (h : lX6_isRowOfStep_13 k1 s = some r) (q j : Nat) (cq0 : q ≠ 1 ∨ j ≠ 2) (cq1 : q ≠ k1 + 1) : ((Sum.elim (fun x : gM => x q j) (Sum.elim (fun x : gM => x q j) (fun x : gM => x q j))) r) = s.2 q j := by
  unfold lX6_isRowOfStep_13 at h
  revert s
  refine itO_ind (P := fun s : (Int32 × gM) => ((Sum.elim (fun x : gM => x q j) (Sum.elim (fun x : gM => x q j) (fun x : gM => x q j))) r) = s.2 q j) (fun s y h hl hr => ?_)
  rcases oi h with ⟨-, h⟩ | ⟨-, h⟩
  · obtain rfl := Option.some.inj h
    have hh := hr _ rfl
    subst hh
    exact rfl
  · obtain ⟨I2, eI2, h⟩ := ob h
    have q1 : I2 q j = _ := (by rw [← pU_some eI2]; exact g_up_ne cq0 : I2 q j = s.2 q j).trans rfl
    obtain ⟨r3, er3, h⟩ := ob h
    have q2 : r3.2 q j = _ := (xfX6_number I2 er3 q j cq0).trans q1
    rcases oi h with ⟨-, h⟩ | ⟨-, h⟩
    · obtain rfl := Option.some.inj h
      have hh := hr _ rfl
      subst hh
      exact q2
    · obtain ⟨r4, er4, h⟩ := ob h
      have q3 : r4 q j = _ := (xfX4_setNumber k1 s.1 r3.1 r3.2 er4 q j cq1).trans q2
      obtain ⟨r5, er5, h⟩ := ob h
      have q4 : r5.2 q j = _ := (xfX6_peek r4 er5 q j cq0).trans q3
      rcases oi h with ⟨-, h⟩ | ⟨-, h⟩
      · obtain rfl := Option.some.inj h
        exact (hl _ rfl).trans q4
      · obtain rfl := Option.some.inj h
        have hh := hr _ rfl
        subst hh
        exact q4
set_option maxRecDepth 100000 in
set_option maxHeartbeats 1000000 in
theorem xfX6_isRowOfStep (k1 : Nat) (I : gM) {r : Int32 × gM} (h : fX6_isRowOfStep k1 I = some r) (q j : Nat) (cq0 : q ≠ 1 ∨ j ≠ 2) (cq1 : q ≠ k1 + 1) : r.2 q j = I q j := by
  unfold fX6_isRowOfStep at h
  obtain ⟨r1, er1, h⟩ := ob h
  have q1 : r1.2 q j = _ := (xfX6_peek I er1 q j cq0).trans rfl
  rcases oi h with ⟨-, h⟩ | ⟨-, h⟩
  · obtain ⟨w6, ew6, h⟩ := ob h
    have q2 := (xlX6_isRowOfStep_13 k1 ((0 : Int32), r1.2) ew6 q j cq0 cq1).trans q1
    rcases w6 with w6_0 | w6r
    · replace h := oE1 h
      have q3 : w6_0 q j = _ := q2
      obtain rfl := Option.some.inj h
      exact q3
    · replace h := oE2 h
      rcases w6r with w6_1 | w6_2
      · replace h := oE1 h
        have q4 : w6_1 q j = _ := q2
        obtain rfl := Option.some.inj h
        exact q4
      · replace h := oE2 h
        have q5 : w6_2 q j = _ := q2
        obtain rfl := Option.some.inj h
        exact q5
  · obtain rfl := Option.some.inj h
    exact q1
set_option maxRecDepth 100000 in
set_option maxHeartbeats 1000000 in
theorem xfX6_isStep (k1 : Nat) (I : gM) {r : Int32 × gM} (h : fX6_isStep k1 I = some r) (q j : Nat) (cq0 : q ≠ 1 ∨ j ≠ 2) (cq1 : q ≠ k1 + 1) (cq2 : q ≠ k1 ∨ j ≠ 0) : r.2 q j = I q j := by
  unfold fX6_isStep at h
  obtain ⟨r1, er1, h⟩ := ob h
  have q1 : r1.2 q j = _ := (xfX6_peek I er1 q j cq0).trans rfl
  rcases oi h with ⟨-, h⟩ | ⟨-, h⟩
  · unfold bX6_isStep_31 at h
    obtain ⟨I2, eI2, h⟩ := ob h
    have q2 : I2 q j = _ := (by rw [← pU_some eI2]; exact g_up_ne cq0 : I2 q j = r1.2 q j).trans q1
    rcases oi h with ⟨-, h⟩ | ⟨-, h⟩
    · obtain ⟨r3, er3, h⟩ := ob h
      have q3 : r3.2 q j = _ := (xfX6_isOrder k1 I2 er3 q j cq0 cq1 cq2).trans q2
      obtain ⟨u4, -, h⟩ := ob h
      obtain rfl := Option.some.inj h
      exact q3
    · obtain ⟨r5, er5, h⟩ := ob h
      have q4 : r5.2 q j = _ := (xfX6_peek I2 er5 q j cq0).trans q2
      obtain ⟨r6, -, h⟩ := ob h
      rcases oi h with ⟨-, h⟩ | ⟨-, h⟩
      · obtain rfl := Option.some.inj h
        exact q4
      · obtain ⟨I7, eI7, h⟩ := ob h
        have q5 : I7 q j = _ := (by rw [← pU_some eI7]; exact g_up_ne cq0 : I7 q j = r5.2 q j).trans q4
        rcases oi h with ⟨-, h⟩ | ⟨-, h⟩
        · unfold bX6_isStep_99 at h
          obtain ⟨r8, er8, h⟩ := ob h
          have q6 : r8 q j = _ := (xfX4_add k1 (0 : Int32) (r5.1 - 48) I7 er8 q j cq1 cq2).trans q5
          rcases oi h with ⟨-, h⟩ | ⟨-, h⟩
          · unfold bX6_isStep_120 at h
            obtain rfl := Option.some.inj h
            exact q6
          · obtain ⟨r9, er9, h⟩ := ob h
            have q7 : r9.2 q j = _ := (xfX6_isRowOfStep k1 r8 er9 q j cq0 cq1).trans q6
            rcases oi h with ⟨-, h⟩ | ⟨-, h⟩
            · obtain rfl := Option.some.inj h
              exact q7
            · unfold bX6_isStep_120 at h
              obtain rfl := Option.some.inj h
              exact q7
        · rcases oi h with ⟨-, h⟩ | ⟨-, h⟩
          · unfold bX6_isStep_99 at h
            obtain ⟨r8, er8, h⟩ := ob h
            have q8 : r8 q j = _ := (xfX4_add k1 (1 : Int32) (r5.1 - 48) I7 er8 q j cq1 cq2).trans q5
            rcases oi h with ⟨-, h⟩ | ⟨-, h⟩
            · unfold bX6_isStep_120 at h
              obtain rfl := Option.some.inj h
              exact q8
            · obtain ⟨r9, er9, h⟩ := ob h
              have q9 : r9.2 q j = _ := (xfX6_isRowOfStep k1 r8 er9 q j cq0 cq1).trans q8
              rcases oi h with ⟨-, h⟩ | ⟨-, h⟩
              · obtain rfl := Option.some.inj h
                exact q9
              · unfold bX6_isStep_120 at h
                obtain rfl := Option.some.inj h
                exact q9
          · unfold bX6_isStep_99 at h
            obtain ⟨r8, er8, h⟩ := ob h
            have q10 : r8 q j = _ := (xfX4_add k1 (2 : Int32) (r5.1 - 48) I7 er8 q j cq1 cq2).trans q5
            rcases oi h with ⟨-, h⟩ | ⟨-, h⟩
            · unfold bX6_isStep_120 at h
              obtain rfl := Option.some.inj h
              exact q10
            · obtain ⟨r9, er9, h⟩ := ob h
              have q11 : r9.2 q j = _ := (xfX6_isRowOfStep k1 r8 er9 q j cq0 cq1).trans q10
              rcases oi h with ⟨-, h⟩ | ⟨-, h⟩
              · obtain rfl := Option.some.inj h
                exact q11
              · unfold bX6_isStep_120 at h
                obtain rfl := Option.some.inj h
                exact q11
  · rcases oi h with ⟨-, h⟩ | ⟨-, h⟩
    · unfold bX6_isStep_31 at h
      obtain ⟨I2, eI2, h⟩ := ob h
      have q12 : I2 q j = _ := (by rw [← pU_some eI2]; exact g_up_ne cq0 : I2 q j = r1.2 q j).trans q1
      rcases oi h with ⟨-, h⟩ | ⟨-, h⟩
      · obtain ⟨r3, er3, h⟩ := ob h
        have q13 : r3.2 q j = _ := (xfX6_isOrder k1 I2 er3 q j cq0 cq1 cq2).trans q12
        obtain ⟨u4, -, h⟩ := ob h
        obtain rfl := Option.some.inj h
        exact q13
      · obtain ⟨r5, er5, h⟩ := ob h
        have q14 : r5.2 q j = _ := (xfX6_peek I2 er5 q j cq0).trans q12
        obtain ⟨r6, -, h⟩ := ob h
        rcases oi h with ⟨-, h⟩ | ⟨-, h⟩
        · obtain rfl := Option.some.inj h
          exact q14
        · obtain ⟨I7, eI7, h⟩ := ob h
          have q15 : I7 q j = _ := (by rw [← pU_some eI7]; exact g_up_ne cq0 : I7 q j = r5.2 q j).trans q14
          rcases oi h with ⟨-, h⟩ | ⟨-, h⟩
          · unfold bX6_isStep_99 at h
            obtain ⟨r8, er8, h⟩ := ob h
            have q16 : r8 q j = _ := (xfX4_add k1 (0 : Int32) (r5.1 - 48) I7 er8 q j cq1 cq2).trans q15
            rcases oi h with ⟨-, h⟩ | ⟨-, h⟩
            · unfold bX6_isStep_120 at h
              obtain rfl := Option.some.inj h
              exact q16
            · obtain ⟨r9, er9, h⟩ := ob h
              have q17 : r9.2 q j = _ := (xfX6_isRowOfStep k1 r8 er9 q j cq0 cq1).trans q16
              rcases oi h with ⟨-, h⟩ | ⟨-, h⟩
              · obtain rfl := Option.some.inj h
                exact q17
              · unfold bX6_isStep_120 at h
                obtain rfl := Option.some.inj h
                exact q17
          · rcases oi h with ⟨-, h⟩ | ⟨-, h⟩
            · unfold bX6_isStep_99 at h
              obtain ⟨r8, er8, h⟩ := ob h
              have q18 : r8 q j = _ := (xfX4_add k1 (1 : Int32) (r5.1 - 48) I7 er8 q j cq1 cq2).trans q15
              rcases oi h with ⟨-, h⟩ | ⟨-, h⟩
              · unfold bX6_isStep_120 at h
                obtain rfl := Option.some.inj h
                exact q18
              · obtain ⟨r9, er9, h⟩ := ob h
                have q19 : r9.2 q j = _ := (xfX6_isRowOfStep k1 r8 er9 q j cq0 cq1).trans q18
                rcases oi h with ⟨-, h⟩ | ⟨-, h⟩
                · obtain rfl := Option.some.inj h
                  exact q19
                · unfold bX6_isStep_120 at h
                  obtain rfl := Option.some.inj h
                  exact q19
            · unfold bX6_isStep_99 at h
              obtain ⟨r8, er8, h⟩ := ob h
              have q20 : r8 q j = _ := (xfX4_add k1 (2 : Int32) (r5.1 - 48) I7 er8 q j cq1 cq2).trans q15
              rcases oi h with ⟨-, h⟩ | ⟨-, h⟩
              · unfold bX6_isStep_120 at h
                obtain rfl := Option.some.inj h
                exact q20
              · obtain ⟨r9, er9, h⟩ := ob h
                have q21 : r9.2 q j = _ := (xfX6_isRowOfStep k1 r8 er9 q j cq0 cq1).trans q20
                rcases oi h with ⟨-, h⟩ | ⟨-, h⟩
                · obtain rfl := Option.some.inj h
                  exact q21
                · unfold bX6_isStep_120 at h
                  obtain rfl := Option.some.inj h
                  exact q21
    · rcases oi h with ⟨-, h⟩ | ⟨-, h⟩
      · unfold bX6_isStep_31 at h
        obtain ⟨I2, eI2, h⟩ := ob h
        have q22 : I2 q j = _ := (by rw [← pU_some eI2]; exact g_up_ne cq0 : I2 q j = r1.2 q j).trans q1
        rcases oi h with ⟨-, h⟩ | ⟨-, h⟩
        · obtain ⟨r3, er3, h⟩ := ob h
          have q23 : r3.2 q j = _ := (xfX6_isOrder k1 I2 er3 q j cq0 cq1 cq2).trans q22
          obtain ⟨u4, -, h⟩ := ob h
          obtain rfl := Option.some.inj h
          exact q23
        · obtain ⟨r5, er5, h⟩ := ob h
          have q24 : r5.2 q j = _ := (xfX6_peek I2 er5 q j cq0).trans q22
          obtain ⟨r6, -, h⟩ := ob h
          rcases oi h with ⟨-, h⟩ | ⟨-, h⟩
          · obtain rfl := Option.some.inj h
            exact q24
          · obtain ⟨I7, eI7, h⟩ := ob h
            have q25 : I7 q j = _ := (by rw [← pU_some eI7]; exact g_up_ne cq0 : I7 q j = r5.2 q j).trans q24
            rcases oi h with ⟨-, h⟩ | ⟨-, h⟩
            · unfold bX6_isStep_99 at h
              obtain ⟨r8, er8, h⟩ := ob h
              have q26 : r8 q j = _ := (xfX4_add k1 (0 : Int32) (r5.1 - 48) I7 er8 q j cq1 cq2).trans q25
              rcases oi h with ⟨-, h⟩ | ⟨-, h⟩
              · unfold bX6_isStep_120 at h
                obtain rfl := Option.some.inj h
                exact q26
              · obtain ⟨r9, er9, h⟩ := ob h
                have q27 : r9.2 q j = _ := (xfX6_isRowOfStep k1 r8 er9 q j cq0 cq1).trans q26
                rcases oi h with ⟨-, h⟩ | ⟨-, h⟩
                · obtain rfl := Option.some.inj h
                  exact q27
                · unfold bX6_isStep_120 at h
                  obtain rfl := Option.some.inj h
                  exact q27
            · rcases oi h with ⟨-, h⟩ | ⟨-, h⟩
              · unfold bX6_isStep_99 at h
                obtain ⟨r8, er8, h⟩ := ob h
                have q28 : r8 q j = _ := (xfX4_add k1 (1 : Int32) (r5.1 - 48) I7 er8 q j cq1 cq2).trans q25
                rcases oi h with ⟨-, h⟩ | ⟨-, h⟩
                · unfold bX6_isStep_120 at h
                  obtain rfl := Option.some.inj h
                  exact q28
                · obtain ⟨r9, er9, h⟩ := ob h
                  have q29 : r9.2 q j = _ := (xfX6_isRowOfStep k1 r8 er9 q j cq0 cq1).trans q28
                  rcases oi h with ⟨-, h⟩ | ⟨-, h⟩
                  · obtain rfl := Option.some.inj h
                    exact q29
                  · unfold bX6_isStep_120 at h
                    obtain rfl := Option.some.inj h
                    exact q29
              · unfold bX6_isStep_99 at h
                obtain ⟨r8, er8, h⟩ := ob h
                have q30 : r8 q j = _ := (xfX4_add k1 (2 : Int32) (r5.1 - 48) I7 er8 q j cq1 cq2).trans q25
                rcases oi h with ⟨-, h⟩ | ⟨-, h⟩
                · unfold bX6_isStep_120 at h
                  obtain rfl := Option.some.inj h
                  exact q30
                · obtain ⟨r9, er9, h⟩ := ob h
                  have q31 : r9.2 q j = _ := (xfX6_isRowOfStep k1 r8 er9 q j cq0 cq1).trans q30
                  rcases oi h with ⟨-, h⟩ | ⟨-, h⟩
                  · obtain rfl := Option.some.inj h
                    exact q31
                  · unfold bX6_isStep_120 at h
                    obtain rfl := Option.some.inj h
                    exact q31
      · rcases oi h with ⟨-, h⟩ | ⟨-, h⟩
        · unfold bX6_isStep_31 at h
          obtain ⟨I2, eI2, h⟩ := ob h
          have q32 : I2 q j = _ := (by rw [← pU_some eI2]; exact g_up_ne cq0 : I2 q j = r1.2 q j).trans q1
          rcases oi h with ⟨-, h⟩ | ⟨-, h⟩
          · obtain ⟨r3, er3, h⟩ := ob h
            have q33 : r3.2 q j = _ := (xfX6_isOrder k1 I2 er3 q j cq0 cq1 cq2).trans q32
            obtain ⟨u4, -, h⟩ := ob h
            obtain rfl := Option.some.inj h
            exact q33
          · obtain ⟨r5, er5, h⟩ := ob h
            have q34 : r5.2 q j = _ := (xfX6_peek I2 er5 q j cq0).trans q32
            obtain ⟨r6, -, h⟩ := ob h
            rcases oi h with ⟨-, h⟩ | ⟨-, h⟩
            · obtain rfl := Option.some.inj h
              exact q34
            · obtain ⟨I7, eI7, h⟩ := ob h
              have q35 : I7 q j = _ := (by rw [← pU_some eI7]; exact g_up_ne cq0 : I7 q j = r5.2 q j).trans q34
              rcases oi h with ⟨-, h⟩ | ⟨-, h⟩
              · unfold bX6_isStep_99 at h
                obtain ⟨r8, er8, h⟩ := ob h
                have q36 : r8 q j = _ := (xfX4_add k1 (0 : Int32) (r5.1 - 48) I7 er8 q j cq1 cq2).trans q35
                rcases oi h with ⟨-, h⟩ | ⟨-, h⟩
                · unfold bX6_isStep_120 at h
                  obtain rfl := Option.some.inj h
                  exact q36
                · obtain ⟨r9, er9, h⟩ := ob h
                  have q37 : r9.2 q j = _ := (xfX6_isRowOfStep k1 r8 er9 q j cq0 cq1).trans q36
                  rcases oi h with ⟨-, h⟩ | ⟨-, h⟩
                  · obtain rfl := Option.some.inj h
                    exact q37
                  · unfold bX6_isStep_120 at h
                    obtain rfl := Option.some.inj h
                    exact q37
              · rcases oi h with ⟨-, h⟩ | ⟨-, h⟩
                · unfold bX6_isStep_99 at h
                  obtain ⟨r8, er8, h⟩ := ob h
                  have q38 : r8 q j = _ := (xfX4_add k1 (1 : Int32) (r5.1 - 48) I7 er8 q j cq1 cq2).trans q35
                  rcases oi h with ⟨-, h⟩ | ⟨-, h⟩
                  · unfold bX6_isStep_120 at h
                    obtain rfl := Option.some.inj h
                    exact q38
                  · obtain ⟨r9, er9, h⟩ := ob h
                    have q39 : r9.2 q j = _ := (xfX6_isRowOfStep k1 r8 er9 q j cq0 cq1).trans q38
                    rcases oi h with ⟨-, h⟩ | ⟨-, h⟩
                    · obtain rfl := Option.some.inj h
                      exact q39
                    · unfold bX6_isStep_120 at h
                      obtain rfl := Option.some.inj h
                      exact q39
                · unfold bX6_isStep_99 at h
                  obtain ⟨r8, er8, h⟩ := ob h
                  have q40 : r8 q j = _ := (xfX4_add k1 (2 : Int32) (r5.1 - 48) I7 er8 q j cq1 cq2).trans q35
                  rcases oi h with ⟨-, h⟩ | ⟨-, h⟩
                  · unfold bX6_isStep_120 at h
                    obtain rfl := Option.some.inj h
                    exact q40
                  · obtain ⟨r9, er9, h⟩ := ob h
                    have q41 : r9.2 q j = _ := (xfX6_isRowOfStep k1 r8 er9 q j cq0 cq1).trans q40
                    rcases oi h with ⟨-, h⟩ | ⟨-, h⟩
                    · obtain rfl := Option.some.inj h
                      exact q41
                    · unfold bX6_isStep_120 at h
                      obtain rfl := Option.some.inj h
                      exact q41
        · obtain rfl := Option.some.inj h
          exact q1
set_option maxRecDepth 100000 in
set_option maxHeartbeats 1000000 in
theorem xlX6_readScript_17 (k1 : Nat) (s : (Int32 × Int32 × gM)) {r : Int32 × gM} (h : lX6_readScript_17 k1 s = some r) (q j : Nat) (cq0 : q ≠ 1 ∨ j ≠ 2) (cq1 : q ≠ k1 + 1) (cq2 : q ≠ k1 ∨ j ≠ 0) : r.2 q j = s.2.2 q j := by
  unfold lX6_readScript_17 at h
  revert s
  refine itO_ind (P := fun s : (Int32 × Int32 × gM) => r.2 q j = s.2.2 q j) (fun s y h hl hr => ?_)
  rcases oi h with ⟨-, h⟩ | ⟨-, h⟩
  · obtain rfl := Option.some.inj h
    have hh := hr _ rfl
    subst hh
    exact rfl
  · rcases oi h with ⟨-, h⟩ | ⟨-, h⟩
    · obtain rfl := Option.some.inj h
      have hh := hr _ rfl
      subst hh
      exact rfl
    · obtain ⟨r4, er4, h⟩ := ob h
      have q1 : r4.2 q j = _ := (xfX6_peek s.2.2 er4 q j cq0).trans rfl
      rcases oi h with ⟨-, h⟩ | ⟨-, h⟩
      · obtain ⟨I5, eI5, h⟩ := ob h
        have q2 : I5 q j = _ := (by rw [← pU_some eI5]; exact g_up_ne cq0 : I5 q j = r4.2 q j).trans q1
        obtain ⟨r6, er6, h⟩ := ob h
        have q3 : r6.2 q j = _ := (xfX6_isStep k1 I5 er6 q j cq0 cq1 cq2).trans q2
        obtain rfl := Option.some.inj h
        exact (hl _ rfl).trans q3
      · obtain rfl := Option.some.inj h
        have hh := hr _ rfl
        subst hh
        exact q1
set_option maxRecDepth 100000 in
set_option maxHeartbeats 1000000 in
theorem xfX6_readScript (k1 : Nat) (I : gM) {r : Int32 × gM} (h : fX6_readScript k1 I = some r) (q j : Nat) (cq0 : q ≠ 1 ∨ j ≠ 2) (cq1 : q ≠ k1 ∨ j ≠ 0) (cq2 : q ≠ k1 + 1) : r.2 q j = I q j := by
  unfold fX6_readScript at h
  obtain ⟨I1, eI1, h⟩ := ob h
  have q1 : I1 q j = _ := (by rw [← pU_some eI1]; exact g_up_ne cq0 : I1 q j = I q j).trans rfl
  obtain ⟨r2, er2, h⟩ := ob h
  have q2 : r2 q j = _ := (xfX4_clear k1 I1 er2 q j cq1).trans q1
  obtain ⟨r3, er3, h⟩ := ob h
  have q3 : r3.2 q j = _ := (xfX6_isStep k1 r2 er3 q j cq0 cq2 cq1).trans q2
  obtain ⟨w7, ew7, h⟩ := ob h
  have q4 : w7.2 q j = _ := (xlX6_readScript_17 k1 (r3.1, (1 : Int32), r3.2) ew7 q j cq0 cq2 cq1).trans q3
  unfold bX6_readScript_58 at h
  rcases oi h with ⟨-, h⟩ | ⟨-, h⟩
  · obtain rfl := Option.some.inj h
    exact q4
  · obtain ⟨r8, er8, h⟩ := ob h
    have q5 : r8.2 q j = _ := (xfX6_peek w7.2 er8 q j cq0).trans q4
    rcases oi h with ⟨-, h⟩ | ⟨-, h⟩
    · obtain rfl := Option.some.inj h
      exact q5
    · obtain rfl := Option.some.inj h
      exact q5
set_option maxRecDepth 100000 in
set_option maxHeartbeats 1000000 in
theorem xlX7_weigh_10 (k1 : Nat) (k2 : Nat) (s : (Int32 × gM)) {r : gM} (h : lX7_weigh_10 k1 k2 s = some r) (q j : Nat) (cq0 : q ≠ k2 ∨ j ≠ 2) (cq1 : q ≠ k2 + 2) (cq2 : q ≠ k2 ∨ j ≠ 0) (cq3 : q ≠ k2 ∨ j ≠ 1) (cq4 : q ≠ k2 + 1) (cq5 : q ≠ k2 + 7) (cq6 : q ≠ k2 + 8) (cq7 : q ≠ k2 + 9) (cq8 : q ≠ k2 + 6) (cq9 : q ≠ k2 + 5) (cq10 : q ≠ k2 + 10) (cq11 : q ≠ k2 + 4) (cq12 : q ≠ k2 + 3) (cq13 : q ≠ 43 ∨ j ≠ 1) (cq14 : q ≠ 43 ∨ j ≠ 2) (cq15 : q ≠ 43 ∨ j ≠ 3) : r q j = s.2 q j := by
  unfold lX7_weigh_10 at h
  revert s
  refine itO_ind (P := fun s : (Int32 × gM) => r q j = s.2 q j) (fun s y h hl hr => ?_)
  rcases oi h with ⟨-, h⟩ | ⟨-, h⟩
  · obtain rfl := Option.some.inj h
    have hh := hr _ rfl
    subst hh
    exact rfl
  · obtain ⟨r1, er1, h⟩ := ob h
    have q1 : r1 q j = _ := (xfX1_findBy k2 k1 s.1 s.2 er1 q j cq0 cq1 cq2 cq3 cq4 cq5 cq6 cq7 cq8 cq9 cq10 cq11 cq12).trans rfl
    rcases oi h with ⟨-, h⟩ | ⟨-, h⟩
    · unfold bX7_weigh_37 at h
      obtain ⟨I2, eI2, h⟩ := ob h
      have q2 : I2 q j = _ := (by rw [← pU_some eI2]; exact g_up_ne cq13 : I2 q j = r1 q j).trans q1
      obtain ⟨I3, eI3, h⟩ := ob h
      have q3 : I3 q j = _ := (by rw [← pU_some eI3]; exact g_up_ne cq14 : I3 q j = I2 q j).trans q2
      unfold bX7_weigh_50 at h
      rcases oi h with ⟨-, h⟩ | ⟨-, h⟩
      · unfold bX7_weigh_65 at h
        obtain ⟨I4, eI4, h⟩ := ob h
        have q4 : I4 q j = _ := (by rw [← pU_some eI4]; exact g_up_ne cq15 : I4 q j = I3 q j).trans q3
        unfold bX7_weigh_73 at h
        obtain rfl := Option.some.inj h
        exact (hl _ rfl).trans q4
      · rcases oi h with ⟨-, h⟩ | ⟨-, h⟩
        · unfold bX7_weigh_73 at h
          obtain rfl := Option.some.inj h
          exact (hl _ rfl).trans q3
        · unfold bX7_weigh_65 at h
          obtain ⟨I4, eI4, h⟩ := ob h
          have q5 : I4 q j = _ := (by rw [← pU_some eI4]; exact g_up_ne cq15 : I4 q j = I3 q j).trans q3
          unfold bX7_weigh_73 at h
          obtain rfl := Option.some.inj h
          exact (hl _ rfl).trans q5
    · rcases oi h with ⟨-, h⟩ | ⟨-, h⟩
      · unfold bX7_weigh_50 at h
        rcases oi h with ⟨-, h⟩ | ⟨-, h⟩
        · unfold bX7_weigh_65 at h
          obtain ⟨I4, eI4, h⟩ := ob h
          have q6 : I4 q j = _ := (by rw [← pU_some eI4]; exact g_up_ne cq15 : I4 q j = r1 q j).trans q1
          unfold bX7_weigh_73 at h
          obtain rfl := Option.some.inj h
          exact (hl _ rfl).trans q6
        · rcases oi h with ⟨-, h⟩ | ⟨-, h⟩
          · unfold bX7_weigh_73 at h
            obtain rfl := Option.some.inj h
            exact (hl _ rfl).trans q1
          · unfold bX7_weigh_65 at h
            obtain ⟨I4, eI4, h⟩ := ob h
            have q7 : I4 q j = _ := (by rw [← pU_some eI4]; exact g_up_ne cq15 : I4 q j = r1 q j).trans q1
            unfold bX7_weigh_73 at h
            obtain rfl := Option.some.inj h
            exact (hl _ rfl).trans q7
      · unfold bX7_weigh_37 at h
        obtain ⟨I2, eI2, h⟩ := ob h
        have q8 : I2 q j = _ := (by rw [← pU_some eI2]; exact g_up_ne cq13 : I2 q j = r1 q j).trans q1
        obtain ⟨I3, eI3, h⟩ := ob h
        have q9 : I3 q j = _ := (by rw [← pU_some eI3]; exact g_up_ne cq14 : I3 q j = I2 q j).trans q8
        unfold bX7_weigh_50 at h
        rcases oi h with ⟨-, h⟩ | ⟨-, h⟩
        · unfold bX7_weigh_65 at h
          obtain ⟨I4, eI4, h⟩ := ob h
          have q10 : I4 q j = _ := (by rw [← pU_some eI4]; exact g_up_ne cq15 : I4 q j = I3 q j).trans q9
          unfold bX7_weigh_73 at h
          obtain rfl := Option.some.inj h
          exact (hl _ rfl).trans q10
        · rcases oi h with ⟨-, h⟩ | ⟨-, h⟩
          · unfold bX7_weigh_73 at h
            obtain rfl := Option.some.inj h
            exact (hl _ rfl).trans q9
          · unfold bX7_weigh_65 at h
            obtain ⟨I4, eI4, h⟩ := ob h
            have q11 : I4 q j = _ := (by rw [← pU_some eI4]; exact g_up_ne cq15 : I4 q j = I3 q j).trans q9
            unfold bX7_weigh_73 at h
            obtain rfl := Option.some.inj h
            exact (hl _ rfl).trans q11
set_option maxRecDepth 100000 in
set_option maxHeartbeats 1000000 in
theorem xfX7_weigh (k1 : Nat) (k2 : Nat) (I : gM) {r : gM} (h : fX7_weigh k1 k2 I = some r) (q j : Nat) (cq0 : q ≠ k2 ∨ j ≠ 2) (cq1 : q ≠ k2 + 2) (cq2 : q ≠ k2 ∨ j ≠ 0) (cq3 : q ≠ k2 ∨ j ≠ 1) (cq4 : q ≠ k2 + 1) (cq5 : q ≠ k2 + 7) (cq6 : q ≠ k2 + 8) (cq7 : q ≠ k2 + 9) (cq8 : q ≠ k2 + 6) (cq9 : q ≠ k2 + 5) (cq10 : q ≠ k2 + 10) (cq11 : q ≠ k2 + 4) (cq12 : q ≠ k2 + 3) (cq13 : q ≠ 43 ∨ j ≠ 1) (cq14 : q ≠ 43 ∨ j ≠ 2) (cq15 : q ≠ 43 ∨ j ≠ 3) (cq16 : q ≠ 43 ∨ j ≠ 0) : r q j = I q j := by
  unfold fX7_weigh at h
  rcases oi h with ⟨-, h⟩ | ⟨-, h⟩
  · obtain ⟨w5, ew5, h⟩ := ob h
    have q1 : w5 q j = _ := (xlX7_weigh_10 k1 k2 ((0 : Int32), I) ew5 q j cq0 cq1 cq2 cq3 cq4 cq5 cq6 cq7 cq8 cq9 cq10 cq11 cq12 cq13 cq14 cq15).trans rfl
    obtain ⟨I6, eI6, h⟩ := ob h
    have q2 : I6 q j = _ := (by rw [← pU_some eI6]; exact g_up_ne cq16 : I6 q j = w5 q j).trans q1
    obtain rfl := Option.some.inj h
    exact q2
  · obtain rfl := Option.some.inj h
    exact rfl
set_option maxRecDepth 100000 in
set_option maxHeartbeats 1000000 in
theorem xfX8_feed (v1 : Int32) (v2 : Int32) (v3 : Int32) (v4 : Int32) (v5 : Int32) (I : gM) {r : Int32 × gM} (h : fX8_feed v1 v2 v3 v4 v5 I = some r) (q j : Nat) (cq0 : q ≠ 2) (cq1 : q ≠ 1 ∨ j ≠ 0) : r.2 q j = I q j := by
  unfold fX8_feed at h
  obtain ⟨r1, -, h⟩ := ob h
  obtain ⟨r2, -, h⟩ := ob h
  obtain ⟨r3, -, h⟩ := ob h
  obtain ⟨r4, -, h⟩ := ob h
  obtain ⟨r5, -, h⟩ := ob h
  rcases oi h with ⟨-, h⟩ | ⟨-, h⟩
  · obtain ⟨r6, er6, h⟩ := ob h
    have q1 : r6 q j = _ := (xfX6_append v1 I er6 q j cq0 cq1).trans rfl
    obtain ⟨r7, er7, h⟩ := ob h
    have q2 : r7 q j = _ := (xfX6_append v2 r6 er7 q j cq0 cq1).trans q1
    obtain ⟨r8, er8, h⟩ := ob h
    have q3 : r8 q j = _ := (xfX6_append v3 r7 er8 q j cq0 cq1).trans q2
    obtain ⟨r9, er9, h⟩ := ob h
    have q4 : r9 q j = _ := (xfX6_append v4 r8 er9 q j cq0 cq1).trans q3
    obtain ⟨r10, er10, h⟩ := ob h
    have q5 : r10 q j = _ := (xfX6_append v5 r9 er10 q j cq0 cq1).trans q4
    obtain rfl := Option.some.inj h
    exact q5
  · obtain rfl := Option.some.inj h
    exact rfl
set_option maxRecDepth 100000 in
set_option maxHeartbeats 1000000 in
theorem xfX8_end (v1 : Int32) (I : gM) {r : Int32 × gM} (h : fX8_end v1 I = some r) (q j : Nat) (cq0 : q ≠ 1 ∨ j ≠ 0) : r.2 q j = I q j := by
  unfold fX8_end at h
  rcases oi h with ⟨-, h⟩ | ⟨-, h⟩
  · obtain rfl := Option.some.inj h
    exact rfl
  · rcases oi h with ⟨-, h⟩ | ⟨-, h⟩
    · obtain ⟨I1, eI1, h⟩ := ob h
      have q1 : I1 q j = _ := (by rw [← pU_some eI1]; exact g_up_ne cq0 : I1 q j = I q j).trans rfl
      obtain rfl := Option.some.inj h
      exact q1
    · obtain rfl := Option.some.inj h
      exact rfl
set_option maxRecDepth 100000 in
set_option maxHeartbeats 1000000 in
theorem xfX8_fault (v1 : Int32) (I : gM) {r : Int32 × gM} (h : fX8_fault v1 I = some r) (q j : Nat) (cq0 : q ≠ 1 ∨ j ≠ 2) (cq1 : q ≠ 8 ∨ j ≠ 0) (cq2 : q ≠ 8 ∨ j ≠ 1) (cq3 : q ≠ 8 ∨ j ≠ 2) (cq4 : q ≠ 9) (cq5 : q ≠ 10) (cq6 : q ≠ 11) (cq7 : q ≠ 12) (cq8 : q ≠ 51 ∨ j ≠ 0) (cq9 : q ≠ 52) : r.2 q j = I q j := by
  unfold fX8_fault at h
  rcases oi h with ⟨-, h⟩ | ⟨-, h⟩
  · obtain ⟨r1, er1, h⟩ := ob h
    have q1 : r1.2 q j = _ := (xfX6_readTables 8 I er1 q j cq0 cq1 cq2 cq3 cq4 cq5 cq6 cq7).trans rfl
    obtain rfl := Option.some.inj h
    exact q1
  · rcases oi h with ⟨-, h⟩ | ⟨-, h⟩
    · obtain ⟨r2, er2, h⟩ := ob h
      have q2 : r2.2 q j = _ := (xfX6_readScript 51 I er2 q j cq0 cq8 cq9).trans rfl
      obtain rfl := Option.some.inj h
      exact q2
    · obtain rfl := Option.some.inj h
      exact rfl
set_option maxRecDepth 100000 in
set_option maxHeartbeats 1000000 in
theorem xfX8_renew (I : gM) {r : gM} (h : fX8_renew I = some r) (q j : Nat) (cq0 : q ≠ 18 ∨ j ≠ 2) (cq1 : q ≠ 20) (cq2 : q ≠ 18 ∨ j ≠ 0) (cq3 : q ≠ 18 ∨ j ≠ 1) (cq4 : q ≠ 19) (cq5 : q ≠ 25) (cq6 : q ≠ 26) (cq7 : q ≠ 27) (cq8 : q ≠ 24) (cq9 : q ≠ 23) (cq10 : q ≠ 28) (cq11 : q ≠ 22) (cq12 : q ≠ 21) (cq13 : q ≠ 43 ∨ j ≠ 0) : r q j = I q j := by
  unfold fX8_renew at h
  obtain ⟨r1, er1, h⟩ := ob h
  have q1 : r1 q j = _ := (xfX1_findBy 18 3 (I 3 2) I er1 q j cq0 cq1 cq2 cq3 cq4 cq5 cq6 cq7 cq8 cq9 cq10 cq11 cq12).trans rfl
  obtain ⟨I2, eI2, h⟩ := ob h
  have q2 : I2 q j = _ := (by rw [← pU_some eI2]; exact g_up_ne cq13 : I2 q j = r1 q j).trans q1
  obtain rfl := Option.some.inj h
  exact q2
set_option maxRecDepth 100000 in
set_option maxHeartbeats 1000000 in
theorem xfX8_textOfTables (I : gM) {r : Int32 × gM} (h : fX8_textOfTables I = some r) (q j : Nat) (cq0 : q ≠ 1 ∨ j ≠ 2) (cq1 : q ≠ 8 ∨ j ≠ 0) (cq2 : q ≠ 8 ∨ j ≠ 1) (cq3 : q ≠ 8 ∨ j ≠ 2) (cq4 : q ≠ 9) (cq5 : q ≠ 10) (cq6 : q ≠ 11) (cq7 : q ≠ 12) (cq8 : q ≠ 3 ∨ j ≠ 0) (cq9 : q ≠ 3 ∨ j ≠ 1) (cq10 : q ≠ 3 ∨ j ≠ 2) (cq11 : q ≠ 4) (cq12 : q ≠ 5) (cq13 : q ≠ 6) (cq14 : q ≠ 7) (cq15 : q ≠ 1 ∨ j ≠ 0) (cq16 : q ≠ 44 ∨ j ≠ 1) (cq17 : q ≠ 44 ∨ j ≠ 2) (cq18 : q ≠ 48 ∨ j ≠ 0) (cq19 : q ≠ 48 ∨ j ≠ 2) (cq20 : q ≠ 0 ∨ j ≠ 15) (cq21 : q ≠ 18 ∨ j ≠ 2) (cq22 : q ≠ 20) (cq23 : q ≠ 18 ∨ j ≠ 0) (cq24 : q ≠ 18 ∨ j ≠ 1) (cq25 : q ≠ 19) (cq26 : q ≠ 25) (cq27 : q ≠ 26) (cq28 : q ≠ 27) (cq29 : q ≠ 24) (cq30 : q ≠ 23) (cq31 : q ≠ 28) (cq32 : q ≠ 22) (cq33 : q ≠ 21) (cq34 : q ≠ 43 ∨ j ≠ 0) : r.2 q j = I q j := by
  unfold fX8_textOfTables at h
  obtain ⟨r1, er1, h⟩ := ob h
  have q1 : r1.2 q j = _ := (xfX6_readTables 8 I er1 q j cq0 cq1 cq2 cq3 cq4 cq5 cq6 cq7).trans rfl
  rcases oi h with ⟨-, h⟩ | ⟨-, h⟩
  · obtain ⟨r2, er2, h⟩ := ob h
    have q2 : r2 q j = _ := (xfX5_copyFrom 3 8 r1.2 er2 q j cq8 cq9 cq10 cq11 cq12 cq13 cq14).trans q1
    obtain ⟨I3, eI3, h⟩ := ob h
    have q3 : I3 q j = _ := (by rw [← pU_some eI3]; exact g_up_ne cq15 : I3 q j = r2 q j).trans q2
    obtain ⟨r4, er4, h⟩ := ob h
    have q4 : r4 q j = _ := (xfX2_clear 44 I3 er4 q j cq16 cq17).trans q3
    obtain ⟨r5, er5, h⟩ := ob h
    have q5 : r5 q j = _ := (xfX3_clear r4 er5 q j cq18 cq19).trans q4
    obtain ⟨I6, eI6, h⟩ := ob h
    have q6 : I6 q j = _ := (by rw [← pU_some eI6]; exact g_up_ne cq20 : I6 q j = r5 q j).trans q5
    obtain ⟨r7, er7, h⟩ := ob h
    have q7 : r7 q j = _ := (xfX8_renew I6 er7 q j cq21 cq22 cq23 cq24 cq25 cq26 cq27 cq28 cq29 cq30 cq31 cq32 cq33 cq34).trans q6
    obtain rfl := Option.some.inj h
    exact q7
  · obtain rfl := Option.some.inj h
    exact q1
set_option maxRecDepth 100000 in
set_option maxHeartbeats 1000000 in
theorem xfX8_textOfScript (I : gM) {r : Int32 × gM} (h : fX8_textOfScript I = some r) (q j : Nat) (cq0 : q ≠ 1 ∨ j ≠ 2) (cq1 : q ≠ 51 ∨ j ≠ 0) (cq2 : q ≠ 52) (cq3 : q ≠ 54) (cq4 : q ≠ 55) (cq5 : q ≠ 56) (cq6 : q ≠ 57) (cq7 : q ≠ 58) (cq8 : q ≠ 59) (cq9 : q ≠ 60) (cq10 : q ≠ 61) (cq11 : q ≠ 1 ∨ j ≠ 0) (cq12 : q ≠ 0 ∨ j ≠ 14) : r.2 q j = I q j := by
  unfold fX8_textOfScript at h
  rcases oi h with ⟨-, h⟩ | ⟨-, h⟩
  · obtain rfl := Option.some.inj h
    exact rfl
  · obtain ⟨r1, er1, h⟩ := ob h
    have q1 : r1.2 q j = _ := (xfX6_readScript 51 I er1 q j cq0 cq1 cq2).trans rfl
    rcases oi h with ⟨-, h⟩ | ⟨-, h⟩
    · obtain ⟨k2, ek2, h⟩ := ob h
      obtain ⟨jk2, -, hjk2, hkk2⟩ := rA_some ek2
      obtain ⟨r3, er3, h⟩ := ob h
      have q2 : r3 q j = _ := (xfX4_copyFrom k2 51 r1.2 er3 q j (by omega) (by omega)).trans q1
      obtain ⟨I4, eI4, h⟩ := ob h
      have q3 : I4 q j = _ := (by rw [← pU_some eI4]; exact g_up_ne cq11 : I4 q j = r3 q j).trans q2
      obtain ⟨I5, eI5, h⟩ := ob h
      have q4 : I5 q j = _ := (by rw [← pU_some eI5]; exact g_up_ne cq12 : I5 q j = I4 q j).trans q3
      obtain rfl := Option.some.inj h
      exact q4
    · obtain rfl := Option.some.inj h
      exact q1
set_option maxRecDepth 100000 in
set_option maxHeartbeats 1000000 in
theorem xfX8_text (v1 : Int32) (I : gM) {r : Int32 × gM} (h : fX8_text v1 I = some r) (q j : Nat) (cq0 : q ≠ 1 ∨ j ≠ 2) (cq1 : q ≠ 8 ∨ j ≠ 0) (cq2 : q ≠ 8 ∨ j ≠ 1) (cq3 : q ≠ 8 ∨ j ≠ 2) (cq4 : q ≠ 9) (cq5 : q ≠ 10) (cq6 : q ≠ 11) (cq7 : q ≠ 12) (cq8 : q ≠ 3 ∨ j ≠ 0) (cq9 : q ≠ 3 ∨ j ≠ 1) (cq10 : q ≠ 3 ∨ j ≠ 2) (cq11 : q ≠ 4) (cq12 : q ≠ 5) (cq13 : q ≠ 6) (cq14 : q ≠ 7) (cq15 : q ≠ 1 ∨ j ≠ 0) (cq16 : q ≠ 44 ∨ j ≠ 1) (cq17 : q ≠ 44 ∨ j ≠ 2) (cq18 : q ≠ 48 ∨ j ≠ 0) (cq19 : q ≠ 48 ∨ j ≠ 2) (cq20 : q ≠ 0 ∨ j ≠ 15) (cq21 : q ≠ 18 ∨ j ≠ 2) (cq22 : q ≠ 20) (cq23 : q ≠ 18 ∨ j ≠ 0) (cq24 : q ≠ 18 ∨ j ≠ 1) (cq25 : q ≠ 19) (cq26 : q ≠ 25) (cq27 : q ≠ 26) (cq28 : q ≠ 27) (cq29 : q ≠ 24) (cq30 : q ≠ 23) (cq31 : q ≠ 28) (cq32 : q ≠ 22) (cq33 : q ≠ 21) (cq34 : q ≠ 43 ∨ j ≠ 0) (cq35 : q ≠ 51 ∨ j ≠ 0) (cq36 : q ≠ 52) (cq37 : q ≠ 54) (cq38 : q ≠ 55) (cq39 : q ≠ 56) (cq40 : q ≠ 57) (cq41 : q ≠ 58) (cq42 : q ≠ 59) (cq43 : q ≠ 60) (cq44 : q ≠ 61) (cq45 : q ≠ 0 ∨ j ≠ 14) : r.2 q j = I q j := by
  unfold fX8_text at h
  rcases oi h with ⟨-, h⟩ | ⟨-, h⟩
  · obtain ⟨r1, er1, h⟩ := ob h
    have q1 : r1.2 q j = _ := (xfX8_textOfTables I er1 q j cq0 cq1 cq2 cq3 cq4 cq5 cq6 cq7 cq8 cq9 cq10 cq11 cq12 cq13 cq14 cq15 cq16 cq17 cq18 cq19 cq20 cq21 cq22 cq23 cq24 cq25 cq26 cq27 cq28 cq29 cq30 cq31 cq32 cq33 cq34).trans rfl
    obtain rfl := Option.some.inj h
    exact q1
  · rcases oi h with ⟨-, h⟩ | ⟨-, h⟩
    · obtain ⟨r2, er2, h⟩ := ob h
      have q2 : r2.2 q j = _ := (xfX8_textOfScript I er2 q j cq0 cq35 cq36 cq37 cq38 cq39 cq40 cq41 cq42 cq43 cq44 cq15 cq45).trans rfl
      obtain rfl := Option.some.inj h
      exact q2
    · obtain rfl := Option.some.inj h
      exact rfl
set_option maxRecDepth 100000 in
set_option maxHeartbeats 1000000 in
theorem xfX8_best (v1 : Int32) (I : gM) {r : Int32 × gM} (h : fX8_best v1 I = some r) (q j : Nat) (cq0 : q ≠ 29 ∨ j ≠ 2) (cq1 : q ≠ 31) (cq2 : q ≠ 29 ∨ j ≠ 0) (cq3 : q ≠ 29 ∨ j ≠ 1) (cq4 : q ≠ 30) (cq5 : q ≠ 36) (cq6 : q ≠ 37) (cq7 : q ≠ 38) (cq8 : q ≠ 35) (cq9 : q ≠ 34) (cq10 : q ≠ 39) (cq11 : q ≠ 33) (cq12 : q ≠ 32) (cq13 : q ≠ 43 ∨ j ≠ 1) (cq14 : q ≠ 43 ∨ j ≠ 2) (cq15 : q ≠ 43 ∨ j ≠ 3) (cq16 : q ≠ 43 ∨ j ≠ 0) : r.2 q j = I q j := by
  unfold fX8_best at h
  rcases oi h with ⟨-, h⟩ | ⟨-, h⟩
  · obtain rfl := Option.some.inj h
    exact rfl
  · rcases oi h with ⟨-, h⟩ | ⟨-, h⟩
    · obtain rfl := Option.some.inj h
      exact rfl
    · rcases oi h with ⟨-, h⟩ | ⟨-, h⟩
      · obtain ⟨r1, er1, h⟩ := ob h
        have q1 : r1 q j = _ := (xfX7_weigh 3 29 I er1 q j cq0 cq1 cq2 cq3 cq4 cq5 cq6 cq7 cq8 cq9 cq10 cq11 cq12 cq13 cq14 cq15 cq16).trans rfl
        rcases oi h with ⟨-, h⟩ | ⟨-, h⟩
        · obtain rfl := Option.some.inj h
          exact q1
        · obtain rfl := Option.some.inj h
          exact q1
      · obtain rfl := Option.some.inj h
        exact rfl
set_option maxRecDepth 100000 in
set_option maxHeartbeats 1000000 in
theorem xfX8_without (v1 : Int32) (I : gM) {r : Int32 × gM} (h : fX8_without v1 I = some r) (q j : Nat) (cq0 : q ≠ 8 ∨ j ≠ 0) (cq1 : q ≠ 8 ∨ j ≠ 1) (cq2 : q ≠ 8 ∨ j ≠ 2) (cq3 : q ≠ 9) (cq4 : q ≠ 10) (cq5 : q ≠ 11) (cq6 : q ≠ 12) (cq7 : q ≠ 29 ∨ j ≠ 2) (cq8 : q ≠ 31) (cq9 : q ≠ 29 ∨ j ≠ 0) (cq10 : q ≠ 29 ∨ j ≠ 1) (cq11 : q ≠ 30) (cq12 : q ≠ 36) (cq13 : q ≠ 37) (cq14 : q ≠ 38) (cq15 : q ≠ 35) (cq16 : q ≠ 34) (cq17 : q ≠ 39) (cq18 : q ≠ 33) (cq19 : q ≠ 32) : r.2 q j = I q j := by
  unfold fX8_without at h
  obtain ⟨r1, -, h⟩ := ob h
  rcases oi h with ⟨-, h⟩ | ⟨-, h⟩
  · obtain rfl := Option.some.inj h
    exact rfl
  · rcases oi h with ⟨-, h⟩ | ⟨-, h⟩
    · obtain rfl := Option.some.inj h
      exact rfl
    · obtain ⟨r2, er2, h⟩ := ob h
      have q1 : r2 q j = _ := (xfX5_copyFrom 8 3 I er2 q j cq0 cq1 cq2 cq3 cq4 cq5 cq6).trans rfl
      obtain ⟨I3, eI3, h⟩ := ob h
      have q2 : I3 q j = _ := (by rw [← pU_some eI3]; exact g_up_ne cq1 : I3 q j = r2 q j).trans q1
      obtain ⟨r4, er4, h⟩ := ob h
      have q3 : r4 q j = _ := (xfX1_findBy 29 8 (I3 8 2) I3 er4 q j cq7 cq8 cq9 cq10 cq11 cq12 cq13 cq14 cq15 cq16 cq17 cq18 cq19).trans q2
      obtain rfl := Option.some.inj h
      exact q3
set_option maxRecDepth 100000 in
set_option maxHeartbeats 1000000 in
theorem xfX8_projected (v1 : Int32) (I : gM) {r : Int32 × gM} (h : fX8_projected v1 I = some r) (q j : Nat) (cq0 : q ≠ 29 ∨ j ≠ 2) (cq1 : q ≠ 31) (cq2 : q ≠ 29 ∨ j ≠ 0) (cq3 : q ≠ 29 ∨ j ≠ 1) (cq4 : q ≠ 30) (cq5 : q ≠ 36) (cq6 : q ≠ 37) (cq7 : q ≠ 38) (cq8 : q ≠ 35) (cq9 : q ≠ 34) (cq10 : q ≠ 39) (cq11 : q ≠ 33) (cq12 : q ≠ 32) : r.2 q j = I q j := by
  unfold fX8_projected at h
  rcases oi h with ⟨-, h⟩ | ⟨-, h⟩
  · obtain rfl := Option.some.inj h
    exact rfl
  · rcases oi h with ⟨-, h⟩ | ⟨-, h⟩
    · obtain rfl := Option.some.inj h
      exact rfl
    · rcases oi h with ⟨-, h⟩ | ⟨-, h⟩
      · obtain rfl := Option.some.inj h
        exact rfl
      · obtain ⟨r1, -, h⟩ := ob h
        rcases oi h with ⟨-, h⟩ | ⟨-, h⟩
        · obtain ⟨r2, er2, h⟩ := ob h
          have q1 : r2 q j = _ := (xfX1_findLeading 29 3 v1 I er2 q j cq0 cq1 cq2 cq3 cq4 cq5 cq6 cq7 cq8 cq9 cq10 cq11 cq12).trans rfl
          obtain ⟨r3, -, h⟩ := ob h
          obtain rfl := Option.some.inj h
          exact q1
        · obtain rfl := Option.some.inj h
          exact rfl
set_option maxRecDepth 100000 in
set_option maxHeartbeats 1000000 in
theorem xfX8_times (v1 : Int32) (v2 : Int32) (I : gM) {r : Int32 × gM} (h : fX8_times v1 v2 I = some r) (q j : Nat) (cq0 : q ≠ 41) : r.2 q j = I q j := by
  unfold fX8_times at h
  obtain ⟨r1, -, h⟩ := ob h
  rcases oi h with ⟨-, h⟩ | ⟨-, h⟩
  · obtain rfl := Option.some.inj h
    exact rfl
  · rcases oi h with ⟨-, h⟩ | ⟨-, h⟩
    · obtain rfl := Option.some.inj h
      exact rfl
    · rcases oi h with ⟨-, h⟩ | ⟨-, h⟩
      · obtain ⟨r2, er2, h⟩ := ob h
        have q1 : r2 q j = _ := (xfX0_tallyUp 18 v1 I er2 q j cq0).trans rfl
        obtain ⟨u3, -, h⟩ := ob h
        obtain rfl := Option.some.inj h
        exact q1
      · obtain rfl := Option.some.inj h
        exact rfl
set_option maxRecDepth 100000 in
set_option maxHeartbeats 1000000 in
theorem xfX8_distinct (v1 : Int32) (v2 : Int32) (I : gM) {r : Int32 × gM} (h : fX8_distinct v1 v2 I = some r) (q j : Nat) (cq0 : q ≠ 41) : r.2 q j = I q j := by
  unfold fX8_distinct at h
  obtain ⟨r1, -, h⟩ := ob h
  rcases oi h with ⟨-, h⟩ | ⟨-, h⟩
  · obtain rfl := Option.some.inj h
    exact rfl
  · rcases oi h with ⟨-, h⟩ | ⟨-, h⟩
    · obtain rfl := Option.some.inj h
      exact rfl
    · rcases oi h with ⟨-, h⟩ | ⟨-, h⟩
      · obtain ⟨r2, er2, h⟩ := ob h
        have q1 : r2 q j = _ := (xfX0_tallyUp 18 v1 I er2 q j cq0).trans rfl
        rcases oi h with ⟨-, h⟩ | ⟨-, h⟩
        · obtain ⟨r3, -, h⟩ := ob h
          obtain rfl := Option.some.inj h
          exact q1
        · rcases oi h with ⟨-, h⟩ | ⟨-, h⟩
          · obtain ⟨r4, -, h⟩ := ob h
            obtain rfl := Option.some.inj h
            exact q1
          · rcases oi h with ⟨-, h⟩ | ⟨-, h⟩
            · obtain ⟨r5, -, h⟩ := ob h
              obtain rfl := Option.some.inj h
              exact q1
            · obtain ⟨r6, -, h⟩ := ob h
              obtain rfl := Option.some.inj h
              exact q1
      · obtain rfl := Option.some.inj h
        exact rfl
set_option maxRecDepth 100000 in
set_option maxHeartbeats 1000000 in
theorem xfX8_tells (v1 : Int32) (v2 : Int32) (I : gM) {r : Int32 × gM} (h : fX8_tells v1 v2 I = some r) (q j : Nat) (cq0 : q ≠ 42) : r.2 q j = I q j := by
  unfold fX8_tells at h
  obtain ⟨r1, -, h⟩ := ob h
  rcases oi h with ⟨-, h⟩ | ⟨-, h⟩
  · obtain rfl := Option.some.inj h
    exact rfl
  · obtain ⟨r2, -, h⟩ := ob h
    rcases oi h with ⟨-, h⟩ | ⟨-, h⟩
    · obtain rfl := Option.some.inj h
      exact rfl
    · obtain ⟨r3, er3, h⟩ := ob h
      have q1 : r3.2 q j = _ := (xfX0_isTold 18 v1 v2 I er3 q j cq0).trans rfl
      rcases oi h with ⟨-, h⟩ | ⟨-, h⟩
      · obtain rfl := Option.some.inj h
        exact q1
      · obtain rfl := Option.some.inj h
        exact q1
set_option maxRecDepth 100000 in
set_option maxHeartbeats 1000000 in
theorem xfX8_attempt (v1 : Int32) (v2 : Int32) (v3 : Int32) (v4 : Int32) (v5 : Int32) (I : gM) {r : Int32 × gM} (h : fX8_attempt v1 v2 v3 v4 v5 I = some r) (q j : Nat) (cq0 : q ≠ 49) (cq1 : q ≠ 48 ∨ j ≠ 2) (cq2 : q ≠ 48 ∨ j ≠ 0) (cq3 : q ≠ 7) (cq4 : q ≠ 5) (cq5 : q ≠ 3 ∨ j ≠ 1) (cq6 : q ≠ 3 ∨ j ≠ 2) (cq7 : q ≠ 18 ∨ j ≠ 2) (cq8 : q ≠ 20) (cq9 : q ≠ 18 ∨ j ≠ 0) (cq10 : q ≠ 18 ∨ j ≠ 1) (cq11 : q ≠ 19) (cq12 : q ≠ 25) (cq13 : q ≠ 26) (cq14 : q ≠ 27) (cq15 : q ≠ 24) (cq16 : q ≠ 23) (cq17 : q ≠ 28) (cq18 : q ≠ 22) (cq19 : q ≠ 21) (cq20 : q ≠ 43 ∨ j ≠ 0) (cq21 : q ≠ 45) (cq22 : q ≠ 44 ∨ j ≠ 1) (cq23 : q ≠ 44 ∨ j ≠ 2) : r.2 q j = I q j := by
  unfold fX8_attempt at h
  obtain ⟨r1, -, h⟩ := ob h
  rcases oi h with ⟨-, h⟩ | ⟨-, h⟩
  · obtain ⟨r2, -, h⟩ := ob h
    rcases oi h with ⟨-, h⟩ | ⟨-, h⟩
    · unfold bX8_attempt_56 at h
      obtain ⟨r3, er3, h⟩ := ob h
      have q1 : r3 q j = _ := (xfX3_add v1 (I 3 2) r2 I er3 q j cq0 cq1 cq2).trans rfl
      obtain ⟨r4, er4, h⟩ := ob h
      have q2 : r4 q j = _ := (xfX5_change 3 v1 v2 r2 r3 er4 q j cq3 cq4 cq5 cq6).trans q1
      obtain ⟨r5, er5, h⟩ := ob h
      have q3 : r5 q j = _ := (xfX8_renew r4 er5 q j cq7 cq8 cq9 cq10 cq11 cq12 cq13 cq14 cq15 cq16 cq17 cq18 cq19 cq20).trans q2
      obtain ⟨r6, er6, h⟩ := ob h
      have q4 : r6 q j = _ := (xfX2_add 44 v1 v2 (r5 18 0) r5 er6 q j cq21 cq22 cq23).trans q3
      obtain rfl := Option.some.inj h
      exact q4
    · unfold bX8_attempt_56 at h
      obtain ⟨r3, er3, h⟩ := ob h
      have q5 : r3 q j = _ := (xfX3_add v1 v2 r2 I er3 q j cq0 cq1 cq2).trans rfl
      obtain ⟨r4, er4, h⟩ := ob h
      have q6 : r4 q j = _ := (xfX5_change 3 v1 v2 r2 r3 er4 q j cq3 cq4 cq5 cq6).trans q5
      obtain ⟨r5, er5, h⟩ := ob h
      have q7 : r5 q j = _ := (xfX8_renew r4 er5 q j cq7 cq8 cq9 cq10 cq11 cq12 cq13 cq14 cq15 cq16 cq17 cq18 cq19 cq20).trans q6
      obtain ⟨r6, er6, h⟩ := ob h
      have q8 : r6 q j = _ := (xfX2_add 44 v1 v2 (r5 18 0) r5 er6 q j cq21 cq22 cq23).trans q7
      obtain rfl := Option.some.inj h
      exact q8
  · obtain rfl := Option.some.inj h
    exact rfl
set_option maxRecDepth 100000 in
set_option maxHeartbeats 1000000 in
theorem xfX8_isDone (v1 : Int32) (v2 : Int32) (v3 : Int32) (v4 : Int32) (v5 : Int32) (I : gM) {r : Int32 × gM} (h : fX8_isDone v1 v2 v3 v4 v5 I = some r) (q j : Nat) (cq0 : q ≠ 49) (cq1 : q ≠ 48 ∨ j ≠ 2) (cq2 : q ≠ 48 ∨ j ≠ 0) (cq3 : q ≠ 7) (cq4 : q ≠ 5) (cq5 : q ≠ 3 ∨ j ≠ 1) (cq6 : q ≠ 3 ∨ j ≠ 2) (cq7 : q ≠ 18 ∨ j ≠ 2) (cq8 : q ≠ 20) (cq9 : q ≠ 18 ∨ j ≠ 0) (cq10 : q ≠ 18 ∨ j ≠ 1) (cq11 : q ≠ 19) (cq12 : q ≠ 25) (cq13 : q ≠ 26) (cq14 : q ≠ 27) (cq15 : q ≠ 24) (cq16 : q ≠ 23) (cq17 : q ≠ 28) (cq18 : q ≠ 22) (cq19 : q ≠ 21) (cq20 : q ≠ 43 ∨ j ≠ 0) (cq21 : q ≠ 45) (cq22 : q ≠ 44 ∨ j ≠ 1) (cq23 : q ≠ 44 ∨ j ≠ 2) (cq24 : q ≠ 53) : r.2 q j = I q j := by
  unfold fX8_isDone at h
  obtain ⟨r1, er1, h⟩ := ob h
  have q1 : r1.2 q j = _ := (xfX8_attempt v1 v2 v3 v4 v5 I er1 q j cq0 cq1 cq2 cq3 cq4 cq5 cq6 cq7 cq8 cq9 cq10 cq11 cq12 cq13 cq14 cq15 cq16 cq17 cq18 cq19 cq20 cq21 cq22 cq23).trans rfl
  rcases oi h with ⟨-, h⟩ | ⟨-, h⟩
  · unfold bX8_isDone_35 at h
    rcases oi h with ⟨-, h⟩ | ⟨-, h⟩
    · obtain rfl := Option.some.inj h
      exact q1
    · obtain rfl := Option.some.inj h
      exact q1
  · rcases oi h with ⟨-, h⟩ | ⟨-, h⟩
    · unfold bX8_isDone_35 at h
      rcases oi h with ⟨-, h⟩ | ⟨-, h⟩
      · obtain rfl := Option.some.inj h
        exact q1
      · obtain rfl := Option.some.inj h
        exact q1
    · obtain ⟨u2, -, h⟩ := ob h
      obtain ⟨I3, eI3, h⟩ := ob h
      have q2 : I3 q j = _ := (by rw [← (wI_some eI3).2.2]; exact g_up_ne (Or.inl cq24) : I3 q j = r1.2 q j).trans q1
      unfold bX8_isDone_35 at h
      rcases oi h with ⟨-, h⟩ | ⟨-, h⟩
      · obtain rfl := Option.some.inj h
        exact q2
      · obtain rfl := Option.some.inj h
        exact q2
set_option maxRecDepth 100000 in
set_option maxHeartbeats 1000000 in
theorem xfX8_put (v1 : Int32) (v2 : Int32) (v3 : Int32) (v4 : Int32) (I : gM) {r : Int32 × gM} (h : fX8_put v1 v2 v3 v4 I = some r) (q j : Nat) (cq0 : q ≠ 49) (cq1 : q ≠ 48 ∨ j ≠ 2) (cq2 : q ≠ 48 ∨ j ≠ 0) (cq3 : q ≠ 7) (cq4 : q ≠ 5) (cq5 : q ≠ 3 ∨ j ≠ 1) (cq6 : q ≠ 3 ∨ j ≠ 2) (cq7 : q ≠ 18 ∨ j ≠ 2) (cq8 : q ≠ 20) (cq9 : q ≠ 18 ∨ j ≠ 0) (cq10 : q ≠ 18 ∨ j ≠ 1) (cq11 : q ≠ 19) (cq12 : q ≠ 25) (cq13 : q ≠ 26) (cq14 : q ≠ 27) (cq15 : q ≠ 24) (cq16 : q ≠ 23) (cq17 : q ≠ 28) (cq18 : q ≠ 22) (cq19 : q ≠ 21) (cq20 : q ≠ 43 ∨ j ≠ 0) (cq21 : q ≠ 45) (cq22 : q ≠ 44 ∨ j ≠ 1) (cq23 : q ≠ 44 ∨ j ≠ 2) (cq24 : q ≠ 53) : r.2 q j = I q j := by
  unfold fX8_put at h
  obtain ⟨r1, er1, h⟩ := ob h
  have q1 : r1.2 q j = _ := (xfX8_isDone (0 : Int32) v1 v2 v3 v4 I er1 q j cq0 cq1 cq2 cq3 cq4 cq5 cq6 cq7 cq8 cq9 cq10 cq11 cq12 cq13 cq14 cq15 cq16 cq17 cq18 cq19 cq20 cq21 cq22 cq23 cq24).trans rfl
  rcases oi h with ⟨-, h⟩ | ⟨-, h⟩
  · obtain rfl := Option.some.inj h
    exact q1
  · obtain ⟨u2, -, h⟩ := ob h
    obtain rfl := Option.some.inj h
    exact q1
set_option maxRecDepth 100000 in
set_option maxHeartbeats 1000000 in
theorem xfX8_take (v1 : Int32) (v2 : Int32) (v3 : Int32) (v4 : Int32) (I : gM) {r : Int32 × gM} (h : fX8_take v1 v2 v3 v4 I = some r) (q j : Nat) (cq0 : q ≠ 49) (cq1 : q ≠ 48 ∨ j ≠ 2) (cq2 : q ≠ 48 ∨ j ≠ 0) (cq3 : q ≠ 7) (cq4 : q ≠ 5) (cq5 : q ≠ 3 ∨ j ≠ 1) (cq6 : q ≠ 3 ∨ j ≠ 2) (cq7 : q ≠ 18 ∨ j ≠ 2) (cq8 : q ≠ 20) (cq9 : q ≠ 18 ∨ j ≠ 0) (cq10 : q ≠ 18 ∨ j ≠ 1) (cq11 : q ≠ 19) (cq12 : q ≠ 25) (cq13 : q ≠ 26) (cq14 : q ≠ 27) (cq15 : q ≠ 24) (cq16 : q ≠ 23) (cq17 : q ≠ 28) (cq18 : q ≠ 22) (cq19 : q ≠ 21) (cq20 : q ≠ 43 ∨ j ≠ 0) (cq21 : q ≠ 45) (cq22 : q ≠ 44 ∨ j ≠ 1) (cq23 : q ≠ 44 ∨ j ≠ 2) (cq24 : q ≠ 53) : r.2 q j = I q j := by
  unfold fX8_take at h
  obtain ⟨r1, er1, h⟩ := ob h
  have q1 : r1.2 q j = _ := (xfX8_isDone (1 : Int32) v1 v2 v3 v4 I er1 q j cq0 cq1 cq2 cq3 cq4 cq5 cq6 cq7 cq8 cq9 cq10 cq11 cq12 cq13 cq14 cq15 cq16 cq17 cq18 cq19 cq20 cq21 cq22 cq23 cq24).trans rfl
  rcases oi h with ⟨-, h⟩ | ⟨-, h⟩
  · obtain rfl := Option.some.inj h
    exact q1
  · obtain ⟨u2, -, h⟩ := ob h
    obtain rfl := Option.some.inj h
    exact q1
set_option maxRecDepth 100000 in
set_option maxHeartbeats 1000000 in
theorem xfX8_use (v1 : Int32) (I : gM) {r : Int32 × gM} (h : fX8_use v1 I = some r) (q j : Nat) (cq0 : q ≠ 49) (cq1 : q ≠ 48 ∨ j ≠ 2) (cq2 : q ≠ 48 ∨ j ≠ 0) (cq3 : q ≠ 7) (cq4 : q ≠ 5) (cq5 : q ≠ 3 ∨ j ≠ 1) (cq6 : q ≠ 3 ∨ j ≠ 2) (cq7 : q ≠ 18 ∨ j ≠ 2) (cq8 : q ≠ 20) (cq9 : q ≠ 18 ∨ j ≠ 0) (cq10 : q ≠ 18 ∨ j ≠ 1) (cq11 : q ≠ 19) (cq12 : q ≠ 25) (cq13 : q ≠ 26) (cq14 : q ≠ 27) (cq15 : q ≠ 24) (cq16 : q ≠ 23) (cq17 : q ≠ 28) (cq18 : q ≠ 22) (cq19 : q ≠ 21) (cq20 : q ≠ 43 ∨ j ≠ 0) (cq21 : q ≠ 45) (cq22 : q ≠ 44 ∨ j ≠ 1) (cq23 : q ≠ 44 ∨ j ≠ 2) (cq24 : q ≠ 53) : r.2 q j = I q j := by
  unfold fX8_use at h
  obtain ⟨r1, er1, h⟩ := ob h
  have q1 : r1.2 q j = _ := (xfX8_isDone (2 : Int32) v1 ((-1) : Int32) ((-1) : Int32) ((-1) : Int32) I er1 q j cq0 cq1 cq2 cq3 cq4 cq5 cq6 cq7 cq8 cq9 cq10 cq11 cq12 cq13 cq14 cq15 cq16 cq17 cq18 cq19 cq20 cq21 cq22 cq23 cq24).trans rfl
  rcases oi h with ⟨-, h⟩ | ⟨-, h⟩
  · obtain rfl := Option.some.inj h
    exact q1
  · obtain ⟨r2, -, h⟩ := ob h
    rcases oi h with ⟨-, h⟩ | ⟨-, h⟩
    · obtain rfl := Option.some.inj h
      exact q1
    · obtain rfl := Option.some.inj h
      exact q1
set_option maxRecDepth 100000 in
set_option maxHeartbeats 1000000 in
theorem xfX8_order (v1 : Int32) (I : gM) {r : Int32 × gM} (h : fX8_order v1 I = some r) (q j : Nat) (cq0 : q ≠ 49) (cq1 : q ≠ 48 ∨ j ≠ 2) (cq2 : q ≠ 48 ∨ j ≠ 0) (cq3 : q ≠ 7) (cq4 : q ≠ 5) (cq5 : q ≠ 3 ∨ j ≠ 1) (cq6 : q ≠ 3 ∨ j ≠ 2) (cq7 : q ≠ 18 ∨ j ≠ 2) (cq8 : q ≠ 20) (cq9 : q ≠ 18 ∨ j ≠ 0) (cq10 : q ≠ 18 ∨ j ≠ 1) (cq11 : q ≠ 19) (cq12 : q ≠ 25) (cq13 : q ≠ 26) (cq14 : q ≠ 27) (cq15 : q ≠ 24) (cq16 : q ≠ 23) (cq17 : q ≠ 28) (cq18 : q ≠ 22) (cq19 : q ≠ 21) (cq20 : q ≠ 43 ∨ j ≠ 0) (cq21 : q ≠ 45) (cq22 : q ≠ 44 ∨ j ≠ 1) (cq23 : q ≠ 44 ∨ j ≠ 2) (cq24 : q ≠ 53) : r.2 q j = I q j := by
  unfold fX8_order at h
  obtain ⟨r1, er1, h⟩ := ob h
  have q1 : r1.2 q j = _ := (xfX8_isDone (3 : Int32) v1 ((-1) : Int32) ((-1) : Int32) ((-1) : Int32) I er1 q j cq0 cq1 cq2 cq3 cq4 cq5 cq6 cq7 cq8 cq9 cq10 cq11 cq12 cq13 cq14 cq15 cq16 cq17 cq18 cq19 cq20 cq21 cq22 cq23 cq24).trans rfl
  rcases oi h with ⟨-, h⟩ | ⟨-, h⟩
  · obtain rfl := Option.some.inj h
    exact q1
  · obtain rfl := Option.some.inj h
    exact q1
set_option maxRecDepth 100000 in
set_option maxHeartbeats 1000000 in
theorem xfX8_goOneWay (I : gM) (J : gN) {r : gM × gN} (h : fX8_goOneWay I J = some r) (q j : Nat) (cq0 : q ≠ 49) (cq1 : q ≠ 48 ∨ j ≠ 2) (cq2 : q ≠ 48 ∨ j ≠ 0) (cq3 : q ≠ 7) (cq4 : q ≠ 5) (cq5 : q ≠ 3 ∨ j ≠ 1) (cq6 : q ≠ 3 ∨ j ≠ 2) (cq7 : q ≠ 18 ∨ j ≠ 2) (cq8 : q ≠ 20) (cq9 : q ≠ 18 ∨ j ≠ 0) (cq10 : q ≠ 18 ∨ j ≠ 1) (cq11 : q ≠ 19) (cq12 : q ≠ 25) (cq13 : q ≠ 26) (cq14 : q ≠ 27) (cq15 : q ≠ 24) (cq16 : q ≠ 23) (cq17 : q ≠ 28) (cq18 : q ≠ 22) (cq19 : q ≠ 21) (cq20 : q ≠ 43 ∨ j ≠ 0) (cq21 : q ≠ 45) (cq22 : q ≠ 44 ∨ j ≠ 1) (cq23 : q ≠ 44 ∨ j ≠ 2) : r.1 q j = I q j := by
  unfold fX8_goOneWay at h
  obtain ⟨r1, -, h⟩ := ob h
  rcases oi h with ⟨-, h⟩ | ⟨-, h⟩
  · obtain ⟨r2, -, h⟩ := ob h
    obtain ⟨r3, er3, h⟩ := ob h
    have q1 : r3.2 q j = _ := (xfX8_attempt (3 : Int32) r2.1 ((-1) : Int32) ((-1) : Int32) ((-1) : Int32) I er3 q j cq0 cq1 cq2 cq3 cq4 cq5 cq6 cq7 cq8 cq9 cq10 cq11 cq12 cq13 cq14 cq15 cq16 cq17 cq18 cq19 cq20 cq21 cq22 cq23).trans rfl
    obtain rfl := Option.some.inj h
    exact q1
  · obtain ⟨r4, -, h⟩ := ob h
    rcases oi h with ⟨-, h⟩ | ⟨-, h⟩
    · obtain ⟨r5, er5, h⟩ := ob h
      have q2 : r5.2 q j = _ := (xfX8_attempt (2 : Int32) r4.1 ((-1) : Int32) ((-1) : Int32) ((-1) : Int32) I er5 q j cq0 cq1 cq2 cq3 cq4 cq5 cq6 cq7 cq8 cq9 cq10 cq11 cq12 cq13 cq14 cq15 cq16 cq17 cq18 cq19 cq20 cq21 cq22 cq23).trans rfl
      obtain rfl := Option.some.inj h
      exact q2
    · rcases oi h with ⟨-, h⟩ | ⟨-, h⟩
      · obtain ⟨r6, -, h⟩ := ob h
        rcases oi h with ⟨-, h⟩ | ⟨-, h⟩
        · obtain rfl := Option.some.inj h
          exact rfl
        · obtain ⟨u7, -, h⟩ := ob h
          rcases oi h with ⟨-, h⟩ | ⟨-, h⟩
          · unfold bX8_goOneWay_138 at h
            rcases oi h with ⟨-, h⟩ | ⟨-, h⟩
            · unfold bX8_goOneWay_155 at h
              rcases oi h with ⟨-, h⟩ | ⟨-, h⟩
              · unfold bX8_goOneWay_172 at h
                obtain ⟨r8, er8, h⟩ := ob h
                have q3 : r8.2 q j = _ := (xfX8_attempt (0 : Int32) r4.1 ((-1) : Int32) ((-1) : Int32) ((-1) : Int32) I er8 q j cq0 cq1 cq2 cq3 cq4 cq5 cq6 cq7 cq8 cq9 cq10 cq11 cq12 cq13 cq14 cq15 cq16 cq17 cq18 cq19 cq20 cq21 cq22 cq23).trans rfl
                obtain rfl := Option.some.inj h
                exact q3
              · obtain ⟨r9, -, h⟩ := ob h
                unfold bX8_goOneWay_172 at h
                obtain ⟨r8, er8, h⟩ := ob h
                have q4 : r8.2 q j = _ := (xfX8_attempt (0 : Int32) r4.1 ((-1) : Int32) ((-1) : Int32) r9.1 I er8 q j cq0 cq1 cq2 cq3 cq4 cq5 cq6 cq7 cq8 cq9 cq10 cq11 cq12 cq13 cq14 cq15 cq16 cq17 cq18 cq19 cq20 cq21 cq22 cq23).trans rfl
                obtain rfl := Option.some.inj h
                exact q4
            · obtain ⟨r10, -, h⟩ := ob h
              unfold bX8_goOneWay_155 at h
              rcases oi h with ⟨-, h⟩ | ⟨-, h⟩
              · unfold bX8_goOneWay_172 at h
                obtain ⟨r8, er8, h⟩ := ob h
                have q5 : r8.2 q j = _ := (xfX8_attempt (0 : Int32) r4.1 ((-1) : Int32) r10.1 ((-1) : Int32) I er8 q j cq0 cq1 cq2 cq3 cq4 cq5 cq6 cq7 cq8 cq9 cq10 cq11 cq12 cq13 cq14 cq15 cq16 cq17 cq18 cq19 cq20 cq21 cq22 cq23).trans rfl
                obtain rfl := Option.some.inj h
                exact q5
              · obtain ⟨r9, -, h⟩ := ob h
                unfold bX8_goOneWay_172 at h
                obtain ⟨r8, er8, h⟩ := ob h
                have q6 : r8.2 q j = _ := (xfX8_attempt (0 : Int32) r4.1 ((-1) : Int32) r10.1 r9.1 I er8 q j cq0 cq1 cq2 cq3 cq4 cq5 cq6 cq7 cq8 cq9 cq10 cq11 cq12 cq13 cq14 cq15 cq16 cq17 cq18 cq19 cq20 cq21 cq22 cq23).trans rfl
                obtain rfl := Option.some.inj h
                exact q6
          · obtain ⟨r11, -, h⟩ := ob h
            unfold bX8_goOneWay_138 at h
            rcases oi h with ⟨-, h⟩ | ⟨-, h⟩
            · unfold bX8_goOneWay_155 at h
              rcases oi h with ⟨-, h⟩ | ⟨-, h⟩
              · unfold bX8_goOneWay_172 at h
                obtain ⟨r8, er8, h⟩ := ob h
                have q7 : r8.2 q j = _ := (xfX8_attempt (0 : Int32) r4.1 r11.1 ((-1) : Int32) ((-1) : Int32) I er8 q j cq0 cq1 cq2 cq3 cq4 cq5 cq6 cq7 cq8 cq9 cq10 cq11 cq12 cq13 cq14 cq15 cq16 cq17 cq18 cq19 cq20 cq21 cq22 cq23).trans rfl
                obtain rfl := Option.some.inj h
                exact q7
              · obtain ⟨r9, -, h⟩ := ob h
                unfold bX8_goOneWay_172 at h
                obtain ⟨r8, er8, h⟩ := ob h
                have q8 : r8.2 q j = _ := (xfX8_attempt (0 : Int32) r4.1 r11.1 ((-1) : Int32) r9.1 I er8 q j cq0 cq1 cq2 cq3 cq4 cq5 cq6 cq7 cq8 cq9 cq10 cq11 cq12 cq13 cq14 cq15 cq16 cq17 cq18 cq19 cq20 cq21 cq22 cq23).trans rfl
                obtain rfl := Option.some.inj h
                exact q8
            · obtain ⟨r10, -, h⟩ := ob h
              unfold bX8_goOneWay_155 at h
              rcases oi h with ⟨-, h⟩ | ⟨-, h⟩
              · unfold bX8_goOneWay_172 at h
                obtain ⟨r8, er8, h⟩ := ob h
                have q9 : r8.2 q j = _ := (xfX8_attempt (0 : Int32) r4.1 r11.1 r10.1 ((-1) : Int32) I er8 q j cq0 cq1 cq2 cq3 cq4 cq5 cq6 cq7 cq8 cq9 cq10 cq11 cq12 cq13 cq14 cq15 cq16 cq17 cq18 cq19 cq20 cq21 cq22 cq23).trans rfl
                obtain rfl := Option.some.inj h
                exact q9
              · obtain ⟨r9, -, h⟩ := ob h
                unfold bX8_goOneWay_172 at h
                obtain ⟨r8, er8, h⟩ := ob h
                have q10 : r8.2 q j = _ := (xfX8_attempt (0 : Int32) r4.1 r11.1 r10.1 r9.1 I er8 q j cq0 cq1 cq2 cq3 cq4 cq5 cq6 cq7 cq8 cq9 cq10 cq11 cq12 cq13 cq14 cq15 cq16 cq17 cq18 cq19 cq20 cq21 cq22 cq23).trans rfl
                obtain rfl := Option.some.inj h
                exact q10
      · obtain ⟨r12, -, h⟩ := ob h
        obtain ⟨r13, -, h⟩ := ob h
        obtain ⟨r14, -, h⟩ := ob h
        obtain ⟨r15, -, h⟩ := ob h
        obtain ⟨r16, er16, h⟩ := ob h
        have q11 : r16.2 q j = _ := (xfX8_attempt (1 : Int32) r4.1 r13 r14 r15 I er16 q j cq0 cq1 cq2 cq3 cq4 cq5 cq6 cq7 cq8 cq9 cq10 cq11 cq12 cq13 cq14 cq15 cq16 cq17 cq18 cq19 cq20 cq21 cq22 cq23).trans rfl
        obtain rfl := Option.some.inj h
        exact q11
set_option maxRecDepth 100000 in
set_option maxHeartbeats 1000000 in
theorem xlX8_ways_31 (v1 : Int32) (s : (Int32 × gM × gN)) {r : gM × gN} (h : lX8_ways_31 v1 s = some r) (q j : Nat) (cq0 : q ≠ 49) (cq1 : q ≠ 48 ∨ j ≠ 2) (cq2 : q ≠ 48 ∨ j ≠ 0) (cq3 : q ≠ 7) (cq4 : q ≠ 5) (cq5 : q ≠ 3 ∨ j ≠ 1) (cq6 : q ≠ 3 ∨ j ≠ 2) (cq7 : q ≠ 18 ∨ j ≠ 2) (cq8 : q ≠ 20) (cq9 : q ≠ 18 ∨ j ≠ 0) (cq10 : q ≠ 18 ∨ j ≠ 1) (cq11 : q ≠ 19) (cq12 : q ≠ 25) (cq13 : q ≠ 26) (cq14 : q ≠ 27) (cq15 : q ≠ 24) (cq16 : q ≠ 23) (cq17 : q ≠ 28) (cq18 : q ≠ 22) (cq19 : q ≠ 21) (cq20 : q ≠ 43 ∨ j ≠ 0) (cq21 : q ≠ 45) (cq22 : q ≠ 44 ∨ j ≠ 1) (cq23 : q ≠ 44 ∨ j ≠ 2) : r.1 q j = s.2.1 q j := by
  unfold lX8_ways_31 at h
  revert s
  refine itO_ind (P := fun s : (Int32 × gM × gN) => r.1 q j = s.2.1 q j) (fun s y h hl hr => ?_)
  rcases oi h with ⟨-, h⟩ | ⟨-, h⟩
  · obtain rfl := Option.some.inj h
    have hh := hr _ rfl
    subst hh
    exact rfl
  · obtain ⟨r2, er2, h⟩ := ob h
    have q1 : r2.1 q j = _ := (xfX8_goOneWay s.2.1 s.2.2 er2 q j cq0 cq1 cq2 cq3 cq4 cq5 cq6 cq7 cq8 cq9 cq10 cq11 cq12 cq13 cq14 cq15 cq16 cq17 cq18 cq19 cq20 cq21 cq22 cq23).trans rfl
    obtain rfl := Option.some.inj h
    exact (hl _ rfl).trans q1
set_option maxRecDepth 100000 in
set_option maxHeartbeats 1000000 in
theorem xfX8_ways (v1 : Int32) (v2 : Int64) (I : gM) (J : gN) {r : Int32 × gM × gN} (h : fX8_ways v1 v2 I J = some r) (q j : Nat) (cq0 : q ≠ 49) (cq1 : q ≠ 48 ∨ j ≠ 2) (cq2 : q ≠ 48 ∨ j ≠ 0) (cq3 : q ≠ 7) (cq4 : q ≠ 5) (cq5 : q ≠ 3 ∨ j ≠ 1) (cq6 : q ≠ 3 ∨ j ≠ 2) (cq7 : q ≠ 18 ∨ j ≠ 2) (cq8 : q ≠ 20) (cq9 : q ≠ 18 ∨ j ≠ 0) (cq10 : q ≠ 18 ∨ j ≠ 1) (cq11 : q ≠ 19) (cq12 : q ≠ 25) (cq13 : q ≠ 26) (cq14 : q ≠ 27) (cq15 : q ≠ 24) (cq16 : q ≠ 23) (cq17 : q ≠ 28) (cq18 : q ≠ 22) (cq19 : q ≠ 21) (cq20 : q ≠ 43 ∨ j ≠ 0) (cq21 : q ≠ 45) (cq22 : q ≠ 44 ∨ j ≠ 1) (cq23 : q ≠ 44 ∨ j ≠ 2) : r.2.1 q j = I q j := by
  unfold fX8_ways at h
  rcases oi h with ⟨-, h⟩ | ⟨-, h⟩
  · obtain rfl := Option.some.inj h
    exact rfl
  · rcases oi h with ⟨-, h⟩ | ⟨-, h⟩
    · obtain rfl := Option.some.inj h
      exact rfl
    · rcases oi h with ⟨-, h⟩ | ⟨-, h⟩
      · obtain ⟨J1, -, h⟩ := ob h
        obtain ⟨w3, ew3, h⟩ := ob h
        have q1 : w3.1 q j = _ := (xlX8_ways_31 v1 ((0 : Int32), I, J1) ew3 q j cq0 cq1 cq2 cq3 cq4 cq5 cq6 cq7 cq8 cq9 cq10 cq11 cq12 cq13 cq14 cq15 cq16 cq17 cq18 cq19 cq20 cq21 cq22 cq23).trans rfl
        obtain rfl := Option.some.inj h
        exact q1
      · obtain rfl := Option.some.inj h
        exact rfl
set_option maxRecDepth 100000 in
set_option maxHeartbeats 1000000 in
theorem xfX8_undo (I : gM) {r : Int32 × gM} (h : fX8_undo I = some r) (q j : Nat) (cq0 : q ≠ 48 ∨ j ≠ 2) (cq1 : q ≠ 48 ∨ j ≠ 0) (cq2 : q ≠ 5) (cq3 : q ≠ 7) (cq4 : q ≠ 3 ∨ j ≠ 1) (cq5 : q ≠ 3 ∨ j ≠ 2) (cq6 : q ≠ 44 ∨ j ≠ 1) (cq7 : q ≠ 44 ∨ j ≠ 2) (cq8 : q ≠ 18 ∨ j ≠ 2) (cq9 : q ≠ 20) (cq10 : q ≠ 18 ∨ j ≠ 0) (cq11 : q ≠ 18 ∨ j ≠ 1) (cq12 : q ≠ 19) (cq13 : q ≠ 25) (cq14 : q ≠ 26) (cq15 : q ≠ 27) (cq16 : q ≠ 24) (cq17 : q ≠ 23) (cq18 : q ≠ 28) (cq19 : q ≠ 22) (cq20 : q ≠ 21) (cq21 : q ≠ 43 ∨ j ≠ 0) : r.2 q j = I q j := by
  unfold fX8_undo at h
  rcases oi h with ⟨-, h⟩ | ⟨-, h⟩
  · obtain rfl := Option.some.inj h
    exact rfl
  · obtain ⟨r1, er1, h⟩ := ob h
    have q1 : r1 q j = _ := (xfX3_dropLatest I er1 q j cq0 cq1).trans rfl
    obtain ⟨r2, -, h⟩ := ob h
    obtain ⟨r3, -, h⟩ := ob h
    obtain ⟨r4, -, h⟩ := ob h
    obtain ⟨r5, er5, h⟩ := ob h
    have q2 : r5 q j = _ := (xfX5_changeBack 3 r2 r3 r4 r1 er5 q j cq2 cq3 cq4 cq5).trans q1
    obtain ⟨r6, er6, h⟩ := ob h
    have q3 : r6 q j = _ := (xfX2_dropLatest 44 r5 er6 q j cq6 cq7).trans q2
    obtain ⟨r7, er7, h⟩ := ob h
    have q4 : r7 q j = _ := (xfX8_renew r6 er7 q j cq8 cq9 cq10 cq11 cq12 cq13 cq14 cq15 cq16 cq17 cq18 cq19 cq20 cq21).trans q3
    obtain rfl := Option.some.inj h
    exact q4
set_option maxRecDepth 100000 in
set_option maxHeartbeats 1000000 in
theorem xfX8_would (v1 : Int32) (v2 : Int32) (v3 : Int32) (v4 : Int32) (v5 : Int32) (I : gM) {r : Int32 × gM} (h : fX8_would v1 v2 v3 v4 v5 I = some r) (q j : Nat) (cq0 : q ≠ 8 ∨ j ≠ 0) (cq1 : q ≠ 8 ∨ j ≠ 1) (cq2 : q ≠ 8 ∨ j ≠ 2) (cq3 : q ≠ 9) (cq4 : q ≠ 10) (cq5 : q ≠ 11) (cq6 : q ≠ 12) (cq7 : q ≠ 29 ∨ j ≠ 2) (cq8 : q ≠ 31) (cq9 : q ≠ 29 ∨ j ≠ 0) (cq10 : q ≠ 29 ∨ j ≠ 1) (cq11 : q ≠ 30) (cq12 : q ≠ 36) (cq13 : q ≠ 37) (cq14 : q ≠ 38) (cq15 : q ≠ 35) (cq16 : q ≠ 34) (cq17 : q ≠ 39) (cq18 : q ≠ 33) (cq19 : q ≠ 32) : r.2 q j = I q j := by
  unfold fX8_would at h
  rcases oi h with ⟨-, h⟩ | ⟨-, h⟩
  · obtain rfl := Option.some.inj h
    exact rfl
  · rcases oi h with ⟨-, h⟩ | ⟨-, h⟩
    · obtain rfl := Option.some.inj h
      exact rfl
    · obtain ⟨r1, -, h⟩ := ob h
      rcases oi h with ⟨-, h⟩ | ⟨-, h⟩
      · obtain ⟨r2, er2, h⟩ := ob h
        have q1 : r2 q j = _ := (xfX5_copyFrom 8 3 I er2 q j cq0 cq1 cq2 cq3 cq4 cq5 cq6).trans rfl
        obtain ⟨r3, -, h⟩ := ob h
        obtain ⟨r4, er4, h⟩ := ob h
        have q2 : r4 q j = _ := (xfX5_change 8 (0 : Int32) v1 r3 r2 er4 q j cq6 cq4 cq1 cq2).trans q1
        obtain ⟨r5, er5, h⟩ := ob h
        have q3 : r5 q j = _ := (xfX1_findBy 29 8 (r4 8 2) r4 er5 q j cq7 cq8 cq9 cq10 cq11 cq12 cq13 cq14 cq15 cq16 cq17 cq18 cq19).trans q2
        rcases oi h with ⟨-, h⟩ | ⟨-, h⟩
        · obtain rfl := Option.some.inj h
          exact q3
        · obtain rfl := Option.some.inj h
          exact q3
      · obtain rfl := Option.some.inj h
        exact rfl
set_option maxRecDepth 100000 in
set_option maxHeartbeats 1000000 in
theorem xfX8_run (v1 : Int32) (v2 : Int32) (I : gM) {r : Int32 × gM} (h : fX8_run v1 v2 I = some r) (q j : Nat) (cq0 : q ≠ 8 ∨ j ≠ 0) (cq1 : q ≠ 8 ∨ j ≠ 1) (cq2 : q ≠ 8 ∨ j ≠ 2) (cq3 : q ≠ 9) (cq4 : q ≠ 10) (cq5 : q ≠ 11) (cq6 : q ≠ 12) (cq7 : q ≠ 29 ∨ j ≠ 2) (cq8 : q ≠ 31) (cq9 : q ≠ 29 ∨ j ≠ 0) (cq10 : q ≠ 29 ∨ j ≠ 1) (cq11 : q ≠ 30) (cq12 : q ≠ 36) (cq13 : q ≠ 37) (cq14 : q ≠ 38) (cq15 : q ≠ 35) (cq16 : q ≠ 34) (cq17 : q ≠ 39) (cq18 : q ≠ 33) (cq19 : q ≠ 32) : r.2 q j = I q j := by
  unfold fX8_run at h
  obtain ⟨r1, -, h⟩ := ob h
  rcases oi h with ⟨-, h⟩ | ⟨-, h⟩
  · obtain rfl := Option.some.inj h
    exact rfl
  · rcases oi h with ⟨-, h⟩ | ⟨-, h⟩
    · obtain rfl := Option.some.inj h
      exact rfl
    · rcases oi h with ⟨-, h⟩ | ⟨-, h⟩
      · obtain rfl := Option.some.inj h
        exact rfl
      · rcases oi h with ⟨-, h⟩ | ⟨-, h⟩
        · obtain ⟨r2, er2, h⟩ := ob h
          have q1 : r2 q j = _ := (xfX5_copyFrom 8 3 I er2 q j cq0 cq1 cq2 cq3 cq4 cq5 cq6).trans rfl
          obtain ⟨k3, ek3, h⟩ := ob h
          obtain ⟨jk3, -, hjk3, hkk3⟩ := rA_some ek3
          obtain ⟨r4, er4, h⟩ := ob h
          have q2 : r4.2 q j = _ := (xfX4_rehearse k3 8 r2 er4 q j cq6 cq4 cq1 cq2).trans q1
          rcases oi h with ⟨-, h⟩ | ⟨-, h⟩
          · obtain ⟨k5, ek5, h⟩ := ob h
            obtain ⟨jk5, -, hjk5, hkk5⟩ := rA_some ek5
            rcases oi h with ⟨-, h⟩ | ⟨-, h⟩
            · obtain rfl := Option.some.inj h
              exact q2
            · obtain rfl := Option.some.inj h
              exact q2
          · obtain ⟨r6, er6, h⟩ := ob h
            have q3 : r6 q j = _ := (xfX1_findBy 29 8 (r4.2 8 2) r4.2 er6 q j cq7 cq8 cq9 cq10 cq11 cq12 cq13 cq14 cq15 cq16 cq17 cq18 cq19).trans q2
            obtain rfl := Option.some.inj h
            exact q3
        · obtain rfl := Option.some.inj h
          exact rfl
set_option maxRecDepth 100000 in
set_option maxHeartbeats 1000000 in
theorem xlX8_perform_29 (k2 : Nat) (s : (Int32 × gM)) {r : (Int32 × gM) ⊕ (gM)} (h : lX8_perform_29 k2 s = some r) (q j : Nat) (cq0 : q ≠ 49) (cq1 : q ≠ 48 ∨ j ≠ 2) (cq2 : q ≠ 48 ∨ j ≠ 0) (cq3 : q ≠ 7) (cq4 : q ≠ 5) (cq5 : q ≠ 3 ∨ j ≠ 1) (cq6 : q ≠ 3 ∨ j ≠ 2) (cq7 : q ≠ 18 ∨ j ≠ 2) (cq8 : q ≠ 20) (cq9 : q ≠ 18 ∨ j ≠ 0) (cq10 : q ≠ 18 ∨ j ≠ 1) (cq11 : q ≠ 19) (cq12 : q ≠ 25) (cq13 : q ≠ 26) (cq14 : q ≠ 27) (cq15 : q ≠ 24) (cq16 : q ≠ 23) (cq17 : q ≠ 28) (cq18 : q ≠ 22) (cq19 : q ≠ 21) (cq20 : q ≠ 43 ∨ j ≠ 0) (cq21 : q ≠ 45) (cq22 : q ≠ 44 ∨ j ≠ 1) (cq23 : q ≠ 44 ∨ j ≠ 2) : ((Sum.elim (fun x : Int32 × gM => x.2 q j) (fun x : gM => x q j)) r) = s.2 q j := by
  unfold lX8_perform_29 at h
  revert s
  refine itO_ind (P := fun s : (Int32 × gM) => ((Sum.elim (fun x : Int32 × gM => x.2 q j) (fun x : gM => x q j)) r) = s.2 q j) (fun s y h hl hr => ?_)
  rcases oi h with ⟨-, h⟩ | ⟨-, h⟩
  · obtain rfl := Option.some.inj h
    have hh := hr _ rfl
    subst hh
    exact rfl
  · obtain ⟨r3, -, h⟩ := ob h
    obtain ⟨r4, -, h⟩ := ob h
    obtain ⟨r5, -, h⟩ := ob h
    obtain ⟨r6, -, h⟩ := ob h
    obtain ⟨r7, -, h⟩ := ob h
    obtain ⟨r8, er8, h⟩ := ob h
    have q1 : r8.2 q j = _ := (xfX8_attempt r3 r4 r5 r6 r7 s.2 er8 q j cq0 cq1 cq2 cq3 cq4 cq5 cq6 cq7 cq8 cq9 cq10 cq11 cq12 cq13 cq14 cq15 cq16 cq17 cq18 cq19 cq20 cq21 cq22 cq23).trans rfl
    rcases oi h with ⟨-, h⟩ | ⟨-, h⟩
    · obtain rfl := Option.some.inj h
      exact (hl _ rfl).trans q1
    · obtain rfl := Option.some.inj h
      have hh := hr _ rfl
      subst hh
      exact q1
set_option maxRecDepth 100000 in
set_option maxHeartbeats 1000000 in
theorem xfX8_perform (v1 : Int32) (I : gM) {r : Int32 × gM} (h : fX8_perform v1 I = some r) (q j : Nat) (cq0 : q ≠ 49) (cq1 : q ≠ 48 ∨ j ≠ 2) (cq2 : q ≠ 48 ∨ j ≠ 0) (cq3 : q ≠ 7) (cq4 : q ≠ 5) (cq5 : q ≠ 3 ∨ j ≠ 1) (cq6 : q ≠ 3 ∨ j ≠ 2) (cq7 : q ≠ 18 ∨ j ≠ 2) (cq8 : q ≠ 20) (cq9 : q ≠ 18 ∨ j ≠ 0) (cq10 : q ≠ 18 ∨ j ≠ 1) (cq11 : q ≠ 19) (cq12 : q ≠ 25) (cq13 : q ≠ 26) (cq14 : q ≠ 27) (cq15 : q ≠ 24) (cq16 : q ≠ 23) (cq17 : q ≠ 28) (cq18 : q ≠ 22) (cq19 : q ≠ 21) (cq20 : q ≠ 43 ∨ j ≠ 0) (cq21 : q ≠ 45) (cq22 : q ≠ 44 ∨ j ≠ 1) (cq23 : q ≠ 44 ∨ j ≠ 2) : r.2 q j = I q j := by
  unfold fX8_perform at h
  obtain ⟨r1, -, h⟩ := ob h
  rcases oi h with ⟨-, h⟩ | ⟨-, h⟩
  · obtain rfl := Option.some.inj h
    exact rfl
  · rcases oi h with ⟨-, h⟩ | ⟨-, h⟩
    · obtain rfl := Option.some.inj h
      exact rfl
    · obtain ⟨k2, ek2, h⟩ := ob h
      obtain ⟨jk2, -, hjk2, hkk2⟩ := rA_some ek2
      obtain ⟨w9, ew9, h⟩ := ob h
      have q1 := (xlX8_perform_29 k2 ((0 : Int32), I) ew9 q j cq0 cq1 cq2 cq3 cq4 cq5 cq6 cq7 cq8 cq9 cq10 cq11 cq12 cq13 cq14 cq15 cq16 cq17 cq18 cq19 cq20 cq21 cq22 cq23).trans rfl
      rcases w9 with w9_0 | w9_1
      · replace h := oE1 h
        have q2 : w9_0.2 q j = _ := q1
        obtain rfl := Option.some.inj h
        exact q2
      · replace h := oE2 h
        have q3 : w9_1 q j = _ := q1
        obtain rfl := Option.some.inj h
        exact q3
set_option maxRecDepth 100000 in
set_option maxHeartbeats 1000000 in
theorem xlX8_tellingCouples_11 (v2 : Int32) (s : (Int32 × Int32 × gM)) {r : Int32 × gM} (h : lX8_tellingCouples_11 v2 s = some r) (q j : Nat) (cq0 : q ≠ 42) : r.2 q j = s.2.2 q j := by
  unfold lX8_tellingCouples_11 at h
  revert s
  refine itO_ind (P := fun s : (Int32 × Int32 × gM) => r.2 q j = s.2.2 q j) (fun s y h hl hr => ?_)
  rcases oi h with ⟨-, h⟩ | ⟨-, h⟩
  · obtain rfl := Option.some.inj h
    have hh := hr _ rfl
    subst hh
    exact rfl
  · rcases oi h with ⟨-, h⟩ | ⟨-, h⟩
    · unfold bX8_tellingCouples_33 at h
      obtain rfl := Option.some.inj h
      exact (hl _ rfl).trans rfl
    · obtain ⟨r1, er1, h⟩ := ob h
      have q1 : r1.2 q j = _ := (xfX8_tells v2 s.2.1 s.2.2 er1 q j cq0).trans rfl
      rcases oi h with ⟨-, h⟩ | ⟨-, h⟩
      · unfold bX8_tellingCouples_33 at h
        obtain rfl := Option.some.inj h
        exact (hl _ rfl).trans q1
      · unfold bX8_tellingCouples_33 at h
        obtain rfl := Option.some.inj h
        exact (hl _ rfl).trans q1
set_option maxRecDepth 100000 in
set_option maxHeartbeats 1000000 in
theorem xlX8_tellingCouples_4  (s : (Int32 × Int32 × gM)) {r : Int32 × gM} (h : lX8_tellingCouples_4 s = some r) (q j : Nat) (cq0 : q ≠ 42) : r.2 q j = s.2.2 q j := by
  unfold lX8_tellingCouples_4 at h
  revert s
  refine itO_ind (P := fun s : (Int32 × Int32 × gM) => r.2 q j = s.2.2 q j) (fun s y h hl hr => ?_)
  rcases oi h with ⟨-, h⟩ | ⟨-, h⟩
  · obtain rfl := Option.some.inj h
    have hh := hr _ rfl
    subst hh
    exact rfl
  · obtain ⟨w2, ew2, h⟩ := ob h
    have q1 : w2.2 q j = _ := (xlX8_tellingCouples_11 s.2.1 (s.1, (0 : Int32), s.2.2) ew2 q j cq0).trans rfl
    obtain rfl := Option.some.inj h
    exact (hl _ rfl).trans q1
set_option maxRecDepth 100000 in
set_option maxHeartbeats 1000000 in
theorem xfX8_tellingCouples (I : gM) {r : Int32 × gM} (h : fX8_tellingCouples I = some r) (q j : Nat) (cq0 : q ≠ 42) : r.2 q j = I q j := by
  unfold fX8_tellingCouples at h
  obtain ⟨w3, ew3, h⟩ := ob h
  have q1 : w3.2 q j = _ := (xlX8_tellingCouples_4 ((0 : Int32), (0 : Int32), I) ew3 q j cq0).trans rfl
  obtain rfl := Option.some.inj h
  exact q1
set_option maxRecDepth 100000 in
set_option maxHeartbeats 1000000 in
theorem xfX8_most (v1 : Int32) (I : gM) {r : Int32 × gM} (h : fX8_most v1 I = some r) (q j : Nat) (cq0 : q ≠ 42) (cq1 : q ≠ 29 ∨ j ≠ 2) (cq2 : q ≠ 31) (cq3 : q ≠ 29 ∨ j ≠ 0) (cq4 : q ≠ 29 ∨ j ≠ 1) (cq5 : q ≠ 30) (cq6 : q ≠ 36) (cq7 : q ≠ 37) (cq8 : q ≠ 38) (cq9 : q ≠ 35) (cq10 : q ≠ 34) (cq11 : q ≠ 39) (cq12 : q ≠ 33) (cq13 : q ≠ 32) (cq14 : q ≠ 43 ∨ j ≠ 1) (cq15 : q ≠ 43 ∨ j ≠ 2) (cq16 : q ≠ 43 ∨ j ≠ 3) (cq17 : q ≠ 43 ∨ j ≠ 0) : r.2 q j = I q j := by
  unfold fX8_most at h
  rcases oi h with ⟨-, h⟩ | ⟨-, h⟩
  · obtain rfl := Option.some.inj h
    exact rfl
  · rcases oi h with ⟨-, h⟩ | ⟨-, h⟩
    · obtain ⟨r1, -, h⟩ := ob h
      obtain rfl := Option.some.inj h
      exact rfl
    · rcases oi h with ⟨-, h⟩ | ⟨-, h⟩
      · obtain ⟨r2, -, h⟩ := ob h
        obtain rfl := Option.some.inj h
        exact rfl
      · rcases oi h with ⟨-, h⟩ | ⟨-, h⟩
        · obtain ⟨r3, -, h⟩ := ob h
          obtain rfl := Option.some.inj h
          exact rfl
        · rcases oi h with ⟨-, h⟩ | ⟨-, h⟩
          · obtain ⟨r4, -, h⟩ := ob h
            obtain rfl := Option.some.inj h
            exact rfl
          · rcases oi h with ⟨-, h⟩ | ⟨-, h⟩
            · obtain ⟨r5, er5, h⟩ := ob h
              have q1 : r5.2 q j = _ := (xfX8_tellingCouples I er5 q j cq0).trans rfl
              obtain rfl := Option.some.inj h
              exact q1
            · rcases oi h with ⟨-, h⟩ | ⟨-, h⟩
              · obtain ⟨r6, er6, h⟩ := ob h
                have q2 : r6 q j = _ := (xfX1_findBy 29 3 (0 : Int32) I er6 q j cq1 cq2 cq3 cq4 cq5 cq6 cq7 cq8 cq9 cq10 cq11 cq12 cq13).trans rfl
                obtain rfl := Option.some.inj h
                exact q2
              · rcases oi h with ⟨-, h⟩ | ⟨-, h⟩
                · obtain ⟨r7, er7, h⟩ := ob h
                  have q3 : r7 q j = _ := (xfX7_weigh 3 29 I er7 q j cq1 cq2 cq3 cq4 cq5 cq6 cq7 cq8 cq9 cq10 cq11 cq12 cq13 cq14 cq15 cq16 cq17).trans rfl
                  obtain rfl := Option.some.inj h
                  exact q3
                · obtain rfl := Option.some.inj h
                  exact rfl
set_option maxRecDepth 100000 in
set_option maxHeartbeats 1000000 in
theorem xfX8_image (I : gM) {r : Int32 × gM} (h : fX8_image I = some r) (q j : Nat) (cq0 : q ≠ 13 ∨ j ≠ 0) (cq1 : q ≠ 13 ∨ j ≠ 1) (cq2 : q ≠ 13 ∨ j ≠ 2) (cq3 : q ≠ 14) (cq4 : q ≠ 15) (cq5 : q ≠ 16) (cq6 : q ≠ 17) (cq7 : q ≠ 47) (cq8 : q ≠ 46 ∨ j ≠ 1) (cq9 : q ≠ 46 ∨ j ≠ 2) (cq10 : q ≠ 0 ∨ j ≠ 15) : r.2 q j = I q j := by
  unfold fX8_image at h
  rcases oi h with ⟨-, h⟩ | ⟨-, h⟩
  · obtain rfl := Option.some.inj h
    exact rfl
  · obtain ⟨r1, er1, h⟩ := ob h
    have q1 : r1 q j = _ := (xfX5_copyFrom 13 3 I er1 q j cq0 cq1 cq2 cq3 cq4 cq5 cq6).trans rfl
    obtain ⟨r2, er2, h⟩ := ob h
    have q2 : r2 q j = _ := (xfX2_copyFrom 46 44 r1 er2 q j cq7 cq8 cq9).trans q1
    obtain ⟨I3, eI3, h⟩ := ob h
    have q3 : I3 q j = _ := (by rw [← pU_some eI3]; exact g_up_ne cq10 : I3 q j = r2 q j).trans q2
    obtain rfl := Option.some.inj h
    exact q3
set_option maxRecDepth 100000 in
set_option maxHeartbeats 1000000 in
theorem xfX8_back (I : gM) {r : Int32 × gM} (h : fX8_back I = some r) (q j : Nat) (cq0 : q ≠ 3 ∨ j ≠ 0) (cq1 : q ≠ 3 ∨ j ≠ 1) (cq2 : q ≠ 3 ∨ j ≠ 2) (cq3 : q ≠ 4) (cq4 : q ≠ 5) (cq5 : q ≠ 6) (cq6 : q ≠ 7) (cq7 : q ≠ 45) (cq8 : q ≠ 44 ∨ j ≠ 1) (cq9 : q ≠ 44 ∨ j ≠ 2) (cq10 : q ≠ 48 ∨ j ≠ 0) (cq11 : q ≠ 48 ∨ j ≠ 2) (cq12 : q ≠ 18 ∨ j ≠ 2) (cq13 : q ≠ 20) (cq14 : q ≠ 18 ∨ j ≠ 0) (cq15 : q ≠ 18 ∨ j ≠ 1) (cq16 : q ≠ 19) (cq17 : q ≠ 25) (cq18 : q ≠ 26) (cq19 : q ≠ 27) (cq20 : q ≠ 24) (cq21 : q ≠ 23) (cq22 : q ≠ 28) (cq23 : q ≠ 22) (cq24 : q ≠ 21) (cq25 : q ≠ 43 ∨ j ≠ 0) : r.2 q j = I q j := by
  unfold fX8_back at h
  rcases oi h with ⟨-, h⟩ | ⟨-, h⟩
  · obtain rfl := Option.some.inj h
    exact rfl
  · obtain ⟨r1, er1, h⟩ := ob h
    have q1 : r1 q j = _ := (xfX5_copyFrom 3 13 I er1 q j cq0 cq1 cq2 cq3 cq4 cq5 cq6).trans rfl
    obtain ⟨r2, er2, h⟩ := ob h
    have q2 : r2 q j = _ := (xfX2_copyFrom 44 46 r1 er2 q j cq7 cq8 cq9).trans q1
    obtain ⟨r3, er3, h⟩ := ob h
    have q3 : r3 q j = _ := (xfX3_clear r2 er3 q j cq10 cq11).trans q2
    obtain ⟨r4, er4, h⟩ := ob h
    have q4 : r4 q j = _ := (xfX8_renew r3 er4 q j cq12 cq13 cq14 cq15 cq16 cq17 cq18 cq19 cq20 cq21 cq22 cq23 cq24 cq25).trans q3
    obtain rfl := Option.some.inj h
    exact q4
set_option maxRecDepth 100000 in
set_option maxHeartbeats 1000000 in
theorem xlX9_feed_62 (v1 : Int32) (v2 : Int32) (v3 : Int32) (v4 : Int32) (v5 : Int32) (s : (Int32 × gM)) {r : gM} (h : lX9_feed_62 v1 v2 v3 v4 v5 s = some r) (q j : Nat) (cq0 : q ≠ 63) (cq1 : q ≠ 62 ∨ j ≠ 2) : r q j = s.2 q j := by
  unfold lX9_feed_62 at h
  revert s
  refine itO_ind (P := fun s : (Int32 × gM) => r q j = s.2 q j) (fun s y h hl hr => ?_)
  rcases oi h with ⟨-, h⟩ | ⟨-, h⟩
  · obtain rfl := Option.some.inj h
    have hh := hr _ rfl
    subst hh
    exact rfl
  · obtain ⟨r3, -, h⟩ := ob h
    rcases oi h with ⟨-, h⟩ | ⟨-, h⟩
    · unfold bX9_feed_109 at h
      obtain rfl := Option.some.inj h
      exact (hl _ rfl).trans rfl
    · obtain ⟨I4, eI4, h⟩ := ob h
      have q1 : I4 q j = _ := (by rw [← (wI_some eI4).2.2]; exact g_up_ne (Or.inl cq0) : I4 q j = s.2 q j).trans rfl
      obtain ⟨I5, eI5, h⟩ := ob h
      have q2 : I5 q j = _ := (by rw [← pU_some eI5]; exact g_up_ne cq1 : I5 q j = I4 q j).trans q1
      unfold bX9_feed_109 at h
      obtain rfl := Option.some.inj h
      exact (hl _ rfl).trans q2
set_option maxRecDepth 100000 in
set_option maxHeartbeats 1000000 in
theorem xfX9_feed (v1 : Int32) (v2 : Int32) (v3 : Int32) (v4 : Int32) (v5 : Int32) (I : gM) {r : Int32 × gM} (h : fX9_feed v1 v2 v3 v4 v5 I = some r) (q j : Nat) (cq0 : q ≠ 63) (cq1 : q ≠ 62 ∨ j ≠ 2) : r.2 q j = I q j := by
  unfold fX9_feed at h
  obtain ⟨w2, -, h⟩ := ob h
  rcases oi h with ⟨-, h⟩ | ⟨-, h⟩
  · obtain ⟨w6, ew6, h⟩ := ob h
    have q1 : w6 q j = _ := (xlX9_feed_62 v1 v2 v3 v4 v5 ((0 : Int32), I) ew6 q j cq0 cq1).trans rfl
    obtain rfl := Option.some.inj h
    exact q1
  · obtain rfl := Option.some.inj h
    exact rfl
set_option maxRecDepth 100000 in
set_option maxHeartbeats 1000000 in
theorem xfX9_end (v1 : Int32) (I : gM) {r : Int32 × gM} (h : fX9_end v1 I = some r) (q j : Nat) (cq0 : q ≠ 62 ∨ j ≠ 2) : r.2 q j = I q j := by
  unfold fX9_end at h
  obtain ⟨r1, -, h⟩ := ob h
  rcases oi h with ⟨-, h⟩ | ⟨-, h⟩
  · obtain rfl := Option.some.inj h
    exact rfl
  · obtain ⟨I2, eI2, h⟩ := ob h
    have q1 : I2 q j = _ := (by rw [← pU_some eI2]; exact g_up_ne cq0 : I2 q j = I q j).trans rfl
    obtain rfl := Option.some.inj h
    exact q1
set_option maxRecDepth 100000 in
set_option maxHeartbeats 1000000 in
theorem xlX9_ahead_0  (s : gM) {r : gM} (h : lX9_ahead_0 s = some r) (q j : Nat) (cq0 : q ≠ 62 ∨ j ≠ 3) : r q j = s q j := by
  unfold lX9_ahead_0 at h
  revert s
  refine itO_ind (P := fun s : gM => r q j = s q j) (fun s y h hl hr => ?_)
  obtain ⟨r1, -, h⟩ := ob h
  rcases oi h with ⟨-, h⟩ | ⟨-, h⟩
  · obtain ⟨I2, eI2, h⟩ := ob h
    have q1 : I2 q j = _ := (by rw [← pU_some eI2]; exact g_up_ne cq0 : I2 q j = s q j).trans rfl
    obtain rfl := Option.some.inj h
    exact (hl _ rfl).trans q1
  · obtain rfl := Option.some.inj h
    have hh := hr _ rfl
    subst hh
    exact rfl
set_option maxRecDepth 100000 in
set_option maxHeartbeats 1000000 in
theorem xfX9_ahead (I : gM) {r : Int32 × gM} (h : fX9_ahead I = some r) (q j : Nat) (cq0 : q ≠ 62 ∨ j ≠ 3) : r.2 q j = I q j := by
  unfold fX9_ahead at h
  obtain ⟨w3, ew3, h⟩ := ob h
  have q1 : w3 q j = _ := (xlX9_ahead_0 I ew3 q j cq0).trans rfl
  obtain ⟨r4, -, h⟩ := ob h
  obtain rfl := Option.some.inj h
  exact q1
set_option maxRecDepth 100000 in
set_option maxHeartbeats 1000000 in
theorem xfX9_bad (I : gM) {r : gM} (h : fX9_bad I = some r) (q j : Nat) (cq0 : q ≠ 62 ∨ j ≠ 4) : r q j = I q j := by
  unfold fX9_bad at h
  rcases oi h with ⟨-, h⟩ | ⟨-, h⟩
  · obtain ⟨I1, eI1, h⟩ := ob h
    have q1 : I1 q j = _ := (by rw [← pU_some eI1]; exact g_up_ne cq0 : I1 q j = I q j).trans rfl
    obtain rfl := Option.some.inj h
    exact q1
  · obtain ⟨I2, eI2, h⟩ := ob h
    have q2 : I2 q j = _ := (by rw [← pU_some eI2]; exact g_up_ne cq0 : I2 q j = I q j).trans rfl
    obtain rfl := Option.some.inj h
    exact q2
set_option maxRecDepth 100000 in
set_option maxHeartbeats 1000000 in
theorem xfX9_must (v1 : Int32) (I : gM) {r : gM} (h : fX9_must v1 I = some r) (q j : Nat) (cq0 : q ≠ 62 ∨ j ≠ 3) (cq1 : q ≠ 62 ∨ j ≠ 4) : r q j = I q j := by
  unfold fX9_must at h
  rcases oi h with ⟨-, h⟩ | ⟨-, h⟩
  · obtain ⟨r1, er1, h⟩ := ob h
    have q1 : r1.2 q j = _ := (xfX9_ahead I er1 q j cq0).trans rfl
    rcases oi h with ⟨-, h⟩ | ⟨-, h⟩
    · obtain ⟨I2, eI2, h⟩ := ob h
      have q2 : I2 q j = _ := (by rw [← pU_some eI2]; exact g_up_ne cq0 : I2 q j = r1.2 q j).trans q1
      obtain rfl := Option.some.inj h
      exact q2
    · unfold bX9_must_29 at h
      obtain ⟨r3, er3, h⟩ := ob h
      have q3 : r3 q j = _ := (xfX9_bad r1.2 er3 q j cq1).trans q1
      obtain rfl := Option.some.inj h
      exact q3
  · unfold bX9_must_29 at h
    obtain ⟨r3, er3, h⟩ := ob h
    have q4 : r3 q j = _ := (xfX9_bad I er3 q j cq1).trans rfl
    obtain rfl := Option.some.inj h
    exact q4
set_option maxRecDepth 100000 in
set_option maxHeartbeats 1000000 in
theorem xlX9_number_28  (s : (Int32 × Int32 × gM)) {r : Int32 × gM} (h : lX9_number_28 s = some r) (q j : Nat) (cq0 : q ≠ 62 ∨ j ≠ 3) : r.2 q j = s.2.2 q j := by
  unfold lX9_number_28 at h
  revert s
  refine itO_ind (P := fun s : (Int32 × Int32 × gM) => r.2 q j = s.2.2 q j) (fun s y h hl hr => ?_)
  rcases oi h with ⟨-, h⟩ | ⟨-, h⟩
  · obtain rfl := Option.some.inj h
    have hh := hr _ rfl
    subst hh
    exact rfl
  · obtain ⟨r4, -, h⟩ := ob h
    obtain ⟨r5, -, h⟩ := ob h
    rcases oi h with ⟨-, h⟩ | ⟨-, h⟩
    · obtain rfl := Option.some.inj h
      have hh := hr _ rfl
      subst hh
      exact rfl
    · obtain ⟨r6, -, h⟩ := ob h
      obtain ⟨I7, eI7, h⟩ := ob h
      have q1 : I7 q j = _ := (by rw [← pU_some eI7]; exact g_up_ne cq0 : I7 q j = s.2.2 q j).trans rfl
      obtain rfl := Option.some.inj h
      exact (hl _ rfl).trans q1
set_option maxRecDepth 100000 in
set_option maxHeartbeats 1000000 in
theorem xfX9_number (v1 : Int32) (I : gM) {r : Int32 × gM} (h : fX9_number v1 I = some r) (q j : Nat) (cq0 : q ≠ 62 ∨ j ≠ 3) (cq1 : q ≠ 62 ∨ j ≠ 4) : r.2 q j = I q j := by
  unfold fX9_number at h
  rcases oi h with ⟨-, h⟩ | ⟨-, h⟩
  · obtain ⟨r1, er1, h⟩ := ob h
    have q1 : r1.2 q j = _ := (xfX9_ahead I er1 q j cq0).trans rfl
    obtain ⟨r2, -, h⟩ := ob h
    rcases oi h with ⟨-, h⟩ | ⟨-, h⟩
    · unfold bX9_number_18 at h
      obtain ⟨r3, er3, h⟩ := ob h
      have q2 : r3 q j = _ := (xfX9_bad r1.2 er3 q j cq1).trans q1
      obtain rfl := Option.some.inj h
      exact q2
    · obtain ⟨w8, ew8, h⟩ := ob h
      have q3 : w8.2 q j = _ := (xlX9_number_28 ((0 : Int32), (0 : Int32), r1.2) ew8 q j cq0).trans q1
      unfold bX9_number_72 at h
      obtain ⟨r9, -, h⟩ := ob h
      obtain ⟨r10, -, h⟩ := ob h
      rcases oi h with ⟨-, h⟩ | ⟨-, h⟩
      · rcases oi h with ⟨-, h⟩ | ⟨-, h⟩
        · obtain rfl := Option.some.inj h
          exact q3
        · obtain ⟨I11, eI11, h⟩ := ob h
          have q4 : I11 q j = _ := (by rw [← pU_some eI11]; exact g_up_ne cq0 : I11 q j = w8.2 q j).trans q3
          obtain ⟨r12, er12, h⟩ := ob h
          have q5 : r12 q j = _ := (xfX9_bad I11 er12 q j cq1).trans q4
          obtain rfl := Option.some.inj h
          exact q5
      · obtain ⟨r13, er13, h⟩ := ob h
        have q6 : r13 q j = _ := (xfX9_bad w8.2 er13 q j cq1).trans q3
        obtain rfl := Option.some.inj h
        exact q6
  · unfold bX9_number_18 at h
    obtain ⟨r3, er3, h⟩ := ob h
    have q7 : r3 q j = _ := (xfX9_bad I er3 q j cq1).trans rfl
    obtain rfl := Option.some.inj h
    exact q7
set_option maxRecDepth 100000 in
set_option maxHeartbeats 1000000 in
theorem xfX9_digit (I : gM) {r : Int32 × gM} (h : fX9_digit I = some r) (q j : Nat) (cq0 : q ≠ 62 ∨ j ≠ 3) (cq1 : q ≠ 62 ∨ j ≠ 4) : r.2 q j = I q j := by
  unfold fX9_digit at h
  rcases oi h with ⟨-, h⟩ | ⟨-, h⟩
  · obtain ⟨r1, er1, h⟩ := ob h
    have q1 : r1.2 q j = _ := (xfX9_ahead I er1 q j cq0).trans rfl
    obtain ⟨r2, -, h⟩ := ob h
    rcases oi h with ⟨-, h⟩ | ⟨-, h⟩
    · unfold bX9_digit_18 at h
      obtain ⟨r3, er3, h⟩ := ob h
      have q2 : r3 q j = _ := (xfX9_bad r1.2 er3 q j cq1).trans q1
      obtain rfl := Option.some.inj h
      exact q2
    · obtain ⟨I4, eI4, h⟩ := ob h
      have q3 : I4 q j = _ := (by rw [← pU_some eI4]; exact g_up_ne cq0 : I4 q j = r1.2 q j).trans q1
      obtain ⟨u5, -, h⟩ := ob h
      obtain rfl := Option.some.inj h
      exact q3
  · unfold bX9_digit_18 at h
    obtain ⟨r3, er3, h⟩ := ob h
    have q4 : r3 q j = _ := (xfX9_bad I er3 q j cq1).trans rfl
    obtain rfl := Option.some.inj h
    exact q4
set_option maxRecDepth 100000 in
set_option maxHeartbeats 1000000 in
theorem xlX9_readHead_24 (v1 : Int32) (s : (Int32 × gM)) {r : gM} (h : lX9_readHead_24 v1 s = some r) (q j : Nat) (cq0 : q ≠ 62 ∨ j ≠ 3) (cq1 : q ≠ 62 ∨ j ≠ 4) (cq2 : q ≠ 65) (cq3 : q ≠ 64) : r q j = s.2 q j := by
  unfold lX9_readHead_24 at h
  revert s
  refine itO_ind (P := fun s : (Int32 × gM) => r q j = s.2 q j) (fun s y h hl hr => ?_)
  rcases oi h with ⟨-, h⟩ | ⟨-, h⟩
  · obtain ⟨r5, er5, h⟩ := ob h
    have q1 : r5.2 q j = _ := (xfX9_ahead s.2 er5 q j cq0).trans rfl
    obtain ⟨r6, -, h⟩ := ob h
    rcases oi h with ⟨-, h⟩ | ⟨-, h⟩
    · obtain rfl := Option.some.inj h
      have hh := hr _ rfl
      subst hh
      exact q1
    · obtain ⟨r7, -, h⟩ := ob h
      obtain ⟨u8, -, h⟩ := ob h
      rcases oi h with ⟨-, h⟩ | ⟨-, h⟩
      · unfold bX9_readHead_69 at h
        obtain ⟨r9, er9, h⟩ := ob h
        have q2 : r9 q j = _ := (xfX9_bad r5.2 er9 q j cq1).trans q1
        unfold bX9_readHead_118 at h
        obtain rfl := Option.some.inj h
        exact (hl _ rfl).trans q2
      · obtain ⟨r10, -, h⟩ := ob h
        rcases oi h with ⟨-, h⟩ | ⟨-, h⟩
        · obtain ⟨u11, -, h⟩ := ob h
          obtain ⟨I12, eI12, h⟩ := ob h
          have q3 : I12 q j = _ := (by rw [← (wI_some eI12).2.2]; exact g_up_ne (Or.inl cq2) : I12 q j = r5.2 q j).trans q1
          obtain ⟨u13, -, h⟩ := ob h
          obtain ⟨I14, eI14, h⟩ := ob h
          have q4 : I14 q j = _ := (by rw [← (wI_some eI14).2.2]; exact g_up_ne (Or.inl cq3) : I14 q j = I12 q j).trans q3
          obtain ⟨I15, eI15, h⟩ := ob h
          have q5 : I15 q j = _ := (by rw [← pU_some eI15]; exact g_up_ne cq0 : I15 q j = I14 q j).trans q4
          unfold bX9_readHead_118 at h
          obtain rfl := Option.some.inj h
          exact (hl _ rfl).trans q5
        · unfold bX9_readHead_69 at h
          obtain ⟨r9, er9, h⟩ := ob h
          have q6 : r9 q j = _ := (xfX9_bad r5.2 er9 q j cq1).trans q1
          unfold bX9_readHead_118 at h
          obtain rfl := Option.some.inj h
          exact (hl _ rfl).trans q6
  · obtain rfl := Option.some.inj h
    have hh := hr _ rfl
    subst hh
    exact rfl
set_option maxRecDepth 100000 in
set_option maxHeartbeats 1000000 in
theorem xfX9_readHead (v1 : Int32) (I : gM) {r : gM} (h : fX9_readHead v1 I = some r) (q j : Nat) (cq0 : q ≠ 64) (cq1 : q ≠ 62 ∨ j ≠ 3) (cq2 : q ≠ 62 ∨ j ≠ 4) (cq3 : q ≠ 65) : r q j = I q j := by
  unfold fX9_readHead at h
  obtain ⟨I1, eI1, h⟩ := ob h
  have q1 : I1 q j = _ := (by rw [← (wI_some eI1).2.2]; exact g_up_ne (Or.inl cq0) : I1 q j = I q j).trans rfl
  obtain ⟨r2, er2, h⟩ := ob h
  have q2 : r2.2 q j = _ := (xfX9_ahead I1 er2 q j cq1).trans q1
  obtain ⟨r3, -, h⟩ := ob h
  rcases oi h with ⟨-, h⟩ | ⟨-, h⟩
  · obtain ⟨r4, er4, h⟩ := ob h
    have q3 : r4 q j = _ := (xfX9_bad r2.2 er4 q j cq2).trans q2
    obtain ⟨w16, ew16, h⟩ := ob h
    have q4 : w16 q j = _ := (xlX9_readHead_24 v1 ((0 : Int32), r4) ew16 q j cq1 cq2 cq3 cq0).trans q3
    unfold bX9_readHead_121 at h
    obtain ⟨r17, er17, h⟩ := ob h
    have q5 : r17 q j = _ := (xfX9_must (58 : Int32) w16 er17 q j cq1 cq2).trans q4
    obtain rfl := Option.some.inj h
    exact q5
  · obtain ⟨w18, ew18, h⟩ := ob h
    have q6 : w18 q j = _ := (xlX9_readHead_24 v1 ((0 : Int32), r2.2) ew18 q j cq1 cq2 cq3 cq0).trans q2
    unfold bX9_readHead_121 at h
    obtain ⟨r17, er17, h⟩ := ob h
    have q7 : r17 q j = _ := (xfX9_must (58 : Int32) w18 er17 q j cq1 cq2).trans q6
    obtain rfl := Option.some.inj h
    exact q7
set_option maxRecDepth 100000 in
set_option maxHeartbeats 1000000 in
theorem xlX9_readRow_16 (v1 : Int32) (v2 : Int32) (s : (Int32 × gM)) {r : gM} (h : lX9_readRow_16 v1 v2 s = some r) (q j : Nat) (cq0 : q ≠ 67) (cq1 : q ≠ 62 ∨ j ≠ 3) (cq2 : q ≠ 62 ∨ j ≠ 4) : r q j = s.2 q j := by
  unfold lX9_readRow_16 at h
  revert s
  refine itO_ind (P := fun s : (Int32 × gM) => r q j = s.2 q j) (fun s y h hl hr => ?_)
  rcases oi h with ⟨-, h⟩ | ⟨-, h⟩
  · obtain rfl := Option.some.inj h
    have hh := hr _ rfl
    subst hh
    exact rfl
  · rcases oi h with ⟨-, h⟩ | ⟨-, h⟩
    · unfold bX9_readRow_41 at h
      obtain ⟨u2, -, h⟩ := ob h
      rcases oi h with ⟨-, h⟩ | ⟨-, h⟩
      · unfold bX9_readRow_68 at h
        obtain ⟨I3, eI3, h⟩ := ob h
        have q1 : I3 q j = _ := (by rw [← (wI_some eI3).2.2]; exact g_up_ne (Or.inl cq0) : I3 q j = s.2 q j).trans rfl
        obtain rfl := Option.some.inj h
        exact (hl _ rfl).trans q1
      · obtain ⟨r4, er4, h⟩ := ob h
        have q2 : r4.2 q j = _ := (xfX9_number (99 : Int32) s.2 er4 q j cq1 cq2).trans rfl
        unfold bX9_readRow_68 at h
        obtain ⟨I3, eI3, h⟩ := ob h
        have q3 : I3 q j = _ := (by rw [← (wI_some eI3).2.2]; exact g_up_ne (Or.inl cq0) : I3 q j = r4.2 q j).trans q2
        obtain rfl := Option.some.inj h
        exact (hl _ rfl).trans q3
    · obtain ⟨u5, -, h⟩ := ob h
      rcases oi h with ⟨-, h⟩ | ⟨-, h⟩
      · unfold bX9_readRow_41 at h
        obtain ⟨u2, -, h⟩ := ob h
        rcases oi h with ⟨-, h⟩ | ⟨-, h⟩
        · unfold bX9_readRow_68 at h
          obtain ⟨I3, eI3, h⟩ := ob h
          have q4 : I3 q j = _ := (by rw [← (wI_some eI3).2.2]; exact g_up_ne (Or.inl cq0) : I3 q j = s.2 q j).trans rfl
          obtain rfl := Option.some.inj h
          exact (hl _ rfl).trans q4
        · obtain ⟨r4, er4, h⟩ := ob h
          have q5 : r4.2 q j = _ := (xfX9_number (99 : Int32) s.2 er4 q j cq1 cq2).trans rfl
          unfold bX9_readRow_68 at h
          obtain ⟨I3, eI3, h⟩ := ob h
          have q6 : I3 q j = _ := (by rw [← (wI_some eI3).2.2]; exact g_up_ne (Or.inl cq0) : I3 q j = r4.2 q j).trans q5
          obtain rfl := Option.some.inj h
          exact (hl _ rfl).trans q6
      · obtain ⟨r6, er6, h⟩ := ob h
        have q7 : r6 q j = _ := (xfX9_must (44 : Int32) s.2 er6 q j cq1 cq2).trans rfl
        unfold bX9_readRow_41 at h
        obtain ⟨u2, -, h⟩ := ob h
        rcases oi h with ⟨-, h⟩ | ⟨-, h⟩
        · unfold bX9_readRow_68 at h
          obtain ⟨I3, eI3, h⟩ := ob h
          have q8 : I3 q j = _ := (by rw [← (wI_some eI3).2.2]; exact g_up_ne (Or.inl cq0) : I3 q j = r6 q j).trans q7
          obtain rfl := Option.some.inj h
          exact (hl _ rfl).trans q8
        · obtain ⟨r4, er4, h⟩ := ob h
          have q9 : r4.2 q j = _ := (xfX9_number (99 : Int32) r6 er4 q j cq1 cq2).trans q7
          unfold bX9_readRow_68 at h
          obtain ⟨I3, eI3, h⟩ := ob h
          have q10 : I3 q j = _ := (by rw [← (wI_some eI3).2.2]; exact g_up_ne (Or.inl cq0) : I3 q j = r4.2 q j).trans q9
          obtain rfl := Option.some.inj h
          exact (hl _ rfl).trans q10
set_option maxRecDepth 100000 in
set_option maxHeartbeats 1000000 in
theorem xfX9_readRow (v1 : Int32) (I : gM) {r : gM} (h : fX9_readRow v1 I = some r) (q j : Nat) (cq0 : q ≠ 67) (cq1 : q ≠ 62 ∨ j ≠ 3) (cq2 : q ≠ 62 ∨ j ≠ 4) (cq3 : q ≠ 66) : r q j = I q j := by
  unfold fX9_readRow at h
  obtain ⟨u1, -, h⟩ := ob h
  obtain ⟨w7, ew7, h⟩ := ob h
  have q1 : w7 q j = _ := (xlX9_readRow_16 v1 ((3 : Int32) * (((12 : Int32) * v1) + u1)) ((0 : Int32), I) ew7 q j cq0 cq1 cq2).trans rfl
  obtain ⟨u8, -, h⟩ := ob h
  obtain ⟨I9, eI9, h⟩ := ob h
  have q2 : I9 q j = _ := (by rw [← (wI_some eI9).2.2]; exact g_up_ne (Or.inl cq3) : I9 q j = w7 q j).trans q1
  obtain rfl := Option.some.inj h
  exact q2
set_option maxRecDepth 100000 in
set_option maxHeartbeats 1000000 in
theorem xlX9_readTable_36 (v1 : Int32) (s : (Int32 × gM)) {r : gM} (h : lX9_readTable_36 v1 s = some r) (q j : Nat) (cq0 : q ≠ 67) (cq1 : q ≠ 62 ∨ j ≠ 3) (cq2 : q ≠ 62 ∨ j ≠ 4) (cq3 : q ≠ 66) : r q j = s.2 q j := by
  unfold lX9_readTable_36 at h
  revert s
  refine itO_ind (P := fun s : (Int32 × gM) => r q j = s.2 q j) (fun s y h hl hr => ?_)
  rcases oi h with ⟨-, h⟩ | ⟨-, h⟩
  · obtain rfl := Option.some.inj h
    have hh := hr _ rfl
    subst hh
    exact rfl
  · obtain ⟨r5, er5, h⟩ := ob h
    have q1 : r5 q j = _ := (xfX9_readRow v1 s.2 er5 q j cq0 cq1 cq2 cq3).trans rfl
    rcases oi h with ⟨-, h⟩ | ⟨-, h⟩
    · obtain ⟨r6, er6, h⟩ := ob h
      have q2 : r6.2 q j = _ := (xfX9_ahead r5 er6 q j cq1).trans q1
      rcases oi h with ⟨-, h⟩ | ⟨-, h⟩
      · obtain ⟨u7, -, h⟩ := ob h
        rcases oi h with ⟨-, h⟩ | ⟨-, h⟩
        · unfold bX9_readTable_77 at h
          unfold bX9_readTable_78 at h
          rcases oi h with ⟨-, h⟩ | ⟨-, h⟩
          · unfold bX9_readTable_93 at h
            obtain ⟨I8, eI8, h⟩ := ob h
            have q3 : I8 q j = _ := (by rw [← pU_some eI8]; exact g_up_ne cq1 : I8 q j = r6.2 q j).trans q2
            obtain rfl := Option.some.inj h
            exact (hl _ rfl).trans q3
          · unfold bX9_readTable_93 at h
            obtain ⟨I8, eI8, h⟩ := ob h
            have q4 : I8 q j = _ := (by rw [← pU_some eI8]; exact g_up_ne cq1 : I8 q j = r6.2 q j).trans q2
            obtain rfl := Option.some.inj h
            exact (hl _ rfl).trans q4
        · unfold bX9_readTable_78 at h
          rcases oi h with ⟨-, h⟩ | ⟨-, h⟩
          · unfold bX9_readTable_93 at h
            obtain ⟨I8, eI8, h⟩ := ob h
            have q5 : I8 q j = _ := (by rw [← pU_some eI8]; exact g_up_ne cq1 : I8 q j = r6.2 q j).trans q2
            obtain rfl := Option.some.inj h
            exact (hl _ rfl).trans q5
          · unfold bX9_readTable_93 at h
            obtain ⟨I8, eI8, h⟩ := ob h
            have q6 : I8 q j = _ := (by rw [← pU_some eI8]; exact g_up_ne cq1 : I8 q j = r6.2 q j).trans q2
            obtain rfl := Option.some.inj h
            exact (hl _ rfl).trans q6
      · unfold bX9_readTable_77 at h
        unfold bX9_readTable_78 at h
        rcases oi h with ⟨-, h⟩ | ⟨-, h⟩
        · unfold bX9_readTable_93 at h
          obtain ⟨I8, eI8, h⟩ := ob h
          have q7 : I8 q j = _ := (by rw [← pU_some eI8]; exact g_up_ne cq1 : I8 q j = r6.2 q j).trans q2
          obtain rfl := Option.some.inj h
          exact (hl _ rfl).trans q7
        · unfold bX9_readTable_93 at h
          obtain ⟨I8, eI8, h⟩ := ob h
          have q8 : I8 q j = _ := (by rw [← pU_some eI8]; exact g_up_ne cq1 : I8 q j = r6.2 q j).trans q2
          obtain rfl := Option.some.inj h
          exact (hl _ rfl).trans q8
    · unfold bX9_readTable_77 at h
      unfold bX9_readTable_78 at h
      rcases oi h with ⟨-, h⟩ | ⟨-, h⟩
      · unfold bX9_readTable_93 at h
        obtain ⟨I8, eI8, h⟩ := ob h
        have q9 : I8 q j = _ := (by rw [← pU_some eI8]; exact g_up_ne cq1 : I8 q j = r5 q j).trans q1
        obtain rfl := Option.some.inj h
        exact (hl _ rfl).trans q9
      · unfold bX9_readTable_93 at h
        obtain ⟨I8, eI8, h⟩ := ob h
        have q10 : I8 q j = _ := (by rw [← pU_some eI8]; exact g_up_ne cq1 : I8 q j = r5 q j).trans q1
        obtain rfl := Option.some.inj h
        exact (hl _ rfl).trans q10
set_option maxRecDepth 100000 in
set_option maxHeartbeats 1000000 in
theorem xfX9_readTable (v1 : Int32) (I : gM) {r : gM} (h : fX9_readTable v1 I = some r) (q j : Nat) (cq0 : q ≠ 64) (cq1 : q ≠ 62 ∨ j ≠ 3) (cq2 : q ≠ 62 ∨ j ≠ 4) (cq3 : q ≠ 65) (cq4 : q ≠ 66) (cq5 : q ≠ 67) : r q j = I q j := by
  unfold fX9_readTable at h
  obtain ⟨r1, er1, h⟩ := ob h
  have q1 : r1 q j = _ := (xfX9_readHead v1 I er1 q j cq0 cq1 cq2 cq3).trans rfl
  obtain ⟨I2, eI2, h⟩ := ob h
  have q2 : I2 q j = _ := (by rw [← (wI_some eI2).2.2]; exact g_up_ne (Or.inl cq4) : I2 q j = r1 q j).trans q1
  rcases oi h with ⟨-, h⟩ | ⟨-, h⟩
  · obtain ⟨r3, er3, h⟩ := ob h
    have q3 : r3.2 q j = _ := (xfX9_ahead I2 er3 q j cq1).trans q2
    obtain ⟨r4, -, h⟩ := ob h
    rcases oi h with ⟨-, h⟩ | ⟨-, h⟩
    · unfold bX9_readTable_34 at h
      unfold bX9_readTable_35 at h
      obtain ⟨w9, ew9, h⟩ := ob h
      have q4 : w9 q j = _ := (xlX9_readTable_36 v1 ((0 : Int32), r3.2) ew9 q j cq5 cq1 cq2 cq4).trans q3
      obtain rfl := Option.some.inj h
      exact q4
    · unfold bX9_readTable_35 at h
      obtain ⟨w9, ew9, h⟩ := ob h
      have q5 : w9 q j = _ := (xlX9_readTable_36 v1 ((1 : Int32), r3.2) ew9 q j cq5 cq1 cq2 cq4).trans q3
      obtain rfl := Option.some.inj h
      exact q5
  · unfold bX9_readTable_34 at h
    unfold bX9_readTable_35 at h
    obtain ⟨w9, ew9, h⟩ := ob h
    have q6 : w9 q j = _ := (xlX9_readTable_36 v1 ((0 : Int32), I2) ew9 q j cq5 cq1 cq2 cq4).trans q2
    obtain rfl := Option.some.inj h
    exact q6
set_option maxRecDepth 100000 in
set_option maxHeartbeats 1000000 in
theorem xfX9_ends (I : gM) {r : Int32 × gM} (h : fX9_ends I = some r) (q j : Nat) (cq0 : q ≠ 62 ∨ j ≠ 3) (cq1 : q ≠ 62 ∨ j ≠ 4) : r.2 q j = I q j := by
  unfold fX9_ends at h
  rcases oi h with ⟨-, h⟩ | ⟨-, h⟩
  · obtain ⟨r1, er1, h⟩ := ob h
    have q1 : r1.2 q j = _ := (xfX9_ahead I er1 q j cq0).trans rfl
    rcases oi h with ⟨-, h⟩ | ⟨-, h⟩
    · obtain rfl := Option.some.inj h
      exact q1
    · obtain ⟨r2, er2, h⟩ := ob h
      have q2 : r2 q j = _ := (xfX9_bad r1.2 er2 q j cq1).trans q1
      obtain rfl := Option.some.inj h
      exact q2
  · obtain rfl := Option.some.inj h
    exact rfl
set_option maxRecDepth 100000 in
set_option maxHeartbeats 1000000 in
theorem xfX9_begins (I : gM) {r : gM} (h : fX9_begins I = some r) (q j : Nat) (cq0 : q ≠ 62 ∨ j ≠ 3) (cq1 : q ≠ 62 ∨ j ≠ 4) : r q j = I q j := by
  unfold fX9_begins at h
  obtain ⟨I1, eI1, h⟩ := ob h
  have q1 : I1 q j = _ := (by rw [← pU_some eI1]; exact g_up_ne cq0 : I1 q j = I q j).trans rfl
  obtain ⟨I2, eI2, h⟩ := ob h
  have q2 : I2 q j = _ := (by rw [← pU_some eI2]; exact g_up_ne cq1 : I2 q j = I1 q j).trans q1
  obtain rfl := Option.some.inj h
  exact q2
set_option maxRecDepth 100000 in
set_option maxHeartbeats 1000000 in
theorem xlX9_readAll_11  (s : (Int32 × gM)) {r : gM} (h : lX9_readAll_11 s = some r) (q j : Nat) (cq0 : q ≠ 64) (cq1 : q ≠ 62 ∨ j ≠ 3) (cq2 : q ≠ 62 ∨ j ≠ 4) (cq3 : q ≠ 65) (cq4 : q ≠ 66) (cq5 : q ≠ 67) (cq6 : q ≠ 62 ∨ j ≠ 9) : r q j = s.2 q j := by
  unfold lX9_readAll_11 at h
  revert s
  refine itO_ind (P := fun s : (Int32 × gM) => r q j = s.2 q j) (fun s y h hl hr => ?_)
  rcases oi h with ⟨-, h⟩ | ⟨-, h⟩
  · obtain rfl := Option.some.inj h
    have hh := hr _ rfl
    subst hh
    exact rfl
  · obtain ⟨r3, er3, h⟩ := ob h
    have q1 : r3 q j = _ := (xfX9_readTable (s.2 62 9) s.2 er3 q j cq0 cq1 cq2 cq3 cq4 cq5).trans rfl
    obtain ⟨I4, eI4, h⟩ := ob h
    have q2 : I4 q j = _ := (by rw [← pU_some eI4]; exact g_up_ne cq6 : I4 q j = r3 q j).trans q1
    rcases oi h with ⟨-, h⟩ | ⟨-, h⟩
    · obtain ⟨r5, er5, h⟩ := ob h
      have q3 : r5.2 q j = _ := (xfX9_ahead I4 er5 q j cq1).trans q2
      rcases oi h with ⟨-, h⟩ | ⟨-, h⟩
      · rcases oi h with ⟨-, h⟩ | ⟨-, h⟩
        · unfold bX9_readAll_62 at h
          unfold bX9_readAll_63 at h
          rcases oi h with ⟨-, h⟩ | ⟨-, h⟩
          · unfold bX9_readAll_78 at h
            obtain ⟨I6, eI6, h⟩ := ob h
            have q4 : I6 q j = _ := (by rw [← pU_some eI6]; exact g_up_ne cq1 : I6 q j = r5.2 q j).trans q3
            obtain rfl := Option.some.inj h
            exact (hl _ rfl).trans q4
          · unfold bX9_readAll_78 at h
            obtain ⟨I6, eI6, h⟩ := ob h
            have q5 : I6 q j = _ := (by rw [← pU_some eI6]; exact g_up_ne cq1 : I6 q j = r5.2 q j).trans q3
            obtain rfl := Option.some.inj h
            exact (hl _ rfl).trans q5
        · unfold bX9_readAll_63 at h
          rcases oi h with ⟨-, h⟩ | ⟨-, h⟩
          · unfold bX9_readAll_78 at h
            obtain ⟨I6, eI6, h⟩ := ob h
            have q6 : I6 q j = _ := (by rw [← pU_some eI6]; exact g_up_ne cq1 : I6 q j = r5.2 q j).trans q3
            obtain rfl := Option.some.inj h
            exact (hl _ rfl).trans q6
          · unfold bX9_readAll_78 at h
            obtain ⟨I6, eI6, h⟩ := ob h
            have q7 : I6 q j = _ := (by rw [← pU_some eI6]; exact g_up_ne cq1 : I6 q j = r5.2 q j).trans q3
            obtain rfl := Option.some.inj h
            exact (hl _ rfl).trans q7
      · unfold bX9_readAll_62 at h
        unfold bX9_readAll_63 at h
        rcases oi h with ⟨-, h⟩ | ⟨-, h⟩
        · unfold bX9_readAll_78 at h
          obtain ⟨I6, eI6, h⟩ := ob h
          have q8 : I6 q j = _ := (by rw [← pU_some eI6]; exact g_up_ne cq1 : I6 q j = r5.2 q j).trans q3
          obtain rfl := Option.some.inj h
          exact (hl _ rfl).trans q8
        · unfold bX9_readAll_78 at h
          obtain ⟨I6, eI6, h⟩ := ob h
          have q9 : I6 q j = _ := (by rw [← pU_some eI6]; exact g_up_ne cq1 : I6 q j = r5.2 q j).trans q3
          obtain rfl := Option.some.inj h
          exact (hl _ rfl).trans q9
    · unfold bX9_readAll_62 at h
      unfold bX9_readAll_63 at h
      rcases oi h with ⟨-, h⟩ | ⟨-, h⟩
      · unfold bX9_readAll_78 at h
        obtain ⟨I6, eI6, h⟩ := ob h
        have q10 : I6 q j = _ := (by rw [← pU_some eI6]; exact g_up_ne cq1 : I6 q j = I4 q j).trans q2
        obtain rfl := Option.some.inj h
        exact (hl _ rfl).trans q10
      · unfold bX9_readAll_78 at h
        obtain ⟨I6, eI6, h⟩ := ob h
        have q11 : I6 q j = _ := (by rw [← pU_some eI6]; exact g_up_ne cq1 : I6 q j = I4 q j).trans q2
        obtain rfl := Option.some.inj h
        exact (hl _ rfl).trans q11
set_option maxRecDepth 100000 in
set_option maxHeartbeats 1000000 in
theorem xfX9_readAll (I : gM) {r : Int32 × gM} (h : fX9_readAll I = some r) (q j : Nat) (cq0 : q ≠ 62 ∨ j ≠ 3) (cq1 : q ≠ 62 ∨ j ≠ 4) (cq2 : q ≠ 62 ∨ j ≠ 9) (cq3 : q ≠ 64) (cq4 : q ≠ 65) (cq5 : q ≠ 66) (cq6 : q ≠ 67) : r.2 q j = I q j := by
  unfold fX9_readAll at h
  obtain ⟨r1, er1, h⟩ := ob h
  have q1 : r1 q j = _ := (xfX9_begins I er1 q j cq0 cq1).trans rfl
  obtain ⟨I2, eI2, h⟩ := ob h
  have q2 : I2 q j = _ := (by rw [← pU_some eI2]; exact g_up_ne cq2 : I2 q j = r1 q j).trans q1
  obtain ⟨w7, ew7, h⟩ := ob h
  have q3 : w7 q j = _ := (xlX9_readAll_11 ((1 : Int32), I2) ew7 q j cq3 cq0 cq1 cq4 cq5 cq6 cq2).trans q2
  obtain ⟨r8, er8, h⟩ := ob h
  have q4 : r8.2 q j = _ := (xfX9_ends w7 er8 q j cq0 cq1).trans q3
  obtain rfl := Option.some.inj h
  exact q4
set_option maxRecDepth 100000 in
set_option maxHeartbeats 1000000 in
theorem xlX9_readStep_103 (v1 : Int32) (s : (Int32 × gM)) {r : gM} (h : lX9_readStep_103 v1 s = some r) (q j : Nat) (cq0 : q ≠ 68) : r q j = s.2 q j := by
  unfold lX9_readStep_103 at h
  revert s
  refine itO_ind (P := fun s : (Int32 × gM) => r q j = s.2 q j) (fun s y h hl hr => ?_)
  rcases oi h with ⟨-, h⟩ | ⟨-, h⟩
  · obtain rfl := Option.some.inj h
    have hh := hr _ rfl
    subst hh
    exact rfl
  · obtain ⟨I7, eI7, h⟩ := ob h
    have q1 : I7 q j = _ := (by rw [← (wI_some eI7).2.2]; exact g_up_ne (Or.inl cq0) : I7 q j = s.2 q j).trans rfl
    obtain rfl := Option.some.inj h
    exact (hl _ rfl).trans q1
set_option maxRecDepth 100000 in
set_option maxHeartbeats 1000000 in
theorem xlX9_readStep_157 (v1 : Int32) (s : (Int32 × Int32 × gM)) {r : gM} (h : lX9_readStep_157 v1 s = some r) (q j : Nat) (cq0 : q ≠ 62 ∨ j ≠ 3) (cq1 : q ≠ 62 ∨ j ≠ 4) (cq2 : q ≠ 68) : r q j = s.2.2 q j := by
  unfold lX9_readStep_157 at h
  revert s
  refine itO_ind (P := fun s : (Int32 × Int32 × gM) => r q j = s.2.2 q j) (fun s y h hl hr => ?_)
  rcases oi h with ⟨-, h⟩ | ⟨-, h⟩
  · obtain rfl := Option.some.inj h
    have hh := hr _ rfl
    subst hh
    exact rfl
  · rcases oi h with ⟨-, h⟩ | ⟨-, h⟩
    · obtain rfl := Option.some.inj h
      have hh := hr _ rfl
      subst hh
      exact rfl
    · obtain ⟨r10, er10, h⟩ := ob h
      have q1 : r10.2 q j = _ := (xfX9_number (99 : Int32) s.2.2 er10 q j cq0 cq1).trans rfl
      obtain ⟨I11, eI11, h⟩ := ob h
      have q2 : I11 q j = _ := (by rw [← (wI_some eI11).2.2]; exact g_up_ne (Or.inl cq2) : I11 q j = r10.2 q j).trans q1
      rcases oi h with ⟨-, h⟩ | ⟨-, h⟩
      · rcases oi h with ⟨-, h⟩ | ⟨-, h⟩
        · unfold bX9_readStep_212 at h
          unfold bX9_readStep_213 at h
          rcases oi h with ⟨-, h⟩ | ⟨-, h⟩
          · unfold bX9_readStep_230 at h
            obtain ⟨I12, eI12, h⟩ := ob h
            have q3 : I12 q j = _ := (by rw [← pU_some eI12]; exact g_up_ne cq0 : I12 q j = I11 q j).trans q2
            obtain rfl := Option.some.inj h
            exact (hl _ rfl).trans q3
          · unfold bX9_readStep_230 at h
            obtain ⟨I12, eI12, h⟩ := ob h
            have q4 : I12 q j = _ := (by rw [← pU_some eI12]; exact g_up_ne cq0 : I12 q j = I11 q j).trans q2
            obtain rfl := Option.some.inj h
            exact (hl _ rfl).trans q4
        · obtain ⟨r13, er13, h⟩ := ob h
          have q5 : r13.2 q j = _ := (xfX9_ahead I11 er13 q j cq0).trans q2
          rcases oi h with ⟨-, h⟩ | ⟨-, h⟩
          · unfold bX9_readStep_213 at h
            rcases oi h with ⟨-, h⟩ | ⟨-, h⟩
            · unfold bX9_readStep_230 at h
              obtain ⟨I12, eI12, h⟩ := ob h
              have q6 : I12 q j = _ := (by rw [← pU_some eI12]; exact g_up_ne cq0 : I12 q j = r13.2 q j).trans q5
              obtain rfl := Option.some.inj h
              exact (hl _ rfl).trans q6
            · unfold bX9_readStep_230 at h
              obtain ⟨I12, eI12, h⟩ := ob h
              have q7 : I12 q j = _ := (by rw [← pU_some eI12]; exact g_up_ne cq0 : I12 q j = r13.2 q j).trans q5
              obtain rfl := Option.some.inj h
              exact (hl _ rfl).trans q7
          · unfold bX9_readStep_212 at h
            unfold bX9_readStep_213 at h
            rcases oi h with ⟨-, h⟩ | ⟨-, h⟩
            · unfold bX9_readStep_230 at h
              obtain ⟨I12, eI12, h⟩ := ob h
              have q8 : I12 q j = _ := (by rw [← pU_some eI12]; exact g_up_ne cq0 : I12 q j = r13.2 q j).trans q5
              obtain rfl := Option.some.inj h
              exact (hl _ rfl).trans q8
            · unfold bX9_readStep_230 at h
              obtain ⟨I12, eI12, h⟩ := ob h
              have q9 : I12 q j = _ := (by rw [← pU_some eI12]; exact g_up_ne cq0 : I12 q j = r13.2 q j).trans q5
              obtain rfl := Option.some.inj h
              exact (hl _ rfl).trans q9
      · unfold bX9_readStep_212 at h
        unfold bX9_readStep_213 at h
        rcases oi h with ⟨-, h⟩ | ⟨-, h⟩
        · unfold bX9_readStep_230 at h
          obtain ⟨I12, eI12, h⟩ := ob h
          have q10 : I12 q j = _ := (by rw [← pU_some eI12]; exact g_up_ne cq0 : I12 q j = I11 q j).trans q2
          obtain rfl := Option.some.inj h
          exact (hl _ rfl).trans q10
        · unfold bX9_readStep_230 at h
          obtain ⟨I12, eI12, h⟩ := ob h
          have q11 : I12 q j = _ := (by rw [← pU_some eI12]; exact g_up_ne cq0 : I12 q j = I11 q j).trans q2
          obtain rfl := Option.some.inj h
          exact (hl _ rfl).trans q11
set_option maxRecDepth 100000 in
set_option maxHeartbeats 1000000 in
theorem xfX9_readStep (v1 : Int32) (I : gM) {r : gM} (h : fX9_readStep v1 I = some r) (q j : Nat) (cq0 : q ≠ 62 ∨ j ≠ 3) (cq1 : q ≠ 62 ∨ j ≠ 4) (cq2 : q ≠ 68) : r q j = I q j := by
  unfold fX9_readStep at h
  obtain ⟨r1, er1, h⟩ := ob h
  have q1 : r1.2 q j = _ := (xfX9_ahead I er1 q j cq0).trans rfl
  rcases oi h with ⟨-, h⟩ | ⟨-, h⟩
  · unfold bX9_readStep_46 at h
    rcases oi h with ⟨-, h⟩ | ⟨-, h⟩
    · obtain ⟨r2, er2, h⟩ := ob h
      have q2 : r2 q j = _ := (xfX9_bad r1.2 er2 q j cq1).trans q1
      obtain rfl := Option.some.inj h
      exact q2
    · obtain ⟨I3, eI3, h⟩ := ob h
      have q3 : I3 q j = _ := (by rw [← pU_some eI3]; exact g_up_ne cq0 : I3 q j = r1.2 q j).trans q1
      obtain ⟨I4, eI4, h⟩ := ob h
      have q4 : I4 q j = _ := (by rw [← (wI_some eI4).2.2]; exact g_up_ne (Or.inl cq2) : I4 q j = I3 q j).trans q3
      rcases oi h with ⟨-, h⟩ | ⟨-, h⟩
      · obtain ⟨r5, er5, h⟩ := ob h
        have q5 : r5.2 q j = _ := (xfX9_number (23 : Int32) I4 er5 q j cq0 cq1).trans q4
        unfold bX9_readStep_99 at h
        obtain ⟨I6, eI6, h⟩ := ob h
        have q6 : I6 q j = _ := (by rw [← (wI_some eI6).2.2]; exact g_up_ne (Or.inl cq2) : I6 q j = r5.2 q j).trans q5
        obtain ⟨w8, ew8, h⟩ := ob h
        have q7 : w8 q j = _ := (xlX9_readStep_103 v1 ((0 : Int32), I6) ew8 q j cq2).trans q6
        rcases oi h with ⟨-, h⟩ | ⟨-, h⟩
        · obtain ⟨r9, er9, h⟩ := ob h
          have q8 : r9 q j = _ := (xfX9_must (58 : Int32) w8 er9 q j cq0 cq1).trans q7
          rcases oi h with ⟨-, h⟩ | ⟨-, h⟩
          · unfold bX9_readStep_152 at h
            obtain ⟨w14, ew14, h⟩ := ob h
            have q9 : w14 q j = _ := (xlX9_readStep_157 v1 ((1 : Int32), (0 : Int32), r9) ew14 q j cq0 cq1 cq2).trans q8
            obtain rfl := Option.some.inj h
            exact q9
          · unfold bX9_readStep_152 at h
            obtain ⟨w14, ew14, h⟩ := ob h
            have q10 : w14 q j = _ := (xlX9_readStep_157 v1 ((0 : Int32), (0 : Int32), r9) ew14 q j cq0 cq1 cq2).trans q8
            obtain rfl := Option.some.inj h
            exact q10
        · obtain rfl := Option.some.inj h
          exact q7
      · obtain ⟨r15, er15, h⟩ := ob h
        have q11 : r15.2 q j = _ := (xfX9_digit I4 er15 q j cq0 cq1).trans q4
        unfold bX9_readStep_99 at h
        obtain ⟨I6, eI6, h⟩ := ob h
        have q12 : I6 q j = _ := (by rw [← (wI_some eI6).2.2]; exact g_up_ne (Or.inl cq2) : I6 q j = r15.2 q j).trans q11
        obtain ⟨w8, ew8, h⟩ := ob h
        have q13 : w8 q j = _ := (xlX9_readStep_103 v1 ((0 : Int32), I6) ew8 q j cq2).trans q12
        rcases oi h with ⟨-, h⟩ | ⟨-, h⟩
        · obtain ⟨r9, er9, h⟩ := ob h
          have q14 : r9 q j = _ := (xfX9_must (58 : Int32) w8 er9 q j cq0 cq1).trans q13
          rcases oi h with ⟨-, h⟩ | ⟨-, h⟩
          · unfold bX9_readStep_152 at h
            obtain ⟨w14, ew14, h⟩ := ob h
            have q15 : w14 q j = _ := (xlX9_readStep_157 v1 ((1 : Int32), (0 : Int32), r9) ew14 q j cq0 cq1 cq2).trans q14
            obtain rfl := Option.some.inj h
            exact q15
          · unfold bX9_readStep_152 at h
            obtain ⟨w14, ew14, h⟩ := ob h
            have q16 : w14 q j = _ := (xlX9_readStep_157 v1 ((0 : Int32), (0 : Int32), r9) ew14 q j cq0 cq1 cq2).trans q14
            obtain rfl := Option.some.inj h
            exact q16
        · obtain rfl := Option.some.inj h
          exact q13
  · rcases oi h with ⟨-, h⟩ | ⟨-, h⟩
    · unfold bX9_readStep_46 at h
      rcases oi h with ⟨-, h⟩ | ⟨-, h⟩
      · obtain ⟨r2, er2, h⟩ := ob h
        have q17 : r2 q j = _ := (xfX9_bad r1.2 er2 q j cq1).trans q1
        obtain rfl := Option.some.inj h
        exact q17
      · obtain ⟨I3, eI3, h⟩ := ob h
        have q18 : I3 q j = _ := (by rw [← pU_some eI3]; exact g_up_ne cq0 : I3 q j = r1.2 q j).trans q1
        obtain ⟨I4, eI4, h⟩ := ob h
        have q19 : I4 q j = _ := (by rw [← (wI_some eI4).2.2]; exact g_up_ne (Or.inl cq2) : I4 q j = I3 q j).trans q18
        rcases oi h with ⟨-, h⟩ | ⟨-, h⟩
        · obtain ⟨r5, er5, h⟩ := ob h
          have q20 : r5.2 q j = _ := (xfX9_number (23 : Int32) I4 er5 q j cq0 cq1).trans q19
          unfold bX9_readStep_99 at h
          obtain ⟨I6, eI6, h⟩ := ob h
          have q21 : I6 q j = _ := (by rw [← (wI_some eI6).2.2]; exact g_up_ne (Or.inl cq2) : I6 q j = r5.2 q j).trans q20
          obtain ⟨w8, ew8, h⟩ := ob h
          have q22 : w8 q j = _ := (xlX9_readStep_103 v1 ((0 : Int32), I6) ew8 q j cq2).trans q21
          rcases oi h with ⟨-, h⟩ | ⟨-, h⟩
          · obtain ⟨r9, er9, h⟩ := ob h
            have q23 : r9 q j = _ := (xfX9_must (58 : Int32) w8 er9 q j cq0 cq1).trans q22
            rcases oi h with ⟨-, h⟩ | ⟨-, h⟩
            · unfold bX9_readStep_152 at h
              obtain ⟨w14, ew14, h⟩ := ob h
              have q24 : w14 q j = _ := (xlX9_readStep_157 v1 ((1 : Int32), (0 : Int32), r9) ew14 q j cq0 cq1 cq2).trans q23
              obtain rfl := Option.some.inj h
              exact q24
            · unfold bX9_readStep_152 at h
              obtain ⟨w14, ew14, h⟩ := ob h
              have q25 : w14 q j = _ := (xlX9_readStep_157 v1 ((0 : Int32), (0 : Int32), r9) ew14 q j cq0 cq1 cq2).trans q23
              obtain rfl := Option.some.inj h
              exact q25
          · obtain rfl := Option.some.inj h
            exact q22
        · obtain ⟨r15, er15, h⟩ := ob h
          have q26 : r15.2 q j = _ := (xfX9_digit I4 er15 q j cq0 cq1).trans q19
          unfold bX9_readStep_99 at h
          obtain ⟨I6, eI6, h⟩ := ob h
          have q27 : I6 q j = _ := (by rw [← (wI_some eI6).2.2]; exact g_up_ne (Or.inl cq2) : I6 q j = r15.2 q j).trans q26
          obtain ⟨w8, ew8, h⟩ := ob h
          have q28 : w8 q j = _ := (xlX9_readStep_103 v1 ((0 : Int32), I6) ew8 q j cq2).trans q27
          rcases oi h with ⟨-, h⟩ | ⟨-, h⟩
          · obtain ⟨r9, er9, h⟩ := ob h
            have q29 : r9 q j = _ := (xfX9_must (58 : Int32) w8 er9 q j cq0 cq1).trans q28
            rcases oi h with ⟨-, h⟩ | ⟨-, h⟩
            · unfold bX9_readStep_152 at h
              obtain ⟨w14, ew14, h⟩ := ob h
              have q30 : w14 q j = _ := (xlX9_readStep_157 v1 ((1 : Int32), (0 : Int32), r9) ew14 q j cq0 cq1 cq2).trans q29
              obtain rfl := Option.some.inj h
              exact q30
            · unfold bX9_readStep_152 at h
              obtain ⟨w14, ew14, h⟩ := ob h
              have q31 : w14 q j = _ := (xlX9_readStep_157 v1 ((0 : Int32), (0 : Int32), r9) ew14 q j cq0 cq1 cq2).trans q29
              obtain rfl := Option.some.inj h
              exact q31
          · obtain rfl := Option.some.inj h
            exact q28
    · rcases oi h with ⟨-, h⟩ | ⟨-, h⟩
      · unfold bX9_readStep_46 at h
        rcases oi h with ⟨-, h⟩ | ⟨-, h⟩
        · obtain ⟨r2, er2, h⟩ := ob h
          have q32 : r2 q j = _ := (xfX9_bad r1.2 er2 q j cq1).trans q1
          obtain rfl := Option.some.inj h
          exact q32
        · obtain ⟨I3, eI3, h⟩ := ob h
          have q33 : I3 q j = _ := (by rw [← pU_some eI3]; exact g_up_ne cq0 : I3 q j = r1.2 q j).trans q1
          obtain ⟨I4, eI4, h⟩ := ob h
          have q34 : I4 q j = _ := (by rw [← (wI_some eI4).2.2]; exact g_up_ne (Or.inl cq2) : I4 q j = I3 q j).trans q33
          rcases oi h with ⟨-, h⟩ | ⟨-, h⟩
          · obtain ⟨r5, er5, h⟩ := ob h
            have q35 : r5.2 q j = _ := (xfX9_number (23 : Int32) I4 er5 q j cq0 cq1).trans q34
            unfold bX9_readStep_99 at h
            obtain ⟨I6, eI6, h⟩ := ob h
            have q36 : I6 q j = _ := (by rw [← (wI_some eI6).2.2]; exact g_up_ne (Or.inl cq2) : I6 q j = r5.2 q j).trans q35
            obtain ⟨w8, ew8, h⟩ := ob h
            have q37 : w8 q j = _ := (xlX9_readStep_103 v1 ((0 : Int32), I6) ew8 q j cq2).trans q36
            rcases oi h with ⟨-, h⟩ | ⟨-, h⟩
            · obtain ⟨r9, er9, h⟩ := ob h
              have q38 : r9 q j = _ := (xfX9_must (58 : Int32) w8 er9 q j cq0 cq1).trans q37
              rcases oi h with ⟨-, h⟩ | ⟨-, h⟩
              · unfold bX9_readStep_152 at h
                obtain ⟨w14, ew14, h⟩ := ob h
                have q39 : w14 q j = _ := (xlX9_readStep_157 v1 ((1 : Int32), (0 : Int32), r9) ew14 q j cq0 cq1 cq2).trans q38
                obtain rfl := Option.some.inj h
                exact q39
              · unfold bX9_readStep_152 at h
                obtain ⟨w14, ew14, h⟩ := ob h
                have q40 : w14 q j = _ := (xlX9_readStep_157 v1 ((0 : Int32), (0 : Int32), r9) ew14 q j cq0 cq1 cq2).trans q38
                obtain rfl := Option.some.inj h
                exact q40
            · obtain rfl := Option.some.inj h
              exact q37
          · obtain ⟨r15, er15, h⟩ := ob h
            have q41 : r15.2 q j = _ := (xfX9_digit I4 er15 q j cq0 cq1).trans q34
            unfold bX9_readStep_99 at h
            obtain ⟨I6, eI6, h⟩ := ob h
            have q42 : I6 q j = _ := (by rw [← (wI_some eI6).2.2]; exact g_up_ne (Or.inl cq2) : I6 q j = r15.2 q j).trans q41
            obtain ⟨w8, ew8, h⟩ := ob h
            have q43 : w8 q j = _ := (xlX9_readStep_103 v1 ((0 : Int32), I6) ew8 q j cq2).trans q42
            rcases oi h with ⟨-, h⟩ | ⟨-, h⟩
            · obtain ⟨r9, er9, h⟩ := ob h
              have q44 : r9 q j = _ := (xfX9_must (58 : Int32) w8 er9 q j cq0 cq1).trans q43
              rcases oi h with ⟨-, h⟩ | ⟨-, h⟩
              · unfold bX9_readStep_152 at h
                obtain ⟨w14, ew14, h⟩ := ob h
                have q45 : w14 q j = _ := (xlX9_readStep_157 v1 ((1 : Int32), (0 : Int32), r9) ew14 q j cq0 cq1 cq2).trans q44
                obtain rfl := Option.some.inj h
                exact q45
              · unfold bX9_readStep_152 at h
                obtain ⟨w14, ew14, h⟩ := ob h
                have q46 : w14 q j = _ := (xlX9_readStep_157 v1 ((0 : Int32), (0 : Int32), r9) ew14 q j cq0 cq1 cq2).trans q44
                obtain rfl := Option.some.inj h
                exact q46
            · obtain rfl := Option.some.inj h
              exact q43
      · rcases oi h with ⟨-, h⟩ | ⟨-, h⟩
        · unfold bX9_readStep_46 at h
          rcases oi h with ⟨-, h⟩ | ⟨-, h⟩
          · obtain ⟨r2, er2, h⟩ := ob h
            have q47 : r2 q j = _ := (xfX9_bad r1.2 er2 q j cq1).trans q1
            obtain rfl := Option.some.inj h
            exact q47
          · obtain ⟨I3, eI3, h⟩ := ob h
            have q48 : I3 q j = _ := (by rw [← pU_some eI3]; exact g_up_ne cq0 : I3 q j = r1.2 q j).trans q1
            obtain ⟨I4, eI4, h⟩ := ob h
            have q49 : I4 q j = _ := (by rw [← (wI_some eI4).2.2]; exact g_up_ne (Or.inl cq2) : I4 q j = I3 q j).trans q48
            rcases oi h with ⟨-, h⟩ | ⟨-, h⟩
            · obtain ⟨r5, er5, h⟩ := ob h
              have q50 : r5.2 q j = _ := (xfX9_number (23 : Int32) I4 er5 q j cq0 cq1).trans q49
              unfold bX9_readStep_99 at h
              obtain ⟨I6, eI6, h⟩ := ob h
              have q51 : I6 q j = _ := (by rw [← (wI_some eI6).2.2]; exact g_up_ne (Or.inl cq2) : I6 q j = r5.2 q j).trans q50
              obtain ⟨w8, ew8, h⟩ := ob h
              have q52 : w8 q j = _ := (xlX9_readStep_103 v1 ((0 : Int32), I6) ew8 q j cq2).trans q51
              rcases oi h with ⟨-, h⟩ | ⟨-, h⟩
              · obtain ⟨r9, er9, h⟩ := ob h
                have q53 : r9 q j = _ := (xfX9_must (58 : Int32) w8 er9 q j cq0 cq1).trans q52
                rcases oi h with ⟨-, h⟩ | ⟨-, h⟩
                · unfold bX9_readStep_152 at h
                  obtain ⟨w14, ew14, h⟩ := ob h
                  have q54 : w14 q j = _ := (xlX9_readStep_157 v1 ((1 : Int32), (0 : Int32), r9) ew14 q j cq0 cq1 cq2).trans q53
                  obtain rfl := Option.some.inj h
                  exact q54
                · unfold bX9_readStep_152 at h
                  obtain ⟨w14, ew14, h⟩ := ob h
                  have q55 : w14 q j = _ := (xlX9_readStep_157 v1 ((0 : Int32), (0 : Int32), r9) ew14 q j cq0 cq1 cq2).trans q53
                  obtain rfl := Option.some.inj h
                  exact q55
              · obtain rfl := Option.some.inj h
                exact q52
            · obtain ⟨r15, er15, h⟩ := ob h
              have q56 : r15.2 q j = _ := (xfX9_digit I4 er15 q j cq0 cq1).trans q49
              unfold bX9_readStep_99 at h
              obtain ⟨I6, eI6, h⟩ := ob h
              have q57 : I6 q j = _ := (by rw [← (wI_some eI6).2.2]; exact g_up_ne (Or.inl cq2) : I6 q j = r15.2 q j).trans q56
              obtain ⟨w8, ew8, h⟩ := ob h
              have q58 : w8 q j = _ := (xlX9_readStep_103 v1 ((0 : Int32), I6) ew8 q j cq2).trans q57
              rcases oi h with ⟨-, h⟩ | ⟨-, h⟩
              · obtain ⟨r9, er9, h⟩ := ob h
                have q59 : r9 q j = _ := (xfX9_must (58 : Int32) w8 er9 q j cq0 cq1).trans q58
                rcases oi h with ⟨-, h⟩ | ⟨-, h⟩
                · unfold bX9_readStep_152 at h
                  obtain ⟨w14, ew14, h⟩ := ob h
                  have q60 : w14 q j = _ := (xlX9_readStep_157 v1 ((1 : Int32), (0 : Int32), r9) ew14 q j cq0 cq1 cq2).trans q59
                  obtain rfl := Option.some.inj h
                  exact q60
                · unfold bX9_readStep_152 at h
                  obtain ⟨w14, ew14, h⟩ := ob h
                  have q61 : w14 q j = _ := (xlX9_readStep_157 v1 ((0 : Int32), (0 : Int32), r9) ew14 q j cq0 cq1 cq2).trans q59
                  obtain rfl := Option.some.inj h
                  exact q61
              · obtain rfl := Option.some.inj h
                exact q58
        · unfold bX9_readStep_46 at h
          rcases oi h with ⟨-, h⟩ | ⟨-, h⟩
          · obtain ⟨r2, er2, h⟩ := ob h
            have q62 : r2 q j = _ := (xfX9_bad r1.2 er2 q j cq1).trans q1
            obtain rfl := Option.some.inj h
            exact q62
          · obtain ⟨I3, eI3, h⟩ := ob h
            have q63 : I3 q j = _ := (by rw [← pU_some eI3]; exact g_up_ne cq0 : I3 q j = r1.2 q j).trans q1
            obtain ⟨I4, eI4, h⟩ := ob h
            have q64 : I4 q j = _ := (by rw [← (wI_some eI4).2.2]; exact g_up_ne (Or.inl cq2) : I4 q j = I3 q j).trans q63
            rcases oi h with ⟨-, h⟩ | ⟨-, h⟩
            · obtain ⟨r5, er5, h⟩ := ob h
              have q65 : r5.2 q j = _ := (xfX9_number (23 : Int32) I4 er5 q j cq0 cq1).trans q64
              unfold bX9_readStep_99 at h
              obtain ⟨I6, eI6, h⟩ := ob h
              have q66 : I6 q j = _ := (by rw [← (wI_some eI6).2.2]; exact g_up_ne (Or.inl cq2) : I6 q j = r5.2 q j).trans q65
              obtain ⟨w8, ew8, h⟩ := ob h
              have q67 : w8 q j = _ := (xlX9_readStep_103 v1 ((0 : Int32), I6) ew8 q j cq2).trans q66
              rcases oi h with ⟨-, h⟩ | ⟨-, h⟩
              · obtain ⟨r9, er9, h⟩ := ob h
                have q68 : r9 q j = _ := (xfX9_must (58 : Int32) w8 er9 q j cq0 cq1).trans q67
                rcases oi h with ⟨-, h⟩ | ⟨-, h⟩
                · unfold bX9_readStep_152 at h
                  obtain ⟨w14, ew14, h⟩ := ob h
                  have q69 : w14 q j = _ := (xlX9_readStep_157 v1 ((1 : Int32), (0 : Int32), r9) ew14 q j cq0 cq1 cq2).trans q68
                  obtain rfl := Option.some.inj h
                  exact q69
                · unfold bX9_readStep_152 at h
                  obtain ⟨w14, ew14, h⟩ := ob h
                  have q70 : w14 q j = _ := (xlX9_readStep_157 v1 ((0 : Int32), (0 : Int32), r9) ew14 q j cq0 cq1 cq2).trans q68
                  obtain rfl := Option.some.inj h
                  exact q70
              · obtain rfl := Option.some.inj h
                exact q67
            · obtain ⟨r15, er15, h⟩ := ob h
              have q71 : r15.2 q j = _ := (xfX9_digit I4 er15 q j cq0 cq1).trans q64
              unfold bX9_readStep_99 at h
              obtain ⟨I6, eI6, h⟩ := ob h
              have q72 : I6 q j = _ := (by rw [← (wI_some eI6).2.2]; exact g_up_ne (Or.inl cq2) : I6 q j = r15.2 q j).trans q71
              obtain ⟨w8, ew8, h⟩ := ob h
              have q73 : w8 q j = _ := (xlX9_readStep_103 v1 ((0 : Int32), I6) ew8 q j cq2).trans q72
              rcases oi h with ⟨-, h⟩ | ⟨-, h⟩
              · obtain ⟨r9, er9, h⟩ := ob h
                have q74 : r9 q j = _ := (xfX9_must (58 : Int32) w8 er9 q j cq0 cq1).trans q73
                rcases oi h with ⟨-, h⟩ | ⟨-, h⟩
                · unfold bX9_readStep_152 at h
                  obtain ⟨w14, ew14, h⟩ := ob h
                  have q75 : w14 q j = _ := (xlX9_readStep_157 v1 ((1 : Int32), (0 : Int32), r9) ew14 q j cq0 cq1 cq2).trans q74
                  obtain rfl := Option.some.inj h
                  exact q75
                · unfold bX9_readStep_152 at h
                  obtain ⟨w14, ew14, h⟩ := ob h
                  have q76 : w14 q j = _ := (xlX9_readStep_157 v1 ((0 : Int32), (0 : Int32), r9) ew14 q j cq0 cq1 cq2).trans q74
                  obtain rfl := Option.some.inj h
                  exact q76
              · obtain rfl := Option.some.inj h
                exact q73
set_option maxRecDepth 100000 in
set_option maxHeartbeats 1000000 in
theorem xlX9_readScript_13 (v1 : Int32) (s : (Int32 × gM)) {r : gM} (h : lX9_readScript_13 v1 s = some r) (q j : Nat) (cq0 : q ≠ 62 ∨ j ≠ 3) (cq1 : q ≠ 62 ∨ j ≠ 4) (cq2 : q ≠ 68) (cq3 : q ≠ 69) : r q j = s.2 q j := by
  unfold lX9_readScript_13 at h
  revert s
  refine itO_ind (P := fun s : (Int32 × gM) => r q j = s.2 q j) (fun s y h hl hr => ?_)
  rcases oi h with ⟨-, h⟩ | ⟨-, h⟩
  · obtain rfl := Option.some.inj h
    have hh := hr _ rfl
    subst hh
    exact rfl
  · obtain ⟨u3, -, h⟩ := ob h
    obtain ⟨r4, er4, h⟩ := ob h
    have q1 : r4 q j = _ := (xfX9_readStep ((5 : Int32) * (((12 : Int32) * v1) + u3)) s.2 er4 q j cq0 cq1 cq2).trans rfl
    obtain ⟨u5, -, h⟩ := ob h
    obtain ⟨I6, eI6, h⟩ := ob h
    have q2 : I6 q j = _ := (by rw [← (wI_some eI6).2.2]; exact g_up_ne (Or.inl cq3) : I6 q j = r4 q j).trans q1
    rcases oi h with ⟨-, h⟩ | ⟨-, h⟩
    · obtain ⟨r7, er7, h⟩ := ob h
      have q3 : r7.2 q j = _ := (xfX9_ahead I6 er7 q j cq0).trans q2
      rcases oi h with ⟨-, h⟩ | ⟨-, h⟩
      · obtain ⟨u8, -, h⟩ := ob h
        rcases oi h with ⟨-, h⟩ | ⟨-, h⟩
        · unfold bX9_readScript_76 at h
          unfold bX9_readScript_77 at h
          rcases oi h with ⟨-, h⟩ | ⟨-, h⟩
          · unfold bX9_readScript_92 at h
            obtain ⟨I9, eI9, h⟩ := ob h
            have q4 : I9 q j = _ := (by rw [← pU_some eI9]; exact g_up_ne cq0 : I9 q j = r7.2 q j).trans q3
            obtain rfl := Option.some.inj h
            exact (hl _ rfl).trans q4
          · unfold bX9_readScript_92 at h
            obtain ⟨I9, eI9, h⟩ := ob h
            have q5 : I9 q j = _ := (by rw [← pU_some eI9]; exact g_up_ne cq0 : I9 q j = r7.2 q j).trans q3
            obtain rfl := Option.some.inj h
            exact (hl _ rfl).trans q5
        · unfold bX9_readScript_77 at h
          rcases oi h with ⟨-, h⟩ | ⟨-, h⟩
          · unfold bX9_readScript_92 at h
            obtain ⟨I9, eI9, h⟩ := ob h
            have q6 : I9 q j = _ := (by rw [← pU_some eI9]; exact g_up_ne cq0 : I9 q j = r7.2 q j).trans q3
            obtain rfl := Option.some.inj h
            exact (hl _ rfl).trans q6
          · unfold bX9_readScript_92 at h
            obtain ⟨I9, eI9, h⟩ := ob h
            have q7 : I9 q j = _ := (by rw [← pU_some eI9]; exact g_up_ne cq0 : I9 q j = r7.2 q j).trans q3
            obtain rfl := Option.some.inj h
            exact (hl _ rfl).trans q7
      · unfold bX9_readScript_76 at h
        unfold bX9_readScript_77 at h
        rcases oi h with ⟨-, h⟩ | ⟨-, h⟩
        · unfold bX9_readScript_92 at h
          obtain ⟨I9, eI9, h⟩ := ob h
          have q8 : I9 q j = _ := (by rw [← pU_some eI9]; exact g_up_ne cq0 : I9 q j = r7.2 q j).trans q3
          obtain rfl := Option.some.inj h
          exact (hl _ rfl).trans q8
        · unfold bX9_readScript_92 at h
          obtain ⟨I9, eI9, h⟩ := ob h
          have q9 : I9 q j = _ := (by rw [← pU_some eI9]; exact g_up_ne cq0 : I9 q j = r7.2 q j).trans q3
          obtain rfl := Option.some.inj h
          exact (hl _ rfl).trans q9
    · unfold bX9_readScript_76 at h
      unfold bX9_readScript_77 at h
      rcases oi h with ⟨-, h⟩ | ⟨-, h⟩
      · unfold bX9_readScript_92 at h
        obtain ⟨I9, eI9, h⟩ := ob h
        have q10 : I9 q j = _ := (by rw [← pU_some eI9]; exact g_up_ne cq0 : I9 q j = I6 q j).trans q2
        obtain rfl := Option.some.inj h
        exact (hl _ rfl).trans q10
      · unfold bX9_readScript_92 at h
        obtain ⟨I9, eI9, h⟩ := ob h
        have q11 : I9 q j = _ := (by rw [← pU_some eI9]; exact g_up_ne cq0 : I9 q j = I6 q j).trans q2
        obtain rfl := Option.some.inj h
        exact (hl _ rfl).trans q11
set_option maxRecDepth 100000 in
set_option maxHeartbeats 1000000 in
theorem xfX9_readScript (v1 : Int32) (I : gM) {r : Int32 × gM} (h : fX9_readScript v1 I = some r) (q j : Nat) (cq0 : q ≠ 62 ∨ j ≠ 3) (cq1 : q ≠ 62 ∨ j ≠ 4) (cq2 : q ≠ 69) (cq3 : q ≠ 68) : r.2 q j = I q j := by
  unfold fX9_readScript at h
  obtain ⟨r1, er1, h⟩ := ob h
  have q1 : r1 q j = _ := (xfX9_begins I er1 q j cq0 cq1).trans rfl
  obtain ⟨I2, eI2, h⟩ := ob h
  have q2 : I2 q j = _ := (by rw [← (wI_some eI2).2.2]; exact g_up_ne (Or.inl cq2) : I2 q j = r1 q j).trans q1
  obtain ⟨w10, ew10, h⟩ := ob h
  have q3 : w10 q j = _ := (xlX9_readScript_13 v1 ((1 : Int32), I2) ew10 q j cq0 cq1 cq3 cq2).trans q2
  obtain ⟨r11, er11, h⟩ := ob h
  have q4 : r11.2 q j = _ := (xfX9_ends w10 er11 q j cq0 cq1).trans q3
  obtain rfl := Option.some.inj h
  exact q4
set_option maxRecDepth 100000 in
set_option maxHeartbeats 1000000 in
theorem xfX9_fault (v1 : Int32) (I : gM) {r : Int32 × gM} (h : fX9_fault v1 I = some r) (q j : Nat) (cq0 : q ≠ 62 ∨ j ≠ 3) (cq1 : q ≠ 62 ∨ j ≠ 4) (cq2 : q ≠ 62 ∨ j ≠ 9) (cq3 : q ≠ 64) (cq4 : q ≠ 65) (cq5 : q ≠ 66) (cq6 : q ≠ 67) (cq7 : q ≠ 69) (cq8 : q ≠ 68) : r.2 q j = I q j := by
  unfold fX9_fault at h
  rcases oi h with ⟨-, h⟩ | ⟨-, h⟩
  · obtain ⟨r1, er1, h⟩ := ob h
    have q1 : r1.2 q j = _ := (xfX9_readAll I er1 q j cq0 cq1 cq2 cq3 cq4 cq5 cq6).trans rfl
    obtain rfl := Option.some.inj h
    exact q1
  · rcases oi h with ⟨-, h⟩ | ⟨-, h⟩
    · obtain ⟨r2, er2, h⟩ := ob h
      have q2 : r2.2 q j = _ := (xfX9_readScript (4 : Int32) I er2 q j cq0 cq1 cq7 cq8).trans rfl
      obtain rfl := Option.some.inj h
      exact q2
    · obtain rfl := Option.some.inj h
      exact rfl
set_option maxRecDepth 100000 in
set_option maxHeartbeats 1000000 in
theorem xlX9_putsNow_24 (v1 : Int32) (v5 : Int32) (s : (Int32 × gM)) {r : gM} (h : lX9_putsNow_24 v1 v5 s = some r) (q j : Nat) (cq0 : q ≠ 70) : r q j = s.2 q j := by
  unfold lX9_putsNow_24 at h
  revert s
  refine itO_ind (P := fun s : (Int32 × gM) => r q j = s.2 q j) (fun s y h hl hr => ?_)
  obtain ⟨r4, -, h⟩ := ob h
  rcases oi h with ⟨-, h⟩ | ⟨-, h⟩
  · obtain rfl := Option.some.inj h
    have hh := hr _ rfl
    subst hh
    exact rfl
  · obtain ⟨u5, -, h⟩ := ob h
    obtain ⟨I6, eI6, h⟩ := ob h
    have q1 : I6 q j = _ := (by rw [← (wI_some eI6).2.2]; exact g_up_ne (Or.inl cq0) : I6 q j = s.2 q j).trans rfl
    obtain rfl := Option.some.inj h
    exact (hl _ rfl).trans q1
set_option maxRecDepth 100000 in
set_option maxHeartbeats 1000000 in
theorem xfX9_putsNow (v1 : Int32) (v2 : Int32) (v3 : Int32) (v4 : Int32) (I : gM) {r : Int32 × gM} (h : fX9_putsNow v1 v2 v3 v4 I = some r) (q j : Nat) (cq0 : q ≠ 70) : r.2 q j = I q j := by
  unfold fX9_putsNow at h
  obtain ⟨r1, -, h⟩ := ob h
  obtain ⟨r2, -, h⟩ := ob h
  obtain ⟨r3, -, h⟩ := ob h
  obtain ⟨w7, ew7, h⟩ := ob h
  have q1 : w7 q j = _ := (xlX9_putsNow_24 v1 r1 (r3 - 1, I) ew7 q j cq0).trans rfl
  obtain ⟨r8, -, h⟩ := ob h
  obtain ⟨I9, eI9, h⟩ := ob h
  have q2 : I9 q j = _ := (by rw [← (wI_some eI9).2.2]; exact g_up_ne (Or.inl cq0) : I9 q j = w7 q j).trans q1
  obtain ⟨r10, -, h⟩ := ob h
  obtain ⟨I11, eI11, h⟩ := ob h
  have q3 : I11 q j = _ := (by rw [← (wI_some eI11).2.2]; exact g_up_ne (Or.inl cq0) : I11 q j = I9 q j).trans q2
  obtain ⟨r12, -, h⟩ := ob h
  obtain ⟨I13, eI13, h⟩ := ob h
  have q4 : I13 q j = _ := (by rw [← (wI_some eI13).2.2]; exact g_up_ne (Or.inl cq0) : I13 q j = I11 q j).trans q3
  obtain ⟨u14, -, h⟩ := ob h
  obtain ⟨I15, eI15, h⟩ := ob h
  have q5 : I15 q j = _ := (by rw [← (wI_some eI15).2.2]; exact g_up_ne (Or.inl cq0) : I15 q j = I13 q j).trans q4
  obtain ⟨r16, -, h⟩ := ob h
  obtain rfl := Option.some.inj h
  exact q5
set_option maxRecDepth 100000 in
set_option maxHeartbeats 1000000 in
theorem xlX9_takesNow_19 (v1 : Int32) (s : (Int32 × gM)) {r : gM} (h : lX9_takesNow_19 v1 s = some r) (q j : Nat) (cq0 : q ≠ 70) : r q j = s.2 q j := by
  unfold lX9_takesNow_19 at h
  revert s
  refine itO_ind (P := fun s : (Int32 × gM) => r q j = s.2 q j) (fun s y h hl hr => ?_)
  obtain ⟨r3, -, h⟩ := ob h
  obtain ⟨r4, -, h⟩ := ob h
  rcases oi h with ⟨-, h⟩ | ⟨-, h⟩
  · obtain rfl := Option.some.inj h
    have hh := hr _ rfl
    subst hh
    exact rfl
  · obtain ⟨u5, -, h⟩ := ob h
    obtain ⟨I6, eI6, h⟩ := ob h
    have q1 : I6 q j = _ := (by rw [← (wI_some eI6).2.2]; exact g_up_ne (Or.inl cq0) : I6 q j = s.2 q j).trans rfl
    obtain rfl := Option.some.inj h
    exact (hl _ rfl).trans q1
set_option maxRecDepth 100000 in
set_option maxHeartbeats 1000000 in
theorem xfX9_takesNow (v1 : Int32) (v2 : Int32) (v3 : Int32) (v4 : Int32) (I : gM) {r : Int32 × gM} (h : fX9_takesNow v1 v2 v3 v4 I = some r) (q j : Nat) (cq0 : q ≠ 70) : r.2 q j = I q j := by
  unfold fX9_takesNow at h
  obtain ⟨r1, -, h⟩ := ob h
  obtain ⟨r2, -, h⟩ := ob h
  obtain ⟨w7, ew7, h⟩ := ob h
  have q1 : w7 q j = _ := (xlX9_takesNow_19 v1 (r2, I) ew7 q j cq0).trans rfl
  obtain ⟨u8, -, h⟩ := ob h
  obtain ⟨I9, eI9, h⟩ := ob h
  have q2 : I9 q j = _ := (by rw [← (wI_some eI9).2.2]; exact g_up_ne (Or.inl cq0) : I9 q j = w7 q j).trans q1
  obtain ⟨r10, -, h⟩ := ob h
  obtain rfl := Option.some.inj h
  exact q2
set_option maxRecDepth 100000 in
set_option maxHeartbeats 1000000 in
theorem xlX9_takeTables_10  (s : (Int32 × gM)) {r : gM} (h : lX9_takeTables_10 s = some r) (q j : Nat) (cq0 : q ≠ 70) : r q j = s.2 q j := by
  unfold lX9_takeTables_10 at h
  revert s
  refine itO_ind (P := fun s : (Int32 × gM) => r q j = s.2 q j) (fun s y h hl hr => ?_)
  rcases oi h with ⟨-, h⟩ | ⟨-, h⟩
  · obtain rfl := Option.some.inj h
    have hh := hr _ rfl
    subst hh
    exact rfl
  · obtain ⟨I2, eI2, h⟩ := ob h
    have q1 : I2 q j = _ := (by rw [← (wI_some eI2).2.2]; exact g_up_ne (Or.inl cq0) : I2 q j = s.2 q j).trans rfl
    obtain rfl := Option.some.inj h
    exact (hl _ rfl).trans q1
set_option maxRecDepth 100000 in
set_option maxHeartbeats 1000000 in
theorem xlX9_takeTables_68 (v1 : Int32) (s : (Int32 × gM)) {r : gM} (h : lX9_takeTables_68 v1 s = some r) (q j : Nat) (cq0 : q ≠ 73) : r q j = s.2 q j := by
  unfold lX9_takeTables_68 at h
  revert s
  refine itO_ind (P := fun s : (Int32 × gM) => r q j = s.2 q j) (fun s y h hl hr => ?_)
  rcases oi h with ⟨-, h⟩ | ⟨-, h⟩
  · obtain rfl := Option.some.inj h
    have hh := hr _ rfl
    subst hh
    exact rfl
  · obtain ⟨u7, -, h⟩ := ob h
    obtain ⟨I8, eI8, h⟩ := ob h
    have q1 : I8 q j = _ := (by rw [← (wI_some eI8).2.2]; exact g_up_ne (Or.inl cq0) : I8 q j = s.2 q j).trans rfl
    obtain rfl := Option.some.inj h
    exact (hl _ rfl).trans q1
set_option maxRecDepth 100000 in
set_option maxHeartbeats 1000000 in
theorem xlX9_takeTables_101 (v1 : Int32) (s : (Int32 × gM)) {r : gM} (h : lX9_takeTables_101 v1 s = some r) (q j : Nat) (cq0 : q ≠ 70) : r q j = s.2 q j := by
  unfold lX9_takeTables_101 at h
  revert s
  refine itO_ind (P := fun s : (Int32 × gM) => r q j = s.2 q j) (fun s y h hl hr => ?_)
  obtain ⟨u10, -, h⟩ := ob h
  rcases oi h with ⟨-, h⟩ | ⟨-, h⟩
  · obtain rfl := Option.some.inj h
    have hh := hr _ rfl
    subst hh
    exact rfl
  · obtain ⟨u11, -, h⟩ := ob h
    obtain ⟨u12, -, h⟩ := ob h
    obtain ⟨u13, -, h⟩ := ob h
    obtain ⟨r14, -, h⟩ := ob h
    rcases oi h with ⟨-, h⟩ | ⟨-, h⟩
    · obtain ⟨u15, -, h⟩ := ob h
      obtain ⟨u16, -, h⟩ := ob h
      obtain ⟨u17, -, h⟩ := ob h
      obtain ⟨r18, er18, h⟩ := ob h
      have q1 : r18.2 q j = _ := (xfX9_putsNow v1 u15 u16 u17 s.2 er18 q j cq0).trans rfl
      unfold bX9_takeTables_178 at h
      obtain rfl := Option.some.inj h
      exact (hl _ rfl).trans q1
    · unfold bX9_takeTables_178 at h
      obtain rfl := Option.some.inj h
      exact (hl _ rfl).trans rfl
set_option maxRecDepth 100000 in
set_option maxHeartbeats 1000000 in
theorem xlX9_takeTables_46  (s : (Int32 × gM)) {r : gM} (h : lX9_takeTables_46 s = some r) (q j : Nat) (cq0 : q ≠ 72) (cq1 : q ≠ 73) (cq2 : q ≠ 70) : r q j = s.2 q j := by
  unfold lX9_takeTables_46 at h
  revert s
  refine itO_ind (P := fun s : (Int32 × gM) => r q j = s.2 q j) (fun s y h hl hr => ?_)
  rcases oi h with ⟨-, h⟩ | ⟨-, h⟩
  · obtain rfl := Option.some.inj h
    have hh := hr _ rfl
    subst hh
    exact rfl
  · obtain ⟨u5, -, h⟩ := ob h
    obtain ⟨I6, eI6, h⟩ := ob h
    have q1 : I6 q j = _ := (by rw [← (wI_some eI6).2.2]; exact g_up_ne (Or.inl cq0) : I6 q j = s.2 q j).trans rfl
    obtain ⟨w9, ew9, h⟩ := ob h
    have q2 : w9 q j = _ := (xlX9_takeTables_68 s.1 ((0 : Int32), I6) ew9 q j cq1).trans q1
    obtain ⟨w19, ew19, h⟩ := ob h
    have q3 : w19 q j = _ := (xlX9_takeTables_101 s.1 ((0 : Int32), w9) ew19 q j cq2).trans q2
    obtain rfl := Option.some.inj h
    exact (hl _ rfl).trans q3
set_option maxRecDepth 100000 in
set_option maxHeartbeats 1000000 in
theorem xfX9_takeTables (I : gM) {r : Int32 × gM} (h : fX9_takeTables I = some r) (q j : Nat) (cq0 : q ≠ 62 ∨ j ≠ 17) (cq1 : q ≠ 70) (cq2 : q ≠ 72) (cq3 : q ≠ 73) (cq4 : q ≠ 62 ∨ j ≠ 29) (cq5 : q ≠ 62 ∨ j ≠ 42) : r.2 q j = I q j := by
  unfold fX9_takeTables at h
  obtain ⟨I1, eI1, h⟩ := ob h
  have q1 : I1 q j = _ := (by rw [← pU_some eI1]; exact g_up_ne cq0 : I1 q j = I q j).trans rfl
  obtain ⟨w3, ew3, h⟩ := ob h
  have q2 : w3 q j = _ := (xlX9_takeTables_10 ((0 : Int32), I1) ew3 q j cq1).trans q1
  obtain ⟨I4, eI4, h⟩ := ob h
  have q3 : I4 q j = _ := (by rw [← (wI_some eI4).2.2]; exact g_up_ne (Or.inl cq1) : I4 q j = w3 q j).trans q2
  obtain ⟨w20, ew20, h⟩ := ob h
  have q4 : w20 q j = _ := (xlX9_takeTables_46 ((0 : Int32), I4) ew20 q j cq2 cq3 cq1).trans q3
  obtain ⟨I21, eI21, h⟩ := ob h
  have q5 : I21 q j = _ := (by rw [← pU_some eI21]; exact g_up_ne cq4 : I21 q j = w20 q j).trans q4
  obtain ⟨I22, eI22, h⟩ := ob h
  have q6 : I22 q j = _ := (by rw [← pU_some eI22]; exact g_up_ne cq5 : I22 q j = I21 q j).trans q5
  obtain rfl := Option.some.inj h
  exact q6
set_option maxRecDepth 100000 in
set_option maxHeartbeats 1000000 in
theorem xfX9_text (v1 : Int32) (I : gM) {r : Int32 × gM} (h : fX9_text v1 I = some r) (q j : Nat) (cq0 : q ≠ 62 ∨ j ≠ 3) (cq1 : q ≠ 62 ∨ j ≠ 4) (cq2 : q ≠ 62 ∨ j ≠ 9) (cq3 : q ≠ 64) (cq4 : q ≠ 65) (cq5 : q ≠ 66) (cq6 : q ≠ 67) (cq7 : q ≠ 62 ∨ j ≠ 2) (cq8 : q ≠ 62 ∨ j ≠ 17) (cq9 : q ≠ 70) (cq10 : q ≠ 72) (cq11 : q ≠ 73) (cq12 : q ≠ 62 ∨ j ≠ 29) (cq13 : q ≠ 62 ∨ j ≠ 42) (cq14 : q ≠ 69) (cq15 : q ≠ 68) (cq16 : q ≠ 62 ∨ j ≠ 12) : r.2 q j = I q j := by
  unfold fX9_text at h
  rcases oi h with ⟨-, h⟩ | ⟨-, h⟩
  · obtain ⟨r1, er1, h⟩ := ob h
    have q1 : r1.2 q j = _ := (xfX9_readAll I er1 q j cq0 cq1 cq2 cq3 cq4 cq5 cq6).trans rfl
    rcases oi h with ⟨-, h⟩ | ⟨-, h⟩
    · obtain ⟨I2, eI2, h⟩ := ob h
      have q2 : I2 q j = _ := (by rw [← pU_some eI2]; exact g_up_ne cq7 : I2 q j = r1.2 q j).trans q1
      obtain ⟨r3, er3, h⟩ := ob h
      have q3 : r3.2 q j = _ := (xfX9_takeTables I2 er3 q j cq8 cq9 cq10 cq11 cq12 cq13).trans q2
      obtain rfl := Option.some.inj h
      exact q3
    · unfold bX9_text_22 at h
      rcases oi h with ⟨-, h⟩ | ⟨-, h⟩
      · rcases oi h with ⟨-, h⟩ | ⟨-, h⟩
        · obtain rfl := Option.some.inj h
          exact q1
        · obtain ⟨r4, er4, h⟩ := ob h
          have q4 : r4.2 q j = _ := (xfX9_readScript (r1.2 62 12) r1.2 er4 q j cq0 cq1 cq14 cq15).trans q1
          rcases oi h with ⟨-, h⟩ | ⟨-, h⟩
          · obtain ⟨I5, eI5, h⟩ := ob h
            have q5 : I5 q j = _ := (by rw [← pU_some eI5]; exact g_up_ne cq7 : I5 q j = r4.2 q j).trans q4
            obtain ⟨I6, eI6, h⟩ := ob h
            have q6 : I6 q j = _ := (by rw [← pU_some eI6]; exact g_up_ne cq16 : I6 q j = I5 q j).trans q5
            obtain rfl := Option.some.inj h
            exact q6
          · obtain rfl := Option.some.inj h
            exact q4
      · obtain rfl := Option.some.inj h
        exact q1
  · unfold bX9_text_22 at h
    rcases oi h with ⟨-, h⟩ | ⟨-, h⟩
    · rcases oi h with ⟨-, h⟩ | ⟨-, h⟩
      · obtain rfl := Option.some.inj h
        exact rfl
      · obtain ⟨r4, er4, h⟩ := ob h
        have q7 : r4.2 q j = _ := (xfX9_readScript (I 62 12) I er4 q j cq0 cq1 cq14 cq15).trans rfl
        rcases oi h with ⟨-, h⟩ | ⟨-, h⟩
        · obtain ⟨I5, eI5, h⟩ := ob h
          have q8 : I5 q j = _ := (by rw [← pU_some eI5]; exact g_up_ne cq7 : I5 q j = r4.2 q j).trans q7
          obtain ⟨I6, eI6, h⟩ := ob h
          have q9 : I6 q j = _ := (by rw [← pU_some eI6]; exact g_up_ne cq16 : I6 q j = I5 q j).trans q8
          obtain rfl := Option.some.inj h
          exact q9
        · obtain rfl := Option.some.inj h
          exact q7
    · obtain rfl := Option.some.inj h
      exact rfl
set_option maxRecDepth 100000 in
set_option maxHeartbeats 1000000 in
theorem xlX9_laysOrder_17  (s : (Int32 × Int32 × Int32 × Int32 × gM)) {r : gM} (h : lX9_laysOrder_17 s = some r) (q j : Nat) (cq0 : q ≠ 74) (cq1 : q ≠ 62 ∨ j ≠ 19) : r q j = s.2.2.2.2 q j := by
  unfold lX9_laysOrder_17 at h
  revert s
  refine itO_ind (P := fun s : (Int32 × Int32 × Int32 × Int32 × gM) => r q j = s.2.2.2.2 q j) (fun s y h hl hr => ?_)
  rcases oi h with ⟨-, h⟩ | ⟨-, h⟩
  · obtain rfl := Option.some.inj h
    have hh := hr _ rfl
    subst hh
    exact rfl
  · obtain ⟨u2, -, h⟩ := ob h
    obtain ⟨u3, -, h⟩ := ob h
    rcases oi h with ⟨-, h⟩ | ⟨-, h⟩
    · unfold bX9_laysOrder_51 at h
      obtain ⟨w6, -, h⟩ := ob h
      obtain ⟨r7, -, h⟩ := ob h
      obtain ⟨r8, -, h⟩ := ob h
      rcases oi h with ⟨-, h⟩ | ⟨-, h⟩
      · unfold bX9_laysOrder_137 at h
        obtain rfl := Option.some.inj h
        exact (hl _ rfl).trans rfl
      · obtain ⟨I9, eI9, h⟩ := ob h
        have q1 : I9 q j = _ := (by rw [← (wI_some eI9).2.2]; exact g_up_ne (Or.inl cq0) : I9 q j = s.2.2.2.2 q j).trans rfl
        obtain ⟨I10, eI10, h⟩ := ob h
        have q2 : I10 q j = _ := (by rw [← pU_some eI10]; exact g_up_ne cq1 : I10 q j = I9 q j).trans q1
        unfold bX9_laysOrder_137 at h
        obtain rfl := Option.some.inj h
        exact (hl _ rfl).trans q2
    · obtain ⟨u11, -, h⟩ := ob h
      unfold bX9_laysOrder_51 at h
      obtain ⟨w6, -, h⟩ := ob h
      obtain ⟨r7, -, h⟩ := ob h
      obtain ⟨r8, -, h⟩ := ob h
      rcases oi h with ⟨-, h⟩ | ⟨-, h⟩
      · unfold bX9_laysOrder_137 at h
        obtain rfl := Option.some.inj h
        exact (hl _ rfl).trans rfl
      · obtain ⟨I9, eI9, h⟩ := ob h
        have q3 : I9 q j = _ := (by rw [← (wI_some eI9).2.2]; exact g_up_ne (Or.inl cq0) : I9 q j = s.2.2.2.2 q j).trans rfl
        obtain ⟨I10, eI10, h⟩ := ob h
        have q4 : I10 q j = _ := (by rw [← pU_some eI10]; exact g_up_ne cq1 : I10 q j = I9 q j).trans q3
        unfold bX9_laysOrder_137 at h
        obtain rfl := Option.some.inj h
        exact (hl _ rfl).trans q4
set_option maxRecDepth 100000 in
set_option maxHeartbeats 1000000 in
theorem xfX9_laysOrder (v1 : Int32) (I : gM) {r : gM} (h : fX9_laysOrder v1 I = some r) (q j : Nat) (cq0 : q ≠ 62 ∨ j ≠ 19) (cq1 : q ≠ 74) : r q j = I q j := by
  unfold fX9_laysOrder at h
  obtain ⟨I1, eI1, h⟩ := ob h
  have q1 : I1 q j = _ := (by rw [← pU_some eI1]; exact g_up_ne cq0 : I1 q j = I q j).trans rfl
  obtain ⟨w12, ew12, h⟩ := ob h
  have q2 : w12 q j = _ := (xlX9_laysOrder_17 ((15 : Int32), v1, (6 : Int32), (0 : Int32), I1) ew12 q j cq1 cq0).trans q1
  obtain rfl := Option.some.inj h
  exact q2
set_option maxRecDepth 100000 in
set_option maxHeartbeats 1000000 in
theorem xlX9_takesKey_66 (v1 : Int32) (v4 : Int32) (s : (Int32 × gM)) {r : gM} (h : lX9_takesKey_66 v1 v4 s = some r) (q j : Nat) (cq0 : q ≠ 76) : r q j = s.2 q j := by
  unfold lX9_takesKey_66 at h
  revert s
  refine itO_ind (P := fun s : (Int32 × gM) => r q j = s.2 q j) (fun s y h hl hr => ?_)
  rcases oi h with ⟨-, h⟩ | ⟨-, h⟩
  · obtain rfl := Option.some.inj h
    have hh := hr _ rfl
    subst hh
    exact rfl
  · obtain ⟨u4, -, h⟩ := ob h
    obtain ⟨I5, eI5, h⟩ := ob h
    have q1 : I5 q j = _ := (by rw [← (wI_some eI5).2.2]; exact g_up_ne (Or.inl cq0) : I5 q j = s.2 q j).trans rfl
    obtain rfl := Option.some.inj h
    exact (hl _ rfl).trans q1
set_option maxRecDepth 100000 in
set_option maxHeartbeats 1000000 in
theorem xfX9_takesKey (v1 : Int32) (v2 : Int32) (I : gM) {r : gM} (h : fX9_takesKey v1 v2 I = some r) (q j : Nat) (cq0 : q ≠ 76) (cq1 : q ≠ 77) : r q j = I q j := by
  unfold fX9_takesKey at h
  obtain ⟨u1, -, h⟩ := ob h
  obtain ⟨w3, -, h⟩ := ob h
  unfold bX9_takesKey_39 at h
  rcases oi h with ⟨-, h⟩ | ⟨-, h⟩
  · unfold bX9_takesKey_63 at h
    obtain ⟨w6, ew6, h⟩ := ob h
    have q1 : w6 q j = _ := (xlX9_takesKey_66 v1 w3 (u1, I) ew6 q j cq0).trans rfl
    obtain ⟨I7, eI7, h⟩ := ob h
    have q2 : I7 q j = _ := (by rw [← (wI_some eI7).2.2]; exact g_up_ne (Or.inl cq0) : I7 q j = w6 q j).trans q1
    obtain ⟨u8, -, h⟩ := ob h
    obtain ⟨I9, eI9, h⟩ := ob h
    have q3 : I9 q j = _ := (by rw [← (wI_some eI9).2.2]; exact g_up_ne (Or.inl cq1) : I9 q j = I7 q j).trans q2
    obtain rfl := Option.some.inj h
    exact q3
  · obtain ⟨u10, -, h⟩ := ob h
    rcases oi h with ⟨-, h⟩ | ⟨-, h⟩
    · obtain rfl := Option.some.inj h
      exact rfl
    · unfold bX9_takesKey_63 at h
      obtain ⟨w6, ew6, h⟩ := ob h
      have q4 : w6 q j = _ := (xlX9_takesKey_66 v1 w3 (u1, I) ew6 q j cq0).trans rfl
      obtain ⟨I7, eI7, h⟩ := ob h
      have q5 : I7 q j = _ := (by rw [← (wI_some eI7).2.2]; exact g_up_ne (Or.inl cq0) : I7 q j = w6 q j).trans q4
      obtain ⟨u8, -, h⟩ := ob h
      obtain ⟨I9, eI9, h⟩ := ob h
      have q6 : I9 q j = _ := (by rw [← (wI_some eI9).2.2]; exact g_up_ne (Or.inl cq1) : I9 q j = I7 q j).trans q5
      obtain rfl := Option.some.inj h
      exact q6
set_option maxRecDepth 100000 in
set_option maxHeartbeats 1000000 in
theorem xlX9_laysKeys_60 (v1 : Int32) (v3 : Int32) (v4 : Int32) (v5 : Int32) (s : (Int32 × gM)) {r : gM} (h : lX9_laysKeys_60 v1 v3 v4 v5 s = some r) (q j : Nat) (cq0 : q ≠ 76) (cq1 : q ≠ 77) : r q j = s.2 q j := by
  unfold lX9_laysKeys_60 at h
  revert s
  refine itO_ind (P := fun s : (Int32 × gM) => r q j = s.2 q j) (fun s y h hl hr => ?_)
  obtain ⟨r6, -, h⟩ := ob h
  rcases oi h with ⟨-, h⟩ | ⟨-, h⟩
  · obtain rfl := Option.some.inj h
    have hh := hr _ rfl
    subst hh
    exact rfl
  · obtain ⟨r7, -, h⟩ := ob h
    rcases oi h with ⟨-, h⟩ | ⟨-, h⟩
    · unfold bX9_laysKeys_101 at h
      obtain rfl := Option.some.inj h
      exact (hl _ rfl).trans rfl
    · obtain ⟨r8, -, h⟩ := ob h
      obtain ⟨u9, -, h⟩ := ob h
      obtain ⟨r10, er10, h⟩ := ob h
      have q1 : r10 q j = _ := (xfX9_takesKey v4 u9 s.2 er10 q j cq0 cq1).trans rfl
      unfold bX9_laysKeys_101 at h
      obtain rfl := Option.some.inj h
      exact (hl _ rfl).trans q1
set_option maxRecDepth 100000 in
set_option maxHeartbeats 1000000 in
theorem xlX9_laysKeys_4 (v1 : Int32) (s : (Int32 × Int32 × gM)) {r : Int32 × gM} (h : lX9_laysKeys_4 v1 s = some r) (q j : Nat) (cq0 : q ≠ 77) (cq1 : q ≠ 78) (cq2 : q ≠ 76) : r.2 q j = s.2.2 q j := by
  unfold lX9_laysKeys_4 at h
  revert s
  refine itO_ind (P := fun s : (Int32 × Int32 × gM) => r.2 q j = s.2.2 q j) (fun s y h hl hr => ?_)
  rcases oi h with ⟨-, h⟩ | ⟨-, h⟩
  · obtain rfl := Option.some.inj h
    have hh := hr _ rfl
    subst hh
    exact rfl
  · obtain ⟨I1, eI1, h⟩ := ob h
    have q1 : I1 q j = _ := (by rw [← (wI_some eI1).2.2]; exact g_up_ne (Or.inl cq0) : I1 q j = s.2.2 q j).trans rfl
    obtain ⟨I2, eI2, h⟩ := ob h
    have q2 : I2 q j = _ := (by rw [← (wI_some eI2).2.2]; exact g_up_ne (Or.inl cq1) : I2 q j = I1 q j).trans q1
    obtain ⟨r3, -, h⟩ := ob h
    rcases oi h with ⟨-, h⟩ | ⟨-, h⟩
    · unfold bX9_laysKeys_127 at h
      obtain rfl := Option.some.inj h
      exact (hl _ rfl).trans q2
    · obtain ⟨u4, -, h⟩ := ob h
      obtain ⟨r5, -, h⟩ := ob h
      obtain ⟨w11, ew11, h⟩ := ob h
      have q3 : w11 q j = _ := (xlX9_laysKeys_60 v1 s.2.1 (((4 : Int32) * v1) + s.2.1) r5 ((0 : Int32), I2) ew11 q j cq2 cq0).trans q2
      rcases oi h with ⟨-, h⟩ | ⟨-, h⟩
      · unfold bX9_laysKeys_125 at h
        unfold bX9_laysKeys_126 at h
        unfold bX9_laysKeys_127 at h
        obtain rfl := Option.some.inj h
        exact (hl _ rfl).trans q3
      · obtain ⟨u12, -, h⟩ := ob h
        rcases oi h with ⟨-, h⟩ | ⟨-, h⟩
        · unfold bX9_laysKeys_125 at h
          unfold bX9_laysKeys_126 at h
          unfold bX9_laysKeys_127 at h
          obtain rfl := Option.some.inj h
          exact (hl _ rfl).trans q3
        · unfold bX9_laysKeys_126 at h
          unfold bX9_laysKeys_127 at h
          obtain rfl := Option.some.inj h
          exact (hl _ rfl).trans q3
set_option maxRecDepth 100000 in
set_option maxHeartbeats 1000000 in
theorem xfX9_laysKeys (v1 : Int32) (I : gM) {r : Int32 × gM} (h : fX9_laysKeys v1 I = some r) (q j : Nat) (cq0 : q ≠ 77) (cq1 : q ≠ 78) (cq2 : q ≠ 76) : r.2 q j = I q j := by
  unfold fX9_laysKeys at h
  obtain ⟨w13, ew13, h⟩ := ob h
  have q1 : w13.2 q j = _ := (xlX9_laysKeys_4 v1 ((1 : Int32), (0 : Int32), I) ew13 q j cq0 cq1 cq2).trans rfl
  obtain ⟨u14, -, h⟩ := ob h
  obtain rfl := Option.some.inj h
  exact q1
set_option maxRecDepth 100000 in
set_option maxHeartbeats 1000000 in
theorem xlX9_leaps_17 (v3 : Int32) (v4 : Int32) (s : gM) {r : gM} (h : lX9_leaps_17 v3 v4 s = some r) (q j : Nat) (cq0 : q ≠ 78) : r q j = s q j := by
  unfold lX9_leaps_17 at h
  revert s
  refine itO_ind (P := fun s : gM => r q j = s q j) (fun s y h hl hr => ?_)
  obtain ⟨u2, -, h⟩ := ob h
  obtain ⟨u3, -, h⟩ := ob h
  rcases oi h with ⟨-, h⟩ | ⟨-, h⟩
  · obtain rfl := Option.some.inj h
    have hh := hr _ rfl
    subst hh
    exact rfl
  · obtain ⟨u4, -, h⟩ := ob h
    obtain ⟨u5, -, h⟩ := ob h
    rcases oi h with ⟨-, h⟩ | ⟨-, h⟩
    · obtain rfl := Option.some.inj h
      have hh := hr _ rfl
      subst hh
      exact rfl
    · obtain ⟨u6, -, h⟩ := ob h
      obtain ⟨I7, eI7, h⟩ := ob h
      have q1 : I7 q j = _ := (by rw [← (wI_some eI7).2.2]; exact g_up_ne (Or.inl cq0) : I7 q j = s q j).trans rfl
      obtain rfl := Option.some.inj h
      exact (hl _ rfl).trans q1
set_option maxRecDepth 100000 in
set_option maxHeartbeats 1000000 in
theorem xfX9_leaps (v1 : Int32) (v2 : Int32) (v3 : Int32) (I : gM) {r : Int32 × gM} (h : fX9_leaps v1 v2 v3 I = some r) (q j : Nat) (cq0 : q ≠ 62 ∨ j ≠ 27) (cq1 : q ≠ 78) : r.2 q j = I q j := by
  unfold fX9_leaps at h
  obtain ⟨I1, eI1, h⟩ := ob h
  have q1 : I1 q j = _ := (by rw [← pU_some eI1]; exact g_up_ne cq0 : I1 q j = I q j).trans rfl
  obtain ⟨w8, ew8, h⟩ := ob h
  have q2 : w8 q j = _ := (xlX9_leaps_17 v3 (((4 : Int32) * v1) + v2) I1 ew8 q j cq1).trans q1
  unfold bX9_leaps_70 at h
  obtain ⟨u9, -, h⟩ := ob h
  obtain ⟨u10, -, h⟩ := ob h
  rcases oi h with ⟨-, h⟩ | ⟨-, h⟩
  · obtain rfl := Option.some.inj h
    exact q2
  · obtain rfl := Option.some.inj h
    exact q2
set_option maxRecDepth 100000 in
set_option maxHeartbeats 1000000 in
theorem xlX9_takesRow_2  (s : (Int32 × gM)) {r : gM} (h : lX9_takesRow_2 s = some r) (q j : Nat) (cq0 : q ≠ 80) : r q j = s.2 q j := by
  unfold lX9_takesRow_2 at h
  revert s
  refine itO_ind (P := fun s : (Int32 × gM) => r q j = s.2 q j) (fun s y h hl hr => ?_)
  rcases oi h with ⟨-, h⟩ | ⟨-, h⟩
  · obtain rfl := Option.some.inj h
    have hh := hr _ rfl
    subst hh
    exact rfl
  · obtain ⟨u1, -, h⟩ := ob h
    obtain ⟨I2, eI2, h⟩ := ob h
    have q1 : I2 q j = _ := (by rw [← (wI_some eI2).2.2]; exact g_up_ne (Or.inl cq0) : I2 q j = s.2 q j).trans rfl
    obtain rfl := Option.some.inj h
    exact (hl _ rfl).trans q1
set_option maxRecDepth 100000 in
set_option maxHeartbeats 1000000 in
theorem xfX9_takesRow (I : gM) {r : gM} (h : fX9_takesRow I = some r) (q j : Nat) (cq0 : q ≠ 80) (cq1 : q ≠ 62 ∨ j ≠ 26) : r q j = I q j := by
  unfold fX9_takesRow at h
  obtain ⟨w3, ew3, h⟩ := ob h
  have q1 : w3 q j = _ := (xlX9_takesRow_2 ((0 : Int32), I) ew3 q j cq0).trans rfl
  obtain ⟨I4, eI4, h⟩ := ob h
  have q2 : I4 q j = _ := (by rw [← pU_some eI4]; exact g_up_ne cq1 : I4 q j = w3 q j).trans q1
  obtain rfl := Option.some.inj h
  exact q2
set_option maxRecDepth 100000 in
set_option maxHeartbeats 1000000 in
theorem xlX9_goes_19 (rec : Int32 → gM → Option gM) (v1 : Int32) (s : (Int32 × gM)) {r : gM} (h : lX9_goes_19 rec v1 s = some r) (q j : Nat) (hrec : ∀ (d : Int32) (I r : gM), rec d I = some r → r q j = I q j) (cq0 : q ≠ 80) (cq1 : q ≠ 62 ∨ j ≠ 26) (cq2 : q ≠ 77) (cq3 : q ≠ 78) (cq4 : q ≠ 76) (cq5 : q ≠ 75) (cq6 : q ≠ 79) (cq7 : q ≠ 62 ∨ j ≠ 27) : r q j = s.2 q j := by
  unfold lX9_goes_19 at h
  revert s
  refine itO_ind (P := fun s : (Int32 × gM) => r q j = s.2 q j) (fun s y h hl hr => ?_)
  rcases oi h with ⟨-, h⟩ | ⟨-, h⟩
  · obtain rfl := Option.some.inj h
    have hh := hr _ rfl
    subst hh
    exact rfl
  · obtain ⟨r3, -, h⟩ := ob h
    obtain ⟨r4, -, h⟩ := ob h
    rcases oi h with ⟨-, h⟩ | ⟨-, h⟩
    · obtain ⟨u5, -, h⟩ := ob h
      obtain ⟨I6, eI6, h⟩ := ob h
      have q1 : I6 q j = _ := (by rw [← (wI_some eI6).2.2]; exact g_up_ne (Or.inl cq5) : I6 q j = s.2 q j).trans rfl
      obtain ⟨u7, -, h⟩ := ob h
      obtain ⟨I8, eI8, h⟩ := ob h
      have q2 : I8 q j = _ := (by rw [← (wI_some eI8).2.2]; exact g_up_ne (Or.inl cq6) : I8 q j = I6 q j).trans q1
      obtain ⟨r9, er9, h⟩ := ob h
      have q3 : r9 q j = _ := (hrec _ _ _ er9).trans q2
      obtain ⟨u10, -, h⟩ := ob h
      obtain ⟨I11, eI11, h⟩ := ob h
      have q4 : I11 q j = _ := (by rw [← (wI_some eI11).2.2]; exact g_up_ne (Or.inl cq5) : I11 q j = r9 q j).trans q3
      obtain ⟨r12, -, h⟩ := ob h
      obtain ⟨r13, er13, h⟩ := ob h
      have q5 : r13.2 q j = _ := (xfX9_leaps v1 r12 (r3 + 1) I11 er13 q j cq7 cq3).trans q4
      unfold bX9_goes_112 at h
      obtain rfl := Option.some.inj h
      exact (hl _ rfl).trans q5
    · obtain ⟨r14, er14, h⟩ := ob h
      have q6 : r14.2 q j = _ := (xfX9_leaps v1 r4 r3 s.2 er14 q j cq7 cq3).trans rfl
      unfold bX9_goes_112 at h
      obtain rfl := Option.some.inj h
      exact (hl _ rfl).trans q6
set_option maxRecDepth 100000 in
set_option maxHeartbeats 1000000 in
theorem xfX9_goesB (rec : Int32 → gM → Option gM) (v1 : Int32) (I : gM) {r : gM} (h : fX9_goesB rec v1 I = some r) (q j : Nat) (hrec : ∀ (d : Int32) (I r : gM), rec d I = some r → r q j = I q j) (cq0 : q ≠ 80) (cq1 : q ≠ 62 ∨ j ≠ 26) (cq2 : q ≠ 77) (cq3 : q ≠ 78) (cq4 : q ≠ 76) (cq5 : q ≠ 75) (cq6 : q ≠ 79) (cq7 : q ≠ 62 ∨ j ≠ 27) : r q j = I q j := by
  unfold fX9_goesB at h
  rcases oi h with ⟨-, h⟩ | ⟨-, h⟩
  · obtain ⟨r1, er1, h⟩ := ob h
    have q1 : r1 q j = _ := (xfX9_takesRow I er1 q j cq0 cq1).trans rfl
    obtain rfl := Option.some.inj h
    exact q1
  · obtain ⟨r2, er2, h⟩ := ob h
    have q2 : r2.2 q j = _ := (xfX9_laysKeys v1 I er2 q j cq2 cq3 cq4).trans rfl
    obtain ⟨w15, ew15, h⟩ := ob h
    have q3 : w15 q j = _ := (xlX9_goes_19 rec v1 (r2.1, r2.2) ew15 q j hrec cq0 cq1 cq2 cq3 cq4 cq5 cq6 cq7).trans q2
    obtain rfl := Option.some.inj h
    exact q3
theorem xfX9_goes (n : Nat) (d : Int32) (I : gM) {r : gM} (h : fX9_goes n d I = some r) (q j : Nat) (cq0 : q ≠ 80) (cq1 : q ≠ 62 ∨ j ≠ 26) (cq2 : q ≠ 77) (cq3 : q ≠ 78) (cq4 : q ≠ 76) (cq5 : q ≠ 75) (cq6 : q ≠ 79) (cq7 : q ≠ 62 ∨ j ≠ 27) : r q j = I q j := by
  induction n generalizing d I r with
  | zero => cases h
  | succ n ih => exact xfX9_goesB _ d I h q j (fun d I r h => ih d I h) cq0 cq1 cq2 cq3 cq4 cq5 cq6 cq7
set_option maxRecDepth 100000 in
set_option maxHeartbeats 1000000 in
theorem xlX9_joins_17  (s : (Int32 × gM)) {r : gM} (h : lX9_joins_17 s = some r) (q j : Nat) (cq0 : q ≠ 75) (cq1 : q ≠ 79) : r q j = s.2 q j := by
  unfold lX9_joins_17 at h
  revert s
  refine itO_ind (P := fun s : (Int32 × gM) => r q j = s.2 q j) (fun s y h hl hr => ?_)
  rcases oi h with ⟨-, h⟩ | ⟨-, h⟩
  · obtain rfl := Option.some.inj h
    have hh := hr _ rfl
    subst hh
    exact rfl
  · obtain ⟨I4, eI4, h⟩ := ob h
    have q1 : I4 q j = _ := (by rw [← (wI_some eI4).2.2]; exact g_up_ne (Or.inl cq0) : I4 q j = s.2 q j).trans rfl
    obtain ⟨I5, eI5, h⟩ := ob h
    have q2 : I5 q j = _ := (by rw [← (wI_some eI5).2.2]; exact g_up_ne (Or.inl cq1) : I5 q j = I4 q j).trans q1
    obtain rfl := Option.some.inj h
    exact (hl _ rfl).trans q2
set_option maxRecDepth 100000 in
set_option maxHeartbeats 1000000 in
theorem xfX9_joins (v1 : Int32) (I : gM) {r : gM} (h : fX9_joins v1 I = some r) (q j : Nat) (cq0 : q ≠ 62 ∨ j ≠ 19) (cq1 : q ≠ 74) (cq2 : q ≠ 62 ∨ j ≠ 26) (cq3 : q ≠ 62 ∨ j ≠ 27) (cq4 : q ≠ 75) (cq5 : q ≠ 79) (cq6 : q ≠ 80) (cq7 : q ≠ 77) (cq8 : q ≠ 78) (cq9 : q ≠ 76) : r q j = I q j := by
  unfold fX9_joins at h
  obtain ⟨r1, er1, h⟩ := ob h
  have q1 : r1 q j = _ := (xfX9_laysOrder v1 I er1 q j cq0 cq1).trans rfl
  obtain ⟨I2, eI2, h⟩ := ob h
  have q2 : I2 q j = _ := (by rw [← pU_some eI2]; exact g_up_ne cq2 : I2 q j = r1 q j).trans q1
  obtain ⟨I3, eI3, h⟩ := ob h
  have q3 : I3 q j = _ := (by rw [← pU_some eI3]; exact g_up_ne cq3 : I3 q j = I2 q j).trans q2
  obtain ⟨w6, ew6, h⟩ := ob h
  have q4 : w6 q j = _ := (xlX9_joins_17 ((0 : Int32), I3) ew6 q j cq4 cq5).trans q3
  obtain ⟨r7, er7, h⟩ := ob h
  have q5 : r7 q j = _ := (xfX9_goes 6 (0 : Int32) w6 er7 q j cq6 cq2 cq7 cq8 cq9 cq4 cq5 cq3).trans q4
  obtain rfl := Option.some.inj h
  exact q5
set_option maxRecDepth 100000 in
set_option maxHeartbeats 1000000 in
theorem xfX9_joinsNow (I : gM) {r : gM} (h : fX9_joinsNow I = some r) (q j : Nat) (cq0 : q ≠ 62 ∨ j ≠ 19) (cq1 : q ≠ 74) (cq2 : q ≠ 62 ∨ j ≠ 26) (cq3 : q ≠ 62 ∨ j ≠ 27) (cq4 : q ≠ 75) (cq5 : q ≠ 79) (cq6 : q ≠ 80) (cq7 : q ≠ 77) (cq8 : q ≠ 78) (cq9 : q ≠ 76) : r q j = I q j := by
  unfold fX9_joinsNow at h
  obtain ⟨u1, -, h⟩ := ob h
  obtain ⟨r2, er2, h⟩ := ob h
  have q1 : r2 q j = _ := (xfX9_joins u1 I er2 q j cq0 cq1 cq2 cq3 cq4 cq5 cq6 cq7 cq8 cq9).trans rfl
  obtain rfl := Option.some.inj h
  exact q1
set_option maxRecDepth 100000 in
set_option maxHeartbeats 1000000 in
theorem xfX9_doNow (v1 : Int32) (v2 : Int32) (v3 : Int32) (v4 : Int32) (v5 : Int32) (I : gM) {r : Int32 × gM} (h : fX9_doNow v1 v2 v3 v4 v5 I = some r) (q j : Nat) (cq0 : q ≠ 70) : r.2 q j = I q j := by
  unfold fX9_doNow at h
  rcases oi h with ⟨-, h⟩ | ⟨-, h⟩
  · obtain ⟨r1, er1, h⟩ := ob h
    have q1 : r1.2 q j = _ := (xfX9_putsNow v2 v3 v4 v5 I er1 q j cq0).trans rfl
    obtain rfl := Option.some.inj h
    exact q1
  · rcases oi h with ⟨-, h⟩ | ⟨-, h⟩
    · obtain ⟨r2, er2, h⟩ := ob h
      have q2 : r2.2 q j = _ := (xfX9_takesNow v2 v3 v4 v5 I er2 q j cq0).trans rfl
      obtain rfl := Option.some.inj h
      exact q2
    · rcases oi h with ⟨-, h⟩ | ⟨-, h⟩
      · obtain ⟨u3, -, h⟩ := ob h
        obtain ⟨I4, eI4, h⟩ := ob h
        have q3 : I4 q j = _ := (by rw [← (wI_some eI4).2.2]; exact g_up_ne (Or.inl cq0) : I4 q j = I q j).trans rfl
        obtain ⟨r5, -, h⟩ := ob h
        rcases oi h with ⟨-, h⟩ | ⟨-, h⟩
        · obtain rfl := Option.some.inj h
          exact q3
        · obtain rfl := Option.some.inj h
          exact q3
      · obtain ⟨u6, -, h⟩ := ob h
        obtain ⟨I7, eI7, h⟩ := ob h
        have q4 : I7 q j = _ := (by rw [← (wI_some eI7).2.2]; exact g_up_ne (Or.inl cq0) : I7 q j = I q j).trans rfl
        obtain rfl := Option.some.inj h
        exact q4
set_option maxRecDepth 100000 in
set_option maxHeartbeats 1000000 in
theorem xlX9_keep_13  (s : (Int32 × gM)) {r : gM} (h : lX9_keep_13 s = some r) (q j : Nat) (cq0 : q ≠ 81) : r q j = s.2 q j := by
  unfold lX9_keep_13 at h
  revert s
  refine itO_ind (P := fun s : (Int32 × gM) => r q j = s.2 q j) (fun s y h hl hr => ?_)
  rcases oi h with ⟨-, h⟩ | ⟨-, h⟩
  · obtain rfl := Option.some.inj h
    have hh := hr _ rfl
    subst hh
    exact rfl
  · obtain ⟨u1, -, h⟩ := ob h
    obtain ⟨I2, eI2, h⟩ := ob h
    have q1 : I2 q j = _ := (by rw [← (wI_some eI2).2.2]; exact g_up_ne (Or.inl cq0) : I2 q j = s.2 q j).trans rfl
    obtain rfl := Option.some.inj h
    exact (hl _ rfl).trans q1
set_option maxRecDepth 100000 in
set_option maxHeartbeats 1000000 in
theorem xlX9_keep_54  (s : (Int32 × gM)) {r : gM} (h : lX9_keep_54 s = some r) (q j : Nat) (cq0 : q ≠ 81) : r q j = s.2 q j := by
  unfold lX9_keep_54 at h
  revert s
  refine itO_ind (P := fun s : (Int32 × gM) => r q j = s.2 q j) (fun s y h hl hr => ?_)
  rcases oi h with ⟨-, h⟩ | ⟨-, h⟩
  · obtain rfl := Option.some.inj h
    have hh := hr _ rfl
    subst hh
    exact rfl
  · obtain ⟨u5, -, h⟩ := ob h
    obtain ⟨I6, eI6, h⟩ := ob h
    have q1 : I6 q j = _ := (by rw [← (wI_some eI6).2.2]; exact g_up_ne (Or.inl cq0) : I6 q j = s.2 q j).trans rfl
    obtain rfl := Option.some.inj h
    exact (hl _ rfl).trans q1
set_option maxRecDepth 100000 in
set_option maxHeartbeats 1000000 in
theorem xfX9_keep (I : gM) {r : gM} (h : fX9_keep I = some r) (q j : Nat) (cq0 : q ≠ 81) (cq1 : q ≠ 62 ∨ j ≠ 29) : r q j = I q j := by
  unfold fX9_keep at h
  rcases oi h with ⟨-, h⟩ | ⟨-, h⟩
  · obtain ⟨w3, ew3, h⟩ := ob h
    have q1 : w3 q j = _ := (xlX9_keep_13 ((331 : Int32), I) ew3 q j cq0).trans rfl
    obtain ⟨I4, eI4, h⟩ := ob h
    have q2 : I4 q j = _ := (by rw [← pU_some eI4]; exact g_up_ne cq1 : I4 q j = w3 q j).trans q1
    unfold bX9_keep_52 at h
    obtain ⟨w7, ew7, h⟩ := ob h
    have q3 : w7 q j = _ := (xlX9_keep_54 ((0 : Int32), I4) ew7 q j cq0).trans q2
    obtain ⟨I8, eI8, h⟩ := ob h
    have q4 : I8 q j = _ := (by rw [← pU_some eI8]; exact g_up_ne cq1 : I8 q j = w7 q j).trans q3
    obtain rfl := Option.some.inj h
    exact q4
  · unfold bX9_keep_52 at h
    obtain ⟨w7, ew7, h⟩ := ob h
    have q5 : w7 q j = _ := (xlX9_keep_54 ((0 : Int32), I) ew7 q j cq0).trans rfl
    obtain ⟨I8, eI8, h⟩ := ob h
    have q6 : I8 q j = _ := (by rw [← pU_some eI8]; exact g_up_ne cq1 : I8 q j = w7 q j).trans q5
    obtain rfl := Option.some.inj h
    exact q6
set_option maxRecDepth 100000 in
set_option maxHeartbeats 1000000 in
theorem xfX9_rowsNow (I : gM) {r : Int32 × gM} (h : fX9_rowsNow I = some r) (q j : Nat) (cq0 : q ≠ 62 ∨ j ≠ 19) (cq1 : q ≠ 74) (cq2 : q ≠ 62 ∨ j ≠ 26) (cq3 : q ≠ 62 ∨ j ≠ 27) (cq4 : q ≠ 75) (cq5 : q ≠ 79) (cq6 : q ≠ 80) (cq7 : q ≠ 77) (cq8 : q ≠ 78) (cq9 : q ≠ 76) : r.2 q j = I q j := by
  unfold fX9_rowsNow at h
  obtain ⟨r1, er1, h⟩ := ob h
  have q1 : r1 q j = _ := (xfX9_joinsNow I er1 q j cq0 cq1 cq2 cq3 cq4 cq5 cq6 cq7 cq8 cq9).trans rfl
  obtain rfl := Option.some.inj h
  exact q1
set_option maxRecDepth 100000 in
set_option maxHeartbeats 1000000 in
theorem xlX9_note_15  (s : (Int32 × gM)) {r : gM} (h : lX9_note_15 s = some r) (q j : Nat) (cq0 : q ≠ 70) : r q j = s.2 q j := by
  unfold lX9_note_15 at h
  revert s
  refine itO_ind (P := fun s : (Int32 × gM) => r q j = s.2 q j) (fun s y h hl hr => ?_)
  rcases oi h with ⟨-, h⟩ | ⟨-, h⟩
  · obtain rfl := Option.some.inj h
    have hh := hr _ rfl
    subst hh
    exact rfl
  · obtain ⟨u2, -, h⟩ := ob h
    obtain ⟨I3, eI3, h⟩ := ob h
    have q1 : I3 q j = _ := (by rw [← (wI_some eI3).2.2]; exact g_up_ne (Or.inl cq0) : I3 q j = s.2 q j).trans rfl
    obtain rfl := Option.some.inj h
    exact (hl _ rfl).trans q1
set_option maxRecDepth 100000 in
set_option maxHeartbeats 1000000 in
theorem xfX9_note (v1 : Int32) (v2 : Int32) (I : gM) {r : gM} (h : fX9_note v1 v2 I = some r) (q j : Nat) (cq0 : q ≠ 70) (cq1 : q ≠ 62 ∨ j ≠ 19) (cq2 : q ≠ 74) (cq3 : q ≠ 62 ∨ j ≠ 26) (cq4 : q ≠ 62 ∨ j ≠ 27) (cq5 : q ≠ 75) (cq6 : q ≠ 79) (cq7 : q ≠ 80) (cq8 : q ≠ 77) (cq9 : q ≠ 78) (cq10 : q ≠ 76) : r q j = I q j := by
  unfold fX9_note at h
  obtain ⟨u1, -, h⟩ := ob h
  rcases oi h with ⟨-, h⟩ | ⟨-, h⟩
  · obtain ⟨w4, ew4, h⟩ := ob h
    have q1 : w4 q j = _ := (xlX9_note_15 ((3 : Int32), I) ew4 q j cq0).trans rfl
    obtain ⟨u5, -, h⟩ := ob h
    obtain ⟨I6, eI6, h⟩ := ob h
    have q2 : I6 q j = _ := (by rw [← (wI_some eI6).2.2]; exact g_up_ne (Or.inl cq0) : I6 q j = w4 q j).trans q1
    unfold bX9_note_62 at h
    obtain ⟨u7, -, h⟩ := ob h
    obtain ⟨I8, eI8, h⟩ := ob h
    have q3 : I8 q j = _ := (by rw [← (wI_some eI8).2.2]; exact g_up_ne (Or.inl cq0) : I8 q j = I6 q j).trans q2
    obtain ⟨I9, eI9, h⟩ := ob h
    have q4 : I9 q j = _ := (by rw [← (wI_some eI9).2.2]; exact g_up_ne (Or.inl cq0) : I9 q j = I8 q j).trans q3
    obtain ⟨r10, er10, h⟩ := ob h
    have q5 : r10.2 q j = _ := (xfX9_rowsNow I9 er10 q j cq1 cq2 cq3 cq4 cq5 cq6 cq7 cq8 cq9 cq10).trans q4
    obtain ⟨I11, eI11, h⟩ := ob h
    have q6 : I11 q j = _ := (by rw [← (wI_some eI11).2.2]; exact g_up_ne (Or.inl cq0) : I11 q j = r10.2 q j).trans q5
    obtain ⟨u12, -, h⟩ := ob h
    obtain ⟨I13, eI13, h⟩ := ob h
    have q7 : I13 q j = _ := (by rw [← (wI_some eI13).2.2]; exact g_up_ne (Or.inl cq0) : I13 q j = I11 q j).trans q6
    obtain rfl := Option.some.inj h
    exact q7
  · unfold bX9_note_62 at h
    obtain ⟨u7, -, h⟩ := ob h
    obtain ⟨I8, eI8, h⟩ := ob h
    have q8 : I8 q j = _ := (by rw [← (wI_some eI8).2.2]; exact g_up_ne (Or.inl cq0) : I8 q j = I q j).trans rfl
    obtain ⟨I9, eI9, h⟩ := ob h
    have q9 : I9 q j = _ := (by rw [← (wI_some eI9).2.2]; exact g_up_ne (Or.inl cq0) : I9 q j = I8 q j).trans q8
    obtain ⟨r10, er10, h⟩ := ob h
    have q10 : r10.2 q j = _ := (xfX9_rowsNow I9 er10 q j cq1 cq2 cq3 cq4 cq5 cq6 cq7 cq8 cq9 cq10).trans q9
    obtain ⟨I11, eI11, h⟩ := ob h
    have q11 : I11 q j = _ := (by rw [← (wI_some eI11).2.2]; exact g_up_ne (Or.inl cq0) : I11 q j = r10.2 q j).trans q10
    obtain ⟨u12, -, h⟩ := ob h
    obtain ⟨I13, eI13, h⟩ := ob h
    have q12 : I13 q j = _ := (by rw [← (wI_some eI13).2.2]; exact g_up_ne (Or.inl cq0) : I13 q j = I11 q j).trans q11
    obtain rfl := Option.some.inj h
    exact q12
set_option maxRecDepth 100000 in
set_option maxHeartbeats 1000000 in
theorem xfX9_act (v1 : Int32) (v2 : Int32) (v3 : Int32) (v4 : Int32) (v5 : Int32) (I : gM) {r : Int32 × gM} (h : fX9_act v1 v2 v3 v4 v5 I = some r) (q j : Nat) (cq0 : q ≠ 81) (cq1 : q ≠ 62 ∨ j ≠ 29) (cq2 : q ≠ 70) (cq3 : q ≠ 62 ∨ j ≠ 19) (cq4 : q ≠ 74) (cq5 : q ≠ 62 ∨ j ≠ 26) (cq6 : q ≠ 62 ∨ j ≠ 27) (cq7 : q ≠ 75) (cq8 : q ≠ 79) (cq9 : q ≠ 80) (cq10 : q ≠ 77) (cq11 : q ≠ 78) (cq12 : q ≠ 76) : r.2 q j = I q j := by
  unfold fX9_act at h
  obtain ⟨r1, er1, h⟩ := ob h
  have q1 : r1 q j = _ := (xfX9_keep I er1 q j cq0 cq1).trans rfl
  obtain ⟨r2, er2, h⟩ := ob h
  have q2 : r2.2 q j = _ := (xfX9_doNow v1 v2 v3 v4 v5 r1 er2 q j cq2).trans q1
  obtain ⟨r3, er3, h⟩ := ob h
  have q3 : r3 q j = _ := (xfX9_note v1 v2 r2.2 er3 q j cq2 cq3 cq4 cq5 cq6 cq7 cq8 cq9 cq10 cq11 cq12).trans q2
  obtain rfl := Option.some.inj h
  exact q3
set_option maxRecDepth 100000 in
set_option maxHeartbeats 1000000 in
theorem xfX9_hand (v1 : Int32) (v2 : Int32) (v3 : Int32) (v4 : Int32) (v5 : Int32) (I : gM) {r : Int32 × gM} (h : fX9_hand v1 v2 v3 v4 v5 I = some r) (q j : Nat) (cq0 : q ≠ 81) (cq1 : q ≠ 62 ∨ j ≠ 29) (cq2 : q ≠ 70) (cq3 : q ≠ 62 ∨ j ≠ 19) (cq4 : q ≠ 74) (cq5 : q ≠ 62 ∨ j ≠ 26) (cq6 : q ≠ 62 ∨ j ≠ 27) (cq7 : q ≠ 75) (cq8 : q ≠ 79) (cq9 : q ≠ 80) (cq10 : q ≠ 77) (cq11 : q ≠ 78) (cq12 : q ≠ 76) (cq13 : q ≠ 71) : r.2 q j = I q j := by
  unfold fX9_hand at h
  obtain ⟨r1, -, h⟩ := ob h
  rcases oi h with ⟨-, h⟩ | ⟨-, h⟩
  · obtain ⟨r2, er2, h⟩ := ob h
    have q1 : r2.2 q j = _ := (xfX9_act v1 v2 v3 v4 v5 I er2 q j cq0 cq1 cq2 cq3 cq4 cq5 cq6 cq7 cq8 cq9 cq10 cq11 cq12).trans rfl
    obtain rfl := Option.some.inj h
    exact q1
  · obtain ⟨u3, -, h⟩ := ob h
    obtain ⟨I4, eI4, h⟩ := ob h
    have q2 : I4 q j = _ := (by rw [← (wI_some eI4).2.2]; exact g_up_ne (Or.inl cq13) : I4 q j = I q j).trans rfl
    obtain rfl := Option.some.inj h
    exact q2
set_option maxRecDepth 100000 in
set_option maxHeartbeats 1000000 in
theorem xfX9_put (v1 : Int32) (v2 : Int32) (v3 : Int32) (v4 : Int32) (I : gM) {r : Int32 × gM} (h : fX9_put v1 v2 v3 v4 I = some r) (q j : Nat) (cq0 : q ≠ 81) (cq1 : q ≠ 62 ∨ j ≠ 29) (cq2 : q ≠ 70) (cq3 : q ≠ 62 ∨ j ≠ 19) (cq4 : q ≠ 74) (cq5 : q ≠ 62 ∨ j ≠ 26) (cq6 : q ≠ 62 ∨ j ≠ 27) (cq7 : q ≠ 75) (cq8 : q ≠ 79) (cq9 : q ≠ 80) (cq10 : q ≠ 77) (cq11 : q ≠ 78) (cq12 : q ≠ 76) (cq13 : q ≠ 71) : r.2 q j = I q j := by
  unfold fX9_put at h
  obtain ⟨r1, er1, h⟩ := ob h
  have q1 : r1.2 q j = _ := (xfX9_hand (0 : Int32) v1 v2 v3 v4 I er1 q j cq0 cq1 cq2 cq3 cq4 cq5 cq6 cq7 cq8 cq9 cq10 cq11 cq12 cq13).trans rfl
  obtain rfl := Option.some.inj h
  exact q1
set_option maxRecDepth 100000 in
set_option maxHeartbeats 1000000 in
theorem xfX9_take (v1 : Int32) (v2 : Int32) (v3 : Int32) (v4 : Int32) (I : gM) {r : Int32 × gM} (h : fX9_take v1 v2 v3 v4 I = some r) (q j : Nat) (cq0 : q ≠ 81) (cq1 : q ≠ 62 ∨ j ≠ 29) (cq2 : q ≠ 70) (cq3 : q ≠ 62 ∨ j ≠ 19) (cq4 : q ≠ 74) (cq5 : q ≠ 62 ∨ j ≠ 26) (cq6 : q ≠ 62 ∨ j ≠ 27) (cq7 : q ≠ 75) (cq8 : q ≠ 79) (cq9 : q ≠ 80) (cq10 : q ≠ 77) (cq11 : q ≠ 78) (cq12 : q ≠ 76) (cq13 : q ≠ 71) : r.2 q j = I q j := by
  unfold fX9_take at h
  obtain ⟨r1, er1, h⟩ := ob h
  have q1 : r1.2 q j = _ := (xfX9_hand (1 : Int32) v1 v2 v3 v4 I er1 q j cq0 cq1 cq2 cq3 cq4 cq5 cq6 cq7 cq8 cq9 cq10 cq11 cq12 cq13).trans rfl
  obtain rfl := Option.some.inj h
  exact q1
set_option maxRecDepth 100000 in
set_option maxHeartbeats 1000000 in
theorem xfX9_use (v1 : Int32) (I : gM) {r : Int32 × gM} (h : fX9_use v1 I = some r) (q j : Nat) (cq0 : q ≠ 81) (cq1 : q ≠ 62 ∨ j ≠ 29) (cq2 : q ≠ 70) (cq3 : q ≠ 62 ∨ j ≠ 19) (cq4 : q ≠ 74) (cq5 : q ≠ 62 ∨ j ≠ 26) (cq6 : q ≠ 62 ∨ j ≠ 27) (cq7 : q ≠ 75) (cq8 : q ≠ 79) (cq9 : q ≠ 80) (cq10 : q ≠ 77) (cq11 : q ≠ 78) (cq12 : q ≠ 76) (cq13 : q ≠ 71) : r.2 q j = I q j := by
  unfold fX9_use at h
  obtain ⟨r1, er1, h⟩ := ob h
  have q1 : r1.2 q j = _ := (xfX9_hand (2 : Int32) v1 (0 : Int32) (0 : Int32) (0 : Int32) I er1 q j cq0 cq1 cq2 cq3 cq4 cq5 cq6 cq7 cq8 cq9 cq10 cq11 cq12 cq13).trans rfl
  obtain rfl := Option.some.inj h
  exact q1
set_option maxRecDepth 100000 in
set_option maxHeartbeats 1000000 in
theorem xfX9_order (v1 : Int32) (I : gM) {r : Int32 × gM} (h : fX9_order v1 I = some r) (q j : Nat) (cq0 : q ≠ 81) (cq1 : q ≠ 62 ∨ j ≠ 29) (cq2 : q ≠ 70) (cq3 : q ≠ 62 ∨ j ≠ 19) (cq4 : q ≠ 74) (cq5 : q ≠ 62 ∨ j ≠ 26) (cq6 : q ≠ 62 ∨ j ≠ 27) (cq7 : q ≠ 75) (cq8 : q ≠ 79) (cq9 : q ≠ 80) (cq10 : q ≠ 77) (cq11 : q ≠ 78) (cq12 : q ≠ 76) (cq13 : q ≠ 71) : r.2 q j = I q j := by
  unfold fX9_order at h
  obtain ⟨r1, er1, h⟩ := ob h
  have q1 : r1.2 q j = _ := (xfX9_hand (3 : Int32) v1 (0 : Int32) (0 : Int32) (0 : Int32) I er1 q j cq0 cq1 cq2 cq3 cq4 cq5 cq6 cq7 cq8 cq9 cq10 cq11 cq12 cq13).trans rfl
  obtain rfl := Option.some.inj h
  exact q1
set_option maxRecDepth 100000 in
set_option maxHeartbeats 1000000 in
theorem xfX9_tryOne (v1 : Int32) (v2 : Int32) (v3 : Int32) (v4 : Int32) (v5 : Int32) (I : gM) {r : gM} (h : fX9_tryOne v1 v2 v3 v4 v5 I = some r) (q j : Nat) (cq0 : q ≠ 81) (cq1 : q ≠ 62 ∨ j ≠ 29) (cq2 : q ≠ 70) (cq3 : q ≠ 62 ∨ j ≠ 19) (cq4 : q ≠ 74) (cq5 : q ≠ 62 ∨ j ≠ 26) (cq6 : q ≠ 62 ∨ j ≠ 27) (cq7 : q ≠ 75) (cq8 : q ≠ 79) (cq9 : q ≠ 80) (cq10 : q ≠ 77) (cq11 : q ≠ 78) (cq12 : q ≠ 76) : r q j = I q j := by
  unfold fX9_tryOne at h
  obtain ⟨r1, -, h⟩ := ob h
  rcases oi h with ⟨-, h⟩ | ⟨-, h⟩
  · obtain ⟨r2, er2, h⟩ := ob h
    have q1 : r2.2 q j = _ := (xfX9_act v1 v2 v3 v4 v5 I er2 q j cq0 cq1 cq2 cq3 cq4 cq5 cq6 cq7 cq8 cq9 cq10 cq11 cq12).trans rfl
    obtain rfl := Option.some.inj h
    exact q1
  · obtain rfl := Option.some.inj h
    exact rfl
set_option maxRecDepth 100000 in
set_option maxHeartbeats 1000000 in
theorem xfX9_drawWay (I : gM) (J : gN) {r : gM × gN} (h : fX9_drawWay I J = some r) (q j : Nat) (cq0 : q ≠ 81) (cq1 : q ≠ 62 ∨ j ≠ 29) (cq2 : q ≠ 70) (cq3 : q ≠ 62 ∨ j ≠ 19) (cq4 : q ≠ 74) (cq5 : q ≠ 62 ∨ j ≠ 26) (cq6 : q ≠ 62 ∨ j ≠ 27) (cq7 : q ≠ 75) (cq8 : q ≠ 79) (cq9 : q ≠ 80) (cq10 : q ≠ 77) (cq11 : q ≠ 78) (cq12 : q ≠ 76) : r.1 q j = I q j := by
  unfold fX9_drawWay at h
  obtain ⟨r1, -, h⟩ := ob h
  rcases oi h with ⟨-, h⟩ | ⟨-, h⟩
  · obtain ⟨r2, -, h⟩ := ob h
    obtain ⟨r3, er3, h⟩ := ob h
    have q1 : r3 q j = _ := (xfX9_tryOne (3 : Int32) r2.1 (0 : Int32) (0 : Int32) (0 : Int32) I er3 q j cq0 cq1 cq2 cq3 cq4 cq5 cq6 cq7 cq8 cq9 cq10 cq11 cq12).trans rfl
    obtain rfl := Option.some.inj h
    exact q1
  · obtain ⟨r4, -, h⟩ := ob h
    rcases oi h with ⟨-, h⟩ | ⟨-, h⟩
    · rcases oi h with ⟨-, h⟩ | ⟨-, h⟩
      · obtain ⟨r5, er5, h⟩ := ob h
        have q2 : r5 q j = _ := (xfX9_tryOne (2 : Int32) r4.1 (0 : Int32) (0 : Int32) (0 : Int32) I er5 q j cq0 cq1 cq2 cq3 cq4 cq5 cq6 cq7 cq8 cq9 cq10 cq11 cq12).trans rfl
        obtain rfl := Option.some.inj h
        exact q2
      · obtain ⟨r6, -, h⟩ := ob h
        obtain ⟨r7, -, h⟩ := ob h
        rcases oi h with ⟨-, h⟩ | ⟨-, h⟩
        · obtain rfl := Option.some.inj h
          exact rfl
        · obtain ⟨r8, -, h⟩ := ob h
          obtain ⟨u9, -, h⟩ := ob h
          obtain ⟨u10, -, h⟩ := ob h
          obtain ⟨u11, -, h⟩ := ob h
          obtain ⟨r12, er12, h⟩ := ob h
          have q3 : r12 q j = _ := (xfX9_tryOne (1 : Int32) r4.1 u9 u10 u11 I er12 q j cq0 cq1 cq2 cq3 cq4 cq5 cq6 cq7 cq8 cq9 cq10 cq11 cq12).trans rfl
          obtain rfl := Option.some.inj h
          exact q3
    · obtain ⟨r13, -, h⟩ := ob h
      obtain ⟨u14, -, h⟩ := ob h
      rcases oi h with ⟨-, h⟩ | ⟨-, h⟩
      · unfold bX9_drawWay_69 at h
        obtain ⟨u15, -, h⟩ := ob h
        rcases oi h with ⟨-, h⟩ | ⟨-, h⟩
        · unfold bX9_drawWay_97 at h
          obtain ⟨r16, er16, h⟩ := ob h
          have q4 : r16 q j = _ := (xfX9_tryOne (0 : Int32) r4.1 r13.1 ((-1) : Int32) ((-1) : Int32) I er16 q j cq0 cq1 cq2 cq3 cq4 cq5 cq6 cq7 cq8 cq9 cq10 cq11 cq12).trans rfl
          obtain rfl := Option.some.inj h
          exact q4
        · obtain ⟨r17, -, h⟩ := ob h
          unfold bX9_drawWay_97 at h
          obtain ⟨r16, er16, h⟩ := ob h
          have q5 : r16 q j = _ := (xfX9_tryOne (0 : Int32) r4.1 r13.1 ((-1) : Int32) r17.1 I er16 q j cq0 cq1 cq2 cq3 cq4 cq5 cq6 cq7 cq8 cq9 cq10 cq11 cq12).trans rfl
          obtain rfl := Option.some.inj h
          exact q5
      · obtain ⟨r18, -, h⟩ := ob h
        unfold bX9_drawWay_69 at h
        obtain ⟨u15, -, h⟩ := ob h
        rcases oi h with ⟨-, h⟩ | ⟨-, h⟩
        · unfold bX9_drawWay_97 at h
          obtain ⟨r16, er16, h⟩ := ob h
          have q6 : r16 q j = _ := (xfX9_tryOne (0 : Int32) r4.1 r13.1 r18.1 ((-1) : Int32) I er16 q j cq0 cq1 cq2 cq3 cq4 cq5 cq6 cq7 cq8 cq9 cq10 cq11 cq12).trans rfl
          obtain rfl := Option.some.inj h
          exact q6
        · obtain ⟨r17, -, h⟩ := ob h
          unfold bX9_drawWay_97 at h
          obtain ⟨r16, er16, h⟩ := ob h
          have q7 : r16 q j = _ := (xfX9_tryOne (0 : Int32) r4.1 r13.1 r18.1 r17.1 I er16 q j cq0 cq1 cq2 cq3 cq4 cq5 cq6 cq7 cq8 cq9 cq10 cq11 cq12).trans rfl
          obtain rfl := Option.some.inj h
          exact q7
set_option maxRecDepth 100000 in
set_option maxHeartbeats 1000000 in
theorem xlX9_ways_27 (v1 : Int32) (s : (Int32 × gM × gN)) {r : gM × gN} (h : lX9_ways_27 v1 s = some r) (q j : Nat) (cq0 : q ≠ 81) (cq1 : q ≠ 62 ∨ j ≠ 29) (cq2 : q ≠ 70) (cq3 : q ≠ 62 ∨ j ≠ 19) (cq4 : q ≠ 74) (cq5 : q ≠ 62 ∨ j ≠ 26) (cq6 : q ≠ 62 ∨ j ≠ 27) (cq7 : q ≠ 75) (cq8 : q ≠ 79) (cq9 : q ≠ 80) (cq10 : q ≠ 77) (cq11 : q ≠ 78) (cq12 : q ≠ 76) : r.1 q j = s.2.1 q j := by
  unfold lX9_ways_27 at h
  revert s
  refine itO_ind (P := fun s : (Int32 × gM × gN) => r.1 q j = s.2.1 q j) (fun s y h hl hr => ?_)
  rcases oi h with ⟨-, h⟩ | ⟨-, h⟩
  · obtain rfl := Option.some.inj h
    have hh := hr _ rfl
    subst hh
    exact rfl
  · obtain ⟨r4, er4, h⟩ := ob h
    have q1 : r4.1 q j = _ := (xfX9_drawWay s.2.1 s.2.2 er4 q j cq0 cq1 cq2 cq3 cq4 cq5 cq6 cq7 cq8 cq9 cq10 cq11 cq12).trans rfl
    obtain rfl := Option.some.inj h
    exact (hl _ rfl).trans q1
set_option maxRecDepth 100000 in
set_option maxHeartbeats 1000000 in
theorem xfX9_ways (v1 : Int32) (v2 : Int64) (I : gM) (J : gN) {r : Int32 × gM × gN} (h : fX9_ways v1 v2 I J = some r) (q j : Nat) (cq0 : q ≠ 81) (cq1 : q ≠ 62 ∨ j ≠ 29) (cq2 : q ≠ 70) (cq3 : q ≠ 62 ∨ j ≠ 19) (cq4 : q ≠ 74) (cq5 : q ≠ 62 ∨ j ≠ 26) (cq6 : q ≠ 62 ∨ j ≠ 27) (cq7 : q ≠ 75) (cq8 : q ≠ 79) (cq9 : q ≠ 80) (cq10 : q ≠ 77) (cq11 : q ≠ 78) (cq12 : q ≠ 76) : r.2.1 q j = I q j := by
  unfold fX9_ways at h
  obtain ⟨r1, -, h⟩ := ob h
  rcases oi h with ⟨-, h⟩ | ⟨-, h⟩
  · obtain rfl := Option.some.inj h
    exact rfl
  · obtain ⟨r2, -, h⟩ := ob h
    rcases oi h with ⟨-, h⟩ | ⟨-, h⟩
    · obtain rfl := Option.some.inj h
      exact rfl
    · obtain ⟨J3, -, h⟩ := ob h
      obtain ⟨w5, ew5, h⟩ := ob h
      have q1 : w5.1 q j = _ := (xlX9_ways_27 v1 ((0 : Int32), I, J3) ew5 q j cq0 cq1 cq2 cq3 cq4 cq5 cq6 cq7 cq8 cq9 cq10 cq11 cq12).trans rfl
      obtain ⟨r6, er6, h⟩ := ob h
      have q2 : r6.2 q j = _ := (xfX9_rowsNow w5.1 er6 q j cq3 cq4 cq5 cq6 cq7 cq8 cq9 cq10 cq11 cq12).trans q1
      obtain rfl := Option.some.inj h
      exact q2
set_option maxRecDepth 100000 in
set_option maxHeartbeats 1000000 in
theorem xlX9_undo_21  (s : (Int32 × gM)) {r : gM} (h : lX9_undo_21 s = some r) (q j : Nat) (cq0 : q ≠ 70) : r q j = s.2 q j := by
  unfold lX9_undo_21 at h
  revert s
  refine itO_ind (P := fun s : (Int32 × gM) => r q j = s.2 q j) (fun s y h hl hr => ?_)
  rcases oi h with ⟨-, h⟩ | ⟨-, h⟩
  · obtain rfl := Option.some.inj h
    have hh := hr _ rfl
    subst hh
    exact rfl
  · obtain ⟨u2, -, h⟩ := ob h
    obtain ⟨I3, eI3, h⟩ := ob h
    have q1 : I3 q j = _ := (by rw [← (wI_some eI3).2.2]; exact g_up_ne (Or.inl cq0) : I3 q j = s.2 q j).trans rfl
    obtain rfl := Option.some.inj h
    exact (hl _ rfl).trans q1
set_option maxRecDepth 100000 in
set_option maxHeartbeats 1000000 in
theorem xfX9_undo (I : gM) {r : Int32 × gM} (h : fX9_undo I = some r) (q j : Nat) (cq0 : q ≠ 62 ∨ j ≠ 29) (cq1 : q ≠ 70) : r.2 q j = I q j := by
  unfold fX9_undo at h
  rcases oi h with ⟨-, h⟩ | ⟨-, h⟩
  · obtain rfl := Option.some.inj h
    exact rfl
  · obtain ⟨I1, eI1, h⟩ := ob h
    have q1 : I1 q j = _ := (by rw [← pU_some eI1]; exact g_up_ne cq0 : I1 q j = I q j).trans rfl
    obtain ⟨w4, ew4, h⟩ := ob h
    have q2 : w4 q j = _ := (xlX9_undo_21 ((0 : Int32), I1) ew4 q j cq1).trans q1
    obtain rfl := Option.some.inj h
    exact q2
set_option maxRecDepth 100000 in
set_option maxHeartbeats 1000000 in
theorem xfX9_table (v1 : Int32) (v2 : Int32) (I : gM) {r : Int32 × gM} (h : fX9_table v1 v2 I = some r) (q j : Nat) (cq0 : q ≠ 62 ∨ j ≠ 0) : r.2 q j = I q j := by
  unfold fX9_table at h
  obtain ⟨r1, -, h⟩ := ob h
  rcases oi h with ⟨-, h⟩ | ⟨-, h⟩
  · unfold bX9_table_22 at h
    unfold bX9_table_23 at h
    obtain ⟨I2, eI2, h⟩ := ob h
    have q1 : I2 q j = _ := (by rw [← pU_some eI2]; exact g_up_ne cq0 : I2 q j = I q j).trans rfl
    rcases oi h with ⟨-, h⟩ | ⟨-, h⟩
    · obtain rfl := Option.some.inj h
      exact q1
    · rcases oi h with ⟨-, h⟩ | ⟨-, h⟩
      · obtain ⟨u3, -, h⟩ := ob h
        obtain rfl := Option.some.inj h
        exact q1
      · rcases oi h with ⟨-, h⟩ | ⟨-, h⟩
        · obtain ⟨r4, -, h⟩ := ob h
          obtain rfl := Option.some.inj h
          exact q1
        · rcases oi h with ⟨-, h⟩ | ⟨-, h⟩
          · obtain ⟨r5, -, h⟩ := ob h
            obtain rfl := Option.some.inj h
            exact q1
          · obtain ⟨r6, -, h⟩ := ob h
            rcases oi h with ⟨-, h⟩ | ⟨-, h⟩
            · obtain rfl := Option.some.inj h
              exact q1
            · obtain rfl := Option.some.inj h
              exact q1
  · obtain ⟨r7, -, h⟩ := ob h
    rcases oi h with ⟨-, h⟩ | ⟨-, h⟩
    · unfold bX9_table_22 at h
      unfold bX9_table_23 at h
      obtain ⟨I2, eI2, h⟩ := ob h
      have q2 : I2 q j = _ := (by rw [← pU_some eI2]; exact g_up_ne cq0 : I2 q j = I q j).trans rfl
      rcases oi h with ⟨-, h⟩ | ⟨-, h⟩
      · obtain rfl := Option.some.inj h
        exact q2
      · rcases oi h with ⟨-, h⟩ | ⟨-, h⟩
        · obtain ⟨u3, -, h⟩ := ob h
          obtain rfl := Option.some.inj h
          exact q2
        · rcases oi h with ⟨-, h⟩ | ⟨-, h⟩
          · obtain ⟨r4, -, h⟩ := ob h
            obtain rfl := Option.some.inj h
            exact q2
          · rcases oi h with ⟨-, h⟩ | ⟨-, h⟩
            · obtain ⟨r5, -, h⟩ := ob h
              obtain rfl := Option.some.inj h
              exact q2
            · obtain ⟨r6, -, h⟩ := ob h
              rcases oi h with ⟨-, h⟩ | ⟨-, h⟩
              · obtain rfl := Option.some.inj h
                exact q2
              · obtain rfl := Option.some.inj h
                exact q2
    · unfold bX9_table_23 at h
      obtain ⟨I2, eI2, h⟩ := ob h
      have q3 : I2 q j = _ := (by rw [← pU_some eI2]; exact g_up_ne cq0 : I2 q j = I q j).trans rfl
      rcases oi h with ⟨-, h⟩ | ⟨-, h⟩
      · obtain rfl := Option.some.inj h
        exact q3
      · rcases oi h with ⟨-, h⟩ | ⟨-, h⟩
        · obtain ⟨u3, -, h⟩ := ob h
          obtain rfl := Option.some.inj h
          exact q3
        · rcases oi h with ⟨-, h⟩ | ⟨-, h⟩
          · obtain ⟨r4, -, h⟩ := ob h
            obtain rfl := Option.some.inj h
            exact q3
          · rcases oi h with ⟨-, h⟩ | ⟨-, h⟩
            · obtain ⟨r5, -, h⟩ := ob h
              obtain rfl := Option.some.inj h
              exact q3
            · obtain ⟨r6, -, h⟩ := ob h
              rcases oi h with ⟨-, h⟩ | ⟨-, h⟩
              · obtain rfl := Option.some.inj h
                exact q3
              · obtain rfl := Option.some.inj h
                exact q3
set_option maxRecDepth 100000 in
set_option maxHeartbeats 1000000 in
theorem xfX9_rows (I : gM) {r : Int32 × gM} (h : fX9_rows I = some r) (q j : Nat) (cq0 : q ≠ 62 ∨ j ≠ 19) (cq1 : q ≠ 74) (cq2 : q ≠ 62 ∨ j ≠ 26) (cq3 : q ≠ 62 ∨ j ≠ 27) (cq4 : q ≠ 75) (cq5 : q ≠ 79) (cq6 : q ≠ 80) (cq7 : q ≠ 77) (cq8 : q ≠ 78) (cq9 : q ≠ 76) : r.2 q j = I q j := by
  unfold fX9_rows at h
  obtain ⟨r1, -, h⟩ := ob h
  rcases oi h with ⟨-, h⟩ | ⟨-, h⟩
  · obtain rfl := Option.some.inj h
    exact rfl
  · obtain ⟨r2, er2, h⟩ := ob h
    have q1 : r2.2 q j = _ := (xfX9_rowsNow I er2 q j cq0 cq1 cq2 cq3 cq4 cq5 cq6 cq7 cq8 cq9).trans rfl
    obtain rfl := Option.some.inj h
    exact q1
set_option maxRecDepth 100000 in
set_option maxHeartbeats 1000000 in
theorem xfX9_row (v1 : Int32) (v2 : Int32) (I : gM) {r : Int32 × gM} (h : fX9_row v1 v2 I = some r) (q j : Nat) (cq0 : q ≠ 62 ∨ j ≠ 19) (cq1 : q ≠ 74) (cq2 : q ≠ 62 ∨ j ≠ 26) (cq3 : q ≠ 62 ∨ j ≠ 27) (cq4 : q ≠ 75) (cq5 : q ≠ 79) (cq6 : q ≠ 80) (cq7 : q ≠ 77) (cq8 : q ≠ 78) (cq9 : q ≠ 76) : r.2 q j = I q j := by
  unfold fX9_row at h
  obtain ⟨r1, -, h⟩ := ob h
  rcases oi h with ⟨-, h⟩ | ⟨-, h⟩
  · obtain rfl := Option.some.inj h
    exact rfl
  · rcases oi h with ⟨-, h⟩ | ⟨-, h⟩
    · obtain rfl := Option.some.inj h
      exact rfl
    · obtain ⟨r2, er2, h⟩ := ob h
      have q1 : r2.2 q j = _ := (xfX9_rowsNow I er2 q j cq0 cq1 cq2 cq3 cq4 cq5 cq6 cq7 cq8 cq9).trans rfl
      rcases oi h with ⟨-, h⟩ | ⟨-, h⟩
      · obtain rfl := Option.some.inj h
        exact q1
      · obtain ⟨r3, -, h⟩ := ob h
        obtain rfl := Option.some.inj h
        exact q1
set_option maxRecDepth 100000 in
set_option maxHeartbeats 1000000 in
theorem xfX9_leaps_ (I : gM) {r : Int32 × gM} (h : fX9_leaps_ I = some r) (q j : Nat) (cq0 : q ≠ 62 ∨ j ≠ 19) (cq1 : q ≠ 74) (cq2 : q ≠ 62 ∨ j ≠ 26) (cq3 : q ≠ 62 ∨ j ≠ 27) (cq4 : q ≠ 75) (cq5 : q ≠ 79) (cq6 : q ≠ 80) (cq7 : q ≠ 77) (cq8 : q ≠ 78) (cq9 : q ≠ 76) : r.2 q j = I q j := by
  unfold fX9_leaps_ at h
  obtain ⟨r1, -, h⟩ := ob h
  rcases oi h with ⟨-, h⟩ | ⟨-, h⟩
  · obtain rfl := Option.some.inj h
    exact rfl
  · obtain ⟨r2, er2, h⟩ := ob h
    have q1 : r2 q j = _ := (xfX9_joinsNow I er2 q j cq0 cq1 cq2 cq3 cq4 cq5 cq6 cq7 cq8 cq9).trans rfl
    obtain rfl := Option.some.inj h
    exact q1
set_option maxRecDepth 100000 in
set_option maxHeartbeats 1000000 in
theorem xfX9_beginnings (v1 : Int32) (I : gM) {r : Int32 × gM} (h : fX9_beginnings v1 I = some r) (q j : Nat) (cq0 : q ≠ 62 ∨ j ≠ 19) (cq1 : q ≠ 74) (cq2 : q ≠ 62 ∨ j ≠ 26) (cq3 : q ≠ 62 ∨ j ≠ 27) (cq4 : q ≠ 75) (cq5 : q ≠ 79) (cq6 : q ≠ 80) (cq7 : q ≠ 77) (cq8 : q ≠ 78) (cq9 : q ≠ 76) : r.2 q j = I q j := by
  unfold fX9_beginnings at h
  obtain ⟨r1, -, h⟩ := ob h
  rcases oi h with ⟨-, h⟩ | ⟨-, h⟩
  · obtain rfl := Option.some.inj h
    exact rfl
  · rcases oi h with ⟨-, h⟩ | ⟨-, h⟩
    · obtain ⟨r2, er2, h⟩ := ob h
      have q1 : r2 q j = _ := (xfX9_joinsNow I er2 q j cq0 cq1 cq2 cq3 cq4 cq5 cq6 cq7 cq8 cq9).trans rfl
      rcases oi h with ⟨-, h⟩ | ⟨-, h⟩
      · obtain rfl := Option.some.inj h
        exact q1
      · obtain ⟨u3, -, h⟩ := ob h
        obtain rfl := Option.some.inj h
        exact q1
    · obtain rfl := Option.some.inj h
      exact rfl
set_option maxRecDepth 100000 in
set_option maxHeartbeats 1000000 in
theorem xlX9_triesOrders_12  (s : (Int32 × gM)) {r : gM} (h : lX9_triesOrders_12 s = some r) (q j : Nat) (cq0 : q ≠ 62 ∨ j ≠ 19) (cq1 : q ≠ 74) (cq2 : q ≠ 62 ∨ j ≠ 26) (cq3 : q ≠ 62 ∨ j ≠ 27) (cq4 : q ≠ 75) (cq5 : q ≠ 79) (cq6 : q ≠ 80) (cq7 : q ≠ 77) (cq8 : q ≠ 78) (cq9 : q ≠ 76) (cq10 : q ≠ 62 ∨ j ≠ 31) (cq11 : q ≠ 62 ∨ j ≠ 32) (cq12 : q ≠ 62 ∨ j ≠ 33) : r q j = s.2 q j := by
  unfold lX9_triesOrders_12 at h
  revert s
  refine itO_ind (P := fun s : (Int32 × gM) => r q j = s.2 q j) (fun s y h hl hr => ?_)
  rcases oi h with ⟨-, h⟩ | ⟨-, h⟩
  · obtain rfl := Option.some.inj h
    have hh := hr _ rfl
    subst hh
    exact rfl
  · obtain ⟨r3, er3, h⟩ := ob h
    have q1 : r3 q j = _ := (xfX9_joins s.1 s.2 er3 q j cq0 cq1 cq2 cq3 cq4 cq5 cq6 cq7 cq8 cq9).trans rfl
    rcases oi h with ⟨-, h⟩ | ⟨-, h⟩
    · unfold bX9_triesOrders_42 at h
      obtain ⟨I4, eI4, h⟩ := ob h
      have q2 : I4 q j = _ := (by rw [← pU_some eI4]; exact g_up_ne cq10 : I4 q j = r3 q j).trans q1
      obtain ⟨I5, eI5, h⟩ := ob h
      have q3 : I5 q j = _ := (by rw [← pU_some eI5]; exact g_up_ne cq11 : I5 q j = I4 q j).trans q2
      unfold bX9_triesOrders_55 at h
      obtain ⟨I6, eI6, h⟩ := ob h
      have q4 : I6 q j = _ := (by rw [← pU_some eI6]; exact g_up_ne cq12 : I6 q j = I5 q j).trans q3
      obtain rfl := Option.some.inj h
      exact (hl _ rfl).trans q4
    · rcases oi h with ⟨-, h⟩ | ⟨-, h⟩
      · unfold bX9_triesOrders_55 at h
        obtain ⟨I6, eI6, h⟩ := ob h
        have q5 : I6 q j = _ := (by rw [← pU_some eI6]; exact g_up_ne cq12 : I6 q j = r3 q j).trans q1
        obtain rfl := Option.some.inj h
        exact (hl _ rfl).trans q5
      · unfold bX9_triesOrders_42 at h
        obtain ⟨I4, eI4, h⟩ := ob h
        have q6 : I4 q j = _ := (by rw [← pU_some eI4]; exact g_up_ne cq10 : I4 q j = r3 q j).trans q1
        obtain ⟨I5, eI5, h⟩ := ob h
        have q7 : I5 q j = _ := (by rw [← pU_some eI5]; exact g_up_ne cq11 : I5 q j = I4 q j).trans q6
        unfold bX9_triesOrders_55 at h
        obtain ⟨I6, eI6, h⟩ := ob h
        have q8 : I6 q j = _ := (by rw [← pU_some eI6]; exact g_up_ne cq12 : I6 q j = I5 q j).trans q7
        obtain rfl := Option.some.inj h
        exact (hl _ rfl).trans q8
set_option maxRecDepth 100000 in
set_option maxHeartbeats 1000000 in
theorem xfX9_triesOrders (I : gM) {r : gM} (h : fX9_triesOrders I = some r) (q j : Nat) (cq0 : q ≠ 62 ∨ j ≠ 31) (cq1 : q ≠ 62 ∨ j ≠ 33) (cq2 : q ≠ 62 ∨ j ≠ 19) (cq3 : q ≠ 74) (cq4 : q ≠ 62 ∨ j ≠ 26) (cq5 : q ≠ 62 ∨ j ≠ 27) (cq6 : q ≠ 75) (cq7 : q ≠ 79) (cq8 : q ≠ 80) (cq9 : q ≠ 77) (cq10 : q ≠ 78) (cq11 : q ≠ 76) (cq12 : q ≠ 62 ∨ j ≠ 32) : r q j = I q j := by
  unfold fX9_triesOrders at h
  obtain ⟨I1, eI1, h⟩ := ob h
  have q1 : I1 q j = _ := (by rw [← pU_some eI1]; exact g_up_ne cq0 : I1 q j = I q j).trans rfl
  obtain ⟨I2, eI2, h⟩ := ob h
  have q2 : I2 q j = _ := (by rw [← pU_some eI2]; exact g_up_ne cq1 : I2 q j = I1 q j).trans q1
  obtain ⟨w7, ew7, h⟩ := ob h
  have q3 : w7 q j = _ := (xlX9_triesOrders_12 ((0 : Int32), I2) ew7 q j cq2 cq3 cq4 cq5 cq6 cq7 cq8 cq9 cq10 cq11 cq0 cq12 cq1).trans q2
  obtain rfl := Option.some.inj h
  exact q3
set_option maxRecDepth 100000 in
set_option maxHeartbeats 1000000 in
theorem xfX9_best (v1 : Int32) (I : gM) {r : Int32 × gM} (h : fX9_best v1 I = some r) (q j : Nat) (cq0 : q ≠ 62 ∨ j ≠ 31) (cq1 : q ≠ 62 ∨ j ≠ 33) (cq2 : q ≠ 62 ∨ j ≠ 19) (cq3 : q ≠ 74) (cq4 : q ≠ 62 ∨ j ≠ 26) (cq5 : q ≠ 62 ∨ j ≠ 27) (cq6 : q ≠ 75) (cq7 : q ≠ 79) (cq8 : q ≠ 80) (cq9 : q ≠ 77) (cq10 : q ≠ 78) (cq11 : q ≠ 76) (cq12 : q ≠ 62 ∨ j ≠ 32) : r.2 q j = I q j := by
  unfold fX9_best at h
  obtain ⟨r1, -, h⟩ := ob h
  rcases oi h with ⟨-, h⟩ | ⟨-, h⟩
  · obtain rfl := Option.some.inj h
    exact rfl
  · obtain ⟨r2, -, h⟩ := ob h
    rcases oi h with ⟨-, h⟩ | ⟨-, h⟩
    · obtain rfl := Option.some.inj h
      exact rfl
    · obtain ⟨r3, er3, h⟩ := ob h
      have q1 : r3 q j = _ := (xfX9_triesOrders I er3 q j cq0 cq1 cq2 cq3 cq4 cq5 cq6 cq7 cq8 cq9 cq10 cq11 cq12).trans rfl
      rcases oi h with ⟨-, h⟩ | ⟨-, h⟩
      · obtain rfl := Option.some.inj h
        exact q1
      · obtain rfl := Option.some.inj h
        exact q1
set_option maxRecDepth 100000 in
set_option maxHeartbeats 1000000 in
theorem xfX9_given (v1 : Int32) (I : gM) {r : Int32 × gM} (h : fX9_given v1 I = some r) (q j : Nat) (cq0 : q ≠ 62 ∨ j ≠ 19) (cq1 : q ≠ 74) (cq2 : q ≠ 62 ∨ j ≠ 26) (cq3 : q ≠ 62 ∨ j ≠ 27) (cq4 : q ≠ 75) (cq5 : q ≠ 79) (cq6 : q ≠ 80) (cq7 : q ≠ 77) (cq8 : q ≠ 78) (cq9 : q ≠ 76) : r.2 q j = I q j := by
  unfold fX9_given at h
  obtain ⟨r1, -, h⟩ := ob h
  rcases oi h with ⟨-, h⟩ | ⟨-, h⟩
  · obtain rfl := Option.some.inj h
    exact rfl
  · obtain ⟨r2, er2, h⟩ := ob h
    have q1 : r2 q j = _ := (xfX9_joinsNow I er2 q j cq0 cq1 cq2 cq3 cq4 cq5 cq6 cq7 cq8 cq9).trans rfl
    obtain ⟨r3, -, h⟩ := ob h
    obtain rfl := Option.some.inj h
    exact q1
set_option maxRecDepth 100000 in
set_option maxHeartbeats 1000000 in
theorem xfX9_without (v1 : Int32) (I : gM) {r : Int32 × gM} (h : fX9_without v1 I = some r) (q j : Nat) (cq0 : q ≠ 70) (cq1 : q ≠ 62 ∨ j ≠ 19) (cq2 : q ≠ 74) (cq3 : q ≠ 62 ∨ j ≠ 26) (cq4 : q ≠ 62 ∨ j ≠ 27) (cq5 : q ≠ 75) (cq6 : q ≠ 79) (cq7 : q ≠ 80) (cq8 : q ≠ 77) (cq9 : q ≠ 78) (cq10 : q ≠ 76) : r.2 q j = I q j := by
  unfold fX9_without at h
  obtain ⟨r1, -, h⟩ := ob h
  rcases oi h with ⟨-, h⟩ | ⟨-, h⟩
  · obtain rfl := Option.some.inj h
    exact rfl
  · obtain ⟨u2, -, h⟩ := ob h
    rcases oi h with ⟨-, h⟩ | ⟨-, h⟩
    · obtain rfl := Option.some.inj h
      exact rfl
    · obtain ⟨u3, -, h⟩ := ob h
      obtain ⟨u4, -, h⟩ := ob h
      obtain ⟨I5, eI5, h⟩ := ob h
      have q1 : I5 q j = _ := (by rw [← (wI_some eI5).2.2]; exact g_up_ne (Or.inl cq0) : I5 q j = I q j).trans rfl
      obtain ⟨r6, er6, h⟩ := ob h
      have q2 : r6.2 q j = _ := (xfX9_rowsNow I5 er6 q j cq1 cq2 cq3 cq4 cq5 cq6 cq7 cq8 cq9 cq10).trans q1
      obtain ⟨I7, eI7, h⟩ := ob h
      have q3 : I7 q j = _ := (by rw [← (wI_some eI7).2.2]; exact g_up_ne (Or.inl cq0) : I7 q j = r6.2 q j).trans q2
      obtain rfl := Option.some.inj h
      exact q3
set_option maxRecDepth 100000 in
set_option maxHeartbeats 1000000 in
theorem xlX9_counts_6  (s : (Int32 × gM)) {r : gM} (h : lX9_counts_6 s = some r) (q j : Nat) (cq0 : q ≠ 82) : r q j = s.2 q j := by
  unfold lX9_counts_6 at h
  revert s
  refine itO_ind (P := fun s : (Int32 × gM) => r q j = s.2 q j) (fun s y h hl hr => ?_)
  rcases oi h with ⟨-, h⟩ | ⟨-, h⟩
  · obtain rfl := Option.some.inj h
    have hh := hr _ rfl
    subst hh
    exact rfl
  · obtain ⟨I2, eI2, h⟩ := ob h
    have q1 : I2 q j = _ := (by rw [← (wI_some eI2).2.2]; exact g_up_ne (Or.inl cq0) : I2 q j = s.2 q j).trans rfl
    obtain rfl := Option.some.inj h
    exact (hl _ rfl).trans q1
set_option maxRecDepth 100000 in
set_option maxHeartbeats 1000000 in
theorem xlX9_counts_38 (v1 : Int32) (s : (Int32 × gM)) {r : gM} (h : lX9_counts_38 v1 s = some r) (q j : Nat) (cq0 : q ≠ 82) : r q j = s.2 q j := by
  unfold lX9_counts_38 at h
  revert s
  refine itO_ind (P := fun s : (Int32 × gM) => r q j = s.2 q j) (fun s y h hl hr => ?_)
  rcases oi h with ⟨-, h⟩ | ⟨-, h⟩
  · obtain rfl := Option.some.inj h
    have hh := hr _ rfl
    subst hh
    exact rfl
  · obtain ⟨r4, -, h⟩ := ob h
    obtain ⟨u5, -, h⟩ := ob h
    obtain ⟨I6, eI6, h⟩ := ob h
    have q1 : I6 q j = _ := (by rw [← (wI_some eI6).2.2]; exact g_up_ne (Or.inl cq0) : I6 q j = s.2 q j).trans rfl
    obtain rfl := Option.some.inj h
    exact (hl _ rfl).trans q1
set_option maxRecDepth 100000 in
set_option maxHeartbeats 1000000 in
theorem xlX9_counts_28  (s : (Int32 × gM)) {r : gM} (h : lX9_counts_28 s = some r) (q j : Nat) (cq0 : q ≠ 82) : r q j = s.2 q j := by
  unfold lX9_counts_28 at h
  revert s
  refine itO_ind (P := fun s : (Int32 × gM) => r q j = s.2 q j) (fun s y h hl hr => ?_)
  rcases oi h with ⟨-, h⟩ | ⟨-, h⟩
  · obtain rfl := Option.some.inj h
    have hh := hr _ rfl
    subst hh
    exact rfl
  · obtain ⟨w7, ew7, h⟩ := ob h
    have q1 : w7 q j = _ := (xlX9_counts_38 s.1 ((0 : Int32), s.2) ew7 q j cq0).trans rfl
    obtain rfl := Option.some.inj h
    exact (hl _ rfl).trans q1
set_option maxRecDepth 100000 in
set_option maxHeartbeats 1000000 in
theorem xlX9_counts_95 (v1 : Int32) (s : (Int32 × gM)) {r : gM} (h : lX9_counts_95 v1 s = some r) (q j : Nat) (cq0 : q ≠ 83) (cq1 : q ≠ 84) : r q j = s.2 q j := by
  unfold lX9_counts_95 at h
  revert s
  refine itO_ind (P := fun s : (Int32 × gM) => r q j = s.2 q j) (fun s y h hl hr => ?_)
  rcases oi h with ⟨-, h⟩ | ⟨-, h⟩
  · obtain rfl := Option.some.inj h
    have hh := hr _ rfl
    subst hh
    exact rfl
  · obtain ⟨u10, -, h⟩ := ob h
    obtain ⟨I11, eI11, h⟩ := ob h
    have q1 : I11 q j = _ := (by rw [← (wI_some eI11).2.2]; exact g_up_ne (Or.inl cq0) : I11 q j = s.2 q j).trans rfl
    obtain ⟨u12, -, h⟩ := ob h
    obtain ⟨u13, -, h⟩ := ob h
    rcases oi h with ⟨-, h⟩ | ⟨-, h⟩
    · unfold bX9_counts_144 at h
      obtain ⟨I14, eI14, h⟩ := ob h
      have q2 : I14 q j = _ := (by rw [← (wI_some eI14).2.2]; exact g_up_ne (Or.inl cq1) : I14 q j = I11 q j).trans q1
      obtain rfl := Option.some.inj h
      exact (hl _ rfl).trans q2
    · unfold bX9_counts_144 at h
      obtain ⟨I14, eI14, h⟩ := ob h
      have q3 : I14 q j = _ := (by rw [← (wI_some eI14).2.2]; exact g_up_ne (Or.inl cq1) : I14 q j = I11 q j).trans q1
      obtain rfl := Option.some.inj h
      exact (hl _ rfl).trans q3
set_option maxRecDepth 100000 in
set_option maxHeartbeats 1000000 in
theorem xlX9_counts_81  (s : (Int32 × gM)) {r : gM} (h : lX9_counts_81 s = some r) (q j : Nat) (cq0 : q ≠ 84) (cq1 : q ≠ 83) : r q j = s.2 q j := by
  unfold lX9_counts_81 at h
  revert s
  refine itO_ind (P := fun s : (Int32 × gM) => r q j = s.2 q j) (fun s y h hl hr => ?_)
  rcases oi h with ⟨-, h⟩ | ⟨-, h⟩
  · obtain rfl := Option.some.inj h
    have hh := hr _ rfl
    subst hh
    exact rfl
  · obtain ⟨I9, eI9, h⟩ := ob h
    have q1 : I9 q j = _ := (by rw [← (wI_some eI9).2.2]; exact g_up_ne (Or.inl cq0) : I9 q j = s.2 q j).trans rfl
    obtain ⟨w15, ew15, h⟩ := ob h
    have q2 : w15 q j = _ := (xlX9_counts_95 s.1 ((0 : Int32), I9) ew15 q j cq1 cq0).trans q1
    obtain rfl := Option.some.inj h
    exact (hl _ rfl).trans q2
set_option maxRecDepth 100000 in
set_option maxHeartbeats 1000000 in
theorem xfX9_counts (I : gM) {r : gM} (h : fX9_counts I = some r) (q j : Nat) (cq0 : q ≠ 62 ∨ j ≠ 19) (cq1 : q ≠ 74) (cq2 : q ≠ 62 ∨ j ≠ 26) (cq3 : q ≠ 62 ∨ j ≠ 27) (cq4 : q ≠ 75) (cq5 : q ≠ 79) (cq6 : q ≠ 80) (cq7 : q ≠ 77) (cq8 : q ≠ 78) (cq9 : q ≠ 76) (cq10 : q ≠ 82) (cq11 : q ≠ 84) (cq12 : q ≠ 83) : r q j = I q j := by
  unfold fX9_counts at h
  obtain ⟨r1, er1, h⟩ := ob h
  have q1 : r1 q j = _ := (xfX9_joinsNow I er1 q j cq0 cq1 cq2 cq3 cq4 cq5 cq6 cq7 cq8 cq9).trans rfl
  obtain ⟨w3, ew3, h⟩ := ob h
  have q2 : w3 q j = _ := (xlX9_counts_6 ((0 : Int32), r1) ew3 q j cq10).trans q1
  obtain ⟨w8, ew8, h⟩ := ob h
  have q3 : w8 q j = _ := (xlX9_counts_28 ((0 : Int32), w3) ew8 q j cq10).trans q2
  obtain ⟨w16, ew16, h⟩ := ob h
  have q4 : w16 q j = _ := (xlX9_counts_81 ((0 : Int32), w8) ew16 q j cq11 cq12).trans q3
  obtain rfl := Option.some.inj h
  exact q4
set_option maxRecDepth 100000 in
set_option maxHeartbeats 1000000 in
theorem xlX9_projected_36  (s : (Int32 × gM)) {r : gM} (h : lX9_projected_36 s = some r) (q j : Nat) (cq0 : q ≠ 85) : r q j = s.2 q j := by
  unfold lX9_projected_36 at h
  revert s
  refine itO_ind (P := fun s : (Int32 × gM) => r q j = s.2 q j) (fun s y h hl hr => ?_)
  rcases oi h with ⟨-, h⟩ | ⟨-, h⟩
  · obtain rfl := Option.some.inj h
    have hh := hr _ rfl
    subst hh
    exact rfl
  · obtain ⟨I5, eI5, h⟩ := ob h
    have q1 : I5 q j = _ := (by rw [← (wI_some eI5).2.2]; exact g_up_ne (Or.inl cq0) : I5 q j = s.2 q j).trans rfl
    obtain rfl := Option.some.inj h
    exact (hl _ rfl).trans q1
set_option maxRecDepth 100000 in
set_option maxHeartbeats 1000000 in
theorem xlX9_projected_60 (v1 : Int32) (s : (Int32 × Int32 × gM)) {r : Int32 × gM} (h : lX9_projected_60 v1 s = some r) (q j : Nat) (cq0 : q ≠ 85) : r.2 q j = s.2.2 q j := by
  unfold lX9_projected_60 at h
  revert s
  refine itO_ind (P := fun s : (Int32 × Int32 × gM) => r.2 q j = s.2.2 q j) (fun s y h hl hr => ?_)
  rcases oi h with ⟨-, h⟩ | ⟨-, h⟩
  · obtain rfl := Option.some.inj h
    have hh := hr _ rfl
    subst hh
    exact rfl
  · obtain ⟨w10, -, h⟩ := ob h
    obtain ⟨u11, -, h⟩ := ob h
    rcases oi h with ⟨-, h⟩ | ⟨-, h⟩
    · unfold bX9_projected_142 at h
      obtain ⟨I12, eI12, h⟩ := ob h
      have q1 : I12 q j = _ := (by rw [← (wI_some eI12).2.2]; exact g_up_ne (Or.inl cq0) : I12 q j = s.2.2 q j).trans rfl
      obtain rfl := Option.some.inj h
      exact (hl _ rfl).trans q1
    · unfold bX9_projected_142 at h
      obtain ⟨I12, eI12, h⟩ := ob h
      have q2 : I12 q j = _ := (by rw [← (wI_some eI12).2.2]; exact g_up_ne (Or.inl cq0) : I12 q j = s.2.2 q j).trans rfl
      obtain rfl := Option.some.inj h
      exact (hl _ rfl).trans q2
set_option maxRecDepth 100000 in
set_option maxHeartbeats 1000000 in
theorem xfX9_projected (v1 : Int32) (I : gM) {r : Int32 × gM} (h : fX9_projected v1 I = some r) (q j : Nat) (cq0 : q ≠ 62 ∨ j ≠ 19) (cq1 : q ≠ 74) (cq2 : q ≠ 62 ∨ j ≠ 26) (cq3 : q ≠ 62 ∨ j ≠ 27) (cq4 : q ≠ 75) (cq5 : q ≠ 79) (cq6 : q ≠ 80) (cq7 : q ≠ 77) (cq8 : q ≠ 78) (cq9 : q ≠ 76) (cq10 : q ≠ 82) (cq11 : q ≠ 84) (cq12 : q ≠ 83) (cq13 : q ≠ 85) : r.2 q j = I q j := by
  unfold fX9_projected at h
  obtain ⟨r1, -, h⟩ := ob h
  rcases oi h with ⟨-, h⟩ | ⟨-, h⟩
  · obtain rfl := Option.some.inj h
    exact rfl
  · obtain ⟨r2, -, h⟩ := ob h
    rcases oi h with ⟨-, h⟩ | ⟨-, h⟩
    · obtain rfl := Option.some.inj h
      exact rfl
    · obtain ⟨r3, -, h⟩ := ob h
      rcases oi h with ⟨-, h⟩ | ⟨-, h⟩
      · obtain ⟨r4, er4, h⟩ := ob h
        have q1 : r4 q j = _ := (xfX9_counts I er4 q j cq0 cq1 cq2 cq3 cq4 cq5 cq6 cq7 cq8 cq9 cq10 cq11 cq12).trans rfl
        obtain ⟨w6, ew6, h⟩ := ob h
        have q2 : w6 q j = _ := (xlX9_projected_36 ((0 : Int32), r4) ew6 q j cq13).trans q1
        obtain ⟨w13, ew13, h⟩ := ob h
        have q3 : w13.2 q j = _ := (xlX9_projected_60 v1 ((0 : Int32), (0 : Int32), w6) ew13 q j cq13).trans q2
        obtain rfl := Option.some.inj h
        exact q3
      · obtain rfl := Option.some.inj h
        exact rfl
set_option maxRecDepth 100000 in
set_option maxHeartbeats 1000000 in
theorem xfX9_times (v1 : Int32) (v2 : Int32) (I : gM) {r : Int32 × gM} (h : fX9_times v1 v2 I = some r) (q j : Nat) (cq0 : q ≠ 62 ∨ j ≠ 19) (cq1 : q ≠ 74) (cq2 : q ≠ 62 ∨ j ≠ 26) (cq3 : q ≠ 62 ∨ j ≠ 27) (cq4 : q ≠ 75) (cq5 : q ≠ 79) (cq6 : q ≠ 80) (cq7 : q ≠ 77) (cq8 : q ≠ 78) (cq9 : q ≠ 76) (cq10 : q ≠ 82) (cq11 : q ≠ 84) (cq12 : q ≠ 83) : r.2 q j = I q j := by
  unfold fX9_times at h
  obtain ⟨r1, -, h⟩ := ob h
  rcases oi h with ⟨-, h⟩ | ⟨-, h⟩
  · obtain rfl := Option.some.inj h
    exact rfl
  · obtain ⟨r2, er2, h⟩ := ob h
    have q1 : r2 q j = _ := (xfX9_counts I er2 q j cq0 cq1 cq2 cq3 cq4 cq5 cq6 cq7 cq8 cq9 cq10 cq11 cq12).trans rfl
    obtain ⟨r3, -, h⟩ := ob h
    rcases oi h with ⟨-, h⟩ | ⟨-, h⟩
    · obtain rfl := Option.some.inj h
      exact q1
    · obtain ⟨u4, -, h⟩ := ob h
      obtain rfl := Option.some.inj h
      exact q1
set_option maxRecDepth 100000 in
set_option maxHeartbeats 1000000 in
theorem xfX9_distinct (v1 : Int32) (v2 : Int32) (I : gM) {r : Int32 × gM} (h : fX9_distinct v1 v2 I = some r) (q j : Nat) (cq0 : q ≠ 62 ∨ j ≠ 19) (cq1 : q ≠ 74) (cq2 : q ≠ 62 ∨ j ≠ 26) (cq3 : q ≠ 62 ∨ j ≠ 27) (cq4 : q ≠ 75) (cq5 : q ≠ 79) (cq6 : q ≠ 80) (cq7 : q ≠ 77) (cq8 : q ≠ 78) (cq9 : q ≠ 76) (cq10 : q ≠ 82) (cq11 : q ≠ 84) (cq12 : q ≠ 83) : r.2 q j = I q j := by
  unfold fX9_distinct at h
  obtain ⟨r1, -, h⟩ := ob h
  rcases oi h with ⟨-, h⟩ | ⟨-, h⟩
  · obtain rfl := Option.some.inj h
    exact rfl
  · obtain ⟨r2, -, h⟩ := ob h
    rcases oi h with ⟨-, h⟩ | ⟨-, h⟩
    · obtain rfl := Option.some.inj h
      exact rfl
    · obtain ⟨r3, er3, h⟩ := ob h
      have q1 : r3 q j = _ := (xfX9_counts I er3 q j cq0 cq1 cq2 cq3 cq4 cq5 cq6 cq7 cq8 cq9 cq10 cq11 cq12).trans rfl
      rcases oi h with ⟨-, h⟩ | ⟨-, h⟩
      · obtain ⟨u4, -, h⟩ := ob h
        obtain rfl := Option.some.inj h
        exact q1
      · obtain ⟨r5, -, h⟩ := ob h
        obtain rfl := Option.some.inj h
        exact q1
set_option maxRecDepth 100000 in
set_option maxHeartbeats 1000000 in
theorem xlX9_isTold_2  (s : (Int32 × gM)) {r : gM} (h : lX9_isTold_2 s = some r) (q j : Nat) (cq0 : q ≠ 86) : r q j = s.2 q j := by
  unfold lX9_isTold_2 at h
  revert s
  refine itO_ind (P := fun s : (Int32 × gM) => r q j = s.2 q j) (fun s y h hl hr => ?_)
  rcases oi h with ⟨-, h⟩ | ⟨-, h⟩
  · obtain rfl := Option.some.inj h
    have hh := hr _ rfl
    subst hh
    exact rfl
  · obtain ⟨I1, eI1, h⟩ := ob h
    have q1 : I1 q j = _ := (by rw [← (wI_some eI1).2.2]; exact g_up_ne (Or.inl cq0) : I1 q j = s.2 q j).trans rfl
    obtain rfl := Option.some.inj h
    exact (hl _ rfl).trans q1
set_option maxRecDepth 100000 in
set_option maxHeartbeats 1000000 in
theorem xlX9_isTold_26 (v1 : Int32) (v2 : Int32) (s : (Int32 × Int32 × gM)) {r : Int32 × gM} (h : lX9_isTold_26 v1 v2 s = some r) (q j : Nat) (cq0 : q ≠ 86) : r.2 q j = s.2.2 q j := by
  unfold lX9_isTold_26 at h
  revert s
  refine itO_ind (P := fun s : (Int32 × Int32 × gM) => r.2 q j = s.2.2 q j) (fun s y h hl hr => ?_)
  rcases oi h with ⟨-, h⟩ | ⟨-, h⟩
  · obtain rfl := Option.some.inj h
    have hh := hr _ rfl
    subst hh
    exact rfl
  · obtain ⟨r3, -, h⟩ := ob h
    rcases oi h with ⟨-, h⟩ | ⟨-, h⟩
    · unfold bX9_isTold_80 at h
      unfold bX9_isTold_81 at h
      obtain ⟨r4, -, h⟩ := ob h
      obtain ⟨I5, eI5, h⟩ := ob h
      have q1 : I5 q j = _ := (by rw [← (wI_some eI5).2.2]; exact g_up_ne (Or.inl cq0) : I5 q j = s.2.2 q j).trans rfl
      obtain rfl := Option.some.inj h
      exact (hl _ rfl).trans q1
    · obtain ⟨u6, -, h⟩ := ob h
      rcases oi h with ⟨-, h⟩ | ⟨-, h⟩
      · unfold bX9_isTold_76 at h
        unfold bX9_isTold_81 at h
        obtain ⟨r4, -, h⟩ := ob h
        obtain ⟨I5, eI5, h⟩ := ob h
        have q2 : I5 q j = _ := (by rw [← (wI_some eI5).2.2]; exact g_up_ne (Or.inl cq0) : I5 q j = s.2.2 q j).trans rfl
        obtain rfl := Option.some.inj h
        exact (hl _ rfl).trans q2
      · obtain ⟨u7, -, h⟩ := ob h
        obtain ⟨r8, -, h⟩ := ob h
        rcases oi h with ⟨-, h⟩ | ⟨-, h⟩
        · unfold bX9_isTold_76 at h
          unfold bX9_isTold_81 at h
          obtain ⟨r4, -, h⟩ := ob h
          obtain ⟨I5, eI5, h⟩ := ob h
          have q3 : I5 q j = _ := (by rw [← (wI_some eI5).2.2]; exact g_up_ne (Or.inl cq0) : I5 q j = s.2.2 q j).trans rfl
          obtain rfl := Option.some.inj h
          exact (hl _ rfl).trans q3
        · unfold bX9_isTold_80 at h
          unfold bX9_isTold_81 at h
          obtain ⟨r4, -, h⟩ := ob h
          obtain ⟨I5, eI5, h⟩ := ob h
          have q4 : I5 q j = _ := (by rw [← (wI_some eI5).2.2]; exact g_up_ne (Or.inl cq0) : I5 q j = s.2.2 q j).trans rfl
          obtain rfl := Option.some.inj h
          exact (hl _ rfl).trans q4
set_option maxRecDepth 100000 in
set_option maxHeartbeats 1000000 in
theorem xfX9_isTold (v1 : Int32) (v2 : Int32) (I : gM) {r : Int32 × gM} (h : fX9_isTold v1 v2 I = some r) (q j : Nat) (cq0 : q ≠ 86) : r.2 q j = I q j := by
  unfold fX9_isTold at h
  obtain ⟨w2, ew2, h⟩ := ob h
  have q1 : w2 q j = _ := (xlX9_isTold_2 ((0 : Int32), I) ew2 q j cq0).trans rfl
  obtain ⟨w9, ew9, h⟩ := ob h
  have q2 : w9.2 q j = _ := (xlX9_isTold_26 v1 v2 ((1 : Int32), (0 : Int32), w2) ew9 q j cq0).trans q1
  obtain ⟨u10, -, h⟩ := ob h
  obtain rfl := Option.some.inj h
  exact q2
set_option maxRecDepth 100000 in
set_option maxHeartbeats 1000000 in
theorem xfX9_tells (v1 : Int32) (v2 : Int32) (I : gM) {r : Int32 × gM} (h : fX9_tells v1 v2 I = some r) (q j : Nat) (cq0 : q ≠ 62 ∨ j ≠ 19) (cq1 : q ≠ 74) (cq2 : q ≠ 62 ∨ j ≠ 26) (cq3 : q ≠ 62 ∨ j ≠ 27) (cq4 : q ≠ 75) (cq5 : q ≠ 79) (cq6 : q ≠ 80) (cq7 : q ≠ 77) (cq8 : q ≠ 78) (cq9 : q ≠ 76) (cq10 : q ≠ 86) : r.2 q j = I q j := by
  unfold fX9_tells at h
  obtain ⟨r1, -, h⟩ := ob h
  rcases oi h with ⟨-, h⟩ | ⟨-, h⟩
  · obtain rfl := Option.some.inj h
    exact rfl
  · obtain ⟨r2, -, h⟩ := ob h
    rcases oi h with ⟨-, h⟩ | ⟨-, h⟩
    · obtain rfl := Option.some.inj h
      exact rfl
    · obtain ⟨r3, er3, h⟩ := ob h
      have q1 : r3 q j = _ := (xfX9_joinsNow I er3 q j cq0 cq1 cq2 cq3 cq4 cq5 cq6 cq7 cq8 cq9).trans rfl
      obtain ⟨r4, er4, h⟩ := ob h
      have q2 : r4.2 q j = _ := (xfX9_isTold v1 v2 r3 er4 q j cq10).trans q1
      obtain ⟨u5, -, h⟩ := ob h
      obtain rfl := Option.some.inj h
      exact q2
set_option maxRecDepth 100000 in
set_option maxHeartbeats 1000000 in
theorem xfX9_takesFour (v1 : Int32) (v2 : Int32) (v3 : Int32) (v4 : Int32) (I : gM) {r : gM} (h : fX9_takesFour v1 v2 v3 v4 I = some r) (q j : Nat) (cq0 : q ≠ 87) : r q j = I q j := by
  unfold fX9_takesFour at h
  obtain ⟨I1, eI1, h⟩ := ob h
  have q1 : I1 q j = _ := (by rw [← (wI_some eI1).2.2]; exact g_up_ne (Or.inl cq0) : I1 q j = I q j).trans rfl
  obtain ⟨I2, eI2, h⟩ := ob h
  have q2 : I2 q j = _ := (by rw [← (wI_some eI2).2.2]; exact g_up_ne (Or.inl cq0) : I2 q j = I1 q j).trans q1
  obtain ⟨I3, eI3, h⟩ := ob h
  have q3 : I3 q j = _ := (by rw [← (wI_some eI3).2.2]; exact g_up_ne (Or.inl cq0) : I3 q j = I2 q j).trans q2
  obtain ⟨I4, eI4, h⟩ := ob h
  have q4 : I4 q j = _ := (by rw [← (wI_some eI4).2.2]; exact g_up_ne (Or.inl cq0) : I4 q j = I3 q j).trans q3
  obtain rfl := Option.some.inj h
  exact q4
set_option maxRecDepth 100000 in
set_option maxHeartbeats 1000000 in
theorem xfX9_behind (v1 : Int32) (v2 : Int32) (v3 : Int32) (v4 : Int32) (I : gM) {r : Int32 × gM} (h : fX9_behind v1 v2 v3 v4 I = some r) (q j : Nat) (cq0 : q ≠ 87) (cq1 : q ≠ 62 ∨ j ≠ 19) (cq2 : q ≠ 74) (cq3 : q ≠ 62 ∨ j ≠ 26) (cq4 : q ≠ 62 ∨ j ≠ 27) (cq5 : q ≠ 75) (cq6 : q ≠ 79) (cq7 : q ≠ 80) (cq8 : q ≠ 77) (cq9 : q ≠ 78) (cq10 : q ≠ 76) : r.2 q j = I q j := by
  unfold fX9_behind at h
  obtain ⟨r1, -, h⟩ := ob h
  rcases oi h with ⟨-, h⟩ | ⟨-, h⟩
  · obtain rfl := Option.some.inj h
    exact rfl
  · obtain ⟨r2, er2, h⟩ := ob h
    have q1 : r2 q j = _ := (xfX9_takesFour v1 v2 v3 v4 I er2 q j cq0).trans rfl
    obtain ⟨r3, er3, h⟩ := ob h
    have q2 : r3 q j = _ := (xfX9_joinsNow r2 er3 q j cq1 cq2 cq3 cq4 cq5 cq6 cq7 cq8 cq9 cq10).trans q1
    obtain ⟨w5, -, h⟩ := ob h
    rcases w5 with w5_0 | w5_1
    · replace h := oE1 h
      obtain rfl := Option.some.inj h
      exact q2
    · replace h := oE2 h
      obtain rfl := Option.some.inj h
      exact q2
set_option maxRecDepth 100000 in
set_option maxHeartbeats 1000000 in
theorem xfX9_has_ (v1 : Int32) (v2 : Int32) (v3 : Int32) (v4 : Int32) (I : gM) {r : Int32 × gM} (h : fX9_has_ v1 v2 v3 v4 I = some r) (q j : Nat) (cq0 : q ≠ 87) (cq1 : q ≠ 62 ∨ j ≠ 19) (cq2 : q ≠ 74) (cq3 : q ≠ 62 ∨ j ≠ 26) (cq4 : q ≠ 62 ∨ j ≠ 27) (cq5 : q ≠ 75) (cq6 : q ≠ 79) (cq7 : q ≠ 80) (cq8 : q ≠ 77) (cq9 : q ≠ 78) (cq10 : q ≠ 76) : r.2 q j = I q j := by
  unfold fX9_has_ at h
  obtain ⟨r1, -, h⟩ := ob h
  rcases oi h with ⟨-, h⟩ | ⟨-, h⟩
  · obtain rfl := Option.some.inj h
    exact rfl
  · obtain ⟨r2, er2, h⟩ := ob h
    have q1 : r2 q j = _ := (xfX9_takesFour v1 v2 v3 v4 I er2 q j cq0).trans rfl
    obtain ⟨r3, er3, h⟩ := ob h
    have q2 : r3 q j = _ := (xfX9_joinsNow r2 er3 q j cq1 cq2 cq3 cq4 cq5 cq6 cq7 cq8 cq9 cq10).trans q1
    obtain ⟨w5, -, h⟩ := ob h
    rcases w5 with w5_0 | w5_1
    · replace h := oE1 h
      obtain rfl := Option.some.inj h
      exact q2
    · replace h := oE2 h
      obtain rfl := Option.some.inj h
      exact q2
set_option maxRecDepth 100000 in
set_option maxHeartbeats 1000000 in
theorem xfX9_hasMean (v1 : Int32) (I : gM) {r : Int32 × gM} (h : fX9_hasMean v1 I = some r) (q j : Nat) (cq0 : q ≠ 62 ∨ j ≠ 19) (cq1 : q ≠ 74) (cq2 : q ≠ 62 ∨ j ≠ 26) (cq3 : q ≠ 62 ∨ j ≠ 27) (cq4 : q ≠ 75) (cq5 : q ≠ 79) (cq6 : q ≠ 80) (cq7 : q ≠ 77) (cq8 : q ≠ 78) (cq9 : q ≠ 76) : r.2 q j = I q j := by
  unfold fX9_hasMean at h
  obtain ⟨r1, -, h⟩ := ob h
  rcases oi h with ⟨-, h⟩ | ⟨-, h⟩
  · obtain rfl := Option.some.inj h
    exact rfl
  · obtain ⟨r2, er2, h⟩ := ob h
    have q1 : r2.2 q j = _ := (xfX9_rowsNow I er2 q j cq0 cq1 cq2 cq3 cq4 cq5 cq6 cq7 cq8 cq9).trans rfl
    rcases oi h with ⟨-, h⟩ | ⟨-, h⟩
    · obtain rfl := Option.some.inj h
      exact q1
    · obtain rfl := Option.some.inj h
      exact q1
set_option maxRecDepth 100000 in
set_option maxHeartbeats 1000000 in
theorem xlX9_putAside_2  (s : (Int32 × gM)) {r : gM} (h : lX9_putAside_2 s = some r) (q j : Nat) (cq0 : q ≠ 88) : r q j = s.2 q j := by
  unfold lX9_putAside_2 at h
  revert s
  refine itO_ind (P := fun s : (Int32 × gM) => r q j = s.2 q j) (fun s y h hl hr => ?_)
  rcases oi h with ⟨-, h⟩ | ⟨-, h⟩
  · obtain rfl := Option.some.inj h
    have hh := hr _ rfl
    subst hh
    exact rfl
  · obtain ⟨u1, -, h⟩ := ob h
    obtain ⟨I2, eI2, h⟩ := ob h
    have q1 : I2 q j = _ := (by rw [← (wI_some eI2).2.2]; exact g_up_ne (Or.inl cq0) : I2 q j = s.2 q j).trans rfl
    obtain rfl := Option.some.inj h
    exact (hl _ rfl).trans q1
set_option maxRecDepth 100000 in
set_option maxHeartbeats 1000000 in
theorem xfX9_putAside (I : gM) {r : gM} (h : fX9_putAside I = some r) (q j : Nat) (cq0 : q ≠ 88) : r q j = I q j := by
  unfold fX9_putAside at h
  obtain ⟨w3, ew3, h⟩ := ob h
  have q1 : w3 q j = _ := (xlX9_putAside_2 ((0 : Int32), I) ew3 q j cq0).trans rfl
  obtain rfl := Option.some.inj h
  exact q1
set_option maxRecDepth 100000 in
set_option maxHeartbeats 1000000 in
theorem xlX9_bringBack_2  (s : (Int32 × gM)) {r : gM} (h : lX9_bringBack_2 s = some r) (q j : Nat) (cq0 : q ≠ 70) : r q j = s.2 q j := by
  unfold lX9_bringBack_2 at h
  revert s
  refine itO_ind (P := fun s : (Int32 × gM) => r q j = s.2 q j) (fun s y h hl hr => ?_)
  rcases oi h with ⟨-, h⟩ | ⟨-, h⟩
  · obtain rfl := Option.some.inj h
    have hh := hr _ rfl
    subst hh
    exact rfl
  · obtain ⟨u1, -, h⟩ := ob h
    obtain ⟨I2, eI2, h⟩ := ob h
    have q1 : I2 q j = _ := (by rw [← (wI_some eI2).2.2]; exact g_up_ne (Or.inl cq0) : I2 q j = s.2 q j).trans rfl
    obtain rfl := Option.some.inj h
    exact (hl _ rfl).trans q1
set_option maxRecDepth 100000 in
set_option maxHeartbeats 1000000 in
theorem xfX9_bringBack (I : gM) {r : gM} (h : fX9_bringBack I = some r) (q j : Nat) (cq0 : q ≠ 70) : r q j = I q j := by
  unfold fX9_bringBack at h
  obtain ⟨w3, ew3, h⟩ := ob h
  have q1 : w3 q j = _ := (xlX9_bringBack_2 ((0 : Int32), I) ew3 q j cq0).trans rfl
  obtain rfl := Option.some.inj h
  exact q1
set_option maxRecDepth 100000 in
set_option maxHeartbeats 1000000 in
theorem xfX9_would (v1 : Int32) (v2 : Int32) (v3 : Int32) (v4 : Int32) (v5 : Int32) (I : gM) {r : Int32 × gM} (h : fX9_would v1 v2 v3 v4 v5 I = some r) (q j : Nat) (cq0 : q ≠ 88) (cq1 : q ≠ 70) (cq2 : q ≠ 62 ∨ j ≠ 19) (cq3 : q ≠ 74) (cq4 : q ≠ 62 ∨ j ≠ 26) (cq5 : q ≠ 62 ∨ j ≠ 27) (cq6 : q ≠ 75) (cq7 : q ≠ 79) (cq8 : q ≠ 80) (cq9 : q ≠ 77) (cq10 : q ≠ 78) (cq11 : q ≠ 76) : r.2 q j = I q j := by
  unfold fX9_would at h
  obtain ⟨r1, -, h⟩ := ob h
  rcases oi h with ⟨-, h⟩ | ⟨-, h⟩
  · obtain ⟨r2, -, h⟩ := ob h
    rcases oi h with ⟨-, h⟩ | ⟨-, h⟩
    · obtain rfl := Option.some.inj h
      exact rfl
    · obtain ⟨r3, er3, h⟩ := ob h
      have q1 : r3 q j = _ := (xfX9_putAside I er3 q j cq0).trans rfl
      obtain ⟨r4, er4, h⟩ := ob h
      have q2 : r4.2 q j = _ := (xfX9_putsNow v1 v2 v3 v4 r3 er4 q j cq1).trans q1
      obtain ⟨r5, er5, h⟩ := ob h
      have q3 : r5 q j = _ := (xfX9_joinsNow r4.2 er5 q j cq2 cq3 cq4 cq5 cq6 cq7 cq8 cq9 cq10 cq11).trans q2
      obtain ⟨r6, er6, h⟩ := ob h
      have q4 : r6 q j = _ := (xfX9_bringBack r5 er6 q j cq1).trans q3
      rcases oi h with ⟨-, h⟩ | ⟨-, h⟩
      · obtain rfl := Option.some.inj h
        exact q4
      · obtain rfl := Option.some.inj h
        exact q4
  · obtain rfl := Option.some.inj h
    exact rfl
set_option maxRecDepth 100000 in
set_option maxHeartbeats 1000000 in
theorem xlX9_goSteps_2 (v1 : Int32) (v2 : Int32) (s : (Int32 × gM)) {r : (Int32 × gM) ⊕ (gM)} (h : lX9_goSteps_2 v1 v2 s = some r) (q j : Nat) (cq0 : q ≠ 70) (cq1 : q ≠ 81) (cq2 : q ≠ 62 ∨ j ≠ 29) (cq3 : q ≠ 62 ∨ j ≠ 19) (cq4 : q ≠ 74) (cq5 : q ≠ 62 ∨ j ≠ 26) (cq6 : q ≠ 62 ∨ j ≠ 27) (cq7 : q ≠ 75) (cq8 : q ≠ 79) (cq9 : q ≠ 80) (cq10 : q ≠ 77) (cq11 : q ≠ 78) (cq12 : q ≠ 76) : ((Sum.elim (fun x : Int32 × gM => x.2 q j) (fun x : gM => x q j)) r) = s.2 q j := by
  unfold lX9_goSteps_2 at h
  revert s
  refine itO_ind (P := fun s : (Int32 × gM) => ((Sum.elim (fun x : Int32 × gM => x.2 q j) (fun x : gM => x q j)) r) = s.2 q j) (fun s y h hl hr => ?_)
  obtain ⟨u1, -, h⟩ := ob h
  rcases oi h with ⟨-, h⟩ | ⟨-, h⟩
  · obtain rfl := Option.some.inj h
    have hh := hr _ rfl
    subst hh
    exact rfl
  · obtain ⟨u2, -, h⟩ := ob h
    obtain ⟨u3, -, h⟩ := ob h
    obtain ⟨u4, -, h⟩ := ob h
    obtain ⟨u5, -, h⟩ := ob h
    obtain ⟨u6, -, h⟩ := ob h
    obtain ⟨r7, -, h⟩ := ob h
    rcases oi h with ⟨-, h⟩ | ⟨-, h⟩
    · rcases oi h with ⟨-, h⟩ | ⟨-, h⟩
      · obtain ⟨u8, -, h⟩ := ob h
        obtain ⟨u9, -, h⟩ := ob h
        obtain ⟨u10, -, h⟩ := ob h
        obtain ⟨u11, -, h⟩ := ob h
        obtain ⟨u12, -, h⟩ := ob h
        obtain ⟨r13, er13, h⟩ := ob h
        have q1 : r13.2 q j = _ := (xfX9_doNow u8 u9 u10 u11 u12 s.2 er13 q j cq0).trans rfl
        unfold bX9_goSteps_178 at h
        obtain rfl := Option.some.inj h
        exact (hl _ rfl).trans q1
      · obtain ⟨u14, -, h⟩ := ob h
        obtain ⟨u15, -, h⟩ := ob h
        obtain ⟨u16, -, h⟩ := ob h
        obtain ⟨u17, -, h⟩ := ob h
        obtain ⟨u18, -, h⟩ := ob h
        obtain ⟨r19, er19, h⟩ := ob h
        have q2 : r19.2 q j = _ := (xfX9_act u14 u15 u16 u17 u18 s.2 er19 q j cq1 cq2 cq0 cq3 cq4 cq5 cq6 cq7 cq8 cq9 cq10 cq11 cq12).trans rfl
        unfold bX9_goSteps_178 at h
        obtain rfl := Option.some.inj h
        exact (hl _ rfl).trans q2
    · obtain rfl := Option.some.inj h
      have hh := hr _ rfl
      subst hh
      exact rfl
set_option maxRecDepth 100000 in
set_option maxHeartbeats 1000000 in
theorem xfX9_goSteps (v1 : Int32) (v2 : Int32) (I : gM) {r : Int32 × gM} (h : fX9_goSteps v1 v2 I = some r) (q j : Nat) (cq0 : q ≠ 70) (cq1 : q ≠ 81) (cq2 : q ≠ 62 ∨ j ≠ 29) (cq3 : q ≠ 62 ∨ j ≠ 19) (cq4 : q ≠ 74) (cq5 : q ≠ 62 ∨ j ≠ 26) (cq6 : q ≠ 62 ∨ j ≠ 27) (cq7 : q ≠ 75) (cq8 : q ≠ 79) (cq9 : q ≠ 80) (cq10 : q ≠ 77) (cq11 : q ≠ 78) (cq12 : q ≠ 76) : r.2 q j = I q j := by
  unfold fX9_goSteps at h
  obtain ⟨w20, ew20, h⟩ := ob h
  have q1 := (xlX9_goSteps_2 v1 v2 ((0 : Int32), I) ew20 q j cq0 cq1 cq2 cq3 cq4 cq5 cq6 cq7 cq8 cq9 cq10 cq11 cq12).trans rfl
  rcases w20 with w20_0 | w20_1
  · replace h := oE1 h
    have q2 : w20_0.2 q j = _ := q1
    obtain rfl := Option.some.inj h
    exact q2
  · replace h := oE2 h
    have q3 : w20_1 q j = _ := q1
    obtain ⟨u21, -, h⟩ := ob h
    obtain rfl := Option.some.inj h
    exact q3
set_option maxRecDepth 100000 in
set_option maxHeartbeats 1000000 in
theorem xfX9_run (v1 : Int32) (v2 : Int32) (I : gM) {r : Int32 × gM} (h : fX9_run v1 v2 I = some r) (q j : Nat) (cq0 : q ≠ 88) (cq1 : q ≠ 70) (cq2 : q ≠ 81) (cq3 : q ≠ 62 ∨ j ≠ 29) (cq4 : q ≠ 62 ∨ j ≠ 19) (cq5 : q ≠ 74) (cq6 : q ≠ 62 ∨ j ≠ 26) (cq7 : q ≠ 62 ∨ j ≠ 27) (cq8 : q ≠ 75) (cq9 : q ≠ 79) (cq10 : q ≠ 80) (cq11 : q ≠ 77) (cq12 : q ≠ 78) (cq13 : q ≠ 76) : r.2 q j = I q j := by
  unfold fX9_run at h
  obtain ⟨r1, -, h⟩ := ob h
  rcases oi h with ⟨-, h⟩ | ⟨-, h⟩
  · obtain rfl := Option.some.inj h
    exact rfl
  · obtain ⟨r2, -, h⟩ := ob h
    rcases oi h with ⟨-, h⟩ | ⟨-, h⟩
    · obtain rfl := Option.some.inj h
      exact rfl
    · obtain ⟨r3, -, h⟩ := ob h
      rcases oi h with ⟨-, h⟩ | ⟨-, h⟩
      · obtain rfl := Option.some.inj h
        exact rfl
      · obtain ⟨r4, er4, h⟩ := ob h
        have q1 : r4 q j = _ := (xfX9_putAside I er4 q j cq0).trans rfl
        obtain ⟨r5, er5, h⟩ := ob h
        have q2 : r5.2 q j = _ := (xfX9_goSteps v1 (0 : Int32) r4 er5 q j cq1 cq2 cq3 cq4 cq5 cq6 cq7 cq8 cq9 cq10 cq11 cq12 cq13).trans q1
        obtain ⟨r6, er6, h⟩ := ob h
        have q3 : r6.2 q j = _ := (xfX9_rowsNow r5.2 er6 q j cq4 cq5 cq6 cq7 cq8 cq9 cq10 cq11 cq12 cq13).trans q2
        obtain ⟨r7, er7, h⟩ := ob h
        have q4 : r7 q j = _ := (xfX9_bringBack r6.2 er7 q j cq1).trans q3
        rcases oi h with ⟨-, h⟩ | ⟨-, h⟩
        · obtain rfl := Option.some.inj h
          exact q4
        · obtain ⟨u8, -, h⟩ := ob h
          rcases oi h with ⟨-, h⟩ | ⟨-, h⟩
          · obtain rfl := Option.some.inj h
            exact q4
          · obtain rfl := Option.some.inj h
            exact q4
set_option maxRecDepth 100000 in
set_option maxHeartbeats 1000000 in
theorem xfX9_perform (v1 : Int32) (I : gM) {r : Int32 × gM} (h : fX9_perform v1 I = some r) (q j : Nat) (cq0 : q ≠ 70) (cq1 : q ≠ 81) (cq2 : q ≠ 62 ∨ j ≠ 29) (cq3 : q ≠ 62 ∨ j ≠ 19) (cq4 : q ≠ 74) (cq5 : q ≠ 62 ∨ j ≠ 26) (cq6 : q ≠ 62 ∨ j ≠ 27) (cq7 : q ≠ 75) (cq8 : q ≠ 79) (cq9 : q ≠ 80) (cq10 : q ≠ 77) (cq11 : q ≠ 78) (cq12 : q ≠ 76) : r.2 q j = I q j := by
  unfold fX9_perform at h
  obtain ⟨r1, -, h⟩ := ob h
  rcases oi h with ⟨-, h⟩ | ⟨-, h⟩
  · obtain rfl := Option.some.inj h
    exact rfl
  · obtain ⟨r2, -, h⟩ := ob h
    rcases oi h with ⟨-, h⟩ | ⟨-, h⟩
    · obtain rfl := Option.some.inj h
      exact rfl
    · obtain ⟨r3, er3, h⟩ := ob h
      have q1 : r3.2 q j = _ := (xfX9_goSteps v1 (1 : Int32) I er3 q j cq0 cq1 cq2 cq3 cq4 cq5 cq6 cq7 cq8 cq9 cq10 cq11 cq12).trans rfl
      obtain rfl := Option.some.inj h
      exact q1
set_option maxRecDepth 100000 in
set_option maxHeartbeats 1000000 in
theorem xlX9_couples_11 (v2 : Int32) (s : (Int32 × Int32 × gM)) {r : Int32 × gM} (h : lX9_couples_11 v2 s = some r) (q j : Nat) (cq0 : q ≠ 86) : r.2 q j = s.2.2 q j := by
  unfold lX9_couples_11 at h
  revert s
  refine itO_ind (P := fun s : (Int32 × Int32 × gM) => r.2 q j = s.2.2 q j) (fun s y h hl hr => ?_)
  rcases oi h with ⟨-, h⟩ | ⟨-, h⟩
  · obtain rfl := Option.some.inj h
    have hh := hr _ rfl
    subst hh
    exact rfl
  · rcases oi h with ⟨-, h⟩ | ⟨-, h⟩
    · unfold bX9_couples_51 at h
      unfold bX9_couples_52 at h
      obtain rfl := Option.some.inj h
      exact (hl _ rfl).trans rfl
    · obtain ⟨r1, -, h⟩ := ob h
      rcases oi h with ⟨-, h⟩ | ⟨-, h⟩
      · unfold bX9_couples_51 at h
        unfold bX9_couples_52 at h
        obtain rfl := Option.some.inj h
        exact (hl _ rfl).trans rfl
      · obtain ⟨r2, -, h⟩ := ob h
        rcases oi h with ⟨-, h⟩ | ⟨-, h⟩
        · unfold bX9_couples_51 at h
          unfold bX9_couples_52 at h
          obtain rfl := Option.some.inj h
          exact (hl _ rfl).trans rfl
        · obtain ⟨r3, er3, h⟩ := ob h
          have q1 : r3.2 q j = _ := (xfX9_isTold v2 s.2.1 s.2.2 er3 q j cq0).trans rfl
          rcases oi h with ⟨-, h⟩ | ⟨-, h⟩
          · unfold bX9_couples_51 at h
            unfold bX9_couples_52 at h
            obtain rfl := Option.some.inj h
            exact (hl _ rfl).trans q1
          · unfold bX9_couples_52 at h
            obtain rfl := Option.some.inj h
            exact (hl _ rfl).trans q1
set_option maxRecDepth 100000 in
set_option maxHeartbeats 1000000 in
theorem xlX9_couples_4  (s : (Int32 × Int32 × gM)) {r : Int32 × gM} (h : lX9_couples_4 s = some r) (q j : Nat) (cq0 : q ≠ 86) : r.2 q j = s.2.2 q j := by
  unfold lX9_couples_4 at h
  revert s
  refine itO_ind (P := fun s : (Int32 × Int32 × gM) => r.2 q j = s.2.2 q j) (fun s y h hl hr => ?_)
  rcases oi h with ⟨-, h⟩ | ⟨-, h⟩
  · obtain rfl := Option.some.inj h
    have hh := hr _ rfl
    subst hh
    exact rfl
  · obtain ⟨w4, ew4, h⟩ := ob h
    have q1 : w4.2 q j = _ := (xlX9_couples_11 s.2.1 (s.1, (0 : Int32), s.2.2) ew4 q j cq0).trans rfl
    obtain rfl := Option.some.inj h
    exact (hl _ rfl).trans q1
set_option maxRecDepth 100000 in
set_option maxHeartbeats 1000000 in
theorem xfX9_couples (I : gM) {r : Int32 × gM} (h : fX9_couples I = some r) (q j : Nat) (cq0 : q ≠ 86) : r.2 q j = I q j := by
  unfold fX9_couples at h
  obtain ⟨w5, ew5, h⟩ := ob h
  have q1 : w5.2 q j = _ := (xlX9_couples_4 ((0 : Int32), (0 : Int32), I) ew5 q j cq0).trans rfl
  obtain rfl := Option.some.inj h
  exact q1
set_option maxRecDepth 100000 in
set_option maxHeartbeats 1000000 in
theorem xfX9_most (v1 : Int32) (I : gM) {r : Int32 × gM} (h : fX9_most v1 I = some r) (q j : Nat) (cq0 : q ≠ 62 ∨ j ≠ 19) (cq1 : q ≠ 74) (cq2 : q ≠ 62 ∨ j ≠ 26) (cq3 : q ≠ 62 ∨ j ≠ 27) (cq4 : q ≠ 75) (cq5 : q ≠ 79) (cq6 : q ≠ 80) (cq7 : q ≠ 77) (cq8 : q ≠ 78) (cq9 : q ≠ 76) (cq10 : q ≠ 86) (cq11 : q ≠ 62 ∨ j ≠ 31) (cq12 : q ≠ 62 ∨ j ≠ 33) (cq13 : q ≠ 62 ∨ j ≠ 32) : r.2 q j = I q j := by
  unfold fX9_most at h
  obtain ⟨r1, -, h⟩ := ob h
  rcases oi h with ⟨-, h⟩ | ⟨-, h⟩
  · obtain rfl := Option.some.inj h
    exact rfl
  · obtain ⟨r2, -, h⟩ := ob h
    rcases oi h with ⟨-, h⟩ | ⟨-, h⟩
    · obtain rfl := Option.some.inj h
      exact rfl
    · obtain ⟨r3, er3, h⟩ := ob h
      have q1 : r3 q j = _ := (xfX9_joinsNow I er3 q j cq0 cq1 cq2 cq3 cq4 cq5 cq6 cq7 cq8 cq9).trans rfl
      rcases oi h with ⟨-, h⟩ | ⟨-, h⟩
      · obtain ⟨r4, -, h⟩ := ob h
        obtain rfl := Option.some.inj h
        exact q1
      · rcases oi h with ⟨-, h⟩ | ⟨-, h⟩
        · rcases oi h with ⟨-, h⟩ | ⟨-, h⟩
          · unfold bX9_most_80 at h
            obtain ⟨r5, -, h⟩ := ob h
            obtain rfl := Option.some.inj h
            exact q1
          · unfold bX9_most_80 at h
            obtain ⟨r5, -, h⟩ := ob h
            obtain rfl := Option.some.inj h
            exact q1
        · rcases oi h with ⟨-, h⟩ | ⟨-, h⟩
          · rcases oi h with ⟨-, h⟩ | ⟨-, h⟩
            · unfold bX9_most_80 at h
              obtain ⟨r5, -, h⟩ := ob h
              obtain rfl := Option.some.inj h
              exact q1
            · unfold bX9_most_80 at h
              obtain ⟨r5, -, h⟩ := ob h
              obtain rfl := Option.some.inj h
              exact q1
          · rcases oi h with ⟨-, h⟩ | ⟨-, h⟩
            · obtain ⟨r6, -, h⟩ := ob h
              obtain rfl := Option.some.inj h
              exact q1
            · rcases oi h with ⟨-, h⟩ | ⟨-, h⟩
              · obtain ⟨r7, er7, h⟩ := ob h
                have q2 : r7.2 q j = _ := (xfX9_couples r3 er7 q j cq10).trans q1
                obtain rfl := Option.some.inj h
                exact q2
              · rcases oi h with ⟨-, h⟩ | ⟨-, h⟩
                · obtain ⟨r8, er8, h⟩ := ob h
                  have q3 : r8 q j = _ := (xfX9_joins (0 : Int32) r3 er8 q j cq0 cq1 cq2 cq3 cq4 cq5 cq6 cq7 cq8 cq9).trans q1
                  obtain rfl := Option.some.inj h
                  exact q3
                · obtain ⟨r9, er9, h⟩ := ob h
                  have q4 : r9 q j = _ := (xfX9_triesOrders r3 er9 q j cq11 cq12 cq0 cq1 cq2 cq3 cq4 cq5 cq6 cq7 cq8 cq9 cq13).trans q1
                  obtain rfl := Option.some.inj h
                  exact q4
set_option maxRecDepth 100000 in
set_option maxHeartbeats 1000000 in
theorem xlX9_image_11  (s : (Int32 × gM)) {r : gM} (h : lX9_image_11 s = some r) (q j : Nat) (cq0 : q ≠ 89) : r q j = s.2 q j := by
  unfold lX9_image_11 at h
  revert s
  refine itO_ind (P := fun s : (Int32 × gM) => r q j = s.2 q j) (fun s y h hl hr => ?_)
  rcases oi h with ⟨-, h⟩ | ⟨-, h⟩
  · obtain rfl := Option.some.inj h
    have hh := hr _ rfl
    subst hh
    exact rfl
  · obtain ⟨u2, -, h⟩ := ob h
    obtain ⟨I3, eI3, h⟩ := ob h
    have q1 : I3 q j = _ := (by rw [← (wI_some eI3).2.2]; exact g_up_ne (Or.inl cq0) : I3 q j = s.2 q j).trans rfl
    obtain rfl := Option.some.inj h
    exact (hl _ rfl).trans q1
set_option maxRecDepth 100000 in
set_option maxHeartbeats 1000000 in
theorem xfX9_image (I : gM) {r : Int32 × gM} (h : fX9_image I = some r) (q j : Nat) (cq0 : q ≠ 89) (cq1 : q ≠ 62 ∨ j ≠ 42) (cq2 : q ≠ 62 ∨ j ≠ 19) (cq3 : q ≠ 74) (cq4 : q ≠ 62 ∨ j ≠ 26) (cq5 : q ≠ 62 ∨ j ≠ 27) (cq6 : q ≠ 75) (cq7 : q ≠ 79) (cq8 : q ≠ 80) (cq9 : q ≠ 77) (cq10 : q ≠ 78) (cq11 : q ≠ 76) : r.2 q j = I q j := by
  unfold fX9_image at h
  obtain ⟨r1, -, h⟩ := ob h
  rcases oi h with ⟨-, h⟩ | ⟨-, h⟩
  · obtain rfl := Option.some.inj h
    exact rfl
  · obtain ⟨w4, ew4, h⟩ := ob h
    have q1 : w4 q j = _ := (xlX9_image_11 ((0 : Int32), I) ew4 q j cq0).trans rfl
    obtain ⟨I5, eI5, h⟩ := ob h
    have q2 : I5 q j = _ := (by rw [← pU_some eI5]; exact g_up_ne cq1 : I5 q j = w4 q j).trans q1
    obtain ⟨r6, er6, h⟩ := ob h
    have q3 : r6.2 q j = _ := (xfX9_rowsNow I5 er6 q j cq2 cq3 cq4 cq5 cq6 cq7 cq8 cq9 cq10 cq11).trans q2
    obtain rfl := Option.some.inj h
    exact q3
set_option maxRecDepth 100000 in
set_option maxHeartbeats 1000000 in
theorem xlX9_back_11  (s : (Int32 × gM)) {r : gM} (h : lX9_back_11 s = some r) (q j : Nat) (cq0 : q ≠ 70) : r q j = s.2 q j := by
  unfold lX9_back_11 at h
  revert s
  refine itO_ind (P := fun s : (Int32 × gM) => r q j = s.2 q j) (fun s y h hl hr => ?_)
  rcases oi h with ⟨-, h⟩ | ⟨-, h⟩
  · obtain rfl := Option.some.inj h
    have hh := hr _ rfl
    subst hh
    exact rfl
  · obtain ⟨u1, -, h⟩ := ob h
    obtain ⟨I2, eI2, h⟩ := ob h
    have q1 : I2 q j = _ := (by rw [← (wI_some eI2).2.2]; exact g_up_ne (Or.inl cq0) : I2 q j = s.2 q j).trans rfl
    obtain rfl := Option.some.inj h
    exact (hl _ rfl).trans q1
set_option maxRecDepth 100000 in
set_option maxHeartbeats 1000000 in
theorem xfX9_back (I : gM) {r : Int32 × gM} (h : fX9_back I = some r) (q j : Nat) (cq0 : q ≠ 70) (cq1 : q ≠ 62 ∨ j ≠ 29) (cq2 : q ≠ 62 ∨ j ≠ 19) (cq3 : q ≠ 74) (cq4 : q ≠ 62 ∨ j ≠ 26) (cq5 : q ≠ 62 ∨ j ≠ 27) (cq6 : q ≠ 75) (cq7 : q ≠ 79) (cq8 : q ≠ 80) (cq9 : q ≠ 77) (cq10 : q ≠ 78) (cq11 : q ≠ 76) : r.2 q j = I q j := by
  unfold fX9_back at h
  rcases oi h with ⟨-, h⟩ | ⟨-, h⟩
  · obtain rfl := Option.some.inj h
    exact rfl
  · obtain ⟨w3, ew3, h⟩ := ob h
    have q1 : w3 q j = _ := (xlX9_back_11 ((0 : Int32), I) ew3 q j cq0).trans rfl
    obtain ⟨I4, eI4, h⟩ := ob h
    have q2 : I4 q j = _ := (by rw [← pU_some eI4]; exact g_up_ne cq1 : I4 q j = w3 q j).trans q1
    obtain ⟨r5, er5, h⟩ := ob h
    have q3 : r5.2 q j = _ := (xfX9_rowsNow I4 er5 q j cq2 cq3 cq4 cq5 cq6 cq7 cq8 cq9 cq10 cq11).trans q2
    obtain rfl := Option.some.inj h
    exact q3
