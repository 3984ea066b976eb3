theorem zfJ7_fill_53178 (k0 n0 : Nat) (v1 : Int32) (I : gM) {r : gM} (h : fJ7_fill_53178 k0 n0 v1 I = some r) (q : Nat) (w0 : q ≠ k0) : r q = I q := by
  unfold fJ7_fill_53178 at h
  obtain ⟨w, e, h⟩ := ob h
  obtain rfl := Option.some.inj h
  have key : ∀ s : Int32 × gM, lJ7_fill_53178_5 k0 n0 v1 (nI n0) s = some w → w q = s.2 q := by
    unfold lJ7_fill_53178_5
    refine itO_ind (P := fun s : Int32 × gM => w q = s.2 q) (fun s y h hl hr => ?_)
    rcases oi h with ⟨-, h⟩ | ⟨-, h⟩
    · obtain rfl := Option.some.inj h
      have hh := hr _ rfl
      subst hh; rfl
    · obtain ⟨I1, e1, h⟩ := ob h
      obtain rfl := Option.some.inj h
      exact (hl _ rfl).trans (by rw [← (wI_some e1).2.2]; exact g_up_row w0)
  exact key _ e
theorem zfJ7_fill_fda19 (k0 n0 : Nat) (v1 v2 v3 : Int32) (I : gM) {r : gM} (h : fJ7_fill_fda19 k0 n0 v1 v2 v3 I = some r) (q : Nat) (w0 : q ≠ k0) : r q = I q := by
  unfold fJ7_fill_fda19 at h
  obtain ⟨-, -, h⟩ := ob h
  obtain ⟨w, e, h⟩ := ob h
  obtain rfl := Option.some.inj h
  have key : ∀ s : Int32 × gM, lJ7_fill_fda19_10 k0 n0 v2 v3 s = some w → w q = s.2 q := by
    unfold lJ7_fill_fda19_10
    refine itO_ind (P := fun s : Int32 × gM => w q = s.2 q) (fun s y h hl hr => ?_)
    rcases oi h with ⟨-, h⟩ | ⟨-, h⟩
    · obtain rfl := Option.some.inj h
      have hh := hr _ rfl
      subst hh; rfl
    · obtain ⟨I1, e1, h⟩ := ob h
      obtain rfl := Option.some.inj h
      exact (hl _ rfl).trans (by rw [← (wI_some e1).2.2]; exact g_up_row w0)
  exact key _ e
set_option maxRecDepth 100000 in
set_option maxHeartbeats 1000000 in
theorem zlX0_tallyUp_10 (k1 : Nat) (v2 : Int32) (s : (Int32 × gM)) {r : gM} (h : lX0_tallyUp_10 k1 v2 s = some r) (q : Nat) (cq0 : q ≠ 41) : r q = s.2 q := by
  unfold lX0_tallyUp_10 at h
  revert s
  refine itO_ind (P := fun s : (Int32 × gM) => r q = s.2 q) (fun s y h hl hr => ?_)
  rcases oi h with ⟨-, h⟩ | ⟨-, h⟩
  · obtain rfl := Option.some.inj h
    have hh := hr _ rfl
    subst hh
    exact rfl
  · obtain ⟨r2, -, h⟩ := ob h
    rcases oi h with ⟨-, h⟩ | ⟨-, h⟩
    · unfold bX0_tallyUp_44 at h
      obtain rfl := Option.some.inj h
      exact (hl _ rfl).trans rfl
    · obtain ⟨u3, -, h⟩ := ob h
      obtain ⟨I4, eI4, h⟩ := ob h
      have q1 : I4 q = _ := (by rw [← (wI_some eI4).2.2]; exact g_up_row cq0 : I4 q = s.2 q).trans rfl
      unfold bX0_tallyUp_44 at h
      obtain rfl := Option.some.inj h
      exact (hl _ rfl).trans q1
set_option maxRecDepth 100000 in
set_option maxHeartbeats 1000000 in
theorem zfX0_tallyUp (k1 : Nat) (v2 : Int32) (I : gM) {r : gM} (h : fX0_tallyUp k1 v2 I = some r) (q : Nat) (cq0 : q ≠ 41) : r q = I q := by
  unfold fX0_tallyUp at h
  obtain ⟨r1, er1, h⟩ := ob h
  have q1 : r1 q = _ := (zfJ7_fill_53178 41 100 (0 : Int32) I er1 q cq0).trans rfl
  obtain ⟨w5, ew5, h⟩ := ob h
  have q2 : w5 q = _ := (zlX0_tallyUp_10 k1 v2 ((0 : Int32), r1) ew5 q cq0).trans q1
  obtain rfl := Option.some.inj h
  exact q2
set_option maxRecDepth 100000 in
set_option maxHeartbeats 1000000 in
theorem zlX0_isTold_11 (k1 : Nat) (v2 : Int32) (v3 : Int32) (s : (Int32 × gM)) {r : (gM) ⊕ (gM)} (h : lX0_isTold_11 k1 v2 v3 s = some r) (q : Nat) (cq0 : q ≠ 42) : ((Sum.elim (fun x : gM => x q) (fun x : gM => x q)) r) = s.2 q := by
  unfold lX0_isTold_11 at h
  revert s
  refine itO_ind (P := fun s : (Int32 × gM) => ((Sum.elim (fun x : gM => x q) (fun x : gM => x q)) r) = s.2 q) (fun s y h hl hr => ?_)
  rcases oi h with ⟨-, h⟩ | ⟨-, h⟩
  · obtain rfl := Option.some.inj h
    have hh := hr _ rfl
    subst hh
    exact rfl
  · obtain ⟨r2, -, h⟩ := ob h
    obtain ⟨r3, -, h⟩ := ob h
    rcases oi h with ⟨-, h⟩ | ⟨-, h⟩
    · obtain rfl := Option.some.inj h
      have hh := hr _ rfl
      subst hh
      exact rfl
    · obtain ⟨u4, -, h⟩ := ob h
      rcases oi h with ⟨-, h⟩ | ⟨-, h⟩
      · unfold bX0_isTold_70 at h
        obtain ⟨I5, eI5, h⟩ := ob h
        have q1 : I5 q = _ := (by rw [← (wI_some eI5).2.2]; exact g_up_row cq0 : I5 q = s.2 q).trans rfl
        obtain rfl := Option.some.inj h
        exact (hl _ rfl).trans q1
      · obtain ⟨u6, -, h⟩ := ob h
        rcases oi h with ⟨-, h⟩ | ⟨-, h⟩
        · unfold bX0_isTold_70 at h
          obtain ⟨I5, eI5, h⟩ := ob h
          have q2 : I5 q = _ := (by rw [← (wI_some eI5).2.2]; exact g_up_row cq0 : I5 q = s.2 q).trans rfl
          obtain rfl := Option.some.inj h
          exact (hl _ rfl).trans q2
        · obtain rfl := Option.some.inj h
          have hh := hr _ rfl
          subst hh
          exact rfl
set_option maxRecDepth 100000 in
set_option maxHeartbeats 1000000 in
theorem zfX0_isTold (k1 : Nat) (v2 : Int32) (v3 : Int32) (I : gM) {r : Int32 × gM} (h : fX0_isTold k1 v2 v3 I = some r) (q : Nat) (cq0 : q ≠ 42) : r.2 q = I q := by
  unfold fX0_isTold at h
  obtain ⟨r1, er1, h⟩ := ob h
  have q1 : r1 q = _ := (zfJ7_fill_53178 42 100 ((-1) : Int32) I er1 q cq0).trans rfl
  obtain ⟨w7, ew7, h⟩ := ob h
  have q2 := (zlX0_isTold_11 k1 v2 v3 ((0 : Int32), r1) ew7 q cq0).trans q1
  rcases w7 with w7_0 | w7_1
  · replace h := oE1 h
    have q3 : w7_0 q = _ := q2
    obtain rfl := Option.some.inj h
    exact q3
  · replace h := oE2 h
    have q4 : w7_1 q = _ := q2
    obtain rfl := Option.some.inj h
    exact q4
set_option maxRecDepth 100000 in
set_option maxHeartbeats 1000000 in
theorem zlX1_addLetters_2 (k : Nat) (v1 : Int32) (s : (Int32 × gM)) {r : gM} (h : lX1_addLetters_2 k v1 s = some r) (q : Nat) (cq0 : q ≠ k + 2) (cq1 : q ≠ k) : r q = s.2 q := by
  unfold lX1_addLetters_2 at h
  revert s
  refine itO_ind (P := fun s : (Int32 × gM) => r q = s.2 q) (fun s y h hl hr => ?_)
  rcases oi h with ⟨-, h⟩ | ⟨-, h⟩
  · obtain rfl := Option.some.inj h
    have hh := hr _ rfl
    subst hh
    exact rfl
  · rcases oi h with ⟨-, h⟩ | ⟨-, h⟩
    · unfold bX1_addLetters_43 at h
      obtain rfl := Option.some.inj h
      exact (hl _ rfl).trans rfl
    · rcases oi h with ⟨-, h⟩ | ⟨-, h⟩
      · unfold bX1_addLetters_43 at h
        obtain rfl := Option.some.inj h
        exact (hl _ rfl).trans rfl
      · obtain ⟨I1, eI1, h⟩ := ob h
        have q1 : I1 q = _ := (by rw [← (wI_some eI1).2.2]; exact g_up_row cq0 : I1 q = s.2 q).trans rfl
        obtain ⟨I2, eI2, h⟩ := ob h
        have q2 : I2 q = _ := (by rw [← pU_some eI2]; exact g_up_row cq1 : I2 q = I1 q).trans q1
        unfold bX1_addLetters_43 at h
        obtain rfl := Option.some.inj h
        exact (hl _ rfl).trans q2
set_option maxRecDepth 100000 in
set_option maxHeartbeats 1000000 in
theorem zfX1_addLetters (k : Nat) (v1 : Int32) (I : gM) {r : gM} (h : fX1_addLetters k v1 I = some r) (q : Nat) (cq0 : q ≠ k + 2) (cq1 : q ≠ k) : r q = I q := by
  unfold fX1_addLetters at h
  obtain ⟨w3, ew3, h⟩ := ob h
  have q1 : w3 q = _ := (zlX1_addLetters_2 k v1 ((0 : Int32), I) ew3 q cq0 cq1).trans rfl
  obtain rfl := Option.some.inj h
  exact q1
set_option maxRecDepth 100000 in
set_option maxHeartbeats 1000000 in
theorem zlX1_addSorted_7 (k : Nat) (v1 : Int32) (v2 : Int32) (s : (Int32 × gM)) {r : Int32 × gM} (h : lX1_addSorted_7 k v1 v2 s = some r) (q : Nat) (cq0 : q ≠ k + 5) : r.2 q = s.2 q := by
  unfold lX1_addSorted_7 at h
  revert s
  refine itO_ind (P := fun s : (Int32 × gM) => r.2 q = s.2 q) (fun s y h hl hr => ?_)
  obtain ⟨u2, -, h⟩ := ob h
  rcases oi h with ⟨-, h⟩ | ⟨-, h⟩
  · obtain rfl := Option.some.inj h
    have hh := hr _ rfl
    subst hh
    exact rfl
  · obtain ⟨u3, -, h⟩ := ob h
    rcases oi h with ⟨-, h⟩ | ⟨-, h⟩
    · obtain rfl := Option.some.inj h
      have hh := hr _ rfl
      subst hh
      exact rfl
    · obtain ⟨u4, -, h⟩ := ob h
      obtain ⟨I5, eI5, h⟩ := ob h
      have q1 : I5 q = _ := (by rw [← (wI_some eI5).2.2]; exact g_up_row cq0 : I5 q = s.2 q).trans rfl
      obtain rfl := Option.some.inj h
      exact (hl _ rfl).trans q1
set_option maxRecDepth 100000 in
set_option maxHeartbeats 1000000 in
theorem zfX1_addSorted (k : Nat) (v1 : Int32) (v2 : Int32) (I : gM) {r : gM} (h : fX1_addSorted k v1 v2 I = some r) (q : Nat) (cq0 : q ≠ k + 5) (cq1 : q ≠ k + 9) : r q = I q := by
  unfold fX1_addSorted at h
  obtain ⟨u1, -, h⟩ := ob h
  obtain ⟨w6, ew6, h⟩ := ob h
  have q1 : w6.2 q = _ := (zlX1_addSorted_7 k v1 v2 (u1, I) ew6 q cq0).trans rfl
  unfold bX1_addSorted_49 at h
  obtain ⟨I7, eI7, h⟩ := ob h
  have q2 : I7 q = _ := (by rw [← (wI_some eI7).2.2]; exact g_up_row cq0 : I7 q = w6.2 q).trans q1
  obtain ⟨u8, -, h⟩ := ob h
  obtain ⟨I9, eI9, h⟩ := ob h
  have q3 : I9 q = _ := (by rw [← (wI_some eI9).2.2]; exact g_up_row cq1 : I9 q = I7 q).trans q2
  obtain rfl := Option.some.inj h
  exact q3
set_option maxRecDepth 100000 in
set_option maxHeartbeats 1000000 in
theorem zlX1_load_5 (k : Nat) (k1 : Nat) (v2 : Int32) (s : (Int32 × Int32 × gM)) {r : Int32 × gM} (h : lX1_load_5 k k1 v2 s = some r) (q : Nat) (cq0 : q ≠ k + 7) (cq1 : q ≠ k + 6) : r.2 q = s.2.2 q := by
  unfold lX1_load_5 at h
  revert s
  refine itO_ind (P := fun s : (Int32 × Int32 × gM) => r.2 q = s.2.2 q) (fun s y h hl hr => ?_)
  rcases oi h with ⟨-, h⟩ | ⟨-, h⟩
  · obtain rfl := Option.some.inj h
    have hh := hr _ rfl
    subst hh
    exact rfl
  · obtain ⟨u1, -, h⟩ := ob h
    obtain ⟨r2, -, h⟩ := ob h
    rcases oi h with ⟨-, h⟩ | ⟨-, h⟩
    · unfold bX1_load_68 at h
      obtain rfl := Option.some.inj h
      exact (hl _ rfl).trans rfl
    · rcases oi h with ⟨-, h⟩ | ⟨-, h⟩
      · unfold bX1_load_68 at h
        obtain rfl := Option.some.inj h
        exact (hl _ rfl).trans rfl
      · obtain ⟨I3, eI3, h⟩ := ob h
        have q1 : I3 q = _ := (by rw [← (wI_some eI3).2.2]; exact g_up_row cq0 : I3 q = s.2.2 q).trans rfl
        obtain ⟨I4, eI4, h⟩ := ob h
        have q2 : I4 q = _ := (by rw [← (wI_some eI4).2.2]; exact g_up_row cq1 : I4 q = I3 q).trans q1
        unfold bX1_load_68 at h
        obtain rfl := Option.some.inj h
        exact (hl _ rfl).trans q2
set_option maxRecDepth 100000 in
set_option maxHeartbeats 1000000 in
theorem zlX1_load_77 (k : Nat) (k1 : Nat) (v2 : Int32) (v3 : Int32) (s : (Int32 × gM)) {r : gM} (h : lX1_load_77 k k1 v2 v3 s = some r) (q : Nat) (cq0 : q ≠ k + 5) (cq1 : q ≠ k + 9) : r q = s.2 q := by
  unfold lX1_load_77 at h
  revert s
  refine itO_ind (P := fun s : (Int32 × gM) => r q = s.2 q) (fun s y h hl hr => ?_)
  obtain ⟨u6, -, h⟩ := ob h
  rcases oi h with ⟨-, h⟩ | ⟨-, h⟩
  · obtain rfl := Option.some.inj h
    have hh := hr _ rfl
    subst hh
    exact rfl
  · obtain ⟨r7, -, h⟩ := ob h
    obtain ⟨w9, -, h⟩ := ob h
    obtain ⟨r10, er10, h⟩ := ob h
    have q1 : r10 q = _ := (zfX1_addSorted k v2 w9 s.2 er10 q cq0 cq1).trans rfl
    obtain rfl := Option.some.inj h
    exact (hl _ rfl).trans q1
set_option maxRecDepth 100000 in
set_option maxHeartbeats 1000000 in
theorem zfX1_load (k : Nat) (k1 : Nat) (v2 : Int32) (I : gM) {r : gM} (h : fX1_load k k1 v2 I = some r) (q : Nat) (cq0 : q ≠ k + 7) (cq1 : q ≠ k + 6) (cq2 : q ≠ k + 5) (cq3 : q ≠ k + 9) : r q = I q := by
  unfold fX1_load at h
  obtain ⟨w5, ew5, h⟩ := ob h
  have q1 : w5.2 q = _ := (zlX1_load_5 k k1 v2 ((0 : Int32), (0 : Int32), I) ew5 q cq0 cq1).trans rfl
  obtain ⟨w11, ew11, h⟩ := ob h
  have q2 : w11 q = _ := (zlX1_load_77 k k1 v2 w5.1 ((0 : Int32), w5.2) ew11 q cq2 cq3).trans q1
  obtain rfl := Option.some.inj h
  exact q2
set_option maxRecDepth 100000 in
set_option maxHeartbeats 1000000 in
theorem zlX1_open_28 (k : Nat) (k1 : Nat) (s : (Int32 × gM)) {r : gM} (h : lX1_open_28 k k1 s = some r) (q : Nat) (cq0 : q ≠ k + 8) (cq1 : q ≠ k + 9) (cq2 : q ≠ k + 7) (cq3 : q ≠ k + 6) (cq4 : q ≠ k + 5) : r q = s.2 q := by
  unfold lX1_open_28 at h
  revert s
  refine itO_ind (P := fun s : (Int32 × gM) => r q = s.2 q) (fun s y h hl hr => ?_)
  rcases oi h with ⟨-, h⟩ | ⟨-, h⟩
  · obtain rfl := Option.some.inj h
    have hh := hr _ rfl
    subst hh
    exact rfl
  · obtain ⟨I5, eI5, h⟩ := ob h
    have q1 : I5 q = _ := (by rw [← (wI_some eI5).2.2]; exact g_up_row cq0 : I5 q = s.2 q).trans rfl
    obtain ⟨I6, eI6, h⟩ := ob h
    have q2 : I6 q = _ := (by rw [← (wI_some eI6).2.2]; exact g_up_row cq1 : I6 q = I5 q).trans q1
    obtain ⟨r7, -, h⟩ := ob h
    rcases oi h with ⟨-, h⟩ | ⟨-, h⟩
    · unfold bX1_open_67 at h
      obtain rfl := Option.some.inj h
      exact (hl _ rfl).trans q2
    · obtain ⟨r8, er8, h⟩ := ob h
      have q3 : r8 q = _ := (zfX1_load k k1 s.1 I6 er8 q cq2 cq3 cq4 cq1).trans q2
      unfold bX1_open_67 at h
      obtain rfl := Option.some.inj h
      exact (hl _ rfl).trans q3
set_option maxRecDepth 100000 in
set_option maxHeartbeats 1000000 in
theorem zfX1_open (k : Nat) (k1 : Nat) (I : gM) {r : gM} (h : fX1_open k k1 I = some r) (q : Nat) (cq0 : q ≠ k) (cq1 : q ≠ k + 1) (cq2 : q ≠ k + 7) (cq3 : q ≠ k + 8) (cq4 : q ≠ k + 9) (cq5 : q ≠ k + 6) (cq6 : q ≠ k + 5) : r q = I q := by
  unfold fX1_open at h
  obtain ⟨I1, eI1, h⟩ := ob h
  have q1 : I1 q = _ := (by rw [← pU_some eI1]; exact g_up_row cq0 : I1 q = I q).trans rfl
  obtain ⟨I2, eI2, h⟩ := ob h
  have q2 : I2 q = _ := (by rw [← pU_some eI2]; exact g_up_row cq0 : I2 q = I1 q).trans q1
  obtain ⟨r3, er3, h⟩ := ob h
  have q3 : r3 q = _ := (zfJ7_fill_53178 (k + 1) 4 (0 : Int32) I2 er3 q cq1).trans q2
  obtain ⟨r4, er4, h⟩ := ob h
  have q4 : r4 q = _ := (zfJ7_fill_53178 (k + 7) 16 ((-1) : Int32) r3 er4 q cq2).trans q3
  obtain ⟨w9, ew9, h⟩ := ob h
  have q5 : w9 q = _ := (zlX1_open_28 k k1 ((0 : Int32), r4) ew9 q cq3 cq4 cq2 cq5 cq6).trans q4
  obtain rfl := Option.some.inj h
  exact q5
set_option maxRecDepth 100000 in
set_option maxHeartbeats 1000000 in
theorem zlX1_isOpened_4 (k : Nat) (v1 : Int32) (s : (Int32 × gM)) {r : (gM) ⊕ (gM)} (h : lX1_isOpened_4 k v1 s = some r) (q : Nat) (cq0 : q ≠ k + 10) : ((Sum.elim (fun x : gM => x q) (fun x : gM => x q)) r) = s.2 q := by
  unfold lX1_isOpened_4 at h
  revert s
  refine itO_ind (P := fun s : (Int32 × gM) => ((Sum.elim (fun x : gM => x q) (fun x : gM => x q)) r) = s.2 q) (fun s y h hl hr => ?_)
  rcases oi h with ⟨-, h⟩ | ⟨-, h⟩
  · obtain rfl := Option.some.inj h
    have hh := hr _ rfl
    subst hh
    exact rfl
  · obtain ⟨u1, -, h⟩ := ob h
    obtain ⟨I2, eI2, h⟩ := ob h
    have q1 : I2 q = _ := (by rw [← (wI_some eI2).2.2]; exact g_up_row cq0 : I2 q = s.2 q).trans rfl
    obtain ⟨u3, -, h⟩ := ob h
    rcases oi h with ⟨-, h⟩ | ⟨-, h⟩
    · unfold bX1_isOpened_52 at h
      obtain rfl := Option.some.inj h
      exact (hl _ rfl).trans q1
    · obtain ⟨u4, -, h⟩ := ob h
      obtain ⟨u5, -, h⟩ := ob h
      rcases oi h with ⟨-, h⟩ | ⟨-, h⟩
      · unfold bX1_isOpened_52 at h
        obtain rfl := Option.some.inj h
        exact (hl _ rfl).trans q1
      · obtain rfl := Option.some.inj h
        have hh := hr _ rfl
        subst hh
        exact q1
set_option maxRecDepth 100000 in
set_option maxHeartbeats 1000000 in
theorem zfX1_isOpened (k : Nat) (v1 : Int32) (I : gM) {r : Int32 × gM} (h : fX1_isOpened k v1 I = some r) (q : Nat) (cq0 : q ≠ k + 10) : r.2 q = I q := by
  unfold fX1_isOpened at h
  obtain ⟨w6, ew6, h⟩ := ob h
  have q1 := (zlX1_isOpened_4 k v1 (v1 * 4, I) ew6 q cq0).trans rfl
  rcases w6 with w6_0 | w6_1
  · replace h := oE1 h
    have q2 : w6_0 q = _ := q1
    obtain rfl := Option.some.inj h
    exact q2
  · replace h := oE2 h
    have q3 : w6_1 q = _ := q1
    obtain rfl := Option.some.inj h
    exact q3
set_option maxRecDepth 100000 in
set_option maxHeartbeats 1000000 in
theorem zlX1_narrow_4 (k : Nat) (v1 : Int32) (v2 : Int32) (s : (Int32 × gM)) {r : gM} (h : lX1_narrow_4 k v1 v2 s = some r) (q : Nat) (cq0 : q ≠ k + 8) (cq1 : q ≠ k + 9) : r q = s.2 q := by
  unfold lX1_narrow_4 at h
  revert s
  refine itO_ind (P := fun s : (Int32 × gM) => r q = s.2 q) (fun s y h hl hr => ?_)
  rcases oi h with ⟨-, h⟩ | ⟨-, h⟩
  · obtain rfl := Option.some.inj h
    have hh := hr _ rfl
    subst hh
    exact rfl
  · obtain ⟨u1, -, h⟩ := ob h
    obtain ⟨I2, eI2, h⟩ := ob h
    have q1 : I2 q = _ := (by rw [← (wI_some eI2).2.2]; exact g_up_row cq0 : I2 q = s.2 q).trans rfl
    obtain ⟨u3, -, h⟩ := ob h
    obtain ⟨I4, eI4, h⟩ := ob h
    have q2 : I4 q = _ := (by rw [← (wI_some eI4).2.2]; exact g_up_row cq1 : I4 q = I2 q).trans q1
    obtain ⟨u5, -, h⟩ := ob h
    rcases oi h with ⟨-, h⟩ | ⟨-, h⟩
    · unfold bX1_narrow_109 at h
      obtain rfl := Option.some.inj h
      exact (hl _ rfl).trans q2
    · obtain ⟨u6, -, h⟩ := ob h
      obtain ⟨w10, -, h⟩ := ob h
      unfold bX1_narrow_100 at h
      obtain ⟨I11, eI11, h⟩ := ob h
      have q3 : I11 q = _ := (by rw [← (wI_some eI11).2.2]; exact g_up_row cq1 : I11 q = I4 q).trans q2
      unfold bX1_narrow_109 at h
      obtain rfl := Option.some.inj h
      exact (hl _ rfl).trans q3
set_option maxRecDepth 100000 in
set_option maxHeartbeats 1000000 in
theorem zfX1_narrow (k : Nat) (v1 : Int32) (v2 : Int32) (I : gM) {r : gM} (h : fX1_narrow k v1 v2 I = some r) (q : Nat) (cq0 : q ≠ k + 8) (cq1 : q ≠ k + 9) : r q = I q := by
  unfold fX1_narrow at h
  obtain ⟨w12, ew12, h⟩ := ob h
  have q1 : w12 q = _ := (zlX1_narrow_4 k v1 v2 (v1 * 4, I) ew12 q cq0 cq1).trans rfl
  obtain rfl := Option.some.inj h
  exact q1
set_option maxRecDepth 100000 in
set_option maxHeartbeats 1000000 in
theorem zfX1_deepen (rec : Int32 → gM → Option gM) (k : Nat) (v1 : Int32) (v2 : Int32) (I : gM) {r : gM} (h : fX1_deepen rec k v1 v2 I = some r) (q : Nat) (hrec : ∀ (d : Int32) (I r : gM), rec d I = some r → r q = I q) (cq0 : q ≠ k + 10) (cq1 : q ≠ k + 1) (cq2 : q ≠ k + 4) (cq3 : q ≠ k + 3) (cq4 : q ≠ k) (cq5 : q ≠ k + 8) (cq6 : q ≠ k + 9) : r q = I q := by
  unfold fX1_deepen at h
  obtain ⟨u1, -, h⟩ := ob h
  obtain ⟨I2, eI2, h⟩ := ob h
  have q1 : I2 q = _ := (by rw [← (wI_some eI2).2.2]; exact g_up_row cq1 : I2 q = I q).trans rfl
  obtain ⟨u3, -, h⟩ := ob h
  obtain ⟨u4, -, h⟩ := ob h
  obtain ⟨I5, eI5, h⟩ := ob h
  have q2 : I5 q = _ := (by rw [← (wI_some eI5).2.2]; exact g_up_row cq2 : I5 q = I2 q).trans q1
  rcases oi h with ⟨-, h⟩ | ⟨-, h⟩
  · rcases oi h with ⟨-, h⟩ | ⟨-, h⟩
    · obtain rfl := Option.some.inj h
      exact q2
    · obtain ⟨u6, -, h⟩ := ob h
      obtain ⟨I7, eI7, h⟩ := ob h
      have q3 : I7 q = _ := (by rw [← (wI_some eI7).2.2]; exact g_up_row cq3 : I7 q = I5 q).trans q2
      obtain ⟨I8, eI8, h⟩ := ob h
      have q4 : I8 q = _ := (by rw [← pU_some eI8]; exact g_up_row cq4 : I8 q = I7 q).trans q3
      obtain rfl := Option.some.inj h
      exact q4
  · obtain ⟨r9, er9, h⟩ := ob h
    have q5 : r9 q = _ := (zfX1_narrow k v1 v2 I5 er9 q cq5 cq6).trans q2
    obtain ⟨r10, er10, h⟩ := ob h
    have q6 : r10 q = _ := (hrec _ _ _ er10).trans q5
    obtain rfl := Option.some.inj h
    exact q6
set_option maxRecDepth 100000 in
set_option maxHeartbeats 1000000 in
theorem zfX1_isLeapt (k : Nat) (v1 : Int32) (v2 : Int32) (I : gM) {r : Int32 × gM} (h : fX1_isLeapt k v1 v2 I = some r) (q : Nat) (cq0 : q ≠ k + 10) (cq1 : q ≠ k) : r.2 q = I q := by
  unfold fX1_isLeapt at h
  obtain ⟨u1, -, h⟩ := ob h
  obtain ⟨w5, -, h⟩ := ob h
  unfold bX1_isLeapt_43 at h
  obtain ⟨I6, eI6, h⟩ := ob h
  have q1 : I6 q = _ := (by rw [← (wI_some eI6).2.2]; exact g_up_row cq0 : I6 q = I q).trans rfl
  obtain ⟨I7, eI7, h⟩ := ob h
  have q2 : I7 q = _ := (by rw [← pU_some eI7]; exact g_up_row cq1 : I7 q = I6 q).trans q1
  obtain ⟨u8, -, h⟩ := ob h
  rcases oi h with ⟨-, h⟩ | ⟨-, h⟩
  · obtain rfl := Option.some.inj h
    exact q2
  · obtain rfl := Option.some.inj h
    exact q2
set_option maxRecDepth 100000 in
set_option maxHeartbeats 1000000 in
theorem zlX1_search_19 (rec : Int32 → gM → Option gM) (k : Nat) (v1 : Int32) (s : (Int32 × gM)) {r : (gM) ⊕ (gM)} (h : lX1_search_19 rec k v1 s = some r) (q : Nat) (hrec : ∀ (d : Int32) (I r : gM), rec d I = some r → r q = I q) (cq0 : q ≠ k + 10) (cq1 : q ≠ k + 1) (cq2 : q ≠ k + 4) (cq3 : q ≠ k + 3) (cq4 : q ≠ k) (cq5 : q ≠ k + 8) (cq6 : q ≠ k + 9) : ((Sum.elim (fun x : gM => x q) (fun x : gM => x q)) r) = s.2 q := by
  unfold lX1_search_19 at h
  revert s
  refine itO_ind (P := fun s : (Int32 × gM) => ((Sum.elim (fun x : gM => x q) (fun x : gM => x q)) r) = s.2 q) (fun s y h hl hr => ?_)
  rcases oi h with ⟨-, h⟩ | ⟨-, h⟩
  · obtain rfl := Option.some.inj h
    have hh := hr _ rfl
    subst hh
    exact rfl
  · obtain ⟨r2, -, h⟩ := ob h
    obtain ⟨r3, -, h⟩ := ob h
    rcases oi h with ⟨-, h⟩ | ⟨-, h⟩
    · obtain ⟨r4, er4, h⟩ := ob h
      have q1 : r4 q = _ := (zfX1_deepen rec k v1 r2 s.2 er4 q hrec cq0 cq1 cq2 cq3 cq4 cq5 cq6).trans rfl
      obtain ⟨r5, -, h⟩ := ob h
      unfold bX1_search_63 at h
      rcases oi h with ⟨-, h⟩ | ⟨-, h⟩
      · obtain rfl := Option.some.inj h
        have hh := hr _ rfl
        subst hh
        exact q1
      · obtain ⟨r6, er6, h⟩ := ob h
        have q2 : r6.2 q = _ := (zfX1_isLeapt k ((v1 * 4) + r5) (r2 + 1) r4 er6 q cq0 cq4).trans q1
        rcases oi h with ⟨-, h⟩ | ⟨-, h⟩
        · obtain rfl := Option.some.inj h
          have hh := hr _ rfl
          subst hh
          exact q2
        · obtain rfl := Option.some.inj h
          exact (hl _ rfl).trans q2
    · unfold bX1_search_63 at h
      rcases oi h with ⟨-, h⟩ | ⟨-, h⟩
      · obtain rfl := Option.some.inj h
        have hh := hr _ rfl
        subst hh
        exact rfl
      · obtain ⟨r6, er6, h⟩ := ob h
        have q3 : r6.2 q = _ := (zfX1_isLeapt k ((v1 * 4) + r3) r2 s.2 er6 q cq0 cq4).trans rfl
        rcases oi h with ⟨-, h⟩ | ⟨-, h⟩
        · obtain rfl := Option.some.inj h
          have hh := hr _ rfl
          subst hh
          exact q3
        · obtain rfl := Option.some.inj h
          exact (hl _ rfl).trans q3
set_option maxRecDepth 100000 in
set_option maxHeartbeats 1000000 in
theorem zfX1_searchB (rec : Int32 → gM → Option gM) (k : Nat) (v1 : Int32) (I : gM) {r : gM} (h : fX1_searchB rec k v1 I = some r) (q : Nat) (hrec : ∀ (d : Int32) (I r : gM), rec d I = some r → r q = I q) (cq0 : q ≠ k + 10) (cq1 : q ≠ k + 1) (cq2 : q ≠ k + 4) (cq3 : q ≠ k + 3) (cq4 : q ≠ k) (cq5 : q ≠ k + 8) (cq6 : q ≠ k + 9) : r q = I q := by
  unfold fX1_searchB at h
  rcases oi h with ⟨-, h⟩ | ⟨-, h⟩
  · obtain rfl := Option.some.inj h
    exact rfl
  · obtain ⟨r1, er1, h⟩ := ob h
    have q1 : r1.2 q = _ := (zfX1_isOpened k v1 I er1 q cq0).trans rfl
    rcases oi h with ⟨-, h⟩ | ⟨-, h⟩
    · obtain rfl := Option.some.inj h
      exact q1
    · obtain ⟨w7, ew7, h⟩ := ob h
      have q2 := (zlX1_search_19 rec k v1 ((0 : Int32), r1.2) ew7 q hrec cq0 cq1 cq2 cq3 cq4 cq5 cq6).trans q1
      rcases w7 with w7_0 | w7_1
      · replace h := oE1 h
        have q3 : w7_0 q = _ := q2
        obtain rfl := Option.some.inj h
        exact q3
      · replace h := oE2 h
        have q4 : w7_1 q = _ := q2
        obtain rfl := Option.some.inj h
        exact q4
theorem zfX1_search (n : Nat) (k : Nat) (d : Int32) (I : gM) {r : gM} (h : fX1_search n k d I = some r) (q : Nat) (cq0 : q ≠ k + 10) (cq1 : q ≠ k + 1) (cq2 : q ≠ k + 4) (cq3 : q ≠ k + 3) (cq4 : q ≠ k) (cq5 : q ≠ k + 8) (cq6 : q ≠ k + 9) : r q = I q := by
  induction n generalizing d I r with
  | zero => cases h
  | succ n ih => exact zfX1_searchB _ k d I h q (fun d I r h => ih d I h) cq0 cq1 cq2 cq3 cq4 cq5 cq6
set_option maxRecDepth 100000 in
set_option maxHeartbeats 1000000 in
theorem zlX1_findBy_20 (k : Nat) (v3 : Int32) (s : (Int32 × Int32 × Int32 × gM)) {r : gM} (h : lX1_findBy_20 k v3 s = some r) (q : Nat) (cq0 : q ≠ k + 2) (cq1 : q ≠ k) : r q = s.2.2.2 q := by
  unfold lX1_findBy_20 at h
  revert s
  refine itO_ind (P := fun s : (Int32 × Int32 × Int32 × gM) => r q = s.2.2.2 q) (fun s y h hl hr => ?_)
  rcases oi h with ⟨-, h⟩ | ⟨-, h⟩
  · obtain rfl := Option.some.inj h
    have hh := hr _ rfl
    subst hh
    exact rfl
  · obtain ⟨u3, -, h⟩ := ob h
    obtain ⟨u4, -, h⟩ := ob h
    obtain ⟨r5, -, h⟩ := ob h
    obtain ⟨u6, -, h⟩ := ob h
    obtain ⟨u7, -, h⟩ := ob h
    obtain ⟨r8, er8, h⟩ := ob h
    have q1 : r8 q = _ := (zfX1_addLetters k (v3 &&& ((1 : Int32) <<< (r5 &&& 31))) s.2.2.2 er8 q cq0 cq1).trans rfl
    obtain rfl := Option.some.inj h
    exact (hl _ rfl).trans q1
set_option maxRecDepth 100000 in
set_option maxHeartbeats 1000000 in
theorem zfX1_findBy (k : Nat) (k1 : Nat) (v2 : Int32) (I : gM) {r : gM} (h : fX1_findBy k k1 v2 I = some r) (q : Nat) (cq0 : q ≠ k) (cq1 : q ≠ k + 2) (cq2 : q ≠ k + 1) (cq3 : q ≠ k + 7) (cq4 : q ≠ k + 8) (cq5 : q ≠ k + 9) (cq6 : q ≠ k + 6) (cq7 : q ≠ k + 5) (cq8 : q ≠ k + 10) (cq9 : q ≠ k + 4) (cq10 : q ≠ k + 3) : r q = I q := by
  unfold fX1_findBy at h
  obtain ⟨r1, -, h⟩ := ob h
  obtain ⟨I2, eI2, h⟩ := ob h
  have q1 : I2 q = _ := (by rw [← pU_some eI2]; exact g_up_row cq0 : I2 q = I q).trans rfl
  obtain ⟨w9, ew9, h⟩ := ob h
  have q2 : w9 q = _ := (zlX1_findBy_20 k r1 ((15 : Int32), v2, (0 : Int32), I2) ew9 q cq1 cq0).trans q1
  obtain ⟨r10, er10, h⟩ := ob h
  have q3 : r10 q = _ := (zfX1_open k k1 w9 er10 q cq0 cq2 cq3 cq4 cq5 cq6 cq7).trans q2
  obtain ⟨r11, er11, h⟩ := ob h
  have q4 : r11 q = _ := (zfX1_search 6 k (0 : Int32) r10 er11 q cq8 cq2 cq9 cq10 cq0 cq4 cq5).trans q3
  obtain rfl := Option.some.inj h
  exact q4
set_option maxRecDepth 100000 in
set_option maxHeartbeats 1000000 in
theorem zfX1_findLeading (k : Nat) (k1 : Nat) (v2 : Int32) (I : gM) {r : gM} (h : fX1_findLeading k k1 v2 I = some r) (q : Nat) (cq0 : q ≠ k) (cq1 : q ≠ k + 2) (cq2 : q ≠ k + 1) (cq3 : q ≠ k + 7) (cq4 : q ≠ k + 8) (cq5 : q ≠ k + 9) (cq6 : q ≠ k + 6) (cq7 : q ≠ k + 5) (cq8 : q ≠ k + 10) (cq9 : q ≠ k + 4) (cq10 : q ≠ k + 3) : r q = I q := by
  unfold fX1_findLeading at h
  obtain ⟨r1, -, h⟩ := ob h
  obtain ⟨I2, eI2, h⟩ := ob h
  have q1 : I2 q = _ := (by rw [← pU_some eI2]; exact g_up_row cq0 : I2 q = I q).trans rfl
  obtain ⟨r3, er3, h⟩ := ob h
  have q2 : r3 q = _ := (zfX1_addLetters k (r1 &&& v2) I2 er3 q cq1 cq0).trans q1
  obtain ⟨r4, er4, h⟩ := ob h
  have q3 : r4 q = _ := (zfX1_addLetters k (r1 &&& (v2 ^^^ (-1))) r3 er4 q cq1 cq0).trans q2
  obtain ⟨r5, er5, h⟩ := ob h
  have q4 : r5 q = _ := (zfX1_open k k1 r4 er5 q cq0 cq2 cq3 cq4 cq5 cq6 cq7).trans q3
  obtain ⟨r6, er6, h⟩ := ob h
  have q5 : r6 q = _ := (zfX1_search 6 k (0 : Int32) r5 er6 q cq8 cq2 cq9 cq10 cq0 cq4 cq5).trans q4
  obtain rfl := Option.some.inj h
  exact q5
set_option maxRecDepth 100000 in
set_option maxHeartbeats 1000000 in
theorem zfX2_clear (k : Nat) (I : gM) {r : gM} (h : fX2_clear k I = some r) (q : Nat) (cq0 : q ≠ k) : r q = I q := by
  unfold fX2_clear at h
  obtain ⟨I1, eI1, h⟩ := ob h
  have q1 : I1 q = _ := (by rw [← pU_some eI1]; exact g_up_row cq0 : I1 q = I q).trans rfl
  obtain ⟨I2, eI2, h⟩ := ob h
  have q2 : I2 q = _ := (by rw [← pU_some eI2]; exact g_up_row cq0 : I2 q = I1 q).trans q1
  obtain rfl := Option.some.inj h
  exact q2
set_option maxRecDepth 100000 in
set_option maxHeartbeats 1000000 in
theorem zfX2_copyFrom (k : Nat) (k1 : Nat) (I : gM) {r : gM} (h : fX2_copyFrom k k1 I = some r) (q : Nat) (cq0 : q ≠ k + 1) (cq1 : q ≠ k) : r q = I q := by
  unfold fX2_copyFrom at h
  obtain ⟨I1, eI1, h⟩ := ob h
  have q1 : I1 q = _ := (by rw [← (cpI_some eI1).2.2.2.2.2]; funext j; exact if_neg cq0 : I1 q = I q).trans rfl
  obtain ⟨I2, eI2, h⟩ := ob h
  have q2 : I2 q = _ := (by rw [← pU_some eI2]; exact g_up_row cq1 : I2 q = I1 q).trans q1
  obtain ⟨I3, eI3, h⟩ := ob h
  have q3 : I3 q = _ := (by rw [← pU_some eI3]; exact g_up_row cq1 : I3 q = I2 q).trans q2
  obtain rfl := Option.some.inj h
  exact q3
set_option maxRecDepth 100000 in
set_option maxHeartbeats 1000000 in
theorem zfX2_add (k : Nat) (v1 : Int32) (v2 : Int32) (v3 : Int32) (I : gM) {r : gM} (h : fX2_add k v1 v2 v3 I = some r) (q : Nat) (cq0 : q ≠ k + 1) (cq1 : q ≠ k) : r q = I q := by
  unfold fX2_add at h
  obtain ⟨I1, eI1, h⟩ := ob h
  have q1 : I1 q = _ := (by rw [← (wI_some eI1).2.2]; exact g_up_row cq0 : I1 q = I q).trans rfl
  obtain ⟨I2, eI2, h⟩ := ob h
  have q2 : I2 q = _ := (by rw [← (wI_some eI2).2.2]; exact g_up_row cq0 : I2 q = I1 q).trans q1
  obtain ⟨I3, eI3, h⟩ := ob h
  have q3 : I3 q = _ := (by rw [← (wI_some eI3).2.2]; exact g_up_row cq0 : I3 q = I2 q).trans q2
  obtain ⟨I4, eI4, h⟩ := ob h
  have q4 : I4 q = _ := (by rw [← pU_some eI4]; exact g_up_row cq1 : I4 q = I3 q).trans q3
  obtain ⟨I5, eI5, h⟩ := ob h
  have q5 : I5 q = _ := (by rw [← pU_some eI5]; exact g_up_row cq1 : I5 q = I4 q).trans q4
  obtain rfl := Option.some.inj h
  exact q5
set_option maxRecDepth 100000 in
set_option maxHeartbeats 1000000 in
theorem zfX2_dropLatest (k : Nat) (I : gM) {r : gM} (h : fX2_dropLatest k I = some r) (q : Nat) (cq0 : q ≠ k) : r q = I q := by
  unfold fX2_dropLatest at h
  rcases oi h with ⟨-, h⟩ | ⟨-, h⟩
  · obtain rfl := Option.some.inj h
    exact rfl
  · obtain ⟨I1, eI1, h⟩ := ob h
    have q1 : I1 q = _ := (by rw [← pU_some eI1]; exact g_up_row cq0 : I1 q = I q).trans rfl
    obtain ⟨I2, eI2, h⟩ := ob h
    have q2 : I2 q = _ := (by rw [← pU_some eI2]; exact g_up_row cq0 : I2 q = I1 q).trans q1
    obtain rfl := Option.some.inj h
    exact q2
set_option maxRecDepth 100000 in
set_option maxHeartbeats 1000000 in
theorem zfX3_clear (I : gM) {r : gM} (h : fX3_clear I = some r) (q : Nat) (cq0 : q ≠ 48) : r q = I q := by
  unfold fX3_clear at h
  obtain ⟨I1, eI1, h⟩ := ob h
  have q1 : I1 q = _ := (by rw [← pU_some eI1]; exact g_up_row cq0 : I1 q = I q).trans rfl
  obtain ⟨I2, eI2, h⟩ := ob h
  have q2 : I2 q = _ := (by rw [← pU_some eI2]; exact g_up_row cq0 : I2 q = I1 q).trans q1
  obtain rfl := Option.some.inj h
  exact q2
set_option maxRecDepth 100000 in
set_option maxHeartbeats 1000000 in
theorem zfX3_add (v1 : Int32) (v2 : Int32) (v3 : Int32) (I : gM) {r : gM} (h : fX3_add v1 v2 v3 I = some r) (q : Nat) (cq0 : q ≠ 49) (cq1 : q ≠ 48) : r q = I q := by
  unfold fX3_add at h
  obtain ⟨I1, eI1, h⟩ := ob h
  have q1 : I1 q = _ := (by rw [← (wI_some eI1).2.2]; exact g_up_row cq0 : I1 q = I q).trans rfl
  obtain ⟨I2, eI2, h⟩ := ob h
  have q2 : I2 q = _ := (by rw [← (wI_some eI2).2.2]; exact g_up_row cq0 : I2 q = I1 q).trans q1
  obtain ⟨I3, eI3, h⟩ := ob h
  have q3 : I3 q = _ := (by rw [← (wI_some eI3).2.2]; exact g_up_row cq0 : I3 q = I2 q).trans q2
  obtain ⟨I4, eI4, h⟩ := ob h
  have q4 : I4 q = _ := (by rw [← pU_some eI4]; exact g_up_row cq1 : I4 q = I3 q).trans q3
  obtain ⟨I5, eI5, h⟩ := ob h
  have q5 : I5 q = _ := (by rw [← pU_some eI5]; exact g_up_row cq1 : I5 q = I4 q).trans q4
  obtain rfl := Option.some.inj h
  exact q5
set_option maxRecDepth 100000 in
set_option maxHeartbeats 1000000 in
theorem zfX3_dropLatest (I : gM) {r : gM} (h : fX3_dropLatest I = some r) (q : Nat) (cq0 : q ≠ 48) : r q = I q := by
  unfold fX3_dropLatest at h
  rcases oi h with ⟨-, h⟩ | ⟨-, h⟩
  · obtain rfl := Option.some.inj h
    exact rfl
  · obtain ⟨I1, eI1, h⟩ := ob h
    have q1 : I1 q = _ := (by rw [← pU_some eI1]; exact g_up_row cq0 : I1 q = I q).trans rfl
    obtain ⟨I2, eI2, h⟩ := ob h
    have q2 : I2 q = _ := (by rw [← pU_some eI2]; exact g_up_row cq0 : I2 q = I1 q).trans q1
    obtain rfl := Option.some.inj h
    exact q2
set_option maxRecDepth 100000 in
set_option maxHeartbeats 1000000 in
theorem zfX4_clear (k : Nat) (I : gM) {r : gM} (h : fX4_clear k I = some r) (q : Nat) (cq0 : q ≠ k) : r q = I q := by
  unfold fX4_clear at h
  obtain ⟨I1, eI1, h⟩ := ob h
  have q1 : I1 q = _ := (by rw [← pU_some eI1]; exact g_up_row cq0 : I1 q = I q).trans rfl
  obtain rfl := Option.some.inj h
  exact q1
set_option maxRecDepth 100000 in
set_option maxHeartbeats 1000000 in
theorem zfX4_copyFrom (k : Nat) (k1 : Nat) (I : gM) {r : gM} (h : fX4_copyFrom k k1 I = some r) (q : Nat) (cq0 : q ≠ k) (cq1 : q ≠ k + 1) : r q = I q := by
  unfold fX4_copyFrom at h
  obtain ⟨I1, eI1, h⟩ := ob h
  have q1 : I1 q = _ := (by rw [← pU_some eI1]; exact g_up_row cq0 : I1 q = I q).trans rfl
  obtain ⟨I2, eI2, h⟩ := ob h
  have q2 : I2 q = _ := (by rw [← (cpI_some eI2).2.2.2.2.2]; funext j; exact if_neg cq1 : I2 q = I1 q).trans q1
  obtain rfl := Option.some.inj h
  exact q2
set_option maxRecDepth 100000 in
set_option maxHeartbeats 1000000 in
theorem zfX4_add (k : Nat) (v1 : Int32) (v2 : Int32) (I : gM) {r : gM} (h : fX4_add k v1 v2 I = some r) (q : Nat) (cq0 : q ≠ k + 1) (cq1 : q ≠ k) : r q = I q := by
  unfold fX4_add at h
  rcases oi h with ⟨-, h⟩ | ⟨-, h⟩
  · obtain rfl := Option.some.inj h
    exact rfl
  · obtain ⟨I1, eI1, h⟩ := ob h
    have q1 : I1 q = _ := (by rw [← (wI_some eI1).2.2]; exact g_up_row cq0 : I1 q = I q).trans rfl
    obtain ⟨I2, eI2, h⟩ := ob h
    have q2 : I2 q = _ := (by rw [← (wI_some eI2).2.2]; exact g_up_row cq0 : I2 q = I1 q).trans q1
    obtain ⟨r3, er3, h⟩ := ob h
    have q3 : r3 q = _ := (zfJ7_fill_fda19 (k + 1) 60 (((I k 0) * 5) + 2) (((I k 0) * 5) + 5) ((-1) : Int32) I2 er3 q cq0).trans q2
    obtain ⟨I4, eI4, h⟩ := ob h
    have q4 : I4 q = _ := (by rw [← pU_some eI4]; exact g_up_row cq1 : I4 q = r3 q).trans q3
    obtain rfl := Option.some.inj h
    exact q4
set_option maxRecDepth 100000 in
set_option maxHeartbeats 1000000 in
theorem zfX4_setNumber (k : Nat) (v1 : Int32) (v2 : Int32) (I : gM) {r : gM} (h : fX4_setNumber k v1 v2 I = some r) (q : Nat) (cq0 : q ≠ k + 1) : r q = I q := by
  unfold fX4_setNumber at h
  rcases oi h with ⟨-, h⟩ | ⟨-, h⟩
  · obtain rfl := Option.some.inj h
    exact rfl
  · rcases oi h with ⟨-, h⟩ | ⟨-, h⟩
    · obtain rfl := Option.some.inj h
      exact rfl
    · rcases oi h with ⟨-, h⟩ | ⟨-, h⟩
      · obtain rfl := Option.some.inj h
        exact rfl
      · obtain ⟨I1, eI1, h⟩ := ob h
        have q1 : I1 q = _ := (by rw [← (wI_some eI1).2.2]; exact g_up_row cq0 : I1 q = I q).trans rfl
        obtain rfl := Option.some.inj h
        exact q1
set_option maxRecDepth 100000 in
set_option maxHeartbeats 1000000 in
theorem zlX5_insert_45 (k : Nat) (v2 : Int32) (v3 : Int32) (s : (Int32 × gM)) {r : Int32 × gM} (h : lX5_insert_45 k v2 v3 s = some r) (q : Nat) (cq0 : q ≠ k + 4) : r.2 q = s.2 q := by
  unfold lX5_insert_45 at h
  revert s
  refine itO_ind (P := fun s : (Int32 × gM) => r.2 q = s.2 q) (fun s y h hl hr => ?_)
  rcases oi h with ⟨-, h⟩ | ⟨-, h⟩
  · obtain rfl := Option.some.inj h
    have hh := hr _ rfl
    subst hh
    exact rfl
  · obtain ⟨u5, -, h⟩ := ob h
    rcases oi h with ⟨-, h⟩ | ⟨-, h⟩
    · obtain rfl := Option.some.inj h
      have hh := hr _ rfl
      subst hh
      exact rfl
    · obtain ⟨u6, -, h⟩ := ob h
      obtain ⟨I7, eI7, h⟩ := ob h
      have q1 : I7 q = _ := (by rw [← (wI_some eI7).2.2]; exact g_up_row cq0 : I7 q = s.2 q).trans rfl
      obtain rfl := Option.some.inj h
      exact (hl _ rfl).trans q1
set_option maxRecDepth 100000 in
set_option maxHeartbeats 1000000 in
theorem zfX5_insert (k : Nat) (v1 : Int32) (v2 : Int32) (I : gM) {r : gM} (h : fX5_insert k v1 v2 I = some r) (q : Nat) (cq0 : q ≠ k + 4) (cq1 : q ≠ k + 2) : r q = I q := by
  unfold fX5_insert at h
  obtain ⟨r1, -, h⟩ := ob h
  rcases oi h with ⟨-, h⟩ | ⟨-, h⟩
  · obtain rfl := Option.some.inj h
    exact rfl
  · obtain ⟨u2, -, h⟩ := ob h
    rcases oi h with ⟨-, h⟩ | ⟨-, h⟩
    · obtain rfl := Option.some.inj h
      exact rfl
    · obtain ⟨r3, -, h⟩ := ob h
      rcases oi h with ⟨-, h⟩ | ⟨-, h⟩
      · obtain ⟨u4, -, h⟩ := ob h
        obtain ⟨w8, ew8, h⟩ := ob h
        have q1 : w8.2 q = _ := (zlX5_insert_45 k v2 (v1 * 12) ((v1 * 12) + u4, I) ew8 q cq0).trans rfl
        unfold bX5_insert_86 at h
        obtain ⟨I9, eI9, h⟩ := ob h
        have q2 : I9 q = _ := (by rw [← (wI_some eI9).2.2]; exact g_up_row cq0 : I9 q = w8.2 q).trans q1
        obtain ⟨u10, -, h⟩ := ob h
        obtain ⟨I11, eI11, h⟩ := ob h
        have q3 : I11 q = _ := (by rw [← (wI_some eI11).2.2]; exact g_up_row cq1 : I11 q = I9 q).trans q2
        obtain rfl := Option.some.inj h
        exact q3
      · obtain rfl := Option.some.inj h
        exact rfl
set_option maxRecDepth 100000 in
set_option maxHeartbeats 1000000 in
theorem zlX5_remove_56 (k : Nat) (v4 : Int32) (s : (Int32 × gM)) {r : gM} (h : lX5_remove_56 k v4 s = some r) (q : Nat) (cq0 : q ≠ k + 4) : r q = s.2 q := by
  unfold lX5_remove_56 at h
  revert s
  refine itO_ind (P := fun s : (Int32 × gM) => r q = s.2 q) (fun s y h hl hr => ?_)
  rcases oi h with ⟨-, h⟩ | ⟨-, h⟩
  · obtain rfl := Option.some.inj h
    have hh := hr _ rfl
    subst hh
    exact rfl
  · obtain ⟨u5, -, h⟩ := ob h
    obtain ⟨I6, eI6, h⟩ := ob h
    have q1 : I6 q = _ := (by rw [← (wI_some eI6).2.2]; exact g_up_row cq0 : I6 q = s.2 q).trans rfl
    obtain rfl := Option.some.inj h
    exact (hl _ rfl).trans q1
set_option maxRecDepth 100000 in
set_option maxHeartbeats 1000000 in
theorem zfX5_remove (k : Nat) (v1 : Int32) (v2 : Int32) (I : gM) {r : gM} (h : fX5_remove k v1 v2 I = some r) (q : Nat) (cq0 : q ≠ k + 2) (cq1 : q ≠ k + 4) : r q = I q := by
  unfold fX5_remove at h
  obtain ⟨r1, -, h⟩ := ob h
  rcases oi h with ⟨-, h⟩ | ⟨-, h⟩
  · unfold bX5_remove_18 at h
    rcases oi h with ⟨-, h⟩ | ⟨-, h⟩
    · obtain rfl := Option.some.inj h
      exact rfl
    · obtain ⟨u2, -, h⟩ := ob h
      obtain ⟨I3, eI3, h⟩ := ob h
      have q1 : I3 q = _ := (by rw [← (wI_some eI3).2.2]; exact g_up_row cq0 : I3 q = I q).trans rfl
      obtain ⟨u4, -, h⟩ := ob h
      obtain ⟨w7, ew7, h⟩ := ob h
      have q2 : w7 q = _ := (zlX5_remove_56 k ((v1 * 12) + u4) ((v1 * 12) + ((-1) : Int32), I3) ew7 q cq1).trans q1
      obtain rfl := Option.some.inj h
      exact q2
  · obtain ⟨r8, -, h⟩ := ob h
    unfold bX5_remove_18 at h
    rcases oi h with ⟨-, h⟩ | ⟨-, h⟩
    · obtain rfl := Option.some.inj h
      exact rfl
    · obtain ⟨u2, -, h⟩ := ob h
      obtain ⟨I3, eI3, h⟩ := ob h
      have q3 : I3 q = _ := (by rw [← (wI_some eI3).2.2]; exact g_up_row cq0 : I3 q = I q).trans rfl
      obtain ⟨u4, -, h⟩ := ob h
      obtain ⟨w7, ew7, h⟩ := ob h
      have q4 : w7 q = _ := (zlX5_remove_56 k ((v1 * 12) + u4) ((v1 * 12) + r8, I3) ew7 q cq1).trans q3
      obtain rfl := Option.some.inj h
      exact q4
set_option maxRecDepth 100000 in
set_option maxHeartbeats 1000000 in
theorem zfX5_change (k : Nat) (v1 : Int32) (v2 : Int32) (v3 : Int32) (I : gM) {r : gM} (h : fX5_change k v1 v2 v3 I = some r) (q : Nat) (cq0 : q ≠ k + 4) (cq1 : q ≠ k + 2) (cq2 : q ≠ k) : r q = I q := by
  unfold fX5_change at h
  rcases oi h with ⟨-, h⟩ | ⟨-, h⟩
  · obtain ⟨r1, er1, h⟩ := ob h
    have q1 : r1 q = _ := (zfX5_insert k v2 v3 I er1 q cq0 cq1).trans rfl
    obtain rfl := Option.some.inj h
    exact q1
  · rcases oi h with ⟨-, h⟩ | ⟨-, h⟩
    · obtain ⟨r2, er2, h⟩ := ob h
      have q2 : r2 q = _ := (zfX5_remove k v2 v3 I er2 q cq1 cq0).trans rfl
      obtain rfl := Option.some.inj h
      exact q2
    · rcases oi h with ⟨-, h⟩ | ⟨-, h⟩
      · obtain ⟨I3, eI3, h⟩ := ob h
        have q3 : I3 q = _ := (by rw [← pU_some eI3]; exact g_up_row cq2 : I3 q = I q).trans rfl
        obtain rfl := Option.some.inj h
        exact q3
      · obtain ⟨I4, eI4, h⟩ := ob h
        have q4 : I4 q = _ := (by rw [← pU_some eI4]; exact g_up_row cq2 : I4 q = I q).trans rfl
        obtain rfl := Option.some.inj h
        exact q4
set_option maxRecDepth 100000 in
set_option maxHeartbeats 1000000 in
theorem zlX4_rehearse_2 (k : Nat) (k1 : Nat) (s : (Int32 × gM)) {r : (Int32 × gM) ⊕ (gM)} (h : lX4_rehearse_2 k k1 s = some r) (q : Nat) (cq0 : q ≠ k1 + 4) (cq1 : q ≠ k1 + 2) (cq2 : q ≠ k1) : ((Sum.elim (fun x : Int32 × gM => x.2 q) (fun x : gM => x q)) r) = s.2 q := by
  unfold lX4_rehearse_2 at h
  revert s
  refine itO_ind (P := fun s : (Int32 × gM) => ((Sum.elim (fun x : Int32 × gM => x.2 q) (fun x : gM => x q)) r) = s.2 q) (fun s y h hl hr => ?_)
  rcases oi h with ⟨-, h⟩ | ⟨-, h⟩
  · obtain rfl := Option.some.inj h
    have hh := hr _ rfl
    subst hh
    exact rfl
  · obtain ⟨r1, -, h⟩ := ob h
    obtain ⟨r2, -, h⟩ := ob h
    obtain ⟨r3, -, h⟩ := ob h
    obtain ⟨r4, -, h⟩ := ob h
    obtain ⟨r5, -, h⟩ := ob h
    obtain ⟨r6, -, h⟩ := ob h
    rcases oi h with ⟨-, h⟩ | ⟨-, h⟩
    · obtain ⟨r7, -, h⟩ := ob h
      obtain ⟨r8, er8, h⟩ := ob h
      have q1 : r8 q = _ := (zfX5_change k1 r1 r2 r7 s.2 er8 q cq0 cq1 cq2).trans rfl
      obtain rfl := Option.some.inj h
      exact (hl _ rfl).trans q1
    · obtain rfl := Option.some.inj h
      have hh := hr _ rfl
      subst hh
      exact rfl
set_option maxRecDepth 100000 in
set_option maxHeartbeats 1000000 in
theorem zfX4_rehearse (k : Nat) (k1 : Nat) (I : gM) {r : Int32 × gM} (h : fX4_rehearse k k1 I = some r) (q : Nat) (cq0 : q ≠ k1 + 4) (cq1 : q ≠ k1 + 2) (cq2 : q ≠ k1) : r.2 q = I q := by
  unfold fX4_rehearse at h
  obtain ⟨w9, ew9, h⟩ := ob h
  have q1 := (zlX4_rehearse_2 k k1 ((0 : Int32), I) ew9 q cq0 cq1 cq2).trans rfl
  rcases w9 with w9_0 | w9_1
  · replace h := oE1 h
    have q2 : w9_0.2 q = _ := q1
    obtain rfl := Option.some.inj h
    exact q2
  · replace h := oE2 h
    have q3 : w9_1 q = _ := q1
    obtain rfl := Option.some.inj h
    exact q3
set_option maxRecDepth 100000 in
set_option maxHeartbeats 1000000 in
theorem zfX5_clear (k : Nat) (I : gM) {r : gM} (h : fX5_clear k I = some r) (q : Nat) (cq0 : q ≠ k) (cq1 : q ≠ k + 1) (cq2 : q ≠ k + 2) : r q = I q := by
  unfold fX5_clear at h
  obtain ⟨I1, eI1, h⟩ := ob h
  have q1 : I1 q = _ := (by rw [← pU_some eI1]; exact g_up_row cq0 : I1 q = I q).trans rfl
  obtain ⟨I2, eI2, h⟩ := ob h
  have q2 : I2 q = _ := (by rw [← pU_some eI2]; exact g_up_row cq0 : I2 q = I1 q).trans q1
  obtain ⟨I3, eI3, h⟩ := ob h
  have q3 : I3 q = _ := (by rw [← pU_some eI3]; exact g_up_row cq0 : I3 q = I2 q).trans q2
  obtain ⟨r4, er4, h⟩ := ob h
  have q4 : r4 q = _ := (zfJ7_fill_53178 (k + 1) 4 (0 : Int32) I3 er4 q cq1).trans q3
  obtain ⟨r5, er5, h⟩ := ob h
  have q5 : r5 q = _ := (zfJ7_fill_53178 (k + 2) 4 (0 : Int32) r4 er5 q cq2).trans q4
  obtain rfl := Option.some.inj h
  exact q5
set_option maxRecDepth 100000 in
set_option maxHeartbeats 1000000 in
theorem zfX5_copyFrom (k : Nat) (k1 : Nat) (I : gM) {r : gM} (h : fX5_copyFrom k k1 I = some r) (q : Nat) (cq0 : q ≠ k) (cq1 : q ≠ k + 1) (cq2 : q ≠ k + 2) (cq3 : q ≠ k + 3) (cq4 : q ≠ k + 4) : r q = I q := by
  unfold fX5_copyFrom at h
  obtain ⟨I1, eI1, h⟩ := ob h
  have q1 : I1 q = _ := (by rw [← pU_some eI1]; exact g_up_row cq0 : I1 q = I q).trans rfl
  obtain ⟨I2, eI2, h⟩ := ob h
  have q2 : I2 q = _ := (by rw [← pU_some eI2]; exact g_up_row cq0 : I2 q = I1 q).trans q1
  obtain ⟨I3, eI3, h⟩ := ob h
  have q3 : I3 q = _ := (by rw [← pU_some eI3]; exact g_up_row cq0 : I3 q = I2 q).trans q2
  obtain ⟨I4, eI4, h⟩ := ob h
  have q4 : I4 q = _ := (by rw [← (cpI_some eI4).2.2.2.2.2]; funext j; exact if_neg cq1 : I4 q = I3 q).trans q3
  obtain ⟨I5, eI5, h⟩ := ob h
  have q5 : I5 q = _ := (by rw [← (cpI_some eI5).2.2.2.2.2]; funext j; exact if_neg cq2 : I5 q = I4 q).trans q4
  obtain ⟨I6, eI6, h⟩ := ob h
  have q6 : I6 q = _ := (by rw [← (cpI_some eI6).2.2.2.2.2]; funext j; exact if_neg cq3 : I6 q = I5 q).trans q5
  obtain ⟨I7, eI7, h⟩ := ob h
  have q7 : I7 q = _ := (by rw [← (cpI_some eI7).2.2.2.2.2]; funext j; exact if_neg cq4 : I7 q = I6 q).trans q6
  obtain rfl := Option.some.inj h
  exact q7
set_option maxRecDepth 100000 in
set_option maxHeartbeats 1000000 in
theorem zfX5_open (k : Nat) (I : gM) {r : gM} (h : fX5_open k I = some r) (q : Nat) (cq0 : q ≠ k + 1) (cq1 : q ≠ k + 2) (cq2 : q ≠ k) : r q = I q := by
  unfold fX5_open at h
  rcases oi h with ⟨-, h⟩ | ⟨-, h⟩
  · obtain rfl := Option.some.inj h
    exact rfl
  · obtain ⟨I1, eI1, h⟩ := ob h
    have q1 : I1 q = _ := (by rw [← (wI_some eI1).2.2]; exact g_up_row cq0 : I1 q = I q).trans rfl
    obtain ⟨I2, eI2, h⟩ := ob h
    have q2 : I2 q = _ := (by rw [← (wI_some eI2).2.2]; exact g_up_row cq1 : I2 q = I1 q).trans q1
    obtain ⟨I3, eI3, h⟩ := ob h
    have q3 : I3 q = _ := (by rw [← pU_some eI3]; exact g_up_row cq2 : I3 q = I2 q).trans q2
    obtain ⟨I4, eI4, h⟩ := ob h
    have q4 : I4 q = _ := (by rw [← pU_some eI4]; exact g_up_row cq2 : I4 q = I3 q).trans q3
    obtain rfl := Option.some.inj h
    exact q4
set_option maxRecDepth 100000 in
set_option maxHeartbeats 1000000 in
theorem zfX5_addLetter (k : Nat) (v1 : Int32) (I : gM) {r : Int32 × gM} (h : fX5_addLetter k v1 I = some r) (q : Nat) (cq0 : q ≠ k + 3) (cq1 : q ≠ k + 1) : r.2 q = I q := by
  unfold fX5_addLetter at h
  obtain ⟨r1, -, h⟩ := ob h
  rcases oi h with ⟨-, h⟩ | ⟨-, h⟩
  · obtain rfl := Option.some.inj h
    exact rfl
  · obtain ⟨u2, -, h⟩ := ob h
    rcases oi h with ⟨-, h⟩ | ⟨-, h⟩
    · obtain rfl := Option.some.inj h
      exact rfl
    · obtain ⟨r3, -, h⟩ := ob h
      rcases oi h with ⟨-, h⟩ | ⟨-, h⟩
      · obtain ⟨u4, -, h⟩ := ob h
        obtain ⟨I5, eI5, h⟩ := ob h
        have q1 : I5 q = _ := (by rw [← (wI_some eI5).2.2]; exact g_up_row cq0 : I5 q = I q).trans rfl
        obtain ⟨u6, -, h⟩ := ob h
        obtain ⟨I7, eI7, h⟩ := ob h
        have q2 : I7 q = _ := (by rw [← (wI_some eI7).2.2]; exact g_up_row cq1 : I7 q = I5 q).trans q1
        obtain rfl := Option.some.inj h
        exact q2
      · obtain rfl := Option.some.inj h
        exact rfl
set_option maxRecDepth 100000 in
set_option maxHeartbeats 1000000 in
theorem zfX5_changeBack (k : Nat) (v1 : Int32) (v2 : Int32) (v3 : Int32) (I : gM) {r : gM} (h : fX5_changeBack k v1 v2 v3 I = some r) (q : Nat) (cq0 : q ≠ k + 2) (cq1 : q ≠ k + 4) (cq2 : q ≠ k) : r q = I q := by
  unfold fX5_changeBack at h
  rcases oi h with ⟨-, h⟩ | ⟨-, h⟩
  · obtain ⟨r1, er1, h⟩ := ob h
    have q1 : r1 q = _ := (zfX5_remove k v2 v3 I er1 q cq0 cq1).trans rfl
    obtain rfl := Option.some.inj h
    exact q1
  · rcases oi h with ⟨-, h⟩ | ⟨-, h⟩
    · obtain ⟨r2, er2, h⟩ := ob h
      have q2 : r2 q = _ := (zfX5_insert k v2 v3 I er2 q cq1 cq0).trans rfl
      obtain rfl := Option.some.inj h
      exact q2
    · obtain ⟨r3, er3, h⟩ := ob h
      have q3 : r3 q = _ := (zfX5_change k v1 v2 v3 I er3 q cq1 cq0 cq2).trans rfl
      obtain rfl := Option.some.inj h
      exact q3
set_option maxRecDepth 100000 in
set_option maxHeartbeats 1000000 in
theorem zlX6_append_3 (v1 : Int32) (s : (Int32 × gM)) {r : gM} (h : lX6_append_3 v1 s = some r) (q : Nat) (cq0 : q ≠ 2) (cq1 : q ≠ 1) : r q = s.2 q := by
  unfold lX6_append_3 at h
  revert s
  refine itO_ind (P := fun s : (Int32 × gM) => r q = s.2 q) (fun s y h hl hr => ?_)
  rcases oi h with ⟨-, h⟩ | ⟨-, h⟩
  · obtain rfl := Option.some.inj h
    have hh := hr _ rfl
    subst hh
    exact rfl
  · rcases oi h with ⟨-, h⟩ | ⟨-, h⟩
    · unfold bX6_append_50 at h
      obtain rfl := Option.some.inj h
      exact (hl _ rfl).trans rfl
    · rcases oi h with ⟨-, h⟩ | ⟨-, h⟩
      · unfold bX6_append_50 at h
        obtain rfl := Option.some.inj h
        exact (hl _ rfl).trans rfl
      · obtain ⟨I1, eI1, h⟩ := ob h
        have q1 : I1 q = _ := (by rw [← (wI_some eI1).2.2]; exact g_up_row cq0 : I1 q = s.2 q).trans rfl
        obtain ⟨I2, eI2, h⟩ := ob h
        have q2 : I2 q = _ := (by rw [← pU_some eI2]; exact g_up_row cq1 : I2 q = I1 q).trans q1
        unfold bX6_append_50 at h
        obtain rfl := Option.some.inj h
        exact (hl _ rfl).trans q2
set_option maxRecDepth 100000 in
set_option maxHeartbeats 1000000 in
theorem zfX6_append (v1 : Int32) (I : gM) {r : gM} (h : fX6_append v1 I = some r) (q : Nat) (cq0 : q ≠ 2) (cq1 : q ≠ 1) : r q = I q := by
  unfold fX6_append at h
  obtain ⟨w3, ew3, h⟩ := ob h
  have q1 : w3 q = _ := (zlX6_append_3 v1 ((24 : Int32), I) ew3 q cq0 cq1).trans rfl
  obtain rfl := Option.some.inj h
  exact q1
set_option maxRecDepth 100000 in
set_option maxHeartbeats 1000000 in
theorem zlX6_peek_0  (s : gM) {r : gM} (h : lX6_peek_0 s = some r) (q : Nat) (cq0 : q ≠ 1) : r q = s q := by
  unfold lX6_peek_0 at h
  revert s
  refine itO_ind (P := fun s : gM => r q = s q) (fun s y h hl hr => ?_)
  rcases oi h with ⟨-, h⟩ | ⟨-, h⟩
  · obtain rfl := Option.some.inj h
    have hh := hr _ rfl
    subst hh
    exact rfl
  · rcases oi h with ⟨-, h⟩ | ⟨-, h⟩
    · obtain rfl := Option.some.inj h
      have hh := hr _ rfl
      subst hh
      exact rfl
    · obtain ⟨u1, -, h⟩ := ob h
      rcases oi h with ⟨-, h⟩ | ⟨-, h⟩
      · obtain ⟨I2, eI2, h⟩ := ob h
        have q1 : I2 q = _ := (by rw [← pU_some eI2]; exact g_up_row cq0 : I2 q = s q).trans rfl
        obtain rfl := Option.some.inj h
        exact (hl _ rfl).trans q1
      · obtain rfl := Option.some.inj h
        have hh := hr _ rfl
        subst hh
        exact rfl
set_option maxRecDepth 100000 in
set_option maxHeartbeats 1000000 in
theorem zfX6_peek (I : gM) {r : Int32 × gM} (h : fX6_peek I = some r) (q : Nat) (cq0 : q ≠ 1) : r.2 q = I q := by
  unfold fX6_peek at h
  obtain ⟨w3, ew3, h⟩ := ob h
  have q1 : w3 q = _ := (zlX6_peek_0 I ew3 q cq0).trans rfl
  unfold bX6_peek_48 at h
  rcases oi h with ⟨-, h⟩ | ⟨-, h⟩
  · obtain rfl := Option.some.inj h
    exact q1
  · rcases oi h with ⟨-, h⟩ | ⟨-, h⟩
    · obtain rfl := Option.some.inj h
      exact q1
    · obtain ⟨u4, -, h⟩ := ob h
      obtain rfl := Option.some.inj h
      exact q1
set_option maxRecDepth 100000 in
set_option maxHeartbeats 1000000 in
theorem zfX6_number (I : gM) {r : Int32 × gM} (h : fX6_number I = some r) (q : Nat) (cq0 : q ≠ 1) : r.2 q = I q := by
  unfold fX6_number at h
  obtain ⟨r1, er1, h⟩ := ob h
  have q1 : r1.2 q = _ := (zfX6_peek I er1 q cq0).trans rfl
  obtain ⟨r2, -, h⟩ := ob h
  rcases oi h with ⟨-, h⟩ | ⟨-, h⟩
  · obtain rfl := Option.some.inj h
    exact q1
  · obtain ⟨I3, eI3, h⟩ := ob h
    have q2 : I3 q = _ := (by rw [← pU_some eI3]; exact g_up_row cq0 : I3 q = r1.2 q).trans q1
    rcases oi h with ⟨-, h⟩ | ⟨-, h⟩
    · obtain rfl := Option.some.inj h
      exact q2
    · rcases oi h with ⟨-, h⟩ | ⟨-, h⟩
      · obtain rfl := Option.some.inj h
        exact q2
      · obtain ⟨u4, -, h⟩ := ob h
        obtain ⟨r5, -, h⟩ := ob h
        rcases oi h with ⟨-, h⟩ | ⟨-, h⟩
        · obtain rfl := Option.some.inj h
          exact q2
        · obtain ⟨u6, -, h⟩ := ob h
          obtain ⟨I7, eI7, h⟩ := ob h
          have q3 : I7 q = _ := (by rw [← pU_some eI7]; exact g_up_row cq0 : I7 q = I3 q).trans q2
          obtain rfl := Option.some.inj h
          exact q3
set_option maxRecDepth 100000 in
set_option maxHeartbeats 1000000 in
theorem zlX6_isRow_5 (k1 : Nat) (v2 : Int32) (s : (Int32 × Int32 × gM)) {r : (gM) ⊕ ((gM) ⊕ (Int32 × gM))} (h : lX6_isRow_5 k1 v2 s = some r) (q : Nat) (cq0 : q ≠ 1) : ((Sum.elim (fun x : gM => x q) (Sum.elim (fun x : gM => x q) (fun x : Int32 × gM => x.2 q))) r) = s.2.2 q := by
  unfold lX6_isRow_5 at h
  revert s
  refine itO_ind (P := fun s : (Int32 × Int32 × gM) => ((Sum.elim (fun x : gM => x q) (Sum.elim (fun x : gM => x q) (fun x : Int32 × gM => x.2 q))) r) = s.2.2 q) (fun s y h hl hr => ?_)
  obtain ⟨u1, -, h⟩ := ob h
  rcases oi h with ⟨-, h⟩ | ⟨-, h⟩
  · obtain rfl := Option.some.inj h
    have hh := hr _ rfl
    subst hh
    exact rfl
  · rcases oi h with ⟨-, h⟩ | ⟨-, h⟩
    · unfold bX6_isRow_42 at h
      obtain ⟨r2, er2, h⟩ := ob h
      have q1 : r2.2 q = _ := (zfX6_number s.2.2 er2 q cq0).trans rfl
      rcases oi h with ⟨-, h⟩ | ⟨-, h⟩
      · obtain rfl := Option.some.inj h
        have hh := hr _ rfl
        subst hh
        exact q1
      · obtain rfl := Option.some.inj h
        exact (hl _ rfl).trans q1
    · obtain ⟨r3, er3, h⟩ := ob h
      have q2 : r3.2 q = _ := (zfX6_peek s.2.2 er3 q cq0).trans rfl
      rcases oi h with ⟨-, h⟩ | ⟨-, h⟩
      · obtain ⟨I4, eI4, h⟩ := ob h
        have q3 : I4 q = _ := (by rw [← pU_some eI4]; exact g_up_row cq0 : I4 q = r3.2 q).trans q2
        unfold bX6_isRow_42 at h
        obtain ⟨r2, er2, h⟩ := ob h
        have q4 : r2.2 q = _ := (zfX6_number I4 er2 q cq0).trans q3
        rcases oi h with ⟨-, h⟩ | ⟨-, h⟩
        · obtain rfl := Option.some.inj h
          have hh := hr _ rfl
          subst hh
          exact q4
        · obtain rfl := Option.some.inj h
          exact (hl _ rfl).trans q4
      · obtain rfl := Option.some.inj h
        have hh := hr _ rfl
        subst hh
        exact q2
set_option maxRecDepth 100000 in
set_option maxHeartbeats 1000000 in
theorem zfX6_isRow (k1 : Nat) (v2 : Int32) (I : gM) {r : Int32 × gM} (h : fX6_isRow k1 v2 I = some r) (q : Nat) (cq0 : q ≠ 1) (cq1 : q ≠ k1 + 4) (cq2 : q ≠ k1 + 2) : r.2 q = I q := by
  unfold fX6_isRow at h
  obtain ⟨w5, ew5, h⟩ := ob h
  have q1 := (zlX6_isRow_5 k1 v2 ((0 : Int32), (0 : Int32), I) ew5 q cq0).trans rfl
  rcases w5 with w5_0 | w5r
  · replace h := oE1 h
    have q2 : w5_0 q = _ := q1
    obtain rfl := Option.some.inj h
    exact q2
  · replace h := oE2 h
    rcases w5r with w5_1 | w5_2
    · replace h := oE1 h
      have q3 : w5_1 q = _ := q1
      obtain rfl := Option.some.inj h
      exact q3
    · replace h := oE2 h
      have q4 : w5_2.2 q = _ := q1
      obtain ⟨r6, er6, h⟩ := ob h
      have q5 : r6 q = _ := (zfX5_insert k1 v2 w5_2.1 w5_2.2 er6 q cq1 cq2).trans q4
      obtain rfl := Option.some.inj h
      exact q5
set_option maxRecDepth 100000 in
set_option maxHeartbeats 1000000 in
theorem zlX6_isClause_13 (k1 : Nat) (s : (Int32 × gM)) {r : (gM) ⊕ (gM)} (h : lX6_isClause_13 k1 s = some r) (q : Nat) (cq0 : q ≠ 1) (cq1 : q ≠ k1 + 3) (cq2 : q ≠ k1 + 1) : ((Sum.elim (fun x : gM => x q) (fun x : gM => x q)) r) = s.2 q := by
  unfold lX6_isClause_13 at h
  revert s
  refine itO_ind (P := fun s : (Int32 × gM) => ((Sum.elim (fun x : gM => x q) (fun x : gM => x q)) r) = s.2 q) (fun s y h hl hr => ?_)
  rcases oi h with ⟨-, h⟩ | ⟨-, h⟩
  · obtain rfl := Option.some.inj h
    have hh := hr _ rfl
    subst hh
    exact rfl
  · obtain ⟨r2, er2, h⟩ := ob h
    have q1 : r2.2 q = _ := (zfX6_peek s.2 er2 q cq0).trans rfl
    rcases oi h with ⟨-, h⟩ | ⟨-, h⟩
    · obtain rfl := Option.some.inj h
      have hh := hr _ rfl
      subst hh
      exact q1
    · rcases oi h with ⟨-, h⟩ | ⟨-, h⟩
      · obtain rfl := Option.some.inj h
        have hh := hr _ rfl
        subst hh
        exact q1
      · obtain ⟨r3, er3, h⟩ := ob h
        have q2 : r3.2 q = _ := (zfX5_addLetter k1 (r2.1 - 97) r2.2 er3 q cq1 cq2).trans q1
        rcases oi h with ⟨-, h⟩ | ⟨-, h⟩
        · obtain rfl := Option.some.inj h
          have hh := hr _ rfl
          subst hh
          exact q2
        · obtain ⟨I4, eI4, h⟩ := ob h
          have q3 : I4 q = _ := (by rw [← pU_some eI4]; exact g_up_row cq0 : I4 q = r3.2 q).trans q2
          obtain rfl := Option.some.inj h
          exact (hl _ rfl).trans q3
set_option maxRecDepth 100000 in
set_option maxHeartbeats 1000000 in
theorem zlX6_isClause_114 (k1 : Nat) (v2 : Int32) (s : (Int32 × gM)) {r : (gM) ⊕ ((gM) ⊕ (gM))} (h : lX6_isClause_114 k1 v2 s = some r) (q : Nat) (cq0 : q ≠ 1) (cq1 : q ≠ k1 + 4) (cq2 : q ≠ k1 + 2) : ((Sum.elim (fun x : gM => x q) (Sum.elim (fun x : gM => x q) (fun x : gM => x q))) r) = s.2 q := by
  unfold lX6_isClause_114 at h
  revert s
  refine itO_ind (P := fun s : (Int32 × gM) => ((Sum.elim (fun x : gM => x q) (Sum.elim (fun x : gM => x q) (fun x : gM => x q))) r) = s.2 q) (fun s y h hl hr => ?_)
  rcases oi h with ⟨-, h⟩ | ⟨-, h⟩
  · obtain rfl := Option.some.inj h
    have hh := hr _ rfl
    subst hh
    exact rfl
  · obtain ⟨r11, er11, h⟩ := ob h
    have q1 : r11.2 q = _ := (zfX6_isRow k1 v2 s.2 er11 q cq0 cq1 cq2).trans rfl
    rcases oi h with ⟨-, h⟩ | ⟨-, h⟩
    · obtain rfl := Option.some.inj h
      have hh := hr _ rfl
      subst hh
      exact q1
    · obtain ⟨r12, er12, h⟩ := ob h
      have q2 : r12.2 q = _ := (zfX6_peek r11.2 er12 q cq0).trans q1
      rcases oi h with ⟨-, h⟩ | ⟨-, h⟩
      · obtain ⟨I13, eI13, h⟩ := ob h
        have q3 : I13 q = _ := (by rw [← pU_some eI13]; exact g_up_row cq0 : I13 q = r12.2 q).trans q2
        obtain rfl := Option.some.inj h
        exact (hl _ rfl).trans q3
      · obtain rfl := Option.some.inj h
        have hh := hr _ rfl
        subst hh
        exact q2
set_option maxRecDepth 100000 in
set_option maxHeartbeats 1000000 in
theorem zfX6_isClause (k1 : Nat) (I : gM) {r : Int32 × gM} (h : fX6_isClause k1 I = some r) (q : Nat) (cq0 : q ≠ k1 + 1) (cq1 : q ≠ k1 + 2) (cq2 : q ≠ k1) (cq3 : q ≠ 1) (cq4 : q ≠ k1 + 3) (cq5 : q ≠ k1 + 4) : r.2 q = I q := by
  unfold fX6_isClause at h
  obtain ⟨r1, er1, h⟩ := ob h
  have q1 : r1 q = _ := (zfX5_open k1 I er1 q cq0 cq1 cq2).trans rfl
  obtain ⟨w5, ew5, h⟩ := ob h
  have q2 := (zlX6_isClause_13 k1 ((0 : Int32), r1) ew5 q cq3 cq4 cq0).trans q1
  rcases w5 with w5_0 | w5_1
  · replace h := oE1 h
    have q3 : w5_0 q = _ := q2
    unfold bX6_isClause_66 at h
    rcases oi h with ⟨-, h⟩ | ⟨-, h⟩
    · obtain rfl := Option.some.inj h
      exact q3
    · obtain ⟨u6, -, h⟩ := ob h
      rcases oi h with ⟨-, h⟩ | ⟨-, h⟩
      · obtain rfl := Option.some.inj h
        exact q3
      · obtain ⟨r7, er7, h⟩ := ob h
        have q4 : r7.2 q = _ := (zfX6_peek w5_0 er7 q cq3).trans q3
        rcases oi h with ⟨-, h⟩ | ⟨-, h⟩
        · obtain ⟨I8, eI8, h⟩ := ob h
          have q5 : I8 q = _ := (by rw [← pU_some eI8]; exact g_up_row cq3 : I8 q = r7.2 q).trans q4
          obtain ⟨r9, er9, h⟩ := ob h
          have q6 : r9.2 q = _ := (zfX6_peek I8 er9 q cq3).trans q5
          obtain ⟨r10, -, h⟩ := ob h
          rcases oi h with ⟨-, h⟩ | ⟨-, h⟩
          · obtain rfl := Option.some.inj h
            exact q6
          · obtain ⟨w14, ew14, h⟩ := ob h
            have q7 := (zlX6_isClause_114 k1 ((r1 k1 0) - 1) ((1 : Int32), r9.2) ew14 q cq3 cq5 cq1).trans q6
            rcases w14 with w14_0 | w14r
            · replace h := oE1 h
              have q8 : w14_0 q = _ := q7
              obtain rfl := Option.some.inj h
              exact q8
            · replace h := oE2 h
              rcases w14r with w14_1 | w14_2
              · replace h := oE1 h
                have q9 : w14_1 q = _ := q7
                obtain rfl := Option.some.inj h
                exact q9
              · replace h := oE2 h
                have q10 : w14_2 q = _ := q7
                obtain ⟨r15, er15, h⟩ := ob h
                have q11 : r15.2 q = _ := (zfX6_isRow k1 ((r1 k1 0) - 1) w14_2 er15 q cq3 cq5 cq1).trans q10
                obtain ⟨u16, -, h⟩ := ob h
                obtain rfl := Option.some.inj h
                exact q11
        · obtain rfl := Option.some.inj h
          exact q4
  · replace h := oE2 h
    have q12 : w5_1 q = _ := q2
    unfold bX6_isClause_66 at h
    rcases oi h with ⟨-, h⟩ | ⟨-, h⟩
    · obtain rfl := Option.some.inj h
      exact q12
    · obtain ⟨u6, -, h⟩ := ob h
      rcases oi h with ⟨-, h⟩ | ⟨-, h⟩
      · obtain rfl := Option.some.inj h
        exact q12
      · obtain ⟨r7, er7, h⟩ := ob h
        have q13 : r7.2 q = _ := (zfX6_peek w5_1 er7 q cq3).trans q12
        rcases oi h with ⟨-, h⟩ | ⟨-, h⟩
        · obtain ⟨I8, eI8, h⟩ := ob h
          have q14 : I8 q = _ := (by rw [← pU_some eI8]; exact g_up_row cq3 : I8 q = r7.2 q).trans q13
          obtain ⟨r9, er9, h⟩ := ob h
          have q15 : r9.2 q = _ := (zfX6_peek I8 er9 q cq3).trans q14
          obtain ⟨r10, -, h⟩ := ob h
          rcases oi h with ⟨-, h⟩ | ⟨-, h⟩
          · obtain rfl := Option.some.inj h
            exact q15
          · obtain ⟨w14, ew14, h⟩ := ob h
            have q16 := (zlX6_isClause_114 k1 ((r1 k1 0) - 1) ((1 : Int32), r9.2) ew14 q cq3 cq5 cq1).trans q15
            rcases w14 with w14_0 | w14r
            · replace h := oE1 h
              have q17 : w14_0 q = _ := q16
              obtain rfl := Option.some.inj h
              exact q17
            · replace h := oE2 h
              rcases w14r with w14_1 | w14_2
              · replace h := oE1 h
                have q18 : w14_1 q = _ := q16
                obtain rfl := Option.some.inj h
                exact q18
              · replace h := oE2 h
                have q19 : w14_2 q = _ := q16
                obtain ⟨r15, er15, h⟩ := ob h
                have q20 : r15.2 q = _ := (zfX6_isRow k1 ((r1 k1 0) - 1) w14_2 er15 q cq3 cq5 cq1).trans q19
                obtain ⟨u16, -, h⟩ := ob h
                obtain rfl := Option.some.inj h
                exact q20
        · obtain rfl := Option.some.inj h
          exact q13
set_option maxRecDepth 100000 in
set_option maxHeartbeats 1000000 in
theorem zlX6_readTables_17 (k1 : Nat) (s : (Int32 × Int32 × gM)) {r : Int32 × gM} (h : lX6_readTables_17 k1 s = some r) (q : Nat) (cq0 : q ≠ 1) (cq1 : q ≠ k1 + 1) (cq2 : q ≠ k1 + 2) (cq3 : q ≠ k1) (cq4 : q ≠ k1 + 3) (cq5 : q ≠ k1 + 4) : r.2 q = s.2.2 q := by
  unfold lX6_readTables_17 at h
  revert s
  refine itO_ind (P := fun s : (Int32 × Int32 × gM) => r.2 q = s.2.2 q) (fun s y h hl hr => ?_)
  rcases oi h with ⟨-, h⟩ | ⟨-, h⟩
  · obtain rfl := Option.some.inj h
    have hh := hr _ rfl
    subst hh
    exact rfl
  · rcases oi h with ⟨-, h⟩ | ⟨-, h⟩
    · obtain rfl := Option.some.inj h
      have hh := hr _ rfl
      subst hh
      exact rfl
    · obtain ⟨r4, er4, h⟩ := ob h
      have q1 : r4.2 q = _ := (zfX6_peek s.2.2 er4 q cq0).trans rfl
      rcases oi h with ⟨-, h⟩ | ⟨-, h⟩
      · obtain ⟨I5, eI5, h⟩ := ob h
        have q2 : I5 q = _ := (by rw [← pU_some eI5]; exact g_up_row cq0 : I5 q = r4.2 q).trans q1
        obtain ⟨r6, er6, h⟩ := ob h
        have q3 : r6.2 q = _ := (zfX6_isClause k1 I5 er6 q cq1 cq2 cq3 cq0 cq4 cq5).trans q2
        obtain rfl := Option.some.inj h
        exact (hl _ rfl).trans q3
      · obtain rfl := Option.some.inj h
        have hh := hr _ rfl
        subst hh
        exact q1
set_option maxRecDepth 100000 in
set_option maxHeartbeats 1000000 in
theorem zfX6_readTables (k1 : Nat) (I : gM) {r : Int32 × gM} (h : fX6_readTables k1 I = some r) (q : Nat) (cq0 : q ≠ 1) (cq1 : q ≠ k1) (cq2 : q ≠ k1 + 1) (cq3 : q ≠ k1 + 2) (cq4 : q ≠ k1 + 3) (cq5 : q ≠ k1 + 4) : r.2 q = I q := by
  unfold fX6_readTables at h
  obtain ⟨I1, eI1, h⟩ := ob h
  have q1 : I1 q = _ := (by rw [← pU_some eI1]; exact g_up_row cq0 : I1 q = I q).trans rfl
  obtain ⟨r2, er2, h⟩ := ob h
  have q2 : r2 q = _ := (zfX5_clear k1 I1 er2 q cq1 cq2 cq3).trans q1
  obtain ⟨r3, er3, h⟩ := ob h
  have q3 : r3.2 q = _ := (zfX6_isClause k1 r2 er3 q cq2 cq3 cq1 cq0 cq4 cq5).trans q2
  obtain ⟨w7, ew7, h⟩ := ob h
  have q4 : w7.2 q = _ := (zlX6_readTables_17 k1 (r3.1, (1 : Int32), r3.2) ew7 q cq0 cq2 cq3 cq1 cq4 cq5).trans q3
  unfold bX6_readTables_57 at h
  rcases oi h with ⟨-, h⟩ | ⟨-, h⟩
  · obtain rfl := Option.some.inj h
    exact q4
  · obtain ⟨r8, er8, h⟩ := ob h
    have q5 : r8.2 q = _ := (zfX6_peek w7.2 er8 q cq0).trans q4
    rcases oi h with ⟨-, h⟩ | ⟨-, h⟩
    · obtain rfl := Option.some.inj h
      exact q5
    · obtain rfl := Option.some.inj h
      exact q5
set_option maxRecDepth 100000 in
set_option maxHeartbeats 1000000 in
theorem zfX6_isOrder (k1 : Nat) (I : gM) {r : Int32 × gM} (h : fX6_isOrder k1 I = some r) (q : Nat) (cq0 : q ≠ 1) (cq1 : q ≠ k1 + 1) (cq2 : q ≠ k1) : r.2 q = I q := by
  unfold fX6_isOrder at h
  obtain ⟨r1, er1, h⟩ := ob h
  have q1 : r1.2 q = _ := (zfX6_number I er1 q cq0).trans rfl
  rcases oi h with ⟨-, h⟩ | ⟨-, h⟩
  · obtain rfl := Option.some.inj h
    exact q1
  · rcases oi h with ⟨-, h⟩ | ⟨-, h⟩
    · obtain ⟨r2, er2, h⟩ := ob h
      have q2 : r2 q = _ := (zfX4_add k1 (3 : Int32) r1.1 r1.2 er2 q cq1 cq2).trans q1
      obtain rfl := Option.some.inj h
      exact q2
    · obtain ⟨I3, eI3, h⟩ := ob h
      have q3 : I3 q = _ := (by rw [← pU_some eI3]; exact g_up_row cq0 : I3 q = r1.2 q).trans q1
      obtain rfl := Option.some.inj h
      exact q3
set_option maxRecDepth 100000 in
set_option maxHeartbeats 1000000 in
theorem zlX6_isRowOfStep_13 (k1 : Nat) (s : (Int32 × gM)) {r : (gM) ⊕ ((gM) ⊕ (gM))} (h : lX6_isRowOfStep_13 k1 s = some r) (q : Nat) (cq0 : q ≠ 1) (cq1 : q ≠ k1 + 1) : ((Sum.elim (fun x : gM => x q) (Sum.elim (fun x : gM => x q) (fun x : gM => x q))) r) = s.2 q := by
  unfold lX6_isRowOfStep_13 at h
  revert s
  refine itO_ind (P := fun s : (Int32 × gM) => ((Sum.elim (fun x : gM => x q) (Sum.elim (fun x : gM => x q) (fun x : gM => x q))) r) = s.2 q) (fun s y h hl hr => ?_)
  rcases oi h with ⟨-, h⟩ | ⟨-, h⟩
  · obtain rfl := Option.some.inj h
    have hh := hr _ rfl
    subst hh
    exact rfl
  · obtain ⟨I2, eI2, h⟩ := ob h
    have q1 : I2 q = _ := (by rw [← pU_some eI2]; exact g_up_row cq0 : I2 q = s.2 q).trans rfl
    obtain ⟨r3, er3, h⟩ := ob h
    have q2 : r3.2 q = _ := (zfX6_number I2 er3 q cq0).trans q1
    rcases oi h with ⟨-, h⟩ | ⟨-, h⟩
    · obtain rfl := Option.some.inj h
      have hh := hr _ rfl
      subst hh
      exact q2
    · obtain ⟨r4, er4, h⟩ := ob h
      have q3 : r4 q = _ := (zfX4_setNumber k1 s.1 r3.1 r3.2 er4 q cq1).trans q2
      obtain ⟨r5, er5, h⟩ := ob h
      have q4 : r5.2 q = _ := (zfX6_peek r4 er5 q cq0).trans q3
      rcases oi h with ⟨-, h⟩ | ⟨-, h⟩
      · obtain rfl := Option.some.inj h
        exact (hl _ rfl).trans q4
      · obtain rfl := Option.some.inj h
        have hh := hr _ rfl
        subst hh
        exact q4
set_option maxRecDepth 100000 in
set_option maxHeartbeats 1000000 in
theorem zfX6_isRowOfStep (k1 : Nat) (I : gM) {r : Int32 × gM} (h : fX6_isRowOfStep k1 I = some r) (q : Nat) (cq0 : q ≠ 1) (cq1 : q ≠ k1 + 1) : r.2 q = I q := by
  unfold fX6_isRowOfStep at h
  obtain ⟨r1, er1, h⟩ := ob h
  have q1 : r1.2 q = _ := (zfX6_peek I er1 q cq0).trans rfl
  rcases oi h with ⟨-, h⟩ | ⟨-, h⟩
  · obtain ⟨w6, ew6, h⟩ := ob h
    have q2 := (zlX6_isRowOfStep_13 k1 ((0 : Int32), r1.2) ew6 q cq0 cq1).trans q1
    rcases w6 with w6_0 | w6r
    · replace h := oE1 h
      have q3 : w6_0 q = _ := q2
      obtain rfl := Option.some.inj h
      exact q3
    · replace h := oE2 h
      rcases w6r with w6_1 | w6_2
      · replace h := oE1 h
        have q4 : w6_1 q = _ := q2
        obtain rfl := Option.some.inj h
        exact q4
      · replace h := oE2 h
        have q5 : w6_2 q = _ := q2
        obtain rfl := Option.some.inj h
        exact q5
  · obtain rfl := Option.some.inj h
    exact q1
set_option maxRecDepth 100000 in
set_option maxHeartbeats 1000000 in
theorem zfX6_isStep (k1 : Nat) (I : gM) {r : Int32 × gM} (h : fX6_isStep k1 I = some r) (q : Nat) (cq0 : q ≠ 1) (cq1 : q ≠ k1 + 1) (cq2 : q ≠ k1) : r.2 q = I q := by
  unfold fX6_isStep at h
  obtain ⟨r1, er1, h⟩ := ob h
  have q1 : r1.2 q = _ := (zfX6_peek I er1 q cq0).trans rfl
  rcases oi h with ⟨-, h⟩ | ⟨-, h⟩
  · unfold bX6_isStep_31 at h
    obtain ⟨I2, eI2, h⟩ := ob h
    have q2 : I2 q = _ := (by rw [← pU_some eI2]; exact g_up_row cq0 : I2 q = r1.2 q).trans q1
    rcases oi h with ⟨-, h⟩ | ⟨-, h⟩
    · obtain ⟨r3, er3, h⟩ := ob h
      have q3 : r3.2 q = _ := (zfX6_isOrder k1 I2 er3 q cq0 cq1 cq2).trans q2
      obtain ⟨u4, -, h⟩ := ob h
      obtain rfl := Option.some.inj h
      exact q3
    · obtain ⟨r5, er5, h⟩ := ob h
      have q4 : r5.2 q = _ := (zfX6_peek I2 er5 q cq0).trans q2
      obtain ⟨r6, -, h⟩ := ob h
      rcases oi h with ⟨-, h⟩ | ⟨-, h⟩
      · obtain rfl := Option.some.inj h
        exact q4
      · obtain ⟨I7, eI7, h⟩ := ob h
        have q5 : I7 q = _ := (by rw [← pU_some eI7]; exact g_up_row cq0 : I7 q = r5.2 q).trans q4
        rcases oi h with ⟨-, h⟩ | ⟨-, h⟩
        · unfold bX6_isStep_99 at h
          obtain ⟨r8, er8, h⟩ := ob h
          have q6 : r8 q = _ := (zfX4_add k1 (0 : Int32) (r5.1 - 48) I7 er8 q cq1 cq2).trans q5
          rcases oi h with ⟨-, h⟩ | ⟨-, h⟩
          · unfold bX6_isStep_120 at h
            obtain rfl := Option.some.inj h
            exact q6
          · obtain ⟨r9, er9, h⟩ := ob h
            have q7 : r9.2 q = _ := (zfX6_isRowOfStep k1 r8 er9 q cq0 cq1).trans q6
            rcases oi h with ⟨-, h⟩ | ⟨-, h⟩
            · obtain rfl := Option.some.inj h
              exact q7
            · unfold bX6_isStep_120 at h
              obtain rfl := Option.some.inj h
              exact q7
        · rcases oi h with ⟨-, h⟩ | ⟨-, h⟩
          · unfold bX6_isStep_99 at h
            obtain ⟨r8, er8, h⟩ := ob h
            have q8 : r8 q = _ := (zfX4_add k1 (1 : Int32) (r5.1 - 48) I7 er8 q cq1 cq2).trans q5
            rcases oi h with ⟨-, h⟩ | ⟨-, h⟩
            · unfold bX6_isStep_120 at h
              obtain rfl := Option.some.inj h
              exact q8
            · obtain ⟨r9, er9, h⟩ := ob h
              have q9 : r9.2 q = _ := (zfX6_isRowOfStep k1 r8 er9 q cq0 cq1).trans q8
              rcases oi h with ⟨-, h⟩ | ⟨-, h⟩
              · obtain rfl := Option.some.inj h
                exact q9
              · unfold bX6_isStep_120 at h
                obtain rfl := Option.some.inj h
                exact q9
          · unfold bX6_isStep_99 at h
            obtain ⟨r8, er8, h⟩ := ob h
            have q10 : r8 q = _ := (zfX4_add k1 (2 : Int32) (r5.1 - 48) I7 er8 q cq1 cq2).trans q5
            rcases oi h with ⟨-, h⟩ | ⟨-, h⟩
            · unfold bX6_isStep_120 at h
              obtain rfl := Option.some.inj h
              exact q10
            · obtain ⟨r9, er9, h⟩ := ob h
              have q11 : r9.2 q = _ := (zfX6_isRowOfStep k1 r8 er9 q cq0 cq1).trans q10
              rcases oi h with ⟨-, h⟩ | ⟨-, h⟩
              · obtain rfl := Option.some.inj h
                exact q11
              · unfold bX6_isStep_120 at h
                obtain rfl := Option.some.inj h
                exact q11
  · rcases oi h with ⟨-, h⟩ | ⟨-, h⟩
    · unfold bX6_isStep_31 at h
      obtain ⟨I2, eI2, h⟩ := ob h
      have q12 : I2 q = _ := (by rw [← pU_some eI2]; exact g_up_row cq0 : I2 q = r1.2 q).trans q1
      rcases oi h with ⟨-, h⟩ | ⟨-, h⟩
      · obtain ⟨r3, er3, h⟩ := ob h
        have q13 : r3.2 q = _ := (zfX6_isOrder k1 I2 er3 q cq0 cq1 cq2).trans q12
        obtain ⟨u4, -, h⟩ := ob h
        obtain rfl := Option.some.inj h
        exact q13
      · obtain ⟨r5, er5, h⟩ := ob h
        have q14 : r5.2 q = _ := (zfX6_peek I2 er5 q cq0).trans q12
        obtain ⟨r6, -, h⟩ := ob h
        rcases oi h with ⟨-, h⟩ | ⟨-, h⟩
        · obtain rfl := Option.some.inj h
          exact q14
        · obtain ⟨I7, eI7, h⟩ := ob h
          have q15 : I7 q = _ := (by rw [← pU_some eI7]; exact g_up_row cq0 : I7 q = r5.2 q).trans q14
          rcases oi h with ⟨-, h⟩ | ⟨-, h⟩
          · unfold bX6_isStep_99 at h
            obtain ⟨r8, er8, h⟩ := ob h
            have q16 : r8 q = _ := (zfX4_add k1 (0 : Int32) (r5.1 - 48) I7 er8 q cq1 cq2).trans q15
            rcases oi h with ⟨-, h⟩ | ⟨-, h⟩
            · unfold bX6_isStep_120 at h
              obtain rfl := Option.some.inj h
              exact q16
            · obtain ⟨r9, er9, h⟩ := ob h
              have q17 : r9.2 q = _ := (zfX6_isRowOfStep k1 r8 er9 q cq0 cq1).trans q16
              rcases oi h with ⟨-, h⟩ | ⟨-, h⟩
              · obtain rfl := Option.some.inj h
                exact q17
              · unfold bX6_isStep_120 at h
                obtain rfl := Option.some.inj h
                exact q17
          · rcases oi h with ⟨-, h⟩ | ⟨-, h⟩
            · unfold bX6_isStep_99 at h
              obtain ⟨r8, er8, h⟩ := ob h
              have q18 : r8 q = _ := (zfX4_add k1 (1 : Int32) (r5.1 - 48) I7 er8 q cq1 cq2).trans q15
              rcases oi h with ⟨-, h⟩ | ⟨-, h⟩
              · unfold bX6_isStep_120 at h
                obtain rfl := Option.some.inj h
                exact q18
              · obtain ⟨r9, er9, h⟩ := ob h
                have q19 : r9.2 q = _ := (zfX6_isRowOfStep k1 r8 er9 q cq0 cq1).trans q18
                rcases oi h with ⟨-, h⟩ | ⟨-, h⟩
                · obtain rfl := Option.some.inj h
                  exact q19
                · unfold bX6_isStep_120 at h
                  obtain rfl := Option.some.inj h
                  exact q19
            · unfold bX6_isStep_99 at h
              obtain ⟨r8, er8, h⟩ := ob h
              have q20 : r8 q = _ := (zfX4_add k1 (2 : Int32) (r5.1 - 48) I7 er8 q cq1 cq2).trans q15
              rcases oi h with ⟨-, h⟩ | ⟨-, h⟩
              · unfold bX6_isStep_120 at h
                obtain rfl := Option.some.inj h
                exact q20
              · obtain ⟨r9, er9, h⟩ := ob h
                have q21 : r9.2 q = _ := (zfX6_isRowOfStep k1 r8 er9 q cq0 cq1).trans q20
                rcases oi h with ⟨-, h⟩ | ⟨-, h⟩
                · obtain rfl := Option.some.inj h
                  exact q21
                · unfold bX6_isStep_120 at h
                  obtain rfl := Option.some.inj h
                  exact q21
    · rcases oi h with ⟨-, h⟩ | ⟨-, h⟩
      · unfold bX6_isStep_31 at h
        obtain ⟨I2, eI2, h⟩ := ob h
        have q22 : I2 q = _ := (by rw [← pU_some eI2]; exact g_up_row cq0 : I2 q = r1.2 q).trans q1
        rcases oi h with ⟨-, h⟩ | ⟨-, h⟩
        · obtain ⟨r3, er3, h⟩ := ob h
          have q23 : r3.2 q = _ := (zfX6_isOrder k1 I2 er3 q cq0 cq1 cq2).trans q22
          obtain ⟨u4, -, h⟩ := ob h
          obtain rfl := Option.some.inj h
          exact q23
        · obtain ⟨r5, er5, h⟩ := ob h
          have q24 : r5.2 q = _ := (zfX6_peek I2 er5 q cq0).trans q22
          obtain ⟨r6, -, h⟩ := ob h
          rcases oi h with ⟨-, h⟩ | ⟨-, h⟩
          · obtain rfl := Option.some.inj h
            exact q24
          · obtain ⟨I7, eI7, h⟩ := ob h
            have q25 : I7 q = _ := (by rw [← pU_some eI7]; exact g_up_row cq0 : I7 q = r5.2 q).trans q24
            rcases oi h with ⟨-, h⟩ | ⟨-, h⟩
            · unfold bX6_isStep_99 at h
              obtain ⟨r8, er8, h⟩ := ob h
              have q26 : r8 q = _ := (zfX4_add k1 (0 : Int32) (r5.1 - 48) I7 er8 q cq1 cq2).trans q25
              rcases oi h with ⟨-, h⟩ | ⟨-, h⟩
              · unfold bX6_isStep_120 at h
                obtain rfl := Option.some.inj h
                exact q26
              · obtain ⟨r9, er9, h⟩ := ob h
                have q27 : r9.2 q = _ := (zfX6_isRowOfStep k1 r8 er9 q cq0 cq1).trans q26
                rcases oi h with ⟨-, h⟩ | ⟨-, h⟩
                · obtain rfl := Option.some.inj h
                  exact q27
                · unfold bX6_isStep_120 at h
                  obtain rfl := Option.some.inj h
                  exact q27
            · rcases oi h with ⟨-, h⟩ | ⟨-, h⟩
              · unfold bX6_isStep_99 at h
                obtain ⟨r8, er8, h⟩ := ob h
                have q28 : r8 q = _ := (zfX4_add k1 (1 : Int32) (r5.1 - 48) I7 er8 q cq1 cq2).trans q25
                rcases oi h with ⟨-, h⟩ | ⟨-, h⟩
                · unfold bX6_isStep_120 at h
                  obtain rfl := Option.some.inj h
                  exact q28
                · obtain ⟨r9, er9, h⟩ := ob h
                  have q29 : r9.2 q = _ := (zfX6_isRowOfStep k1 r8 er9 q cq0 cq1).trans q28
                  rcases oi h with ⟨-, h⟩ | ⟨-, h⟩
                  · obtain rfl := Option.some.inj h
                    exact q29
                  · unfold bX6_isStep_120 at h
                    obtain rfl := Option.some.inj h
                    exact q29
              · unfold bX6_isStep_99 at h
                obtain ⟨r8, er8, h⟩ := ob h
                have q30 : r8 q = _ := (zfX4_add k1 (2 : Int32) (r5.1 - 48) I7 er8 q cq1 cq2).trans q25
                rcases oi h with ⟨-, h⟩ | ⟨-, h⟩
                · unfold bX6_isStep_120 at h
                  obtain rfl := Option.some.inj h
                  exact q30
                · obtain ⟨r9, er9, h⟩ := ob h
                  have q31 : r9.2 q = _ := (zfX6_isRowOfStep k1 r8 er9 q cq0 cq1).trans q30
                  rcases oi h with ⟨-, h⟩ | ⟨-, h⟩
                  · obtain rfl := Option.some.inj h
                    exact q31
                  · unfold bX6_isStep_120 at h
                    obtain rfl := Option.some.inj h
                    exact q31
      · rcases oi h with ⟨-, h⟩ | ⟨-, h⟩
        · unfold bX6_isStep_31 at h
          obtain ⟨I2, eI2, h⟩ := ob h
          have q32 : I2 q = _ := (by rw [← pU_some eI2]; exact g_up_row cq0 : I2 q = r1.2 q).trans q1
          rcases oi h with ⟨-, h⟩ | ⟨-, h⟩
          · obtain ⟨r3, er3, h⟩ := ob h
            have q33 : r3.2 q = _ := (zfX6_isOrder k1 I2 er3 q cq0 cq1 cq2).trans q32
            obtain ⟨u4, -, h⟩ := ob h
            obtain rfl := Option.some.inj h
            exact q33
          · obtain ⟨r5, er5, h⟩ := ob h
            have q34 : r5.2 q = _ := (zfX6_peek I2 er5 q cq0).trans q32
            obtain ⟨r6, -, h⟩ := ob h
            rcases oi h with ⟨-, h⟩ | ⟨-, h⟩
            · obtain rfl := Option.some.inj h
              exact q34
            · obtain ⟨I7, eI7, h⟩ := ob h
              have q35 : I7 q = _ := (by rw [← pU_some eI7]; exact g_up_row cq0 : I7 q = r5.2 q).trans q34
              rcases oi h with ⟨-, h⟩ | ⟨-, h⟩
              · unfold bX6_isStep_99 at h
                obtain ⟨r8, er8, h⟩ := ob h
                have q36 : r8 q = _ := (zfX4_add k1 (0 : Int32) (r5.1 - 48) I7 er8 q cq1 cq2).trans q35
                rcases oi h with ⟨-, h⟩ | ⟨-, h⟩
                · unfold bX6_isStep_120 at h
                  obtain rfl := Option.some.inj h
                  exact q36
                · obtain ⟨r9, er9, h⟩ := ob h
                  have q37 : r9.2 q = _ := (zfX6_isRowOfStep k1 r8 er9 q cq0 cq1).trans q36
                  rcases oi h with ⟨-, h⟩ | ⟨-, h⟩
                  · obtain rfl := Option.some.inj h
                    exact q37
                  · unfold bX6_isStep_120 at h
                    obtain rfl := Option.some.inj h
                    exact q37
              · rcases oi h with ⟨-, h⟩ | ⟨-, h⟩
                · unfold bX6_isStep_99 at h
                  obtain ⟨r8, er8, h⟩ := ob h
                  have q38 : r8 q = _ := (zfX4_add k1 (1 : Int32) (r5.1 - 48) I7 er8 q cq1 cq2).trans q35
                  rcases oi h with ⟨-, h⟩ | ⟨-, h⟩
                  · unfold bX6_isStep_120 at h
                    obtain rfl := Option.some.inj h
                    exact q38
                  · obtain ⟨r9, er9, h⟩ := ob h
                    have q39 : r9.2 q = _ := (zfX6_isRowOfStep k1 r8 er9 q cq0 cq1).trans q38
                    rcases oi h with ⟨-, h⟩ | ⟨-, h⟩
                    · obtain rfl := Option.some.inj h
                      exact q39
                    · unfold bX6_isStep_120 at h
                      obtain rfl := Option.some.inj h
                      exact q39
                · unfold bX6_isStep_99 at h
                  obtain ⟨r8, er8, h⟩ := ob h
                  have q40 : r8 q = _ := (zfX4_add k1 (2 : Int32) (r5.1 - 48) I7 er8 q cq1 cq2).trans q35
                  rcases oi h with ⟨-, h⟩ | ⟨-, h⟩
                  · unfold bX6_isStep_120 at h
                    obtain rfl := Option.some.inj h
                    exact q40
                  · obtain ⟨r9, er9, h⟩ := ob h
                    have q41 : r9.2 q = _ := (zfX6_isRowOfStep k1 r8 er9 q cq0 cq1).trans q40
                    rcases oi h with ⟨-, h⟩ | ⟨-, h⟩
                    · obtain rfl := Option.some.inj h
                      exact q41
                    · unfold bX6_isStep_120 at h
                      obtain rfl := Option.some.inj h
                      exact q41
        · obtain rfl := Option.some.inj h
          exact q1
set_option maxRecDepth 100000 in
set_option maxHeartbeats 1000000 in
theorem zlX6_readScript_17 (k1 : Nat) (s : (Int32 × Int32 × gM)) {r : Int32 × gM} (h : lX6_readScript_17 k1 s = some r) (q : Nat) (cq0 : q ≠ 1) (cq1 : q ≠ k1 + 1) (cq2 : q ≠ k1) : r.2 q = s.2.2 q := by
  unfold lX6_readScript_17 at h
  revert s
  refine itO_ind (P := fun s : (Int32 × Int32 × gM) => r.2 q = s.2.2 q) (fun s y h hl hr => ?_)
  rcases oi h with ⟨-, h⟩ | ⟨-, h⟩
  · obtain rfl := Option.some.inj h
    have hh := hr _ rfl
    subst hh
    exact rfl
  · rcases oi h with ⟨-, h⟩ | ⟨-, h⟩
    · obtain rfl := Option.some.inj h
      have hh := hr _ rfl
      subst hh
      exact rfl
    · obtain ⟨r4, er4, h⟩ := ob h
      have q1 : r4.2 q = _ := (zfX6_peek s.2.2 er4 q cq0).trans rfl
      rcases oi h with ⟨-, h⟩ | ⟨-, h⟩
      · obtain ⟨I5, eI5, h⟩ := ob h
        have q2 : I5 q = _ := (by rw [← pU_some eI5]; exact g_up_row cq0 : I5 q = r4.2 q).trans q1
        obtain ⟨r6, er6, h⟩ := ob h
        have q3 : r6.2 q = _ := (zfX6_isStep k1 I5 er6 q cq0 cq1 cq2).trans q2
        obtain rfl := Option.some.inj h
        exact (hl _ rfl).trans q3
      · obtain rfl := Option.some.inj h
        have hh := hr _ rfl
        subst hh
        exact q1
set_option maxRecDepth 100000 in
set_option maxHeartbeats 1000000 in
theorem zfX6_readScript (k1 : Nat) (I : gM) {r : Int32 × gM} (h : fX6_readScript k1 I = some r) (q : Nat) (cq0 : q ≠ 1) (cq1 : q ≠ k1) (cq2 : q ≠ k1 + 1) : r.2 q = I q := by
  unfold fX6_readScript at h
  obtain ⟨I1, eI1, h⟩ := ob h
  have q1 : I1 q = _ := (by rw [← pU_some eI1]; exact g_up_row cq0 : I1 q = I q).trans rfl
  obtain ⟨r2, er2, h⟩ := ob h
  have q2 : r2 q = _ := (zfX4_clear k1 I1 er2 q cq1).trans q1
  obtain ⟨r3, er3, h⟩ := ob h
  have q3 : r3.2 q = _ := (zfX6_isStep k1 r2 er3 q cq0 cq2 cq1).trans q2
  obtain ⟨w7, ew7, h⟩ := ob h
  have q4 : w7.2 q = _ := (zlX6_readScript_17 k1 (r3.1, (1 : Int32), r3.2) ew7 q cq0 cq2 cq1).trans q3
  unfold bX6_readScript_58 at h
  rcases oi h with ⟨-, h⟩ | ⟨-, h⟩
  · obtain rfl := Option.some.inj h
    exact q4
  · obtain ⟨r8, er8, h⟩ := ob h
    have q5 : r8.2 q = _ := (zfX6_peek w7.2 er8 q cq0).trans q4
    rcases oi h with ⟨-, h⟩ | ⟨-, h⟩
    · obtain rfl := Option.some.inj h
      exact q5
    · obtain rfl := Option.some.inj h
      exact q5
set_option maxRecDepth 100000 in
set_option maxHeartbeats 1000000 in
theorem zlX7_weigh_10 (k1 : Nat) (k2 : Nat) (s : (Int32 × gM)) {r : gM} (h : lX7_weigh_10 k1 k2 s = some r) (q : Nat) (cq0 : q ≠ k2) (cq1 : q ≠ k2 + 2) (cq2 : q ≠ k2 + 1) (cq3 : q ≠ k2 + 7) (cq4 : q ≠ k2 + 8) (cq5 : q ≠ k2 + 9) (cq6 : q ≠ k2 + 6) (cq7 : q ≠ k2 + 5) (cq8 : q ≠ k2 + 10) (cq9 : q ≠ k2 + 4) (cq10 : q ≠ k2 + 3) (cq11 : q ≠ 43) : r q = s.2 q := by
  unfold lX7_weigh_10 at h
  revert s
  refine itO_ind (P := fun s : (Int32 × gM) => r q = s.2 q) (fun s y h hl hr => ?_)
  rcases oi h with ⟨-, h⟩ | ⟨-, h⟩
  · obtain rfl := Option.some.inj h
    have hh := hr _ rfl
    subst hh
    exact rfl
  · obtain ⟨r1, er1, h⟩ := ob h
    have q1 : r1 q = _ := (zfX1_findBy k2 k1 s.1 s.2 er1 q cq0 cq1 cq2 cq3 cq4 cq5 cq6 cq7 cq8 cq9 cq10).trans rfl
    rcases oi h with ⟨-, h⟩ | ⟨-, h⟩
    · unfold bX7_weigh_37 at h
      obtain ⟨I2, eI2, h⟩ := ob h
      have q2 : I2 q = _ := (by rw [← pU_some eI2]; exact g_up_row cq11 : I2 q = r1 q).trans q1
      obtain ⟨I3, eI3, h⟩ := ob h
      have q3 : I3 q = _ := (by rw [← pU_some eI3]; exact g_up_row cq11 : I3 q = I2 q).trans q2
      unfold bX7_weigh_50 at h
      rcases oi h with ⟨-, h⟩ | ⟨-, h⟩
      · unfold bX7_weigh_65 at h
        obtain ⟨I4, eI4, h⟩ := ob h
        have q4 : I4 q = _ := (by rw [← pU_some eI4]; exact g_up_row cq11 : I4 q = I3 q).trans q3
        unfold bX7_weigh_73 at h
        obtain rfl := Option.some.inj h
        exact (hl _ rfl).trans q4
      · rcases oi h with ⟨-, h⟩ | ⟨-, h⟩
        · unfold bX7_weigh_73 at h
          obtain rfl := Option.some.inj h
          exact (hl _ rfl).trans q3
        · unfold bX7_weigh_65 at h
          obtain ⟨I4, eI4, h⟩ := ob h
          have q5 : I4 q = _ := (by rw [← pU_some eI4]; exact g_up_row cq11 : I4 q = I3 q).trans q3
          unfold bX7_weigh_73 at h
          obtain rfl := Option.some.inj h
          exact (hl _ rfl).trans q5
    · rcases oi h with ⟨-, h⟩ | ⟨-, h⟩
      · unfold bX7_weigh_50 at h
        rcases oi h with ⟨-, h⟩ | ⟨-, h⟩
        · unfold bX7_weigh_65 at h
          obtain ⟨I4, eI4, h⟩ := ob h
          have q6 : I4 q = _ := (by rw [← pU_some eI4]; exact g_up_row cq11 : I4 q = r1 q).trans q1
          unfold bX7_weigh_73 at h
          obtain rfl := Option.some.inj h
          exact (hl _ rfl).trans q6
        · rcases oi h with ⟨-, h⟩ | ⟨-, h⟩
          · unfold bX7_weigh_73 at h
            obtain rfl := Option.some.inj h
            exact (hl _ rfl).trans q1
          · unfold bX7_weigh_65 at h
            obtain ⟨I4, eI4, h⟩ := ob h
            have q7 : I4 q = _ := (by rw [← pU_some eI4]; exact g_up_row cq11 : I4 q = r1 q).trans q1
            unfold bX7_weigh_73 at h
            obtain rfl := Option.some.inj h
            exact (hl _ rfl).trans q7
      · unfold bX7_weigh_37 at h
        obtain ⟨I2, eI2, h⟩ := ob h
        have q8 : I2 q = _ := (by rw [← pU_some eI2]; exact g_up_row cq11 : I2 q = r1 q).trans q1
        obtain ⟨I3, eI3, h⟩ := ob h
        have q9 : I3 q = _ := (by rw [← pU_some eI3]; exact g_up_row cq11 : I3 q = I2 q).trans q8
        unfold bX7_weigh_50 at h
        rcases oi h with ⟨-, h⟩ | ⟨-, h⟩
        · unfold bX7_weigh_65 at h
          obtain ⟨I4, eI4, h⟩ := ob h
          have q10 : I4 q = _ := (by rw [← pU_some eI4]; exact g_up_row cq11 : I4 q = I3 q).trans q9
          unfold bX7_weigh_73 at h
          obtain rfl := Option.some.inj h
          exact (hl _ rfl).trans q10
        · rcases oi h with ⟨-, h⟩ | ⟨-, h⟩
          · unfold bX7_weigh_73 at h
            obtain rfl := Option.some.inj h
            exact (hl _ rfl).trans q9
          · unfold bX7_weigh_65 at h
            obtain ⟨I4, eI4, h⟩ := ob h
            have q11 : I4 q = _ := (by rw [← pU_some eI4]; exact g_up_row cq11 : I4 q = I3 q).trans q9
            unfold bX7_weigh_73 at h
            obtain rfl := Option.some.inj h
            exact (hl _ rfl).trans q11
set_option maxRecDepth 100000 in
set_option maxHeartbeats 1000000 in
theorem zfX7_weigh (k1 : Nat) (k2 : Nat) (I : gM) {r : gM} (h : fX7_weigh k1 k2 I = some r) (q : Nat) (cq0 : q ≠ k2) (cq1 : q ≠ k2 + 2) (cq2 : q ≠ k2 + 1) (cq3 : q ≠ k2 + 7) (cq4 : q ≠ k2 + 8) (cq5 : q ≠ k2 + 9) (cq6 : q ≠ k2 + 6) (cq7 : q ≠ k2 + 5) (cq8 : q ≠ k2 + 10) (cq9 : q ≠ k2 + 4) (cq10 : q ≠ k2 + 3) (cq11 : q ≠ 43) : r q = I q := by
  unfold fX7_weigh at h
  rcases oi h with ⟨-, h⟩ | ⟨-, h⟩
  · obtain ⟨w5, ew5, h⟩ := ob h
    have q1 : w5 q = _ := (zlX7_weigh_10 k1 k2 ((0 : Int32), I) ew5 q cq0 cq1 cq2 cq3 cq4 cq5 cq6 cq7 cq8 cq9 cq10 cq11).trans rfl
    obtain ⟨I6, eI6, h⟩ := ob h
    have q2 : I6 q = _ := (by rw [← pU_some eI6]; exact g_up_row cq11 : I6 q = w5 q).trans q1
    obtain rfl := Option.some.inj h
    exact q2
  · obtain rfl := Option.some.inj h
    exact rfl
set_option maxRecDepth 100000 in
set_option maxHeartbeats 1000000 in
theorem zfX8_feed (v1 : Int32) (v2 : Int32) (v3 : Int32) (v4 : Int32) (v5 : Int32) (I : gM) {r : Int32 × gM} (h : fX8_feed v1 v2 v3 v4 v5 I = some r) (q : Nat) (cq0 : q ≠ 2) (cq1 : q ≠ 1) : r.2 q = I q := by
  unfold fX8_feed at h
  obtain ⟨r1, -, h⟩ := ob h
  obtain ⟨r2, -, h⟩ := ob h
  obtain ⟨r3, -, h⟩ := ob h
  obtain ⟨r4, -, h⟩ := ob h
  obtain ⟨r5, -, h⟩ := ob h
  rcases oi h with ⟨-, h⟩ | ⟨-, h⟩
  · obtain ⟨r6, er6, h⟩ := ob h
    have q1 : r6 q = _ := (zfX6_append v1 I er6 q cq0 cq1).trans rfl
    obtain ⟨r7, er7, h⟩ := ob h
    have q2 : r7 q = _ := (zfX6_append v2 r6 er7 q cq0 cq1).trans q1
    obtain ⟨r8, er8, h⟩ := ob h
    have q3 : r8 q = _ := (zfX6_append v3 r7 er8 q cq0 cq1).trans q2
    obtain ⟨r9, er9, h⟩ := ob h
    have q4 : r9 q = _ := (zfX6_append v4 r8 er9 q cq0 cq1).trans q3
    obtain ⟨r10, er10, h⟩ := ob h
    have q5 : r10 q = _ := (zfX6_append v5 r9 er10 q cq0 cq1).trans q4
    obtain rfl := Option.some.inj h
    exact q5
  · obtain rfl := Option.some.inj h
    exact rfl
set_option maxRecDepth 100000 in
set_option maxHeartbeats 1000000 in
theorem zfX8_end (v1 : Int32) (I : gM) {r : Int32 × gM} (h : fX8_end v1 I = some r) (q : Nat) (cq0 : q ≠ 1) : r.2 q = I q := by
  unfold fX8_end at h
  rcases oi h with ⟨-, h⟩ | ⟨-, h⟩
  · obtain rfl := Option.some.inj h
    exact rfl
  · rcases oi h with ⟨-, h⟩ | ⟨-, h⟩
    · obtain ⟨I1, eI1, h⟩ := ob h
      have q1 : I1 q = _ := (by rw [← pU_some eI1]; exact g_up_row cq0 : I1 q = I q).trans rfl
      obtain rfl := Option.some.inj h
      exact q1
    · obtain rfl := Option.some.inj h
      exact rfl
set_option maxRecDepth 100000 in
set_option maxHeartbeats 1000000 in
theorem zfX8_fault (v1 : Int32) (I : gM) {r : Int32 × gM} (h : fX8_fault v1 I = some r) (q : Nat) (cq0 : q ≠ 1) (cq1 : q ≠ 8) (cq2 : q ≠ 9) (cq3 : q ≠ 10) (cq4 : q ≠ 11) (cq5 : q ≠ 12) (cq6 : q ≠ 51) (cq7 : q ≠ 52) : r.2 q = I q := by
  unfold fX8_fault at h
  rcases oi h with ⟨-, h⟩ | ⟨-, h⟩
  · obtain ⟨r1, er1, h⟩ := ob h
    have q1 : r1.2 q = _ := (zfX6_readTables 8 I er1 q cq0 cq1 cq2 cq3 cq4 cq5).trans rfl
    obtain rfl := Option.some.inj h
    exact q1
  · rcases oi h with ⟨-, h⟩ | ⟨-, h⟩
    · obtain ⟨r2, er2, h⟩ := ob h
      have q2 : r2.2 q = _ := (zfX6_readScript 51 I er2 q cq0 cq6 cq7).trans rfl
      obtain rfl := Option.some.inj h
      exact q2
    · obtain rfl := Option.some.inj h
      exact rfl
set_option maxRecDepth 100000 in
set_option maxHeartbeats 1000000 in
theorem zfX8_renew (I : gM) {r : gM} (h : fX8_renew I = some r) (q : Nat) (cq0 : q ≠ 18) (cq1 : q ≠ 20) (cq2 : q ≠ 19) (cq3 : q ≠ 25) (cq4 : q ≠ 26) (cq5 : q ≠ 27) (cq6 : q ≠ 24) (cq7 : q ≠ 23) (cq8 : q ≠ 28) (cq9 : q ≠ 22) (cq10 : q ≠ 21) (cq11 : q ≠ 43) : r q = I q := by
  unfold fX8_renew at h
  obtain ⟨r1, er1, h⟩ := ob h
  have q1 : r1 q = _ := (zfX1_findBy 18 3 (I 3 2) I er1 q cq0 cq1 cq2 cq3 cq4 cq5 cq6 cq7 cq8 cq9 cq10).trans rfl
  obtain ⟨I2, eI2, h⟩ := ob h
  have q2 : I2 q = _ := (by rw [← pU_some eI2]; exact g_up_row cq11 : I2 q = r1 q).trans q1
  obtain rfl := Option.some.inj h
  exact q2
set_option maxRecDepth 100000 in
set_option maxHeartbeats 1000000 in
theorem zfX8_textOfTables (I : gM) {r : Int32 × gM} (h : fX8_textOfTables I = some r) (q : Nat) (cq0 : q ≠ 1) (cq1 : q ≠ 8) (cq2 : q ≠ 9) (cq3 : q ≠ 10) (cq4 : q ≠ 11) (cq5 : q ≠ 12) (cq6 : q ≠ 3) (cq7 : q ≠ 4) (cq8 : q ≠ 5) (cq9 : q ≠ 6) (cq10 : q ≠ 7) (cq11 : q ≠ 44) (cq12 : q ≠ 48) (cq13 : q ≠ 0) (cq14 : q ≠ 18) (cq15 : q ≠ 20) (cq16 : q ≠ 19) (cq17 : q ≠ 25) (cq18 : q ≠ 26) (cq19 : q ≠ 27) (cq20 : q ≠ 24) (cq21 : q ≠ 23) (cq22 : q ≠ 28) (cq23 : q ≠ 22) (cq24 : q ≠ 21) (cq25 : q ≠ 43) : r.2 q = I q := by
  unfold fX8_textOfTables at h
  obtain ⟨r1, er1, h⟩ := ob h
  have q1 : r1.2 q = _ := (zfX6_readTables 8 I er1 q cq0 cq1 cq2 cq3 cq4 cq5).trans rfl
  rcases oi h with ⟨-, h⟩ | ⟨-, h⟩
  · obtain ⟨r2, er2, h⟩ := ob h
    have q2 : r2 q = _ := (zfX5_copyFrom 3 8 r1.2 er2 q cq6 cq7 cq8 cq9 cq10).trans q1
    obtain ⟨I3, eI3, h⟩ := ob h
    have q3 : I3 q = _ := (by rw [← pU_some eI3]; exact g_up_row cq0 : I3 q = r2 q).trans q2
    obtain ⟨r4, er4, h⟩ := ob h
    have q4 : r4 q = _ := (zfX2_clear 44 I3 er4 q cq11).trans q3
    obtain ⟨r5, er5, h⟩ := ob h
    have q5 : r5 q = _ := (zfX3_clear r4 er5 q cq12).trans q4
    obtain ⟨I6, eI6, h⟩ := ob h
    have q6 : I6 q = _ := (by rw [← pU_some eI6]; exact g_up_row cq13 : I6 q = r5 q).trans q5
    obtain ⟨r7, er7, h⟩ := ob h
    have q7 : r7 q = _ := (zfX8_renew I6 er7 q cq14 cq15 cq16 cq17 cq18 cq19 cq20 cq21 cq22 cq23 cq24 cq25).trans q6
    obtain rfl := Option.some.inj h
    exact q7
  · obtain rfl := Option.some.inj h
    exact q1
set_option maxRecDepth 100000 in
set_option maxHeartbeats 1000000 in
theorem zfX8_textOfScript (I : gM) {r : Int32 × gM} (h : fX8_textOfScript I = some r) (q : Nat) (cq0 : q ≠ 1) (cq1 : q ≠ 51) (cq2 : q ≠ 52) (cq3 : q ≠ 54) (cq4 : q ≠ 55) (cq5 : q ≠ 56) (cq6 : q ≠ 57) (cq7 : q ≠ 58) (cq8 : q ≠ 59) (cq9 : q ≠ 60) (cq10 : q ≠ 61) (cq11 : q ≠ 0) : r.2 q = I q := by
  unfold fX8_textOfScript at h
  rcases oi h with ⟨-, h⟩ | ⟨-, h⟩
  · obtain rfl := Option.some.inj h
    exact rfl
  · obtain ⟨r1, er1, h⟩ := ob h
    have q1 : r1.2 q = _ := (zfX6_readScript 51 I er1 q cq0 cq1 cq2).trans rfl
    rcases oi h with ⟨-, h⟩ | ⟨-, h⟩
    · obtain ⟨k2, ek2, h⟩ := ob h
      obtain ⟨jk2, -, hjk2, hkk2⟩ := rA_some ek2
      obtain ⟨r3, er3, h⟩ := ob h
      have q2 : r3 q = _ := (zfX4_copyFrom k2 51 r1.2 er3 q (by omega) (by omega)).trans q1
      obtain ⟨I4, eI4, h⟩ := ob h
      have q3 : I4 q = _ := (by rw [← pU_some eI4]; exact g_up_row cq0 : I4 q = r3 q).trans q2
      obtain ⟨I5, eI5, h⟩ := ob h
      have q4 : I5 q = _ := (by rw [← pU_some eI5]; exact g_up_row cq11 : I5 q = I4 q).trans q3
      obtain rfl := Option.some.inj h
      exact q4
    · obtain rfl := Option.some.inj h
      exact q1
set_option maxRecDepth 100000 in
set_option maxHeartbeats 1000000 in
theorem zfX8_text (v1 : Int32) (I : gM) {r : Int32 × gM} (h : fX8_text v1 I = some r) (q : Nat) (cq0 : q ≠ 1) (cq1 : q ≠ 8) (cq2 : q ≠ 9) (cq3 : q ≠ 10) (cq4 : q ≠ 11) (cq5 : q ≠ 12) (cq6 : q ≠ 3) (cq7 : q ≠ 4) (cq8 : q ≠ 5) (cq9 : q ≠ 6) (cq10 : q ≠ 7) (cq11 : q ≠ 44) (cq12 : q ≠ 48) (cq13 : q ≠ 0) (cq14 : q ≠ 18) (cq15 : q ≠ 20) (cq16 : q ≠ 19) (cq17 : q ≠ 25) (cq18 : q ≠ 26) (cq19 : q ≠ 27) (cq20 : q ≠ 24) (cq21 : q ≠ 23) (cq22 : q ≠ 28) (cq23 : q ≠ 22) (cq24 : q ≠ 21) (cq25 : q ≠ 43) (cq26 : q ≠ 51) (cq27 : q ≠ 52) (cq28 : q ≠ 54) (cq29 : q ≠ 55) (cq30 : q ≠ 56) (cq31 : q ≠ 57) (cq32 : q ≠ 58) (cq33 : q ≠ 59) (cq34 : q ≠ 60) (cq35 : q ≠ 61) : r.2 q = I q := by
  unfold fX8_text at h
  rcases oi h with ⟨-, h⟩ | ⟨-, h⟩
  · obtain ⟨r1, er1, h⟩ := ob h
    have q1 : r1.2 q = _ := (zfX8_textOfTables I er1 q cq0 cq1 cq2 cq3 cq4 cq5 cq6 cq7 cq8 cq9 cq10 cq11 cq12 cq13 cq14 cq15 cq16 cq17 cq18 cq19 cq20 cq21 cq22 cq23 cq24 cq25).trans rfl
    obtain rfl := Option.some.inj h
    exact q1
  · rcases oi h with ⟨-, h⟩ | ⟨-, h⟩
    · obtain ⟨r2, er2, h⟩ := ob h
      have q2 : r2.2 q = _ := (zfX8_textOfScript I er2 q cq0 cq26 cq27 cq28 cq29 cq30 cq31 cq32 cq33 cq34 cq35 cq13).trans rfl
      obtain rfl := Option.some.inj h
      exact q2
    · obtain rfl := Option.some.inj h
      exact rfl
set_option maxRecDepth 100000 in
set_option maxHeartbeats 1000000 in
theorem zfX8_best (v1 : Int32) (I : gM) {r : Int32 × gM} (h : fX8_best v1 I = some r) (q : Nat) (cq0 : q ≠ 29) (cq1 : q ≠ 31) (cq2 : q ≠ 30) (cq3 : q ≠ 36) (cq4 : q ≠ 37) (cq5 : q ≠ 38) (cq6 : q ≠ 35) (cq7 : q ≠ 34) (cq8 : q ≠ 39) (cq9 : q ≠ 33) (cq10 : q ≠ 32) (cq11 : q ≠ 43) : r.2 q = I q := by
  unfold fX8_best at h
  rcases oi h with ⟨-, h⟩ | ⟨-, h⟩
  · obtain rfl := Option.some.inj h
    exact rfl
  · rcases oi h with ⟨-, h⟩ | ⟨-, h⟩
    · obtain rfl := Option.some.inj h
      exact rfl
    · rcases oi h with ⟨-, h⟩ | ⟨-, h⟩
      · obtain ⟨r1, er1, h⟩ := ob h
        have q1 : r1 q = _ := (zfX7_weigh 3 29 I er1 q cq0 cq1 cq2 cq3 cq4 cq5 cq6 cq7 cq8 cq9 cq10 cq11).trans rfl
        rcases oi h with ⟨-, h⟩ | ⟨-, h⟩
        · obtain rfl := Option.some.inj h
          exact q1
        · obtain rfl := Option.some.inj h
          exact q1
      · obtain rfl := Option.some.inj h
        exact rfl
set_option maxRecDepth 100000 in
set_option maxHeartbeats 1000000 in
theorem zfX8_without (v1 : Int32) (I : gM) {r : Int32 × gM} (h : fX8_without v1 I = some r) (q : Nat) (cq0 : q ≠ 8) (cq1 : q ≠ 9) (cq2 : q ≠ 10) (cq3 : q ≠ 11) (cq4 : q ≠ 12) (cq5 : q ≠ 29) (cq6 : q ≠ 31) (cq7 : q ≠ 30) (cq8 : q ≠ 36) (cq9 : q ≠ 37) (cq10 : q ≠ 38) (cq11 : q ≠ 35) (cq12 : q ≠ 34) (cq13 : q ≠ 39) (cq14 : q ≠ 33) (cq15 : q ≠ 32) : r.2 q = I q := by
  unfold fX8_without at h
  obtain ⟨r1, -, h⟩ := ob h
  rcases oi h with ⟨-, h⟩ | ⟨-, h⟩
  · obtain rfl := Option.some.inj h
    exact rfl
  · rcases oi h with ⟨-, h⟩ | ⟨-, h⟩
    · obtain rfl := Option.some.inj h
      exact rfl
    · obtain ⟨r2, er2, h⟩ := ob h
      have q1 : r2 q = _ := (zfX5_copyFrom 8 3 I er2 q cq0 cq1 cq2 cq3 cq4).trans rfl
      obtain ⟨I3, eI3, h⟩ := ob h
      have q2 : I3 q = _ := (by rw [← pU_some eI3]; exact g_up_row cq0 : I3 q = r2 q).trans q1
      obtain ⟨r4, er4, h⟩ := ob h
      have q3 : r4 q = _ := (zfX1_findBy 29 8 (I3 8 2) I3 er4 q cq5 cq6 cq7 cq8 cq9 cq10 cq11 cq12 cq13 cq14 cq15).trans q2
      obtain rfl := Option.some.inj h
      exact q3
set_option maxRecDepth 100000 in
set_option maxHeartbeats 1000000 in
theorem zfX8_projected (v1 : Int32) (I : gM) {r : Int32 × gM} (h : fX8_projected v1 I = some r) (q : Nat) (cq0 : q ≠ 29) (cq1 : q ≠ 31) (cq2 : q ≠ 30) (cq3 : q ≠ 36) (cq4 : q ≠ 37) (cq5 : q ≠ 38) (cq6 : q ≠ 35) (cq7 : q ≠ 34) (cq8 : q ≠ 39) (cq9 : q ≠ 33) (cq10 : q ≠ 32) : r.2 q = I q := by
  unfold fX8_projected at h
  rcases oi h with ⟨-, h⟩ | ⟨-, h⟩
  · obtain rfl := Option.some.inj h
    exact rfl
  · rcases oi h with ⟨-, h⟩ | ⟨-, h⟩
    · obtain rfl := Option.some.inj h
      exact rfl
    · rcases oi h with ⟨-, h⟩ | ⟨-, h⟩
      · obtain rfl := Option.some.inj h
        exact rfl
      · obtain ⟨r1, -, h⟩ := ob h
        rcases oi h with ⟨-, h⟩ | ⟨-, h⟩
        · obtain ⟨r2, er2, h⟩ := ob h
          have q1 : r2 q = _ := (zfX1_findLeading 29 3 v1 I er2 q cq0 cq1 cq2 cq3 cq4 cq5 cq6 cq7 cq8 cq9 cq10).trans rfl
          obtain ⟨r3, -, h⟩ := ob h
          obtain rfl := Option.some.inj h
          exact q1
        · obtain rfl := Option.some.inj h
          exact rfl
set_option maxRecDepth 100000 in
set_option maxHeartbeats 1000000 in
theorem zfX8_times (v1 : Int32) (v2 : Int32) (I : gM) {r : Int32 × gM} (h : fX8_times v1 v2 I = some r) (q : Nat) (cq0 : q ≠ 41) : r.2 q = I q := by
  unfold fX8_times at h
  obtain ⟨r1, -, h⟩ := ob h
  rcases oi h with ⟨-, h⟩ | ⟨-, h⟩
  · obtain rfl := Option.some.inj h
    exact rfl
  · rcases oi h with ⟨-, h⟩ | ⟨-, h⟩
    · obtain rfl := Option.some.inj h
      exact rfl
    · rcases oi h with ⟨-, h⟩ | ⟨-, h⟩
      · obtain ⟨r2, er2, h⟩ := ob h
        have q1 : r2 q = _ := (zfX0_tallyUp 18 v1 I er2 q cq0).trans rfl
        obtain ⟨u3, -, h⟩ := ob h
        obtain rfl := Option.some.inj h
        exact q1
      · obtain rfl := Option.some.inj h
        exact rfl
set_option maxRecDepth 100000 in
set_option maxHeartbeats 1000000 in
theorem zfX8_distinct (v1 : Int32) (v2 : Int32) (I : gM) {r : Int32 × gM} (h : fX8_distinct v1 v2 I = some r) (q : Nat) (cq0 : q ≠ 41) : r.2 q = I q := by
  unfold fX8_distinct at h
  obtain ⟨r1, -, h⟩ := ob h
  rcases oi h with ⟨-, h⟩ | ⟨-, h⟩
  · obtain rfl := Option.some.inj h
    exact rfl
  · rcases oi h with ⟨-, h⟩ | ⟨-, h⟩
    · obtain rfl := Option.some.inj h
      exact rfl
    · rcases oi h with ⟨-, h⟩ | ⟨-, h⟩
      · obtain ⟨r2, er2, h⟩ := ob h
        have q1 : r2 q = _ := (zfX0_tallyUp 18 v1 I er2 q cq0).trans rfl
        rcases oi h with ⟨-, h⟩ | ⟨-, h⟩
        · obtain ⟨r3, -, h⟩ := ob h
          obtain rfl := Option.some.inj h
          exact q1
        · rcases oi h with ⟨-, h⟩ | ⟨-, h⟩
          · obtain ⟨r4, -, h⟩ := ob h
            obtain rfl := Option.some.inj h
            exact q1
          · rcases oi h with ⟨-, h⟩ | ⟨-, h⟩
            · obtain ⟨r5, -, h⟩ := ob h
              obtain rfl := Option.some.inj h
              exact q1
            · obtain ⟨r6, -, h⟩ := ob h
              obtain rfl := Option.some.inj h
              exact q1
      · obtain rfl := Option.some.inj h
        exact rfl
set_option maxRecDepth 100000 in
set_option maxHeartbeats 1000000 in
theorem zfX8_tells (v1 : Int32) (v2 : Int32) (I : gM) {r : Int32 × gM} (h : fX8_tells v1 v2 I = some r) (q : Nat) (cq0 : q ≠ 42) : r.2 q = I q := by
  unfold fX8_tells at h
  obtain ⟨r1, -, h⟩ := ob h
  rcases oi h with ⟨-, h⟩ | ⟨-, h⟩
  · obtain rfl := Option.some.inj h
    exact rfl
  · obtain ⟨r2, -, h⟩ := ob h
    rcases oi h with ⟨-, h⟩ | ⟨-, h⟩
    · obtain rfl := Option.some.inj h
      exact rfl
    · obtain ⟨r3, er3, h⟩ := ob h
      have q1 : r3.2 q = _ := (zfX0_isTold 18 v1 v2 I er3 q cq0).trans rfl
      rcases oi h with ⟨-, h⟩ | ⟨-, h⟩
      · obtain rfl := Option.some.inj h
        exact q1
      · obtain rfl := Option.some.inj h
        exact q1
set_option maxRecDepth 100000 in
set_option maxHeartbeats 1000000 in
theorem zfX8_attempt (v1 : Int32) (v2 : Int32) (v3 : Int32) (v4 : Int32) (v5 : Int32) (I : gM) {r : Int32 × gM} (h : fX8_attempt v1 v2 v3 v4 v5 I = some r) (q : Nat) (cq0 : q ≠ 49) (cq1 : q ≠ 48) (cq2 : q ≠ 7) (cq3 : q ≠ 5) (cq4 : q ≠ 3) (cq5 : q ≠ 18) (cq6 : q ≠ 20) (cq7 : q ≠ 19) (cq8 : q ≠ 25) (cq9 : q ≠ 26) (cq10 : q ≠ 27) (cq11 : q ≠ 24) (cq12 : q ≠ 23) (cq13 : q ≠ 28) (cq14 : q ≠ 22) (cq15 : q ≠ 21) (cq16 : q ≠ 43) (cq17 : q ≠ 45) (cq18 : q ≠ 44) : r.2 q = I q := by
  unfold fX8_attempt at h
  obtain ⟨r1, -, h⟩ := ob h
  rcases oi h with ⟨-, h⟩ | ⟨-, h⟩
  · obtain ⟨r2, -, h⟩ := ob h
    rcases oi h with ⟨-, h⟩ | ⟨-, h⟩
    · unfold bX8_attempt_56 at h
      obtain ⟨r3, er3, h⟩ := ob h
      have q1 : r3 q = _ := (zfX3_add v1 (I 3 2) r2 I er3 q cq0 cq1).trans rfl
      obtain ⟨r4, er4, h⟩ := ob h
      have q2 : r4 q = _ := (zfX5_change 3 v1 v2 r2 r3 er4 q cq2 cq3 cq4).trans q1
      obtain ⟨r5, er5, h⟩ := ob h
      have q3 : r5 q = _ := (zfX8_renew r4 er5 q cq5 cq6 cq7 cq8 cq9 cq10 cq11 cq12 cq13 cq14 cq15 cq16).trans q2
      obtain ⟨r6, er6, h⟩ := ob h
      have q4 : r6 q = _ := (zfX2_add 44 v1 v2 (r5 18 0) r5 er6 q cq17 cq18).trans q3
      obtain rfl := Option.some.inj h
      exact q4
    · unfold bX8_attempt_56 at h
      obtain ⟨r3, er3, h⟩ := ob h
      have q5 : r3 q = _ := (zfX3_add v1 v2 r2 I er3 q cq0 cq1).trans rfl
      obtain ⟨r4, er4, h⟩ := ob h
      have q6 : r4 q = _ := (zfX5_change 3 v1 v2 r2 r3 er4 q cq2 cq3 cq4).trans q5
      obtain ⟨r5, er5, h⟩ := ob h
      have q7 : r5 q = _ := (zfX8_renew r4 er5 q cq5 cq6 cq7 cq8 cq9 cq10 cq11 cq12 cq13 cq14 cq15 cq16).trans q6
      obtain ⟨r6, er6, h⟩ := ob h
      have q8 : r6 q = _ := (zfX2_add 44 v1 v2 (r5 18 0) r5 er6 q cq17 cq18).trans q7
      obtain rfl := Option.some.inj h
      exact q8
  · obtain rfl := Option.some.inj h
    exact rfl
set_option maxRecDepth 100000 in
set_option maxHeartbeats 1000000 in
theorem zfX8_isDone (v1 : Int32) (v2 : Int32) (v3 : Int32) (v4 : Int32) (v5 : Int32) (I : gM) {r : Int32 × gM} (h : fX8_isDone v1 v2 v3 v4 v5 I = some r) (q : Nat) (cq0 : q ≠ 49) (cq1 : q ≠ 48) (cq2 : q ≠ 7) (cq3 : q ≠ 5) (cq4 : q ≠ 3) (cq5 : q ≠ 18) (cq6 : q ≠ 20) (cq7 : q ≠ 19) (cq8 : q ≠ 25) (cq9 : q ≠ 26) (cq10 : q ≠ 27) (cq11 : q ≠ 24) (cq12 : q ≠ 23) (cq13 : q ≠ 28) (cq14 : q ≠ 22) (cq15 : q ≠ 21) (cq16 : q ≠ 43) (cq17 : q ≠ 45) (cq18 : q ≠ 44) (cq19 : q ≠ 53) : r.2 q = I q := by
  unfold fX8_isDone at h
  obtain ⟨r1, er1, h⟩ := ob h
  have q1 : r1.2 q = _ := (zfX8_attempt v1 v2 v3 v4 v5 I er1 q cq0 cq1 cq2 cq3 cq4 cq5 cq6 cq7 cq8 cq9 cq10 cq11 cq12 cq13 cq14 cq15 cq16 cq17 cq18).trans rfl
  rcases oi h with ⟨-, h⟩ | ⟨-, h⟩
  · unfold bX8_isDone_35 at h
    rcases oi h with ⟨-, h⟩ | ⟨-, h⟩
    · obtain rfl := Option.some.inj h
      exact q1
    · obtain rfl := Option.some.inj h
      exact q1
  · rcases oi h with ⟨-, h⟩ | ⟨-, h⟩
    · unfold bX8_isDone_35 at h
      rcases oi h with ⟨-, h⟩ | ⟨-, h⟩
      · obtain rfl := Option.some.inj h
        exact q1
      · obtain rfl := Option.some.inj h
        exact q1
    · obtain ⟨u2, -, h⟩ := ob h
      obtain ⟨I3, eI3, h⟩ := ob h
      have q2 : I3 q = _ := (by rw [← (wI_some eI3).2.2]; exact g_up_row cq19 : I3 q = r1.2 q).trans q1
      unfold bX8_isDone_35 at h
      rcases oi h with ⟨-, h⟩ | ⟨-, h⟩
      · obtain rfl := Option.some.inj h
        exact q2
      · obtain rfl := Option.some.inj h
        exact q2
set_option maxRecDepth 100000 in
set_option maxHeartbeats 1000000 in
theorem zfX8_put (v1 : Int32) (v2 : Int32) (v3 : Int32) (v4 : Int32) (I : gM) {r : Int32 × gM} (h : fX8_put v1 v2 v3 v4 I = some r) (q : Nat) (cq0 : q ≠ 49) (cq1 : q ≠ 48) (cq2 : q ≠ 7) (cq3 : q ≠ 5) (cq4 : q ≠ 3) (cq5 : q ≠ 18) (cq6 : q ≠ 20) (cq7 : q ≠ 19) (cq8 : q ≠ 25) (cq9 : q ≠ 26) (cq10 : q ≠ 27) (cq11 : q ≠ 24) (cq12 : q ≠ 23) (cq13 : q ≠ 28) (cq14 : q ≠ 22) (cq15 : q ≠ 21) (cq16 : q ≠ 43) (cq17 : q ≠ 45) (cq18 : q ≠ 44) (cq19 : q ≠ 53) : r.2 q = I q := by
  unfold fX8_put at h
  obtain ⟨r1, er1, h⟩ := ob h
  have q1 : r1.2 q = _ := (zfX8_isDone (0 : Int32) v1 v2 v3 v4 I er1 q cq0 cq1 cq2 cq3 cq4 cq5 cq6 cq7 cq8 cq9 cq10 cq11 cq12 cq13 cq14 cq15 cq16 cq17 cq18 cq19).trans rfl
  rcases oi h with ⟨-, h⟩ | ⟨-, h⟩
  · obtain rfl := Option.some.inj h
    exact q1
  · obtain ⟨u2, -, h⟩ := ob h
    obtain rfl := Option.some.inj h
    exact q1
set_option maxRecDepth 100000 in
set_option maxHeartbeats 1000000 in
theorem zfX8_take (v1 : Int32) (v2 : Int32) (v3 : Int32) (v4 : Int32) (I : gM) {r : Int32 × gM} (h : fX8_take v1 v2 v3 v4 I = some r) (q : Nat) (cq0 : q ≠ 49) (cq1 : q ≠ 48) (cq2 : q ≠ 7) (cq3 : q ≠ 5) (cq4 : q ≠ 3) (cq5 : q ≠ 18) (cq6 : q ≠ 20) (cq7 : q ≠ 19) (cq8 : q ≠ 25) (cq9 : q ≠ 26) (cq10 : q ≠ 27) (cq11 : q ≠ 24) (cq12 : q ≠ 23) (cq13 : q ≠ 28) (cq14 : q ≠ 22) (cq15 : q ≠ 21) (cq16 : q ≠ 43) (cq17 : q ≠ 45) (cq18 : q ≠ 44) (cq19 : q ≠ 53) : r.2 q = I q := by
  unfold fX8_take at h
  obtain ⟨r1, er1, h⟩ := ob h
  have q1 : r1.2 q = _ := (zfX8_isDone (1 : Int32) v1 v2 v3 v4 I er1 q cq0 cq1 cq2 cq3 cq4 cq5 cq6 cq7 cq8 cq9 cq10 cq11 cq12 cq13 cq14 cq15 cq16 cq17 cq18 cq19).trans rfl
  rcases oi h with ⟨-, h⟩ | ⟨-, h⟩
  · obtain rfl := Option.some.inj h
    exact q1
  · obtain ⟨u2, -, h⟩ := ob h
    obtain rfl := Option.some.inj h
    exact q1
set_option maxRecDepth 100000 in
set_option maxHeartbeats 1000000 in
theorem zfX8_use (v1 : Int32) (I : gM) {r : Int32 × gM} (h : fX8_use v1 I = some r) (q : Nat) (cq0 : q ≠ 49) (cq1 : q ≠ 48) (cq2 : q ≠ 7) (cq3 : q ≠ 5) (cq4 : q ≠ 3) (cq5 : q ≠ 18) (cq6 : q ≠ 20) (cq7 : q ≠ 19) (cq8 : q ≠ 25) (cq9 : q ≠ 26) (cq10 : q ≠ 27) (cq11 : q ≠ 24) (cq12 : q ≠ 23) (cq13 : q ≠ 28) (cq14 : q ≠ 22) (cq15 : q ≠ 21) (cq16 : q ≠ 43) (cq17 : q ≠ 45) (cq18 : q ≠ 44) (cq19 : q ≠ 53) : r.2 q = I q := by
  unfold fX8_use at h
  obtain ⟨r1, er1, h⟩ := ob h
  have q1 : r1.2 q = _ := (zfX8_isDone (2 : Int32) v1 ((-1) : Int32) ((-1) : Int32) ((-1) : Int32) I er1 q cq0 cq1 cq2 cq3 cq4 cq5 cq6 cq7 cq8 cq9 cq10 cq11 cq12 cq13 cq14 cq15 cq16 cq17 cq18 cq19).trans rfl
  rcases oi h with ⟨-, h⟩ | ⟨-, h⟩
  · obtain rfl := Option.some.inj h
    exact q1
  · obtain ⟨r2, -, h⟩ := ob h
    rcases oi h with ⟨-, h⟩ | ⟨-, h⟩
    · obtain rfl := Option.some.inj h
      exact q1
    · obtain rfl := Option.some.inj h
      exact q1
set_option maxRecDepth 100000 in
set_option maxHeartbeats 1000000 in
theorem zfX8_order (v1 : Int32) (I : gM) {r : Int32 × gM} (h : fX8_order v1 I = some r) (q : Nat) (cq0 : q ≠ 49) (cq1 : q ≠ 48) (cq2 : q ≠ 7) (cq3 : q ≠ 5) (cq4 : q ≠ 3) (cq5 : q ≠ 18) (cq6 : q ≠ 20) (cq7 : q ≠ 19) (cq8 : q ≠ 25) (cq9 : q ≠ 26) (cq10 : q ≠ 27) (cq11 : q ≠ 24) (cq12 : q ≠ 23) (cq13 : q ≠ 28) (cq14 : q ≠ 22) (cq15 : q ≠ 21) (cq16 : q ≠ 43) (cq17 : q ≠ 45) (cq18 : q ≠ 44) (cq19 : q ≠ 53) : r.2 q = I q := by
  unfold fX8_order at h
  obtain ⟨r1, er1, h⟩ := ob h
  have q1 : r1.2 q = _ := (zfX8_isDone (3 : Int32) v1 ((-1) : Int32) ((-1) : Int32) ((-1) : Int32) I er1 q cq0 cq1 cq2 cq3 cq4 cq5 cq6 cq7 cq8 cq9 cq10 cq11 cq12 cq13 cq14 cq15 cq16 cq17 cq18 cq19).trans rfl
  rcases oi h with ⟨-, h⟩ | ⟨-, h⟩
  · obtain rfl := Option.some.inj h
    exact q1
  · obtain rfl := Option.some.inj h
    exact q1
set_option maxRecDepth 100000 in
set_option maxHeartbeats 1000000 in
theorem zfX8_goOneWay (I : gM) (J : gN) {r : gM × gN} (h : fX8_goOneWay I J = some r) (q : Nat) (cq0 : q ≠ 49) (cq1 : q ≠ 48) (cq2 : q ≠ 7) (cq3 : q ≠ 5) (cq4 : q ≠ 3) (cq5 : q ≠ 18) (cq6 : q ≠ 20) (cq7 : q ≠ 19) (cq8 : q ≠ 25) (cq9 : q ≠ 26) (cq10 : q ≠ 27) (cq11 : q ≠ 24) (cq12 : q ≠ 23) (cq13 : q ≠ 28) (cq14 : q ≠ 22) (cq15 : q ≠ 21) (cq16 : q ≠ 43) (cq17 : q ≠ 45) (cq18 : q ≠ 44) : r.1 q = I q := by
  unfold fX8_goOneWay at h
  obtain ⟨r1, -, h⟩ := ob h
  rcases oi h with ⟨-, h⟩ | ⟨-, h⟩
  · obtain ⟨r2, -, h⟩ := ob h
    obtain ⟨r3, er3, h⟩ := ob h
    have q1 : r3.2 q = _ := (zfX8_attempt (3 : Int32) r2.1 ((-1) : Int32) ((-1) : Int32) ((-1) : Int32) I er3 q cq0 cq1 cq2 cq3 cq4 cq5 cq6 cq7 cq8 cq9 cq10 cq11 cq12 cq13 cq14 cq15 cq16 cq17 cq18).trans rfl
    obtain rfl := Option.some.inj h
    exact q1
  · obtain ⟨r4, -, h⟩ := ob h
    rcases oi h with ⟨-, h⟩ | ⟨-, h⟩
    · obtain ⟨r5, er5, h⟩ := ob h
      have q2 : r5.2 q = _ := (zfX8_attempt (2 : Int32) r4.1 ((-1) : Int32) ((-1) : Int32) ((-1) : Int32) I er5 q cq0 cq1 cq2 cq3 cq4 cq5 cq6 cq7 cq8 cq9 cq10 cq11 cq12 cq13 cq14 cq15 cq16 cq17 cq18).trans rfl
      obtain rfl := Option.some.inj h
      exact q2
    · rcases oi h with ⟨-, h⟩ | ⟨-, h⟩
      · obtain ⟨r6, -, h⟩ := ob h
        rcases oi h with ⟨-, h⟩ | ⟨-, h⟩
        · obtain rfl := Option.some.inj h
          exact rfl
        · obtain ⟨u7, -, h⟩ := ob h
          rcases oi h with ⟨-, h⟩ | ⟨-, h⟩
          · unfold bX8_goOneWay_138 at h
            rcases oi h with ⟨-, h⟩ | ⟨-, h⟩
            · unfold bX8_goOneWay_155 at h
              rcases oi h with ⟨-, h⟩ | ⟨-, h⟩
              · unfold bX8_goOneWay_172 at h
                obtain ⟨r8, er8, h⟩ := ob h
                have q3 : r8.2 q = _ := (zfX8_attempt (0 : Int32) r4.1 ((-1) : Int32) ((-1) : Int32) ((-1) : Int32) I er8 q cq0 cq1 cq2 cq3 cq4 cq5 cq6 cq7 cq8 cq9 cq10 cq11 cq12 cq13 cq14 cq15 cq16 cq17 cq18).trans rfl
                obtain rfl := Option.some.inj h
                exact q3
              · obtain ⟨r9, -, h⟩ := ob h
                unfold bX8_goOneWay_172 at h
                obtain ⟨r8, er8, h⟩ := ob h
                have q4 : r8.2 q = _ := (zfX8_attempt (0 : Int32) r4.1 ((-1) : Int32) ((-1) : Int32) r9.1 I er8 q cq0 cq1 cq2 cq3 cq4 cq5 cq6 cq7 cq8 cq9 cq10 cq11 cq12 cq13 cq14 cq15 cq16 cq17 cq18).trans rfl
                obtain rfl := Option.some.inj h
                exact q4
            · obtain ⟨r10, -, h⟩ := ob h
              unfold bX8_goOneWay_155 at h
              rcases oi h with ⟨-, h⟩ | ⟨-, h⟩
              · unfold bX8_goOneWay_172 at h
                obtain ⟨r8, er8, h⟩ := ob h
                have q5 : r8.2 q = _ := (zfX8_attempt (0 : Int32) r4.1 ((-1) : Int32) r10.1 ((-1) : Int32) I er8 q cq0 cq1 cq2 cq3 cq4 cq5 cq6 cq7 cq8 cq9 cq10 cq11 cq12 cq13 cq14 cq15 cq16 cq17 cq18).trans rfl
                obtain rfl := Option.some.inj h
                exact q5
              · obtain ⟨r9, -, h⟩ := ob h
                unfold bX8_goOneWay_172 at h
                obtain ⟨r8, er8, h⟩ := ob h
                have q6 : r8.2 q = _ := (zfX8_attempt (0 : Int32) r4.1 ((-1) : Int32) r10.1 r9.1 I er8 q cq0 cq1 cq2 cq3 cq4 cq5 cq6 cq7 cq8 cq9 cq10 cq11 cq12 cq13 cq14 cq15 cq16 cq17 cq18).trans rfl
                obtain rfl := Option.some.inj h
                exact q6
          · obtain ⟨r11, -, h⟩ := ob h
            unfold bX8_goOneWay_138 at h
            rcases oi h with ⟨-, h⟩ | ⟨-, h⟩
            · unfold bX8_goOneWay_155 at h
              rcases oi h with ⟨-, h⟩ | ⟨-, h⟩
              · unfold bX8_goOneWay_172 at h
                obtain ⟨r8, er8, h⟩ := ob h
                have q7 : r8.2 q = _ := (zfX8_attempt (0 : Int32) r4.1 r11.1 ((-1) : Int32) ((-1) : Int32) I er8 q cq0 cq1 cq2 cq3 cq4 cq5 cq6 cq7 cq8 cq9 cq10 cq11 cq12 cq13 cq14 cq15 cq16 cq17 cq18).trans rfl
                obtain rfl := Option.some.inj h
                exact q7
              · obtain ⟨r9, -, h⟩ := ob h
                unfold bX8_goOneWay_172 at h
                obtain ⟨r8, er8, h⟩ := ob h
                have q8 : r8.2 q = _ := (zfX8_attempt (0 : Int32) r4.1 r11.1 ((-1) : Int32) r9.1 I er8 q cq0 cq1 cq2 cq3 cq4 cq5 cq6 cq7 cq8 cq9 cq10 cq11 cq12 cq13 cq14 cq15 cq16 cq17 cq18).trans rfl
                obtain rfl := Option.some.inj h
                exact q8
            · obtain ⟨r10, -, h⟩ := ob h
              unfold bX8_goOneWay_155 at h
              rcases oi h with ⟨-, h⟩ | ⟨-, h⟩
              · unfold bX8_goOneWay_172 at h
                obtain ⟨r8, er8, h⟩ := ob h
                have q9 : r8.2 q = _ := (zfX8_attempt (0 : Int32) r4.1 r11.1 r10.1 ((-1) : Int32) I er8 q cq0 cq1 cq2 cq3 cq4 cq5 cq6 cq7 cq8 cq9 cq10 cq11 cq12 cq13 cq14 cq15 cq16 cq17 cq18).trans rfl
                obtain rfl := Option.some.inj h
                exact q9
              · obtain ⟨r9, -, h⟩ := ob h
                unfold bX8_goOneWay_172 at h
                obtain ⟨r8, er8, h⟩ := ob h
                have q10 : r8.2 q = _ := (zfX8_attempt (0 : Int32) r4.1 r11.1 r10.1 r9.1 I er8 q cq0 cq1 cq2 cq3 cq4 cq5 cq6 cq7 cq8 cq9 cq10 cq11 cq12 cq13 cq14 cq15 cq16 cq17 cq18).trans rfl
                obtain rfl := Option.some.inj h
                exact q10
      · obtain ⟨r12, -, h⟩ := ob h
        obtain ⟨r13, -, h⟩ := ob h
        obtain ⟨r14, -, h⟩ := ob h
        obtain ⟨r15, -, h⟩ := ob h
        obtain ⟨r16, er16, h⟩ := ob h
        have q11 : r16.2 q = _ := (zfX8_attempt (1 : Int32) r4.1 r13 r14 r15 I er16 q cq0 cq1 cq2 cq3 cq4 cq5 cq6 cq7 cq8 cq9 cq10 cq11 cq12 cq13 cq14 cq15 cq16 cq17 cq18).trans rfl
        obtain rfl := Option.some.inj h
        exact q11
set_option maxRecDepth 100000 in
set_option maxHeartbeats 1000000 in
theorem zlX8_ways_31 (v1 : Int32) (s : (Int32 × gM × gN)) {r : gM × gN} (h : lX8_ways_31 v1 s = some r) (q : Nat) (cq0 : q ≠ 49) (cq1 : q ≠ 48) (cq2 : q ≠ 7) (cq3 : q ≠ 5) (cq4 : q ≠ 3) (cq5 : q ≠ 18) (cq6 : q ≠ 20) (cq7 : q ≠ 19) (cq8 : q ≠ 25) (cq9 : q ≠ 26) (cq10 : q ≠ 27) (cq11 : q ≠ 24) (cq12 : q ≠ 23) (cq13 : q ≠ 28) (cq14 : q ≠ 22) (cq15 : q ≠ 21) (cq16 : q ≠ 43) (cq17 : q ≠ 45) (cq18 : q ≠ 44) : r.1 q = s.2.1 q := by
  unfold lX8_ways_31 at h
  revert s
  refine itO_ind (P := fun s : (Int32 × gM × gN) => r.1 q = s.2.1 q) (fun s y h hl hr => ?_)
  rcases oi h with ⟨-, h⟩ | ⟨-, h⟩
  · obtain rfl := Option.some.inj h
    have hh := hr _ rfl
    subst hh
    exact rfl
  · obtain ⟨r2, er2, h⟩ := ob h
    have q1 : r2.1 q = _ := (zfX8_goOneWay s.2.1 s.2.2 er2 q cq0 cq1 cq2 cq3 cq4 cq5 cq6 cq7 cq8 cq9 cq10 cq11 cq12 cq13 cq14 cq15 cq16 cq17 cq18).trans rfl
    obtain rfl := Option.some.inj h
    exact (hl _ rfl).trans q1
set_option maxRecDepth 100000 in
set_option maxHeartbeats 1000000 in
theorem zfX8_ways (v1 : Int32) (v2 : Int64) (I : gM) (J : gN) {r : Int32 × gM × gN} (h : fX8_ways v1 v2 I J = some r) (q : Nat) (cq0 : q ≠ 49) (cq1 : q ≠ 48) (cq2 : q ≠ 7) (cq3 : q ≠ 5) (cq4 : q ≠ 3) (cq5 : q ≠ 18) (cq6 : q ≠ 20) (cq7 : q ≠ 19) (cq8 : q ≠ 25) (cq9 : q ≠ 26) (cq10 : q ≠ 27) (cq11 : q ≠ 24) (cq12 : q ≠ 23) (cq13 : q ≠ 28) (cq14 : q ≠ 22) (cq15 : q ≠ 21) (cq16 : q ≠ 43) (cq17 : q ≠ 45) (cq18 : q ≠ 44) : r.2.1 q = I q := by
  unfold fX8_ways at h
  rcases oi h with ⟨-, h⟩ | ⟨-, h⟩
  · obtain rfl := Option.some.inj h
    exact rfl
  · rcases oi h with ⟨-, h⟩ | ⟨-, h⟩
    · obtain rfl := Option.some.inj h
      exact rfl
    · rcases oi h with ⟨-, h⟩ | ⟨-, h⟩
      · obtain ⟨J1, -, h⟩ := ob h
        obtain ⟨w3, ew3, h⟩ := ob h
        have q1 : w3.1 q = _ := (zlX8_ways_31 v1 ((0 : Int32), I, J1) ew3 q cq0 cq1 cq2 cq3 cq4 cq5 cq6 cq7 cq8 cq9 cq10 cq11 cq12 cq13 cq14 cq15 cq16 cq17 cq18).trans rfl
        obtain rfl := Option.some.inj h
        exact q1
      · obtain rfl := Option.some.inj h
        exact rfl
set_option maxRecDepth 100000 in
set_option maxHeartbeats 1000000 in
theorem zfX8_undo (I : gM) {r : Int32 × gM} (h : fX8_undo I = some r) (q : Nat) (cq0 : q ≠ 48) (cq1 : q ≠ 5) (cq2 : q ≠ 7) (cq3 : q ≠ 3) (cq4 : q ≠ 44) (cq5 : q ≠ 18) (cq6 : q ≠ 20) (cq7 : q ≠ 19) (cq8 : q ≠ 25) (cq9 : q ≠ 26) (cq10 : q ≠ 27) (cq11 : q ≠ 24) (cq12 : q ≠ 23) (cq13 : q ≠ 28) (cq14 : q ≠ 22) (cq15 : q ≠ 21) (cq16 : q ≠ 43) : r.2 q = I q := by
  unfold fX8_undo at h
  rcases oi h with ⟨-, h⟩ | ⟨-, h⟩
  · obtain rfl := Option.some.inj h
    exact rfl
  · obtain ⟨r1, er1, h⟩ := ob h
    have q1 : r1 q = _ := (zfX3_dropLatest I er1 q cq0).trans rfl
    obtain ⟨r2, -, h⟩ := ob h
    obtain ⟨r3, -, h⟩ := ob h
    obtain ⟨r4, -, h⟩ := ob h
    obtain ⟨r5, er5, h⟩ := ob h
    have q2 : r5 q = _ := (zfX5_changeBack 3 r2 r3 r4 r1 er5 q cq1 cq2 cq3).trans q1
    obtain ⟨r6, er6, h⟩ := ob h
    have q3 : r6 q = _ := (zfX2_dropLatest 44 r5 er6 q cq4).trans q2
    obtain ⟨r7, er7, h⟩ := ob h
    have q4 : r7 q = _ := (zfX8_renew r6 er7 q cq5 cq6 cq7 cq8 cq9 cq10 cq11 cq12 cq13 cq14 cq15 cq16).trans q3
    obtain rfl := Option.some.inj h
    exact q4
set_option maxRecDepth 100000 in
set_option maxHeartbeats 1000000 in
theorem zfX8_would (v1 : Int32) (v2 : Int32) (v3 : Int32) (v4 : Int32) (v5 : Int32) (I : gM) {r : Int32 × gM} (h : fX8_would v1 v2 v3 v4 v5 I = some r) (q : Nat) (cq0 : q ≠ 8) (cq1 : q ≠ 9) (cq2 : q ≠ 10) (cq3 : q ≠ 11) (cq4 : q ≠ 12) (cq5 : q ≠ 29) (cq6 : q ≠ 31) (cq7 : q ≠ 30) (cq8 : q ≠ 36) (cq9 : q ≠ 37) (cq10 : q ≠ 38) (cq11 : q ≠ 35) (cq12 : q ≠ 34) (cq13 : q ≠ 39) (cq14 : q ≠ 33) (cq15 : q ≠ 32) : r.2 q = I q := by
  unfold fX8_would at h
  rcases oi h with ⟨-, h⟩ | ⟨-, h⟩
  · obtain rfl := Option.some.inj h
    exact rfl
  · rcases oi h with ⟨-, h⟩ | ⟨-, h⟩
    · obtain rfl := Option.some.inj h
      exact rfl
    · obtain ⟨r1, -, h⟩ := ob h
      rcases oi h with ⟨-, h⟩ | ⟨-, h⟩
      · obtain ⟨r2, er2, h⟩ := ob h
        have q1 : r2 q = _ := (zfX5_copyFrom 8 3 I er2 q cq0 cq1 cq2 cq3 cq4).trans rfl
        obtain ⟨r3, -, h⟩ := ob h
        obtain ⟨r4, er4, h⟩ := ob h
        have q2 : r4 q = _ := (zfX5_change 8 (0 : Int32) v1 r3 r2 er4 q cq4 cq2 cq0).trans q1
        obtain ⟨r5, er5, h⟩ := ob h
        have q3 : r5 q = _ := (zfX1_findBy 29 8 (r4 8 2) r4 er5 q cq5 cq6 cq7 cq8 cq9 cq10 cq11 cq12 cq13 cq14 cq15).trans q2
        rcases oi h with ⟨-, h⟩ | ⟨-, h⟩
        · obtain rfl := Option.some.inj h
          exact q3
        · obtain rfl := Option.some.inj h
          exact q3
      · obtain rfl := Option.some.inj h
        exact rfl
set_option maxRecDepth 100000 in
set_option maxHeartbeats 1000000 in
theorem zfX8_run (v1 : Int32) (v2 : Int32) (I : gM) {r : Int32 × gM} (h : fX8_run v1 v2 I = some r) (q : Nat) (cq0 : q ≠ 8) (cq1 : q ≠ 9) (cq2 : q ≠ 10) (cq3 : q ≠ 11) (cq4 : q ≠ 12) (cq5 : q ≠ 29) (cq6 : q ≠ 31) (cq7 : q ≠ 30) (cq8 : q ≠ 36) (cq9 : q ≠ 37) (cq10 : q ≠ 38) (cq11 : q ≠ 35) (cq12 : q ≠ 34) (cq13 : q ≠ 39) (cq14 : q ≠ 33) (cq15 : q ≠ 32) : r.2 q = I q := by
  unfold fX8_run at h
  obtain ⟨r1, -, h⟩ := ob h
  rcases oi h with ⟨-, h⟩ | ⟨-, h⟩
  · obtain rfl := Option.some.inj h
    exact rfl
  · rcases oi h with ⟨-, h⟩ | ⟨-, h⟩
    · obtain rfl := Option.some.inj h
      exact rfl
    · rcases oi h with ⟨-, h⟩ | ⟨-, h⟩
      · obtain rfl := Option.some.inj h
        exact rfl
      · rcases oi h with ⟨-, h⟩ | ⟨-, h⟩
        · obtain ⟨r2, er2, h⟩ := ob h
          have q1 : r2 q = _ := (zfX5_copyFrom 8 3 I er2 q cq0 cq1 cq2 cq3 cq4).trans rfl
          obtain ⟨k3, ek3, h⟩ := ob h
          obtain ⟨jk3, -, hjk3, hkk3⟩ := rA_some ek3
          obtain ⟨r4, er4, h⟩ := ob h
          have q2 : r4.2 q = _ := (zfX4_rehearse k3 8 r2 er4 q cq4 cq2 cq0).trans q1
          rcases oi h with ⟨-, h⟩ | ⟨-, h⟩
          · obtain ⟨k5, ek5, h⟩ := ob h
            obtain ⟨jk5, -, hjk5, hkk5⟩ := rA_some ek5
            rcases oi h with ⟨-, h⟩ | ⟨-, h⟩
            · obtain rfl := Option.some.inj h
              exact q2
            · obtain rfl := Option.some.inj h
              exact q2
          · obtain ⟨r6, er6, h⟩ := ob h
            have q3 : r6 q = _ := (zfX1_findBy 29 8 (r4.2 8 2) r4.2 er6 q cq5 cq6 cq7 cq8 cq9 cq10 cq11 cq12 cq13 cq14 cq15).trans q2
            obtain rfl := Option.some.inj h
            exact q3
        · obtain rfl := Option.some.inj h
          exact rfl
set_option maxRecDepth 100000 in
set_option maxHeartbeats 1000000 in
theorem zlX8_perform_29 (k2 : Nat) (s : (Int32 × gM)) {r : (Int32 × gM) ⊕ (gM)} (h : lX8_perform_29 k2 s = some r) (q : Nat) (cq0 : q ≠ 49) (cq1 : q ≠ 48) (cq2 : q ≠ 7) (cq3 : q ≠ 5) (cq4 : q ≠ 3) (cq5 : q ≠ 18) (cq6 : q ≠ 20) (cq7 : q ≠ 19) (cq8 : q ≠ 25) (cq9 : q ≠ 26) (cq10 : q ≠ 27) (cq11 : q ≠ 24) (cq12 : q ≠ 23) (cq13 : q ≠ 28) (cq14 : q ≠ 22) (cq15 : q ≠ 21) (cq16 : q ≠ 43) (cq17 : q ≠ 45) (cq18 : q ≠ 44) : ((Sum.elim (fun x : Int32 × gM => x.2 q) (fun x : gM => x q)) r) = s.2 q := by
  unfold lX8_perform_29 at h
  revert s
  refine itO_ind (P := fun s : (Int32 × gM) => ((Sum.elim (fun x : Int32 × gM => x.2 q) (fun x : gM => x q)) r) = s.2 q) (fun s y h hl hr => ?_)
  rcases oi h with ⟨-, h⟩ | ⟨-, h⟩
  · obtain rfl := Option.some.inj h
    have hh := hr _ rfl
    subst hh
    exact rfl
  · obtain ⟨r3, -, h⟩ := ob h
    obtain ⟨r4, -, h⟩ := ob h
    obtain ⟨r5, -, h⟩ := ob h
    obtain ⟨r6, -, h⟩ := ob h
    obtain ⟨r7, -, h⟩ := ob h
    obtain ⟨r8, er8, h⟩ := ob h
    have q1 : r8.2 q = _ := (zfX8_attempt r3 r4 r5 r6 r7 s.2 er8 q cq0 cq1 cq2 cq3 cq4 cq5 cq6 cq7 cq8 cq9 cq10 cq11 cq12 cq13 cq14 cq15 cq16 cq17 cq18).trans rfl
    rcases oi h with ⟨-, h⟩ | ⟨-, h⟩
    · obtain rfl := Option.some.inj h
      exact (hl _ rfl).trans q1
    · obtain rfl := Option.some.inj h
      have hh := hr _ rfl
      subst hh
      exact q1
set_option maxRecDepth 100000 in
set_option maxHeartbeats 1000000 in
theorem zfX8_perform (v1 : Int32) (I : gM) {r : Int32 × gM} (h : fX8_perform v1 I = some r) (q : Nat) (cq0 : q ≠ 49) (cq1 : q ≠ 48) (cq2 : q ≠ 7) (cq3 : q ≠ 5) (cq4 : q ≠ 3) (cq5 : q ≠ 18) (cq6 : q ≠ 20) (cq7 : q ≠ 19) (cq8 : q ≠ 25) (cq9 : q ≠ 26) (cq10 : q ≠ 27) (cq11 : q ≠ 24) (cq12 : q ≠ 23) (cq13 : q ≠ 28) (cq14 : q ≠ 22) (cq15 : q ≠ 21) (cq16 : q ≠ 43) (cq17 : q ≠ 45) (cq18 : q ≠ 44) : r.2 q = I q := by
  unfold fX8_perform at h
  obtain ⟨r1, -, h⟩ := ob h
  rcases oi h with ⟨-, h⟩ | ⟨-, h⟩
  · obtain rfl := Option.some.inj h
    exact rfl
  · rcases oi h with ⟨-, h⟩ | ⟨-, h⟩
    · obtain rfl := Option.some.inj h
      exact rfl
    · obtain ⟨k2, ek2, h⟩ := ob h
      obtain ⟨jk2, -, hjk2, hkk2⟩ := rA_some ek2
      obtain ⟨w9, ew9, h⟩ := ob h
      have q1 := (zlX8_perform_29 k2 ((0 : Int32), I) ew9 q cq0 cq1 cq2 cq3 cq4 cq5 cq6 cq7 cq8 cq9 cq10 cq11 cq12 cq13 cq14 cq15 cq16 cq17 cq18).trans rfl
      rcases w9 with w9_0 | w9_1
      · replace h := oE1 h
        have q2 : w9_0.2 q = _ := q1
        obtain rfl := Option.some.inj h
        exact q2
      · replace h := oE2 h
        have q3 : w9_1 q = _ := q1
        obtain rfl := Option.some.inj h
        exact q3
set_option maxRecDepth 100000 in
set_option maxHeartbeats 1000000 in
theorem zlX8_tellingCouples_11 (v2 : Int32) (s : (Int32 × Int32 × gM)) {r : Int32 × gM} (h : lX8_tellingCouples_11 v2 s = some r) (q : Nat) (cq0 : q ≠ 42) : r.2 q = s.2.2 q := by
  unfold lX8_tellingCouples_11 at h
  revert s
  refine itO_ind (P := fun s : (Int32 × Int32 × gM) => r.2 q = s.2.2 q) (fun s y h hl hr => ?_)
  rcases oi h with ⟨-, h⟩ | ⟨-, h⟩
  · obtain rfl := Option.some.inj h
    have hh := hr _ rfl
    subst hh
    exact rfl
  · rcases oi h with ⟨-, h⟩ | ⟨-, h⟩
    · unfold bX8_tellingCouples_33 at h
      obtain rfl := Option.some.inj h
      exact (hl _ rfl).trans rfl
    · obtain ⟨r1, er1, h⟩ := ob h
      have q1 : r1.2 q = _ := (zfX8_tells v2 s.2.1 s.2.2 er1 q cq0).trans rfl
      rcases oi h with ⟨-, h⟩ | ⟨-, h⟩
      · unfold bX8_tellingCouples_33 at h
        obtain rfl := Option.some.inj h
        exact (hl _ rfl).trans q1
      · unfold bX8_tellingCouples_33 at h
        obtain rfl := Option.some.inj h
        exact (hl _ rfl).trans q1
set_option maxRecDepth 100000 in
set_option maxHeartbeats 1000000 in
theorem zlX8_tellingCouples_4  (s : (Int32 × Int32 × gM)) {r : Int32 × gM} (h : lX8_tellingCouples_4 s = some r) (q : Nat) (cq0 : q ≠ 42) : r.2 q = s.2.2 q := by
  unfold lX8_tellingCouples_4 at h
  revert s
  refine itO_ind (P := fun s : (Int32 × Int32 × gM) => r.2 q = s.2.2 q) (fun s y h hl hr => ?_)
  rcases oi h with ⟨-, h⟩ | ⟨-, h⟩
  · obtain rfl := Option.some.inj h
    have hh := hr _ rfl
    subst hh
    exact rfl
  · obtain ⟨w2, ew2, h⟩ := ob h
    have q1 : w2.2 q = _ := (zlX8_tellingCouples_11 s.2.1 (s.1, (0 : Int32), s.2.2) ew2 q cq0).trans rfl
    obtain rfl := Option.some.inj h
    exact (hl _ rfl).trans q1
set_option maxRecDepth 100000 in
set_option maxHeartbeats 1000000 in
theorem zfX8_tellingCouples (I : gM) {r : Int32 × gM} (h : fX8_tellingCouples I = some r) (q : Nat) (cq0 : q ≠ 42) : r.2 q = I q := by
  unfold fX8_tellingCouples at h
  obtain ⟨w3, ew3, h⟩ := ob h
  have q1 : w3.2 q = _ := (zlX8_tellingCouples_4 ((0 : Int32), (0 : Int32), I) ew3 q cq0).trans rfl
  obtain rfl := Option.some.inj h
  exact q1
set_option maxRecDepth 100000 in
set_option maxHeartbeats 1000000 in
theorem zfX8_most (v1 : Int32) (I : gM) {r : Int32 × gM} (h : fX8_most v1 I = some r) (q : Nat) (cq0 : q ≠ 42) (cq1 : q ≠ 29) (cq2 : q ≠ 31) (cq3 : q ≠ 30) (cq4 : q ≠ 36) (cq5 : q ≠ 37) (cq6 : q ≠ 38) (cq7 : q ≠ 35) (cq8 : q ≠ 34) (cq9 : q ≠ 39) (cq10 : q ≠ 33) (cq11 : q ≠ 32) (cq12 : q ≠ 43) : r.2 q = I q := by
  unfold fX8_most at h
  rcases oi h with ⟨-, h⟩ | ⟨-, h⟩
  · obtain rfl := Option.some.inj h
    exact rfl
  · rcases oi h with ⟨-, h⟩ | ⟨-, h⟩
    · obtain ⟨r1, -, h⟩ := ob h
      obtain rfl := Option.some.inj h
      exact rfl
    · rcases oi h with ⟨-, h⟩ | ⟨-, h⟩
      · obtain ⟨r2, -, h⟩ := ob h
        obtain rfl := Option.some.inj h
        exact rfl
      · rcases oi h with ⟨-, h⟩ | ⟨-, h⟩
        · obtain ⟨r3, -, h⟩ := ob h
          obtain rfl := Option.some.inj h
          exact rfl
        · rcases oi h with ⟨-, h⟩ | ⟨-, h⟩
          · obtain ⟨r4, -, h⟩ := ob h
            obtain rfl := Option.some.inj h
            exact rfl
          · rcases oi h with ⟨-, h⟩ | ⟨-, h⟩
            · obtain ⟨r5, er5, h⟩ := ob h
              have q1 : r5.2 q = _ := (zfX8_tellingCouples I er5 q cq0).trans rfl
              obtain rfl := Option.some.inj h
              exact q1
            · rcases oi h with ⟨-, h⟩ | ⟨-, h⟩
              · obtain ⟨r6, er6, h⟩ := ob h
                have q2 : r6 q = _ := (zfX1_findBy 29 3 (0 : Int32) I er6 q cq1 cq2 cq3 cq4 cq5 cq6 cq7 cq8 cq9 cq10 cq11).trans rfl
                obtain rfl := Option.some.inj h
                exact q2
              · rcases oi h with ⟨-, h⟩ | ⟨-, h⟩
                · obtain ⟨r7, er7, h⟩ := ob h
                  have q3 : r7 q = _ := (zfX7_weigh 3 29 I er7 q cq1 cq2 cq3 cq4 cq5 cq6 cq7 cq8 cq9 cq10 cq11 cq12).trans rfl
                  obtain rfl := Option.some.inj h
                  exact q3
                · obtain rfl := Option.some.inj h
                  exact rfl
set_option maxRecDepth 100000 in
set_option maxHeartbeats 1000000 in
theorem zfX8_image (I : gM) {r : Int32 × gM} (h : fX8_image I = some r) (q : Nat) (cq0 : q ≠ 13) (cq1 : q ≠ 14) (cq2 : q ≠ 15) (cq3 : q ≠ 16) (cq4 : q ≠ 17) (cq5 : q ≠ 47) (cq6 : q ≠ 46) (cq7 : q ≠ 0) : r.2 q = I q := by
  unfold fX8_image at h
  rcases oi h with ⟨-, h⟩ | ⟨-, h⟩
  · obtain rfl := Option.some.inj h
    exact rfl
  · obtain ⟨r1, er1, h⟩ := ob h
    have q1 : r1 q = _ := (zfX5_copyFrom 13 3 I er1 q cq0 cq1 cq2 cq3 cq4).trans rfl
    obtain ⟨r2, er2, h⟩ := ob h
    have q2 : r2 q = _ := (zfX2_copyFrom 46 44 r1 er2 q cq5 cq6).trans q1
    obtain ⟨I3, eI3, h⟩ := ob h
    have q3 : I3 q = _ := (by rw [← pU_some eI3]; exact g_up_row cq7 : I3 q = r2 q).trans q2
    obtain rfl := Option.some.inj h
    exact q3
set_option maxRecDepth 100000 in
set_option maxHeartbeats 1000000 in
theorem zfX8_back (I : gM) {r : Int32 × gM} (h : fX8_back I = some r) (q : Nat) (cq0 : q ≠ 3) (cq1 : q ≠ 4) (cq2 : q ≠ 5) (cq3 : q ≠ 6) (cq4 : q ≠ 7) (cq5 : q ≠ 45) (cq6 : q ≠ 44) (cq7 : q ≠ 48) (cq8 : q ≠ 18) (cq9 : q ≠ 20) (cq10 : q ≠ 19) (cq11 : q ≠ 25) (cq12 : q ≠ 26) (cq13 : q ≠ 27) (cq14 : q ≠ 24) (cq15 : q ≠ 23) (cq16 : q ≠ 28) (cq17 : q ≠ 22) (cq18 : q ≠ 21) (cq19 : q ≠ 43) : r.2 q = I q := by
  unfold fX8_back at h
  rcases oi h with ⟨-, h⟩ | ⟨-, h⟩
  · obtain rfl := Option.some.inj h
    exact rfl
  · obtain ⟨r1, er1, h⟩ := ob h
    have q1 : r1 q = _ := (zfX5_copyFrom 3 13 I er1 q cq0 cq1 cq2 cq3 cq4).trans rfl
    obtain ⟨r2, er2, h⟩ := ob h
    have q2 : r2 q = _ := (zfX2_copyFrom 44 46 r1 er2 q cq5 cq6).trans q1
    obtain ⟨r3, er3, h⟩ := ob h
    have q3 : r3 q = _ := (zfX3_clear r2 er3 q cq7).trans q2
    obtain ⟨r4, er4, h⟩ := ob h
    have q4 : r4 q = _ := (zfX8_renew r3 er4 q cq8 cq9 cq10 cq11 cq12 cq13 cq14 cq15 cq16 cq17 cq18 cq19).trans q3
    obtain rfl := Option.some.inj h
    exact q4
set_option maxRecDepth 100000 in
set_option maxHeartbeats 1000000 in
theorem zlX9_feed_62 (v1 : Int32) (v2 : Int32) (v3 : Int32) (v4 : Int32) (v5 : Int32) (s : (Int32 × gM)) {r : gM} (h : lX9_feed_62 v1 v2 v3 v4 v5 s = some r) (q : Nat) (cq0 : q ≠ 63) (cq1 : q ≠ 62) : r q = s.2 q := by
  unfold lX9_feed_62 at h
  revert s
  refine itO_ind (P := fun s : (Int32 × gM) => r q = s.2 q) (fun s y h hl hr => ?_)
  rcases oi h with ⟨-, h⟩ | ⟨-, h⟩
  · obtain rfl := Option.some.inj h
    have hh := hr _ rfl
    subst hh
    exact rfl
  · obtain ⟨r3, -, h⟩ := ob h
    rcases oi h with ⟨-, h⟩ | ⟨-, h⟩
    · unfold bX9_feed_109 at h
      obtain rfl := Option.some.inj h
      exact (hl _ rfl).trans rfl
    · obtain ⟨I4, eI4, h⟩ := ob h
      have q1 : I4 q = _ := (by rw [← (wI_some eI4).2.2]; exact g_up_row cq0 : I4 q = s.2 q).trans rfl
      obtain ⟨I5, eI5, h⟩ := ob h
      have q2 : I5 q = _ := (by rw [← pU_some eI5]; exact g_up_row cq1 : I5 q = I4 q).trans q1
      unfold bX9_feed_109 at h
      obtain rfl := Option.some.inj h
      exact (hl _ rfl).trans q2
set_option maxRecDepth 100000 in
set_option maxHeartbeats 1000000 in
theorem zfX9_feed (v1 : Int32) (v2 : Int32) (v3 : Int32) (v4 : Int32) (v5 : Int32) (I : gM) {r : Int32 × gM} (h : fX9_feed v1 v2 v3 v4 v5 I = some r) (q : Nat) (cq0 : q ≠ 63) (cq1 : q ≠ 62) : r.2 q = I q := by
  unfold fX9_feed at h
  obtain ⟨w2, -, h⟩ := ob h
  rcases oi h with ⟨-, h⟩ | ⟨-, h⟩
  · obtain ⟨w6, ew6, h⟩ := ob h
    have q1 : w6 q = _ := (zlX9_feed_62 v1 v2 v3 v4 v5 ((0 : Int32), I) ew6 q cq0 cq1).trans rfl
    obtain rfl := Option.some.inj h
    exact q1
  · obtain rfl := Option.some.inj h
    exact rfl
set_option maxRecDepth 100000 in
set_option maxHeartbeats 1000000 in
theorem zfX9_end (v1 : Int32) (I : gM) {r : Int32 × gM} (h : fX9_end v1 I = some r) (q : Nat) (cq0 : q ≠ 62) : r.2 q = I q := by
  unfold fX9_end at h
  obtain ⟨r1, -, h⟩ := ob h
  rcases oi h with ⟨-, h⟩ | ⟨-, h⟩
  · obtain rfl := Option.some.inj h
    exact rfl
  · obtain ⟨I2, eI2, h⟩ := ob h
    have q1 : I2 q = _ := (by rw [← pU_some eI2]; exact g_up_row cq0 : I2 q = I q).trans rfl
    obtain rfl := Option.some.inj h
    exact q1
set_option maxRecDepth 100000 in
set_option maxHeartbeats 1000000 in
theorem zlX9_ahead_0  (s : gM) {r : gM} (h : lX9_ahead_0 s = some r) (q : Nat) (cq0 : q ≠ 62) : r q = s q := by
  unfold lX9_ahead_0 at h
  revert s
  refine itO_ind (P := fun s : gM => r q = s q) (fun s y h hl hr => ?_)
  obtain ⟨r1, -, h⟩ := ob h
  rcases oi h with ⟨-, h⟩ | ⟨-, h⟩
  · obtain ⟨I2, eI2, h⟩ := ob h
    have q1 : I2 q = _ := (by rw [← pU_some eI2]; exact g_up_row cq0 : I2 q = s q).trans rfl
    obtain rfl := Option.some.inj h
    exact (hl _ rfl).trans q1
  · obtain rfl := Option.some.inj h
    have hh := hr _ rfl
    subst hh
    exact rfl
set_option maxRecDepth 100000 in
set_option maxHeartbeats 1000000 in
theorem zfX9_ahead (I : gM) {r : Int32 × gM} (h : fX9_ahead I = some r) (q : Nat) (cq0 : q ≠ 62) : r.2 q = I q := by
  unfold fX9_ahead at h
  obtain ⟨w3, ew3, h⟩ := ob h
  have q1 : w3 q = _ := (zlX9_ahead_0 I ew3 q cq0).trans rfl
  obtain ⟨r4, -, h⟩ := ob h
  obtain rfl := Option.some.inj h
  exact q1
set_option maxRecDepth 100000 in
set_option maxHeartbeats 1000000 in
theorem zfX9_bad (I : gM) {r : gM} (h : fX9_bad I = some r) (q : Nat) (cq0 : q ≠ 62) : r q = I q := by
  unfold fX9_bad at h
  rcases oi h with ⟨-, h⟩ | ⟨-, h⟩
  · obtain ⟨I1, eI1, h⟩ := ob h
    have q1 : I1 q = _ := (by rw [← pU_some eI1]; exact g_up_row cq0 : I1 q = I q).trans rfl
    obtain rfl := Option.some.inj h
    exact q1
  · obtain ⟨I2, eI2, h⟩ := ob h
    have q2 : I2 q = _ := (by rw [← pU_some eI2]; exact g_up_row cq0 : I2 q = I q).trans rfl
    obtain rfl := Option.some.inj h
    exact q2
set_option maxRecDepth 100000 in
set_option maxHeartbeats 1000000 in
theorem zfX9_must (v1 : Int32) (I : gM) {r : gM} (h : fX9_must v1 I = some r) (q : Nat) (cq0 : q ≠ 62) : r q = I q := by
  unfold fX9_must at h
  rcases oi h with ⟨-, h⟩ | ⟨-, h⟩
  · obtain ⟨r1, er1, h⟩ := ob h
    have q1 : r1.2 q = _ := (zfX9_ahead I er1 q cq0).trans rfl
    rcases oi h with ⟨-, h⟩ | ⟨-, h⟩
    · obtain ⟨I2, eI2, h⟩ := ob h
      have q2 : I2 q = _ := (by rw [← pU_some eI2]; exact g_up_row cq0 : I2 q = r1.2 q).trans q1
      obtain rfl := Option.some.inj h
      exact q2
    · unfold bX9_must_29 at h
      obtain ⟨r3, er3, h⟩ := ob h
      have q3 : r3 q = _ := (zfX9_bad r1.2 er3 q cq0).trans q1
      obtain rfl := Option.some.inj h
      exact q3
  · unfold bX9_must_29 at h
    obtain ⟨r3, er3, h⟩ := ob h
    have q4 : r3 q = _ := (zfX9_bad I er3 q cq0).trans rfl
    obtain rfl := Option.some.inj h
    exact q4
set_option maxRecDepth 100000 in
set_option maxHeartbeats 1000000 in
theorem zlX9_number_28  (s : (Int32 × Int32 × gM)) {r : Int32 × gM} (h : lX9_number_28 s = some r) (q : Nat) (cq0 : q ≠ 62) : r.2 q = s.2.2 q := by
  unfold lX9_number_28 at h
  revert s
  refine itO_ind (P := fun s : (Int32 × Int32 × gM) => r.2 q = s.2.2 q) (fun s y h hl hr => ?_)
  rcases oi h with ⟨-, h⟩ | ⟨-, h⟩
  · obtain rfl := Option.some.inj h
    have hh := hr _ rfl
    subst hh
    exact rfl
  · obtain ⟨r4, -, h⟩ := ob h
    obtain ⟨r5, -, h⟩ := ob h
    rcases oi h with ⟨-, h⟩ | ⟨-, h⟩
    · obtain rfl := Option.some.inj h
      have hh := hr _ rfl
      subst hh
      exact rfl
    · obtain ⟨r6, -, h⟩ := ob h
      obtain ⟨I7, eI7, h⟩ := ob h
      have q1 : I7 q = _ := (by rw [← pU_some eI7]; exact g_up_row cq0 : I7 q = s.2.2 q).trans rfl
      obtain rfl := Option.some.inj h
      exact (hl _ rfl).trans q1
set_option maxRecDepth 100000 in
set_option maxHeartbeats 1000000 in
theorem zfX9_number (v1 : Int32) (I : gM) {r : Int32 × gM} (h : fX9_number v1 I = some r) (q : Nat) (cq0 : q ≠ 62) : r.2 q = I q := by
  unfold fX9_number at h
  rcases oi h with ⟨-, h⟩ | ⟨-, h⟩
  · obtain ⟨r1, er1, h⟩ := ob h
    have q1 : r1.2 q = _ := (zfX9_ahead I er1 q cq0).trans rfl
    obtain ⟨r2, -, h⟩ := ob h
    rcases oi h with ⟨-, h⟩ | ⟨-, h⟩
    · unfold bX9_number_18 at h
      obtain ⟨r3, er3, h⟩ := ob h
      have q2 : r3 q = _ := (zfX9_bad r1.2 er3 q cq0).trans q1
      obtain rfl := Option.some.inj h
      exact q2
    · obtain ⟨w8, ew8, h⟩ := ob h
      have q3 : w8.2 q = _ := (zlX9_number_28 ((0 : Int32), (0 : Int32), r1.2) ew8 q cq0).trans q1
      unfold bX9_number_72 at h
      obtain ⟨r9, -, h⟩ := ob h
      obtain ⟨r10, -, h⟩ := ob h
      rcases oi h with ⟨-, h⟩ | ⟨-, h⟩
      · rcases oi h with ⟨-, h⟩ | ⟨-, h⟩
        · obtain rfl := Option.some.inj h
          exact q3
        · obtain ⟨I11, eI11, h⟩ := ob h
          have q4 : I11 q = _ := (by rw [← pU_some eI11]; exact g_up_row cq0 : I11 q = w8.2 q).trans q3
          obtain ⟨r12, er12, h⟩ := ob h
          have q5 : r12 q = _ := (zfX9_bad I11 er12 q cq0).trans q4
          obtain rfl := Option.some.inj h
          exact q5
      · obtain ⟨r13, er13, h⟩ := ob h
        have q6 : r13 q = _ := (zfX9_bad w8.2 er13 q cq0).trans q3
        obtain rfl := Option.some.inj h
        exact q6
  · unfold bX9_number_18 at h
    obtain ⟨r3, er3, h⟩ := ob h
    have q7 : r3 q = _ := (zfX9_bad I er3 q cq0).trans rfl
    obtain rfl := Option.some.inj h
    exact q7
set_option maxRecDepth 100000 in
set_option maxHeartbeats 1000000 in
theorem zfX9_digit (I : gM) {r : Int32 × gM} (h : fX9_digit I = some r) (q : Nat) (cq0 : q ≠ 62) : r.2 q = I q := by
  unfold fX9_digit at h
  rcases oi h with ⟨-, h⟩ | ⟨-, h⟩
  · obtain ⟨r1, er1, h⟩ := ob h
    have q1 : r1.2 q = _ := (zfX9_ahead I er1 q cq0).trans rfl
    obtain ⟨r2, -, h⟩ := ob h
    rcases oi h with ⟨-, h⟩ | ⟨-, h⟩
    · unfold bX9_digit_18 at h
      obtain ⟨r3, er3, h⟩ := ob h
      have q2 : r3 q = _ := (zfX9_bad r1.2 er3 q cq0).trans q1
      obtain rfl := Option.some.inj h
      exact q2
    · obtain ⟨I4, eI4, h⟩ := ob h
      have q3 : I4 q = _ := (by rw [← pU_some eI4]; exact g_up_row cq0 : I4 q = r1.2 q).trans q1
      obtain ⟨u5, -, h⟩ := ob h
      obtain rfl := Option.some.inj h
      exact q3
  · unfold bX9_digit_18 at h
    obtain ⟨r3, er3, h⟩ := ob h
    have q4 : r3 q = _ := (zfX9_bad I er3 q cq0).trans rfl
    obtain rfl := Option.some.inj h
    exact q4
set_option maxRecDepth 100000 in
set_option maxHeartbeats 1000000 in
theorem zlX9_readHead_24 (v1 : Int32) (s : (Int32 × gM)) {r : gM} (h : lX9_readHead_24 v1 s = some r) (q : Nat) (cq0 : q ≠ 62) (cq1 : q ≠ 65) (cq2 : q ≠ 64) : r q = s.2 q := by
  unfold lX9_readHead_24 at h
  revert s
  refine itO_ind (P := fun s : (Int32 × gM) => r q = s.2 q) (fun s y h hl hr => ?_)
  rcases oi h with ⟨-, h⟩ | ⟨-, h⟩
  · obtain ⟨r5, er5, h⟩ := ob h
    have q1 : r5.2 q = _ := (zfX9_ahead s.2 er5 q cq0).trans rfl
    obtain ⟨r6, -, h⟩ := ob h
    rcases oi h with ⟨-, h⟩ | ⟨-, h⟩
    · obtain rfl := Option.some.inj h
      have hh := hr _ rfl
      subst hh
      exact q1
    · obtain ⟨r7, -, h⟩ := ob h
      obtain ⟨u8, -, h⟩ := ob h
      rcases oi h with ⟨-, h⟩ | ⟨-, h⟩
      · unfold bX9_readHead_69 at h
        obtain ⟨r9, er9, h⟩ := ob h
        have q2 : r9 q = _ := (zfX9_bad r5.2 er9 q cq0).trans q1
        unfold bX9_readHead_118 at h
        obtain rfl := Option.some.inj h
        exact (hl _ rfl).trans q2
      · obtain ⟨r10, -, h⟩ := ob h
        rcases oi h with ⟨-, h⟩ | ⟨-, h⟩
        · obtain ⟨u11, -, h⟩ := ob h
          obtain ⟨I12, eI12, h⟩ := ob h
          have q3 : I12 q = _ := (by rw [← (wI_some eI12).2.2]; exact g_up_row cq1 : I12 q = r5.2 q).trans q1
          obtain ⟨u13, -, h⟩ := ob h
          obtain ⟨I14, eI14, h⟩ := ob h
          have q4 : I14 q = _ := (by rw [← (wI_some eI14).2.2]; exact g_up_row cq2 : I14 q = I12 q).trans q3
          obtain ⟨I15, eI15, h⟩ := ob h
          have q5 : I15 q = _ := (by rw [← pU_some eI15]; exact g_up_row cq0 : I15 q = I14 q).trans q4
          unfold bX9_readHead_118 at h
          obtain rfl := Option.some.inj h
          exact (hl _ rfl).trans q5
        · unfold bX9_readHead_69 at h
          obtain ⟨r9, er9, h⟩ := ob h
          have q6 : r9 q = _ := (zfX9_bad r5.2 er9 q cq0).trans q1
          unfold bX9_readHead_118 at h
          obtain rfl := Option.some.inj h
          exact (hl _ rfl).trans q6
  · obtain rfl := Option.some.inj h
    have hh := hr _ rfl
    subst hh
    exact rfl
set_option maxRecDepth 100000 in
set_option maxHeartbeats 1000000 in
theorem zfX9_readHead (v1 : Int32) (I : gM) {r : gM} (h : fX9_readHead v1 I = some r) (q : Nat) (cq0 : q ≠ 64) (cq1 : q ≠ 62) (cq2 : q ≠ 65) : r q = I q := by
  unfold fX9_readHead at h
  obtain ⟨I1, eI1, h⟩ := ob h
  have q1 : I1 q = _ := (by rw [← (wI_some eI1).2.2]; exact g_up_row cq0 : I1 q = I q).trans rfl
  obtain ⟨r2, er2, h⟩ := ob h
  have q2 : r2.2 q = _ := (zfX9_ahead I1 er2 q cq1).trans q1
  obtain ⟨r3, -, h⟩ := ob h
  rcases oi h with ⟨-, h⟩ | ⟨-, h⟩
  · obtain ⟨r4, er4, h⟩ := ob h
    have q3 : r4 q = _ := (zfX9_bad r2.2 er4 q cq1).trans q2
    obtain ⟨w16, ew16, h⟩ := ob h
    have q4 : w16 q = _ := (zlX9_readHead_24 v1 ((0 : Int32), r4) ew16 q cq1 cq2 cq0).trans q3
    unfold bX9_readHead_121 at h
    obtain ⟨r17, er17, h⟩ := ob h
    have q5 : r17 q = _ := (zfX9_must (58 : Int32) w16 er17 q cq1).trans q4
    obtain rfl := Option.some.inj h
    exact q5
  · obtain ⟨w18, ew18, h⟩ := ob h
    have q6 : w18 q = _ := (zlX9_readHead_24 v1 ((0 : Int32), r2.2) ew18 q cq1 cq2 cq0).trans q2
    unfold bX9_readHead_121 at h
    obtain ⟨r17, er17, h⟩ := ob h
    have q7 : r17 q = _ := (zfX9_must (58 : Int32) w18 er17 q cq1).trans q6
    obtain rfl := Option.some.inj h
    exact q7
set_option maxRecDepth 100000 in
set_option maxHeartbeats 1000000 in
theorem zlX9_readRow_16 (v1 : Int32) (v2 : Int32) (s : (Int32 × gM)) {r : gM} (h : lX9_readRow_16 v1 v2 s = some r) (q : Nat) (cq0 : q ≠ 67) (cq1 : q ≠ 62) : r q = s.2 q := by
  unfold lX9_readRow_16 at h
  revert s
  refine itO_ind (P := fun s : (Int32 × gM) => r q = s.2 q) (fun s y h hl hr => ?_)
  rcases oi h with ⟨-, h⟩ | ⟨-, h⟩
  · obtain rfl := Option.some.inj h
    have hh := hr _ rfl
    subst hh
    exact rfl
  · rcases oi h with ⟨-, h⟩ | ⟨-, h⟩
    · unfold bX9_readRow_41 at h
      obtain ⟨u2, -, h⟩ := ob h
      rcases oi h with ⟨-, h⟩ | ⟨-, h⟩
      · unfold bX9_readRow_68 at h
        obtain ⟨I3, eI3, h⟩ := ob h
        have q1 : I3 q = _ := (by rw [← (wI_some eI3).2.2]; exact g_up_row cq0 : I3 q = s.2 q).trans rfl
        obtain rfl := Option.some.inj h
        exact (hl _ rfl).trans q1
      · obtain ⟨r4, er4, h⟩ := ob h
        have q2 : r4.2 q = _ := (zfX9_number (99 : Int32) s.2 er4 q cq1).trans rfl
        unfold bX9_readRow_68 at h
        obtain ⟨I3, eI3, h⟩ := ob h
        have q3 : I3 q = _ := (by rw [← (wI_some eI3).2.2]; exact g_up_row cq0 : I3 q = r4.2 q).trans q2
        obtain rfl := Option.some.inj h
        exact (hl _ rfl).trans q3
    · obtain ⟨u5, -, h⟩ := ob h
      rcases oi h with ⟨-, h⟩ | ⟨-, h⟩
      · unfold bX9_readRow_41 at h
        obtain ⟨u2, -, h⟩ := ob h
        rcases oi h with ⟨-, h⟩ | ⟨-, h⟩
        · unfold bX9_readRow_68 at h
          obtain ⟨I3, eI3, h⟩ := ob h
          have q4 : I3 q = _ := (by rw [← (wI_some eI3).2.2]; exact g_up_row cq0 : I3 q = s.2 q).trans rfl
          obtain rfl := Option.some.inj h
          exact (hl _ rfl).trans q4
        · obtain ⟨r4, er4, h⟩ := ob h
          have q5 : r4.2 q = _ := (zfX9_number (99 : Int32) s.2 er4 q cq1).trans rfl
          unfold bX9_readRow_68 at h
          obtain ⟨I3, eI3, h⟩ := ob h
          have q6 : I3 q = _ := (by rw [← (wI_some eI3).2.2]; exact g_up_row cq0 : I3 q = r4.2 q).trans q5
          obtain rfl := Option.some.inj h
          exact (hl _ rfl).trans q6
      · obtain ⟨r6, er6, h⟩ := ob h
        have q7 : r6 q = _ := (zfX9_must (44 : Int32) s.2 er6 q cq1).trans rfl
        unfold bX9_readRow_41 at h
        obtain ⟨u2, -, h⟩ := ob h
        rcases oi h with ⟨-, h⟩ | ⟨-, h⟩
        · unfold bX9_readRow_68 at h
          obtain ⟨I3, eI3, h⟩ := ob h
          have q8 : I3 q = _ := (by rw [← (wI_some eI3).2.2]; exact g_up_row cq0 : I3 q = r6 q).trans q7
          obtain rfl := Option.some.inj h
          exact (hl _ rfl).trans q8
        · obtain ⟨r4, er4, h⟩ := ob h
          have q9 : r4.2 q = _ := (zfX9_number (99 : Int32) r6 er4 q cq1).trans q7
          unfold bX9_readRow_68 at h
          obtain ⟨I3, eI3, h⟩ := ob h
          have q10 : I3 q = _ := (by rw [← (wI_some eI3).2.2]; exact g_up_row cq0 : I3 q = r4.2 q).trans q9
          obtain rfl := Option.some.inj h
          exact (hl _ rfl).trans q10
set_option maxRecDepth 100000 in
set_option maxHeartbeats 1000000 in
theorem zfX9_readRow (v1 : Int32) (I : gM) {r : gM} (h : fX9_readRow v1 I = some r) (q : Nat) (cq0 : q ≠ 67) (cq1 : q ≠ 62) (cq2 : q ≠ 66) : r q = I q := by
  unfold fX9_readRow at h
  obtain ⟨u1, -, h⟩ := ob h
  obtain ⟨w7, ew7, h⟩ := ob h
  have q1 : w7 q = _ := (zlX9_readRow_16 v1 ((3 : Int32) * (((12 : Int32) * v1) + u1)) ((0 : Int32), I) ew7 q cq0 cq1).trans rfl
  obtain ⟨u8, -, h⟩ := ob h
  obtain ⟨I9, eI9, h⟩ := ob h
  have q2 : I9 q = _ := (by rw [← (wI_some eI9).2.2]; exact g_up_row cq2 : I9 q = w7 q).trans q1
  obtain rfl := Option.some.inj h
  exact q2
set_option maxRecDepth 100000 in
set_option maxHeartbeats 1000000 in
theorem zlX9_readTable_36 (v1 : Int32) (s : (Int32 × gM)) {r : gM} (h : lX9_readTable_36 v1 s = some r) (q : Nat) (cq0 : q ≠ 67) (cq1 : q ≠ 62) (cq2 : q ≠ 66) : r q = s.2 q := by
  unfold lX9_readTable_36 at h
  revert s
  refine itO_ind (P := fun s : (Int32 × gM) => r q = s.2 q) (fun s y h hl hr => ?_)
  rcases oi h with ⟨-, h⟩ | ⟨-, h⟩
  · obtain rfl := Option.some.inj h
    have hh := hr _ rfl
    subst hh
    exact rfl
  · obtain ⟨r5, er5, h⟩ := ob h
    have q1 : r5 q = _ := (zfX9_readRow v1 s.2 er5 q cq0 cq1 cq2).trans rfl
    rcases oi h with ⟨-, h⟩ | ⟨-, h⟩
    · obtain ⟨r6, er6, h⟩ := ob h
      have q2 : r6.2 q = _ := (zfX9_ahead r5 er6 q cq1).trans q1
      rcases oi h with ⟨-, h⟩ | ⟨-, h⟩
      · obtain ⟨u7, -, h⟩ := ob h
        rcases oi h with ⟨-, h⟩ | ⟨-, h⟩
        · unfold bX9_readTable_77 at h
          unfold bX9_readTable_78 at h
          rcases oi h with ⟨-, h⟩ | ⟨-, h⟩
          · unfold bX9_readTable_93 at h
            obtain ⟨I8, eI8, h⟩ := ob h
            have q3 : I8 q = _ := (by rw [← pU_some eI8]; exact g_up_row cq1 : I8 q = r6.2 q).trans q2
            obtain rfl := Option.some.inj h
            exact (hl _ rfl).trans q3
          · unfold bX9_readTable_93 at h
            obtain ⟨I8, eI8, h⟩ := ob h
            have q4 : I8 q = _ := (by rw [← pU_some eI8]; exact g_up_row cq1 : I8 q = r6.2 q).trans q2
            obtain rfl := Option.some.inj h
            exact (hl _ rfl).trans q4
        · unfold bX9_readTable_78 at h
          rcases oi h with ⟨-, h⟩ | ⟨-, h⟩
          · unfold bX9_readTable_93 at h
            obtain ⟨I8, eI8, h⟩ := ob h
            have q5 : I8 q = _ := (by rw [← pU_some eI8]; exact g_up_row cq1 : I8 q = r6.2 q).trans q2
            obtain rfl := Option.some.inj h
            exact (hl _ rfl).trans q5
          · unfold bX9_readTable_93 at h
            obtain ⟨I8, eI8, h⟩ := ob h
            have q6 : I8 q = _ := (by rw [← pU_some eI8]; exact g_up_row cq1 : I8 q = r6.2 q).trans q2
            obtain rfl := Option.some.inj h
            exact (hl _ rfl).trans q6
      · unfold bX9_readTable_77 at h
        unfold bX9_readTable_78 at h
        rcases oi h with ⟨-, h⟩ | ⟨-, h⟩
        · unfold bX9_readTable_93 at h
          obtain ⟨I8, eI8, h⟩ := ob h
          have q7 : I8 q = _ := (by rw [← pU_some eI8]; exact g_up_row cq1 : I8 q = r6.2 q).trans q2
          obtain rfl := Option.some.inj h
          exact (hl _ rfl).trans q7
        · unfold bX9_readTable_93 at h
          obtain ⟨I8, eI8, h⟩ := ob h
          have q8 : I8 q = _ := (by rw [← pU_some eI8]; exact g_up_row cq1 : I8 q = r6.2 q).trans q2
          obtain rfl := Option.some.inj h
          exact (hl _ rfl).trans q8
    · unfold bX9_readTable_77 at h
      unfold bX9_readTable_78 at h
      rcases oi h with ⟨-, h⟩ | ⟨-, h⟩
      · unfold bX9_readTable_93 at h
        obtain ⟨I8, eI8, h⟩ := ob h
        have q9 : I8 q = _ := (by rw [← pU_some eI8]; exact g_up_row cq1 : I8 q = r5 q).trans q1
        obtain rfl := Option.some.inj h
        exact (hl _ rfl).trans q9
      · unfold bX9_readTable_93 at h
        obtain ⟨I8, eI8, h⟩ := ob h
        have q10 : I8 q = _ := (by rw [← pU_some eI8]; exact g_up_row cq1 : I8 q = r5 q).trans q1
        obtain rfl := Option.some.inj h
        exact (hl _ rfl).trans q10
set_option maxRecDepth 100000 in
set_option maxHeartbeats 1000000 in
theorem zfX9_readTable (v1 : Int32) (I : gM) {r : gM} (h : fX9_readTable v1 I = some r) (q : Nat) (cq0 : q ≠ 64) (cq1 : q ≠ 62) (cq2 : q ≠ 65) (cq3 : q ≠ 66) (cq4 : q ≠ 67) : r q = I q := by
  unfold fX9_readTable at h
  obtain ⟨r1, er1, h⟩ := ob h
  have q1 : r1 q = _ := (zfX9_readHead v1 I er1 q cq0 cq1 cq2).trans rfl
  obtain ⟨I2, eI2, h⟩ := ob h
  have q2 : I2 q = _ := (by rw [← (wI_some eI2).2.2]; exact g_up_row cq3 : I2 q = r1 q).trans q1
  rcases oi h with ⟨-, h⟩ | ⟨-, h⟩
  · obtain ⟨r3, er3, h⟩ := ob h
    have q3 : r3.2 q = _ := (zfX9_ahead I2 er3 q cq1).trans q2
    obtain ⟨r4, -, h⟩ := ob h
    rcases oi h with ⟨-, h⟩ | ⟨-, h⟩
    · unfold bX9_readTable_34 at h
      unfold bX9_readTable_35 at h
      obtain ⟨w9, ew9, h⟩ := ob h
      have q4 : w9 q = _ := (zlX9_readTable_36 v1 ((0 : Int32), r3.2) ew9 q cq4 cq1 cq3).trans q3
      obtain rfl := Option.some.inj h
      exact q4
    · unfold bX9_readTable_35 at h
      obtain ⟨w9, ew9, h⟩ := ob h
      have q5 : w9 q = _ := (zlX9_readTable_36 v1 ((1 : Int32), r3.2) ew9 q cq4 cq1 cq3).trans q3
      obtain rfl := Option.some.inj h
      exact q5
  · unfold bX9_readTable_34 at h
    unfold bX9_readTable_35 at h
    obtain ⟨w9, ew9, h⟩ := ob h
    have q6 : w9 q = _ := (zlX9_readTable_36 v1 ((0 : Int32), I2) ew9 q cq4 cq1 cq3).trans q2
    obtain rfl := Option.some.inj h
    exact q6
set_option maxRecDepth 100000 in
set_option maxHeartbeats 1000000 in
theorem zfX9_ends (I : gM) {r : Int32 × gM} (h : fX9_ends I = some r) (q : Nat) (cq0 : q ≠ 62) : r.2 q = I q := by
  unfold fX9_ends at h
  rcases oi h with ⟨-, h⟩ | ⟨-, h⟩
  · obtain ⟨r1, er1, h⟩ := ob h
    have q1 : r1.2 q = _ := (zfX9_ahead I er1 q cq0).trans rfl
    rcases oi h with ⟨-, h⟩ | ⟨-, h⟩
    · obtain rfl := Option.some.inj h
      exact q1
    · obtain ⟨r2, er2, h⟩ := ob h
      have q2 : r2 q = _ := (zfX9_bad r1.2 er2 q cq0).trans q1
      obtain rfl := Option.some.inj h
      exact q2
  · obtain rfl := Option.some.inj h
    exact rfl
set_option maxRecDepth 100000 in
set_option maxHeartbeats 1000000 in
theorem zfX9_begins (I : gM) {r : gM} (h : fX9_begins I = some r) (q : Nat) (cq0 : q ≠ 62) : r q = I q := by
  unfold fX9_begins at h
  obtain ⟨I1, eI1, h⟩ := ob h
  have q1 : I1 q = _ := (by rw [← pU_some eI1]; exact g_up_row cq0 : I1 q = I q).trans rfl
  obtain ⟨I2, eI2, h⟩ := ob h
  have q2 : I2 q = _ := (by rw [← pU_some eI2]; exact g_up_row cq0 : I2 q = I1 q).trans q1
  obtain rfl := Option.some.inj h
  exact q2
set_option maxRecDepth 100000 in
set_option maxHeartbeats 1000000 in
theorem zlX9_readAll_11  (s : (Int32 × gM)) {r : gM} (h : lX9_readAll_11 s = some r) (q : Nat) (cq0 : q ≠ 64) (cq1 : q ≠ 62) (cq2 : q ≠ 65) (cq3 : q ≠ 66) (cq4 : q ≠ 67) : r q = s.2 q := by
  unfold lX9_readAll_11 at h
  revert s
  refine itO_ind (P := fun s : (Int32 × gM) => r q = s.2 q) (fun s y h hl hr => ?_)
  rcases oi h with ⟨-, h⟩ | ⟨-, h⟩
  · obtain rfl := Option.some.inj h
    have hh := hr _ rfl
    subst hh
    exact rfl
  · obtain ⟨r3, er3, h⟩ := ob h
    have q1 : r3 q = _ := (zfX9_readTable (s.2 62 9) s.2 er3 q cq0 cq1 cq2 cq3 cq4).trans rfl
    obtain ⟨I4, eI4, h⟩ := ob h
    have q2 : I4 q = _ := (by rw [← pU_some eI4]; exact g_up_row cq1 : I4 q = r3 q).trans q1
    rcases oi h with ⟨-, h⟩ | ⟨-, h⟩
    · obtain ⟨r5, er5, h⟩ := ob h
      have q3 : r5.2 q = _ := (zfX9_ahead I4 er5 q cq1).trans q2
      rcases oi h with ⟨-, h⟩ | ⟨-, h⟩
      · rcases oi h with ⟨-, h⟩ | ⟨-, h⟩
        · unfold bX9_readAll_62 at h
          unfold bX9_readAll_63 at h
          rcases oi h with ⟨-, h⟩ | ⟨-, h⟩
          · unfold bX9_readAll_78 at h
            obtain ⟨I6, eI6, h⟩ := ob h
            have q4 : I6 q = _ := (by rw [← pU_some eI6]; exact g_up_row cq1 : I6 q = r5.2 q).trans q3
            obtain rfl := Option.some.inj h
            exact (hl _ rfl).trans q4
          · unfold bX9_readAll_78 at h
            obtain ⟨I6, eI6, h⟩ := ob h
            have q5 : I6 q = _ := (by rw [← pU_some eI6]; exact g_up_row cq1 : I6 q = r5.2 q).trans q3
            obtain rfl := Option.some.inj h
            exact (hl _ rfl).trans q5
        · unfold bX9_readAll_63 at h
          rcases oi h with ⟨-, h⟩ | ⟨-, h⟩
          · unfold bX9_readAll_78 at h
            obtain ⟨I6, eI6, h⟩ := ob h
            have q6 : I6 q = _ := (by rw [← pU_some eI6]; exact g_up_row cq1 : I6 q = r5.2 q).trans q3
            obtain rfl := Option.some.inj h
            exact (hl _ rfl).trans q6
          · unfold bX9_readAll_78 at h
            obtain ⟨I6, eI6, h⟩ := ob h
            have q7 : I6 q = _ := (by rw [← pU_some eI6]; exact g_up_row cq1 : I6 q = r5.2 q).trans q3
            obtain rfl := Option.some.inj h
            exact (hl _ rfl).trans q7
      · unfold bX9_readAll_62 at h
        unfold bX9_readAll_63 at h
        rcases oi h with ⟨-, h⟩ | ⟨-, h⟩
        · unfold bX9_readAll_78 at h
          obtain ⟨I6, eI6, h⟩ := ob h
          have q8 : I6 q = _ := (by rw [← pU_some eI6]; exact g_up_row cq1 : I6 q = r5.2 q).trans q3
          obtain rfl := Option.some.inj h
          exact (hl _ rfl).trans q8
        · unfold bX9_readAll_78 at h
          obtain ⟨I6, eI6, h⟩ := ob h
          have q9 : I6 q = _ := (by rw [← pU_some eI6]; exact g_up_row cq1 : I6 q = r5.2 q).trans q3
          obtain rfl := Option.some.inj h
          exact (hl _ rfl).trans q9
    · unfold bX9_readAll_62 at h
      unfold bX9_readAll_63 at h
      rcases oi h with ⟨-, h⟩ | ⟨-, h⟩
      · unfold bX9_readAll_78 at h
        obtain ⟨I6, eI6, h⟩ := ob h
        have q10 : I6 q = _ := (by rw [← pU_some eI6]; exact g_up_row cq1 : I6 q = I4 q).trans q2
        obtain rfl := Option.some.inj h
        exact (hl _ rfl).trans q10
      · unfold bX9_readAll_78 at h
        obtain ⟨I6, eI6, h⟩ := ob h
        have q11 : I6 q = _ := (by rw [← pU_some eI6]; exact g_up_row cq1 : I6 q = I4 q).trans q2
        obtain rfl := Option.some.inj h
        exact (hl _ rfl).trans q11
set_option maxRecDepth 100000 in
set_option maxHeartbeats 1000000 in
theorem zfX9_readAll (I : gM) {r : Int32 × gM} (h : fX9_readAll I = some r) (q : Nat) (cq0 : q ≠ 62) (cq1 : q ≠ 64) (cq2 : q ≠ 65) (cq3 : q ≠ 66) (cq4 : q ≠ 67) : r.2 q = I q := by
  unfold fX9_readAll at h
  obtain ⟨r1, er1, h⟩ := ob h
  have q1 : r1 q = _ := (zfX9_begins I er1 q cq0).trans rfl
  obtain ⟨I2, eI2, h⟩ := ob h
  have q2 : I2 q = _ := (by rw [← pU_some eI2]; exact g_up_row cq0 : I2 q = r1 q).trans q1
  obtain ⟨w7, ew7, h⟩ := ob h
  have q3 : w7 q = _ := (zlX9_readAll_11 ((1 : Int32), I2) ew7 q cq1 cq0 cq2 cq3 cq4).trans q2
  obtain ⟨r8, er8, h⟩ := ob h
  have q4 : r8.2 q = _ := (zfX9_ends w7 er8 q cq0).trans q3
  obtain rfl := Option.some.inj h
  exact q4
set_option maxRecDepth 100000 in
set_option maxHeartbeats 1000000 in
theorem zlX9_readStep_103 (v1 : Int32) (s : (Int32 × gM)) {r : gM} (h : lX9_readStep_103 v1 s = some r) (q : Nat) (cq0 : q ≠ 68) : r q = s.2 q := by
  unfold lX9_readStep_103 at h
  revert s
  refine itO_ind (P := fun s : (Int32 × gM) => r q = s.2 q) (fun s y h hl hr => ?_)
  rcases oi h with ⟨-, h⟩ | ⟨-, h⟩
  · obtain rfl := Option.some.inj h
    have hh := hr _ rfl
    subst hh
    exact rfl
  · obtain ⟨I7, eI7, h⟩ := ob h
    have q1 : I7 q = _ := (by rw [← (wI_some eI7).2.2]; exact g_up_row cq0 : I7 q = s.2 q).trans rfl
    obtain rfl := Option.some.inj h
    exact (hl _ rfl).trans q1
set_option maxRecDepth 100000 in
set_option maxHeartbeats 1000000 in
theorem zlX9_readStep_157 (v1 : Int32) (s : (Int32 × Int32 × gM)) {r : gM} (h : lX9_readStep_157 v1 s = some r) (q : Nat) (cq0 : q ≠ 62) (cq1 : q ≠ 68) : r q = s.2.2 q := by
  unfold lX9_readStep_157 at h
  revert s
  refine itO_ind (P := fun s : (Int32 × Int32 × gM) => r q = s.2.2 q) (fun s y h hl hr => ?_)
  rcases oi h with ⟨-, h⟩ | ⟨-, h⟩
  · obtain rfl := Option.some.inj h
    have hh := hr _ rfl
    subst hh
    exact rfl
  · rcases oi h with ⟨-, h⟩ | ⟨-, h⟩
    · obtain rfl := Option.some.inj h
      have hh := hr _ rfl
      subst hh
      exact rfl
    · obtain ⟨r10, er10, h⟩ := ob h
      have q1 : r10.2 q = _ := (zfX9_number (99 : Int32) s.2.2 er10 q cq0).trans rfl
      obtain ⟨I11, eI11, h⟩ := ob h
      have q2 : I11 q = _ := (by rw [← (wI_some eI11).2.2]; exact g_up_row cq1 : I11 q = r10.2 q).trans q1
      rcases oi h with ⟨-, h⟩ | ⟨-, h⟩
      · rcases oi h with ⟨-, h⟩ | ⟨-, h⟩
        · unfold bX9_readStep_212 at h
          unfold bX9_readStep_213 at h
          rcases oi h with ⟨-, h⟩ | ⟨-, h⟩
          · unfold bX9_readStep_230 at h
            obtain ⟨I12, eI12, h⟩ := ob h
            have q3 : I12 q = _ := (by rw [← pU_some eI12]; exact g_up_row cq0 : I12 q = I11 q).trans q2
            obtain rfl := Option.some.inj h
            exact (hl _ rfl).trans q3
          · unfold bX9_readStep_230 at h
            obtain ⟨I12, eI12, h⟩ := ob h
            have q4 : I12 q = _ := (by rw [← pU_some eI12]; exact g_up_row cq0 : I12 q = I11 q).trans q2
            obtain rfl := Option.some.inj h
            exact (hl _ rfl).trans q4
        · obtain ⟨r13, er13, h⟩ := ob h
          have q5 : r13.2 q = _ := (zfX9_ahead I11 er13 q cq0).trans q2
          rcases oi h with ⟨-, h⟩ | ⟨-, h⟩
          · unfold bX9_readStep_213 at h
            rcases oi h with ⟨-, h⟩ | ⟨-, h⟩
            · unfold bX9_readStep_230 at h
              obtain ⟨I12, eI12, h⟩ := ob h
              have q6 : I12 q = _ := (by rw [← pU_some eI12]; exact g_up_row cq0 : I12 q = r13.2 q).trans q5
              obtain rfl := Option.some.inj h
              exact (hl _ rfl).trans q6
            · unfold bX9_readStep_230 at h
              obtain ⟨I12, eI12, h⟩ := ob h
              have q7 : I12 q = _ := (by rw [← pU_some eI12]; exact g_up_row cq0 : I12 q = r13.2 q).trans q5
              obtain rfl := Option.some.inj h
              exact (hl _ rfl).trans q7
          · unfold bX9_readStep_212 at h
            unfold bX9_readStep_213 at h
            rcases oi h with ⟨-, h⟩ | ⟨-, h⟩
            · unfold bX9_readStep_230 at h
              obtain ⟨I12, eI12, h⟩ := ob h
              have q8 : I12 q = _ := (by rw [← pU_some eI12]; exact g_up_row cq0 : I12 q = r13.2 q).trans q5
              obtain rfl := Option.some.inj h
              exact (hl _ rfl).trans q8
            · unfold bX9_readStep_230 at h
              obtain ⟨I12, eI12, h⟩ := ob h
              have q9 : I12 q = _ := (by rw [← pU_some eI12]; exact g_up_row cq0 : I12 q = r13.2 q).trans q5
              obtain rfl := Option.some.inj h
              exact (hl _ rfl).trans q9
      · unfold bX9_readStep_212 at h
        unfold bX9_readStep_213 at h
        rcases oi h with ⟨-, h⟩ | ⟨-, h⟩
        · unfold bX9_readStep_230 at h
          obtain ⟨I12, eI12, h⟩ := ob h
          have q10 : I12 q = _ := (by rw [← pU_some eI12]; exact g_up_row cq0 : I12 q = I11 q).trans q2
          obtain rfl := Option.some.inj h
          exact (hl _ rfl).trans q10
        · unfold bX9_readStep_230 at h
          obtain ⟨I12, eI12, h⟩ := ob h
          have q11 : I12 q = _ := (by rw [← pU_some eI12]; exact g_up_row cq0 : I12 q = I11 q).trans q2
          obtain rfl := Option.some.inj h
          exact (hl _ rfl).trans q11
set_option maxRecDepth 100000 in
set_option maxHeartbeats 1000000 in
theorem zfX9_readStep (v1 : Int32) (I : gM) {r : gM} (h : fX9_readStep v1 I = some r) (q : Nat) (cq0 : q ≠ 62) (cq1 : q ≠ 68) : r q = I q := by
  unfold fX9_readStep at h
  obtain ⟨r1, er1, h⟩ := ob h
  have q1 : r1.2 q = _ := (zfX9_ahead I er1 q cq0).trans rfl
  rcases oi h with ⟨-, h⟩ | ⟨-, h⟩
  · unfold bX9_readStep_46 at h
    rcases oi h with ⟨-, h⟩ | ⟨-, h⟩
    · obtain ⟨r2, er2, h⟩ := ob h
      have q2 : r2 q = _ := (zfX9_bad r1.2 er2 q cq0).trans q1
      obtain rfl := Option.some.inj h
      exact q2
    · obtain ⟨I3, eI3, h⟩ := ob h
      have q3 : I3 q = _ := (by rw [← pU_some eI3]; exact g_up_row cq0 : I3 q = r1.2 q).trans q1
      obtain ⟨I4, eI4, h⟩ := ob h
      have q4 : I4 q = _ := (by rw [← (wI_some eI4).2.2]; exact g_up_row cq1 : I4 q = I3 q).trans q3
      rcases oi h with ⟨-, h⟩ | ⟨-, h⟩
      · obtain ⟨r5, er5, h⟩ := ob h
        have q5 : r5.2 q = _ := (zfX9_number (23 : Int32) I4 er5 q cq0).trans q4
        unfold bX9_readStep_99 at h
        obtain ⟨I6, eI6, h⟩ := ob h
        have q6 : I6 q = _ := (by rw [← (wI_some eI6).2.2]; exact g_up_row cq1 : I6 q = r5.2 q).trans q5
        obtain ⟨w8, ew8, h⟩ := ob h
        have q7 : w8 q = _ := (zlX9_readStep_103 v1 ((0 : Int32), I6) ew8 q cq1).trans q6
        rcases oi h with ⟨-, h⟩ | ⟨-, h⟩
        · obtain ⟨r9, er9, h⟩ := ob h
          have q8 : r9 q = _ := (zfX9_must (58 : Int32) w8 er9 q cq0).trans q7
          rcases oi h with ⟨-, h⟩ | ⟨-, h⟩
          · unfold bX9_readStep_152 at h
            obtain ⟨w14, ew14, h⟩ := ob h
            have q9 : w14 q = _ := (zlX9_readStep_157 v1 ((1 : Int32), (0 : Int32), r9) ew14 q cq0 cq1).trans q8
            obtain rfl := Option.some.inj h
            exact q9
          · unfold bX9_readStep_152 at h
            obtain ⟨w14, ew14, h⟩ := ob h
            have q10 : w14 q = _ := (zlX9_readStep_157 v1 ((0 : Int32), (0 : Int32), r9) ew14 q cq0 cq1).trans q8
            obtain rfl := Option.some.inj h
            exact q10
        · obtain rfl := Option.some.inj h
          exact q7
      · obtain ⟨r15, er15, h⟩ := ob h
        have q11 : r15.2 q = _ := (zfX9_digit I4 er15 q cq0).trans q4
        unfold bX9_readStep_99 at h
        obtain ⟨I6, eI6, h⟩ := ob h
        have q12 : I6 q = _ := (by rw [← (wI_some eI6).2.2]; exact g_up_row cq1 : I6 q = r15.2 q).trans q11
        obtain ⟨w8, ew8, h⟩ := ob h
        have q13 : w8 q = _ := (zlX9_readStep_103 v1 ((0 : Int32), I6) ew8 q cq1).trans q12
        rcases oi h with ⟨-, h⟩ | ⟨-, h⟩
        · obtain ⟨r9, er9, h⟩ := ob h
          have q14 : r9 q = _ := (zfX9_must (58 : Int32) w8 er9 q cq0).trans q13
          rcases oi h with ⟨-, h⟩ | ⟨-, h⟩
          · unfold bX9_readStep_152 at h
            obtain ⟨w14, ew14, h⟩ := ob h
            have q15 : w14 q = _ := (zlX9_readStep_157 v1 ((1 : Int32), (0 : Int32), r9) ew14 q cq0 cq1).trans q14
            obtain rfl := Option.some.inj h
            exact q15
          · unfold bX9_readStep_152 at h
            obtain ⟨w14, ew14, h⟩ := ob h
            have q16 : w14 q = _ := (zlX9_readStep_157 v1 ((0 : Int32), (0 : Int32), r9) ew14 q cq0 cq1).trans q14
            obtain rfl := Option.some.inj h
            exact q16
        · obtain rfl := Option.some.inj h
          exact q13
  · rcases oi h with ⟨-, h⟩ | ⟨-, h⟩
    · unfold bX9_readStep_46 at h
      rcases oi h with ⟨-, h⟩ | ⟨-, h⟩
      · obtain ⟨r2, er2, h⟩ := ob h
        have q17 : r2 q = _ := (zfX9_bad r1.2 er2 q cq0).trans q1
        obtain rfl := Option.some.inj h
        exact q17
      · obtain ⟨I3, eI3, h⟩ := ob h
        have q18 : I3 q = _ := (by rw [← pU_some eI3]; exact g_up_row cq0 : I3 q = r1.2 q).trans q1
        obtain ⟨I4, eI4, h⟩ := ob h
        have q19 : I4 q = _ := (by rw [← (wI_some eI4).2.2]; exact g_up_row cq1 : I4 q = I3 q).trans q18
        rcases oi h with ⟨-, h⟩ | ⟨-, h⟩
        · obtain ⟨r5, er5, h⟩ := ob h
          have q20 : r5.2 q = _ := (zfX9_number (23 : Int32) I4 er5 q cq0).trans q19
          unfold bX9_readStep_99 at h
          obtain ⟨I6, eI6, h⟩ := ob h
          have q21 : I6 q = _ := (by rw [← (wI_some eI6).2.2]; exact g_up_row cq1 : I6 q = r5.2 q).trans q20
          obtain ⟨w8, ew8, h⟩ := ob h
          have q22 : w8 q = _ := (zlX9_readStep_103 v1 ((0 : Int32), I6) ew8 q cq1).trans q21
          rcases oi h with ⟨-, h⟩ | ⟨-, h⟩
          · obtain ⟨r9, er9, h⟩ := ob h
            have q23 : r9 q = _ := (zfX9_must (58 : Int32) w8 er9 q cq0).trans q22
            rcases oi h with ⟨-, h⟩ | ⟨-, h⟩
            · unfold bX9_readStep_152 at h
              obtain ⟨w14, ew14, h⟩ := ob h
              have q24 : w14 q = _ := (zlX9_readStep_157 v1 ((1 : Int32), (0 : Int32), r9) ew14 q cq0 cq1).trans q23
              obtain rfl := Option.some.inj h
              exact q24
            · unfold bX9_readStep_152 at h
              obtain ⟨w14, ew14, h⟩ := ob h
              have q25 : w14 q = _ := (zlX9_readStep_157 v1 ((0 : Int32), (0 : Int32), r9) ew14 q cq0 cq1).trans q23
              obtain rfl := Option.some.inj h
              exact q25
          · obtain rfl := Option.some.inj h
            exact q22
        · obtain ⟨r15, er15, h⟩ := ob h
          have q26 : r15.2 q = _ := (zfX9_digit I4 er15 q cq0).trans q19
          unfold bX9_readStep_99 at h
          obtain ⟨I6, eI6, h⟩ := ob h
          have q27 : I6 q = _ := (by rw [← (wI_some eI6).2.2]; exact g_up_row cq1 : I6 q = r15.2 q).trans q26
          obtain ⟨w8, ew8, h⟩ := ob h
          have q28 : w8 q = _ := (zlX9_readStep_103 v1 ((0 : Int32), I6) ew8 q cq1).trans q27
          rcases oi h with ⟨-, h⟩ | ⟨-, h⟩
          · obtain ⟨r9, er9, h⟩ := ob h
            have q29 : r9 q = _ := (zfX9_must (58 : Int32) w8 er9 q cq0).trans q28
            rcases oi h with ⟨-, h⟩ | ⟨-, h⟩
            · unfold bX9_readStep_152 at h
              obtain ⟨w14, ew14, h⟩ := ob h
              have q30 : w14 q = _ := (zlX9_readStep_157 v1 ((1 : Int32), (0 : Int32), r9) ew14 q cq0 cq1).trans q29
              obtain rfl := Option.some.inj h
              exact q30
            · unfold bX9_readStep_152 at h
              obtain ⟨w14, ew14, h⟩ := ob h
              have q31 : w14 q = _ := (zlX9_readStep_157 v1 ((0 : Int32), (0 : Int32), r9) ew14 q cq0 cq1).trans q29
              obtain rfl := Option.some.inj h
              exact q31
          · obtain rfl := Option.some.inj h
            exact q28
    · rcases oi h with ⟨-, h⟩ | ⟨-, h⟩
      · unfold bX9_readStep_46 at h
        rcases oi h with ⟨-, h⟩ | ⟨-, h⟩
        · obtain ⟨r2, er2, h⟩ := ob h
          have q32 : r2 q = _ := (zfX9_bad r1.2 er2 q cq0).trans q1
          obtain rfl := Option.some.inj h
          exact q32
        · obtain ⟨I3, eI3, h⟩ := ob h
          have q33 : I3 q = _ := (by rw [← pU_some eI3]; exact g_up_row cq0 : I3 q = r1.2 q).trans q1
          obtain ⟨I4, eI4, h⟩ := ob h
          have q34 : I4 q = _ := (by rw [← (wI_some eI4).2.2]; exact g_up_row cq1 : I4 q = I3 q).trans q33
          rcases oi h with ⟨-, h⟩ | ⟨-, h⟩
          · obtain ⟨r5, er5, h⟩ := ob h
            have q35 : r5.2 q = _ := (zfX9_number (23 : Int32) I4 er5 q cq0).trans q34
            unfold bX9_readStep_99 at h
            obtain ⟨I6, eI6, h⟩ := ob h
            have q36 : I6 q = _ := (by rw [← (wI_some eI6).2.2]; exact g_up_row cq1 : I6 q = r5.2 q).trans q35
            obtain ⟨w8, ew8, h⟩ := ob h
            have q37 : w8 q = _ := (zlX9_readStep_103 v1 ((0 : Int32), I6) ew8 q cq1).trans q36
            rcases oi h with ⟨-, h⟩ | ⟨-, h⟩
            · obtain ⟨r9, er9, h⟩ := ob h
              have q38 : r9 q = _ := (zfX9_must (58 : Int32) w8 er9 q cq0).trans q37
              rcases oi h with ⟨-, h⟩ | ⟨-, h⟩
              · unfold bX9_readStep_152 at h
                obtain ⟨w14, ew14, h⟩ := ob h
                have q39 : w14 q = _ := (zlX9_readStep_157 v1 ((1 : Int32), (0 : Int32), r9) ew14 q cq0 cq1).trans q38
                obtain rfl := Option.some.inj h
                exact q39
              · unfold bX9_readStep_152 at h
                obtain ⟨w14, ew14, h⟩ := ob h
                have q40 : w14 q = _ := (zlX9_readStep_157 v1 ((0 : Int32), (0 : Int32), r9) ew14 q cq0 cq1).trans q38
                obtain rfl := Option.some.inj h
                exact q40
            · obtain rfl := Option.some.inj h
              exact q37
          · obtain ⟨r15, er15, h⟩ := ob h
            have q41 : r15.2 q = _ := (zfX9_digit I4 er15 q cq0).trans q34
            unfold bX9_readStep_99 at h
            obtain ⟨I6, eI6, h⟩ := ob h
            have q42 : I6 q = _ := (by rw [← (wI_some eI6).2.2]; exact g_up_row cq1 : I6 q = r15.2 q).trans q41
            obtain ⟨w8, ew8, h⟩ := ob h
            have q43 : w8 q = _ := (zlX9_readStep_103 v1 ((0 : Int32), I6) ew8 q cq1).trans q42
            rcases oi h with ⟨-, h⟩ | ⟨-, h⟩
            · obtain ⟨r9, er9, h⟩ := ob h
              have q44 : r9 q = _ := (zfX9_must (58 : Int32) w8 er9 q cq0).trans q43
              rcases oi h with ⟨-, h⟩ | ⟨-, h⟩
              · unfold bX9_readStep_152 at h
                obtain ⟨w14, ew14, h⟩ := ob h
                have q45 : w14 q = _ := (zlX9_readStep_157 v1 ((1 : Int32), (0 : Int32), r9) ew14 q cq0 cq1).trans q44
                obtain rfl := Option.some.inj h
                exact q45
              · unfold bX9_readStep_152 at h
                obtain ⟨w14, ew14, h⟩ := ob h
                have q46 : w14 q = _ := (zlX9_readStep_157 v1 ((0 : Int32), (0 : Int32), r9) ew14 q cq0 cq1).trans q44
                obtain rfl := Option.some.inj h
                exact q46
            · obtain rfl := Option.some.inj h
              exact q43
      · rcases oi h with ⟨-, h⟩ | ⟨-, h⟩
        · unfold bX9_readStep_46 at h
          rcases oi h with ⟨-, h⟩ | ⟨-, h⟩
          · obtain ⟨r2, er2, h⟩ := ob h
            have q47 : r2 q = _ := (zfX9_bad r1.2 er2 q cq0).trans q1
            obtain rfl := Option.some.inj h
            exact q47
          · obtain ⟨I3, eI3, h⟩ := ob h
            have q48 : I3 q = _ := (by rw [← pU_some eI3]; exact g_up_row cq0 : I3 q = r1.2 q).trans q1
            obtain ⟨I4, eI4, h⟩ := ob h
            have q49 : I4 q = _ := (by rw [← (wI_some eI4).2.2]; exact g_up_row cq1 : I4 q = I3 q).trans q48
            rcases oi h with ⟨-, h⟩ | ⟨-, h⟩
            · obtain ⟨r5, er5, h⟩ := ob h
              have q50 : r5.2 q = _ := (zfX9_number (23 : Int32) I4 er5 q cq0).trans q49
              unfold bX9_readStep_99 at h
              obtain ⟨I6, eI6, h⟩ := ob h
              have q51 : I6 q = _ := (by rw [← (wI_some eI6).2.2]; exact g_up_row cq1 : I6 q = r5.2 q).trans q50
              obtain ⟨w8, ew8, h⟩ := ob h
              have q52 : w8 q = _ := (zlX9_readStep_103 v1 ((0 : Int32), I6) ew8 q cq1).trans q51
              rcases oi h with ⟨-, h⟩ | ⟨-, h⟩
              · obtain ⟨r9, er9, h⟩ := ob h
                have q53 : r9 q = _ := (zfX9_must (58 : Int32) w8 er9 q cq0).trans q52
                rcases oi h with ⟨-, h⟩ | ⟨-, h⟩
                · unfold bX9_readStep_152 at h
                  obtain ⟨w14, ew14, h⟩ := ob h
                  have q54 : w14 q = _ := (zlX9_readStep_157 v1 ((1 : Int32), (0 : Int32), r9) ew14 q cq0 cq1).trans q53
                  obtain rfl := Option.some.inj h
                  exact q54
                · unfold bX9_readStep_152 at h
                  obtain ⟨w14, ew14, h⟩ := ob h
                  have q55 : w14 q = _ := (zlX9_readStep_157 v1 ((0 : Int32), (0 : Int32), r9) ew14 q cq0 cq1).trans q53
                  obtain rfl := Option.some.inj h
                  exact q55
              · obtain rfl := Option.some.inj h
                exact q52
            · obtain ⟨r15, er15, h⟩ := ob h
              have q56 : r15.2 q = _ := (zfX9_digit I4 er15 q cq0).trans q49
              unfold bX9_readStep_99 at h
              obtain ⟨I6, eI6, h⟩ := ob h
              have q57 : I6 q = _ := (by rw [← (wI_some eI6).2.2]; exact g_up_row cq1 : I6 q = r15.2 q).trans q56
              obtain ⟨w8, ew8, h⟩ := ob h
              have q58 : w8 q = _ := (zlX9_readStep_103 v1 ((0 : Int32), I6) ew8 q cq1).trans q57
              rcases oi h with ⟨-, h⟩ | ⟨-, h⟩
              · obtain ⟨r9, er9, h⟩ := ob h
                have q59 : r9 q = _ := (zfX9_must (58 : Int32) w8 er9 q cq0).trans q58
                rcases oi h with ⟨-, h⟩ | ⟨-, h⟩
                · unfold bX9_readStep_152 at h
                  obtain ⟨w14, ew14, h⟩ := ob h
                  have q60 : w14 q = _ := (zlX9_readStep_157 v1 ((1 : Int32), (0 : Int32), r9) ew14 q cq0 cq1).trans q59
                  obtain rfl := Option.some.inj h
                  exact q60
                · unfold bX9_readStep_152 at h
                  obtain ⟨w14, ew14, h⟩ := ob h
                  have q61 : w14 q = _ := (zlX9_readStep_157 v1 ((0 : Int32), (0 : Int32), r9) ew14 q cq0 cq1).trans q59
                  obtain rfl := Option.some.inj h
                  exact q61
              · obtain rfl := Option.some.inj h
                exact q58
        · unfold bX9_readStep_46 at h
          rcases oi h with ⟨-, h⟩ | ⟨-, h⟩
          · obtain ⟨r2, er2, h⟩ := ob h
            have q62 : r2 q = _ := (zfX9_bad r1.2 er2 q cq0).trans q1
            obtain rfl := Option.some.inj h
            exact q62
          · obtain ⟨I3, eI3, h⟩ := ob h
            have q63 : I3 q = _ := (by rw [← pU_some eI3]; exact g_up_row cq0 : I3 q = r1.2 q).trans q1
            obtain ⟨I4, eI4, h⟩ := ob h
            have q64 : I4 q = _ := (by rw [← (wI_some eI4).2.2]; exact g_up_row cq1 : I4 q = I3 q).trans q63
            rcases oi h with ⟨-, h⟩ | ⟨-, h⟩
            · obtain ⟨r5, er5, h⟩ := ob h
              have q65 : r5.2 q = _ := (zfX9_number (23 : Int32) I4 er5 q cq0).trans q64
              unfold bX9_readStep_99 at h
              obtain ⟨I6, eI6, h⟩ := ob h
              have q66 : I6 q = _ := (by rw [← (wI_some eI6).2.2]; exact g_up_row cq1 : I6 q = r5.2 q).trans q65
              obtain ⟨w8, ew8, h⟩ := ob h
              have q67 : w8 q = _ := (zlX9_readStep_103 v1 ((0 : Int32), I6) ew8 q cq1).trans q66
              rcases oi h with ⟨-, h⟩ | ⟨-, h⟩
              · obtain ⟨r9, er9, h⟩ := ob h
                have q68 : r9 q = _ := (zfX9_must (58 : Int32) w8 er9 q cq0).trans q67
                rcases oi h with ⟨-, h⟩ | ⟨-, h⟩
                · unfold bX9_readStep_152 at h
                  obtain ⟨w14, ew14, h⟩ := ob h
                  have q69 : w14 q = _ := (zlX9_readStep_157 v1 ((1 : Int32), (0 : Int32), r9) ew14 q cq0 cq1).trans q68
                  obtain rfl := Option.some.inj h
                  exact q69
                · unfold bX9_readStep_152 at h
                  obtain ⟨w14, ew14, h⟩ := ob h
                  have q70 : w14 q = _ := (zlX9_readStep_157 v1 ((0 : Int32), (0 : Int32), r9) ew14 q cq0 cq1).trans q68
                  obtain rfl := Option.some.inj h
                  exact q70
              · obtain rfl := Option.some.inj h
                exact q67
            · obtain ⟨r15, er15, h⟩ := ob h
              have q71 : r15.2 q = _ := (zfX9_digit I4 er15 q cq0).trans q64
              unfold bX9_readStep_99 at h
              obtain ⟨I6, eI6, h⟩ := ob h
              have q72 : I6 q = _ := (by rw [← (wI_some eI6).2.2]; exact g_up_row cq1 : I6 q = r15.2 q).trans q71
              obtain ⟨w8, ew8, h⟩ := ob h
              have q73 : w8 q = _ := (zlX9_readStep_103 v1 ((0 : Int32), I6) ew8 q cq1).trans q72
              rcases oi h with ⟨-, h⟩ | ⟨-, h⟩
              · obtain ⟨r9, er9, h⟩ := ob h
                have q74 : r9 q = _ := (zfX9_must (58 : Int32) w8 er9 q cq0).trans q73
                rcases oi h with ⟨-, h⟩ | ⟨-, h⟩
                · unfold bX9_readStep_152 at h
                  obtain ⟨w14, ew14, h⟩ := ob h
                  have q75 : w14 q = _ := (zlX9_readStep_157 v1 ((1 : Int32), (0 : Int32), r9) ew14 q cq0 cq1).trans q74
                  obtain rfl := Option.some.inj h
                  exact q75
                · unfold bX9_readStep_152 at h
                  obtain ⟨w14, ew14, h⟩ := ob h
                  have q76 : w14 q = _ := (zlX9_readStep_157 v1 ((0 : Int32), (0 : Int32), r9) ew14 q cq0 cq1).trans q74
                  obtain rfl := Option.some.inj h
                  exact q76
              · obtain rfl := Option.some.inj h
                exact q73
set_option maxRecDepth 100000 in
set_option maxHeartbeats 1000000 in
theorem zlX9_readScript_13 (v1 : Int32) (s : (Int32 × gM)) {r : gM} (h : lX9_readScript_13 v1 s = some r) (q : Nat) (cq0 : q ≠ 62) (cq1 : q ≠ 68) (cq2 : q ≠ 69) : r q = s.2 q := by
  unfold lX9_readScript_13 at h
  revert s
  refine itO_ind (P := fun s : (Int32 × gM) => r q = s.2 q) (fun s y h hl hr => ?_)
  rcases oi h with ⟨-, h⟩ | ⟨-, h⟩
  · obtain rfl := Option.some.inj h
    have hh := hr _ rfl
    subst hh
    exact rfl
  · obtain ⟨u3, -, h⟩ := ob h
    obtain ⟨r4, er4, h⟩ := ob h
    have q1 : r4 q = _ := (zfX9_readStep ((5 : Int32) * (((12 : Int32) * v1) + u3)) s.2 er4 q cq0 cq1).trans rfl
    obtain ⟨u5, -, h⟩ := ob h
    obtain ⟨I6, eI6, h⟩ := ob h
    have q2 : I6 q = _ := (by rw [← (wI_some eI6).2.2]; exact g_up_row cq2 : I6 q = r4 q).trans q1
    rcases oi h with ⟨-, h⟩ | ⟨-, h⟩
    · obtain ⟨r7, er7, h⟩ := ob h
      have q3 : r7.2 q = _ := (zfX9_ahead I6 er7 q cq0).trans q2
      rcases oi h with ⟨-, h⟩ | ⟨-, h⟩
      · obtain ⟨u8, -, h⟩ := ob h
        rcases oi h with ⟨-, h⟩ | ⟨-, h⟩
        · unfold bX9_readScript_76 at h
          unfold bX9_readScript_77 at h
          rcases oi h with ⟨-, h⟩ | ⟨-, h⟩
          · unfold bX9_readScript_92 at h
            obtain ⟨I9, eI9, h⟩ := ob h
            have q4 : I9 q = _ := (by rw [← pU_some eI9]; exact g_up_row cq0 : I9 q = r7.2 q).trans q3
            obtain rfl := Option.some.inj h
            exact (hl _ rfl).trans q4
          · unfold bX9_readScript_92 at h
            obtain ⟨I9, eI9, h⟩ := ob h
            have q5 : I9 q = _ := (by rw [← pU_some eI9]; exact g_up_row cq0 : I9 q = r7.2 q).trans q3
            obtain rfl := Option.some.inj h
            exact (hl _ rfl).trans q5
        · unfold bX9_readScript_77 at h
          rcases oi h with ⟨-, h⟩ | ⟨-, h⟩
          · unfold bX9_readScript_92 at h
            obtain ⟨I9, eI9, h⟩ := ob h
            have q6 : I9 q = _ := (by rw [← pU_some eI9]; exact g_up_row cq0 : I9 q = r7.2 q).trans q3
            obtain rfl := Option.some.inj h
            exact (hl _ rfl).trans q6
          · unfold bX9_readScript_92 at h
            obtain ⟨I9, eI9, h⟩ := ob h
            have q7 : I9 q = _ := (by rw [← pU_some eI9]; exact g_up_row cq0 : I9 q = r7.2 q).trans q3
            obtain rfl := Option.some.inj h
            exact (hl _ rfl).trans q7
      · unfold bX9_readScript_76 at h
        unfold bX9_readScript_77 at h
        rcases oi h with ⟨-, h⟩ | ⟨-, h⟩
        · unfold bX9_readScript_92 at h
          obtain ⟨I9, eI9, h⟩ := ob h
          have q8 : I9 q = _ := (by rw [← pU_some eI9]; exact g_up_row cq0 : I9 q = r7.2 q).trans q3
          obtain rfl := Option.some.inj h
          exact (hl _ rfl).trans q8
        · unfold bX9_readScript_92 at h
          obtain ⟨I9, eI9, h⟩ := ob h
          have q9 : I9 q = _ := (by rw [← pU_some eI9]; exact g_up_row cq0 : I9 q = r7.2 q).trans q3
          obtain rfl := Option.some.inj h
          exact (hl _ rfl).trans q9
    · unfold bX9_readScript_76 at h
      unfold bX9_readScript_77 at h
      rcases oi h with ⟨-, h⟩ | ⟨-, h⟩
      · unfold bX9_readScript_92 at h
        obtain ⟨I9, eI9, h⟩ := ob h
        have q10 : I9 q = _ := (by rw [← pU_some eI9]; exact g_up_row cq0 : I9 q = I6 q).trans q2
        obtain rfl := Option.some.inj h
        exact (hl _ rfl).trans q10
      · unfold bX9_readScript_92 at h
        obtain ⟨I9, eI9, h⟩ := ob h
        have q11 : I9 q = _ := (by rw [← pU_some eI9]; exact g_up_row cq0 : I9 q = I6 q).trans q2
        obtain rfl := Option.some.inj h
        exact (hl _ rfl).trans q11
set_option maxRecDepth 100000 in
set_option maxHeartbeats 1000000 in
theorem zfX9_readScript (v1 : Int32) (I : gM) {r : Int32 × gM} (h : fX9_readScript v1 I = some r) (q : Nat) (cq0 : q ≠ 62) (cq1 : q ≠ 69) (cq2 : q ≠ 68) : r.2 q = I q := by
  unfold fX9_readScript at h
  obtain ⟨r1, er1, h⟩ := ob h
  have q1 : r1 q = _ := (zfX9_begins I er1 q cq0).trans rfl
  obtain ⟨I2, eI2, h⟩ := ob h
  have q2 : I2 q = _ := (by rw [← (wI_some eI2).2.2]; exact g_up_row cq1 : I2 q = r1 q).trans q1
  obtain ⟨w10, ew10, h⟩ := ob h
  have q3 : w10 q = _ := (zlX9_readScript_13 v1 ((1 : Int32), I2) ew10 q cq0 cq2 cq1).trans q2
  obtain ⟨r11, er11, h⟩ := ob h
  have q4 : r11.2 q = _ := (zfX9_ends w10 er11 q cq0).trans q3
  obtain rfl := Option.some.inj h
  exact q4
set_option maxRecDepth 100000 in
set_option maxHeartbeats 1000000 in
theorem zfX9_fault (v1 : Int32) (I : gM) {r : Int32 × gM} (h : fX9_fault v1 I = some r) (q : Nat) (cq0 : q ≠ 62) (cq1 : q ≠ 64) (cq2 : q ≠ 65) (cq3 : q ≠ 66) (cq4 : q ≠ 67) (cq5 : q ≠ 69) (cq6 : q ≠ 68) : r.2 q = I q := by
  unfold fX9_fault at h
  rcases oi h with ⟨-, h⟩ | ⟨-, h⟩
  · obtain ⟨r1, er1, h⟩ := ob h
    have q1 : r1.2 q = _ := (zfX9_readAll I er1 q cq0 cq1 cq2 cq3 cq4).trans rfl
    obtain rfl := Option.some.inj h
    exact q1
  · rcases oi h with ⟨-, h⟩ | ⟨-, h⟩
    · obtain ⟨r2, er2, h⟩ := ob h
      have q2 : r2.2 q = _ := (zfX9_readScript (4 : Int32) I er2 q cq0 cq5 cq6).trans rfl
      obtain rfl := Option.some.inj h
      exact q2
    · obtain rfl := Option.some.inj h
      exact rfl
set_option maxRecDepth 100000 in
set_option maxHeartbeats 1000000 in
theorem zlX9_putsNow_24 (v1 : Int32) (v5 : Int32) (s : (Int32 × gM)) {r : gM} (h : lX9_putsNow_24 v1 v5 s = some r) (q : Nat) (cq0 : q ≠ 70) : r q = s.2 q := by
  unfold lX9_putsNow_24 at h
  revert s
  refine itO_ind (P := fun s : (Int32 × gM) => r q = s.2 q) (fun s y h hl hr => ?_)
  obtain ⟨r4, -, h⟩ := ob h
  rcases oi h with ⟨-, h⟩ | ⟨-, h⟩
  · obtain rfl := Option.some.inj h
    have hh := hr _ rfl
    subst hh
    exact rfl
  · obtain ⟨u5, -, h⟩ := ob h
    obtain ⟨I6, eI6, h⟩ := ob h
    have q1 : I6 q = _ := (by rw [← (wI_some eI6).2.2]; exact g_up_row cq0 : I6 q = s.2 q).trans rfl
    obtain rfl := Option.some.inj h
    exact (hl _ rfl).trans q1
set_option maxRecDepth 100000 in
set_option maxHeartbeats 1000000 in
theorem zfX9_putsNow (v1 : Int32) (v2 : Int32) (v3 : Int32) (v4 : Int32) (I : gM) {r : Int32 × gM} (h : fX9_putsNow v1 v2 v3 v4 I = some r) (q : Nat) (cq0 : q ≠ 70) : r.2 q = I q := by
  unfold fX9_putsNow at h
  obtain ⟨r1, -, h⟩ := ob h
  obtain ⟨r2, -, h⟩ := ob h
  obtain ⟨r3, -, h⟩ := ob h
  obtain ⟨w7, ew7, h⟩ := ob h
  have q1 : w7 q = _ := (zlX9_putsNow_24 v1 r1 (r3 - 1, I) ew7 q cq0).trans rfl
  obtain ⟨r8, -, h⟩ := ob h
  obtain ⟨I9, eI9, h⟩ := ob h
  have q2 : I9 q = _ := (by rw [← (wI_some eI9).2.2]; exact g_up_row cq0 : I9 q = w7 q).trans q1
  obtain ⟨r10, -, h⟩ := ob h
  obtain ⟨I11, eI11, h⟩ := ob h
  have q3 : I11 q = _ := (by rw [← (wI_some eI11).2.2]; exact g_up_row cq0 : I11 q = I9 q).trans q2
  obtain ⟨r12, -, h⟩ := ob h
  obtain ⟨I13, eI13, h⟩ := ob h
  have q4 : I13 q = _ := (by rw [← (wI_some eI13).2.2]; exact g_up_row cq0 : I13 q = I11 q).trans q3
  obtain ⟨u14, -, h⟩ := ob h
  obtain ⟨I15, eI15, h⟩ := ob h
  have q5 : I15 q = _ := (by rw [← (wI_some eI15).2.2]; exact g_up_row cq0 : I15 q = I13 q).trans q4
  obtain ⟨r16, -, h⟩ := ob h
  obtain rfl := Option.some.inj h
  exact q5
set_option maxRecDepth 100000 in
set_option maxHeartbeats 1000000 in
theorem zlX9_takesNow_19 (v1 : Int32) (s : (Int32 × gM)) {r : gM} (h : lX9_takesNow_19 v1 s = some r) (q : Nat) (cq0 : q ≠ 70) : r q = s.2 q := by
  unfold lX9_takesNow_19 at h
  revert s
  refine itO_ind (P := fun s : (Int32 × gM) => r q = s.2 q) (fun s y h hl hr => ?_)
  obtain ⟨r3, -, h⟩ := ob h
  obtain ⟨r4, -, h⟩ := ob h
  rcases oi h with ⟨-, h⟩ | ⟨-, h⟩
  · obtain rfl := Option.some.inj h
    have hh := hr _ rfl
    subst hh
    exact rfl
  · obtain ⟨u5, -, h⟩ := ob h
    obtain ⟨I6, eI6, h⟩ := ob h
    have q1 : I6 q = _ := (by rw [← (wI_some eI6).2.2]; exact g_up_row cq0 : I6 q = s.2 q).trans rfl
    obtain rfl := Option.some.inj h
    exact (hl _ rfl).trans q1
set_option maxRecDepth 100000 in
set_option maxHeartbeats 1000000 in
theorem zfX9_takesNow (v1 : Int32) (v2 : Int32) (v3 : Int32) (v4 : Int32) (I : gM) {r : Int32 × gM} (h : fX9_takesNow v1 v2 v3 v4 I = some r) (q : Nat) (cq0 : q ≠ 70) : r.2 q = I q := by
  unfold fX9_takesNow at h
  obtain ⟨r1, -, h⟩ := ob h
  obtain ⟨r2, -, h⟩ := ob h
  obtain ⟨w7, ew7, h⟩ := ob h
  have q1 : w7 q = _ := (zlX9_takesNow_19 v1 (r2, I) ew7 q cq0).trans rfl
  obtain ⟨u8, -, h⟩ := ob h
  obtain ⟨I9, eI9, h⟩ := ob h
  have q2 : I9 q = _ := (by rw [← (wI_some eI9).2.2]; exact g_up_row cq0 : I9 q = w7 q).trans q1
  obtain ⟨r10, -, h⟩ := ob h
  obtain rfl := Option.some.inj h
  exact q2
set_option maxRecDepth 100000 in
set_option maxHeartbeats 1000000 in
theorem zlX9_takeTables_10  (s : (Int32 × gM)) {r : gM} (h : lX9_takeTables_10 s = some r) (q : Nat) (cq0 : q ≠ 70) : r q = s.2 q := by
  unfold lX9_takeTables_10 at h
  revert s
  refine itO_ind (P := fun s : (Int32 × gM) => r q = s.2 q) (fun s y h hl hr => ?_)
  rcases oi h with ⟨-, h⟩ | ⟨-, h⟩
  · obtain rfl := Option.some.inj h
    have hh := hr _ rfl
    subst hh
    exact rfl
  · obtain ⟨I2, eI2, h⟩ := ob h
    have q1 : I2 q = _ := (by rw [← (wI_some eI2).2.2]; exact g_up_row cq0 : I2 q = s.2 q).trans rfl
    obtain rfl := Option.some.inj h
    exact (hl _ rfl).trans q1
set_option maxRecDepth 100000 in
set_option maxHeartbeats 1000000 in
theorem zlX9_takeTables_68 (v1 : Int32) (s : (Int32 × gM)) {r : gM} (h : lX9_takeTables_68 v1 s = some r) (q : Nat) (cq0 : q ≠ 73) : r q = s.2 q := by
  unfold lX9_takeTables_68 at h
  revert s
  refine itO_ind (P := fun s : (Int32 × gM) => r q = s.2 q) (fun s y h hl hr => ?_)
  rcases oi h with ⟨-, h⟩ | ⟨-, h⟩
  · obtain rfl := Option.some.inj h
    have hh := hr _ rfl
    subst hh
    exact rfl
  · obtain ⟨u7, -, h⟩ := ob h
    obtain ⟨I8, eI8, h⟩ := ob h
    have q1 : I8 q = _ := (by rw [← (wI_some eI8).2.2]; exact g_up_row cq0 : I8 q = s.2 q).trans rfl
    obtain rfl := Option.some.inj h
    exact (hl _ rfl).trans q1
set_option maxRecDepth 100000 in
set_option maxHeartbeats 1000000 in
theorem zlX9_takeTables_101 (v1 : Int32) (s : (Int32 × gM)) {r : gM} (h : lX9_takeTables_101 v1 s = some r) (q : Nat) (cq0 : q ≠ 70) : r q = s.2 q := by
  unfold lX9_takeTables_101 at h
  revert s
  refine itO_ind (P := fun s : (Int32 × gM) => r q = s.2 q) (fun s y h hl hr => ?_)
  obtain ⟨u10, -, h⟩ := ob h
  rcases oi h with ⟨-, h⟩ | ⟨-, h⟩
  · obtain rfl := Option.some.inj h
    have hh := hr _ rfl
    subst hh
    exact rfl
  · obtain ⟨u11, -, h⟩ := ob h
    obtain ⟨u12, -, h⟩ := ob h
    obtain ⟨u13, -, h⟩ := ob h
    obtain ⟨r14, -, h⟩ := ob h
    rcases oi h with ⟨-, h⟩ | ⟨-, h⟩
    · obtain ⟨u15, -, h⟩ := ob h
      obtain ⟨u16, -, h⟩ := ob h
      obtain ⟨u17, -, h⟩ := ob h
      obtain ⟨r18, er18, h⟩ := ob h
      have q1 : r18.2 q = _ := (zfX9_putsNow v1 u15 u16 u17 s.2 er18 q cq0).trans rfl
      unfold bX9_takeTables_178 at h
      obtain rfl := Option.some.inj h
      exact (hl _ rfl).trans q1
    · unfold bX9_takeTables_178 at h
      obtain rfl := Option.some.inj h
      exact (hl _ rfl).trans rfl
set_option maxRecDepth 100000 in
set_option maxHeartbeats 1000000 in
theorem zlX9_takeTables_46  (s : (Int32 × gM)) {r : gM} (h : lX9_takeTables_46 s = some r) (q : Nat) (cq0 : q ≠ 72) (cq1 : q ≠ 73) (cq2 : q ≠ 70) : r q = s.2 q := by
  unfold lX9_takeTables_46 at h
  revert s
  refine itO_ind (P := fun s : (Int32 × gM) => r q = s.2 q) (fun s y h hl hr => ?_)
  rcases oi h with ⟨-, h⟩ | ⟨-, h⟩
  · obtain rfl := Option.some.inj h
    have hh := hr _ rfl
    subst hh
    exact rfl
  · obtain ⟨u5, -, h⟩ := ob h
    obtain ⟨I6, eI6, h⟩ := ob h
    have q1 : I6 q = _ := (by rw [← (wI_some eI6).2.2]; exact g_up_row cq0 : I6 q = s.2 q).trans rfl
    obtain ⟨w9, ew9, h⟩ := ob h
    have q2 : w9 q = _ := (zlX9_takeTables_68 s.1 ((0 : Int32), I6) ew9 q cq1).trans q1
    obtain ⟨w19, ew19, h⟩ := ob h
    have q3 : w19 q = _ := (zlX9_takeTables_101 s.1 ((0 : Int32), w9) ew19 q cq2).trans q2
    obtain rfl := Option.some.inj h
    exact (hl _ rfl).trans q3
set_option maxRecDepth 100000 in
set_option maxHeartbeats 1000000 in
theorem zfX9_takeTables (I : gM) {r : Int32 × gM} (h : fX9_takeTables I = some r) (q : Nat) (cq0 : q ≠ 62) (cq1 : q ≠ 70) (cq2 : q ≠ 72) (cq3 : q ≠ 73) : r.2 q = I q := by
  unfold fX9_takeTables at h
  obtain ⟨I1, eI1, h⟩ := ob h
  have q1 : I1 q = _ := (by rw [← pU_some eI1]; exact g_up_row cq0 : I1 q = I q).trans rfl
  obtain ⟨w3, ew3, h⟩ := ob h
  have q2 : w3 q = _ := (zlX9_takeTables_10 ((0 : Int32), I1) ew3 q cq1).trans q1
  obtain ⟨I4, eI4, h⟩ := ob h
  have q3 : I4 q = _ := (by rw [← (wI_some eI4).2.2]; exact g_up_row cq1 : I4 q = w3 q).trans q2
  obtain ⟨w20, ew20, h⟩ := ob h
  have q4 : w20 q = _ := (zlX9_takeTables_46 ((0 : Int32), I4) ew20 q cq2 cq3 cq1).trans q3
  obtain ⟨I21, eI21, h⟩ := ob h
  have q5 : I21 q = _ := (by rw [← pU_some eI21]; exact g_up_row cq0 : I21 q = w20 q).trans q4
  obtain ⟨I22, eI22, h⟩ := ob h
  have q6 : I22 q = _ := (by rw [← pU_some eI22]; exact g_up_row cq0 : I22 q = I21 q).trans q5
  obtain rfl := Option.some.inj h
  exact q6
set_option maxRecDepth 100000 in
set_option maxHeartbeats 1000000 in
theorem zfX9_text (v1 : Int32) (I : gM) {r : Int32 × gM} (h : fX9_text v1 I = some r) (q : Nat) (cq0 : q ≠ 62) (cq1 : q ≠ 64) (cq2 : q ≠ 65) (cq3 : q ≠ 66) (cq4 : q ≠ 67) (cq5 : q ≠ 70) (cq6 : q ≠ 72) (cq7 : q ≠ 73) (cq8 : q ≠ 69) (cq9 : q ≠ 68) : r.2 q = I q := by
  unfold fX9_text at h
  rcases oi h with ⟨-, h⟩ | ⟨-, h⟩
  · obtain ⟨r1, er1, h⟩ := ob h
    have q1 : r1.2 q = _ := (zfX9_readAll I er1 q cq0 cq1 cq2 cq3 cq4).trans rfl
    rcases oi h with ⟨-, h⟩ | ⟨-, h⟩
    · obtain ⟨I2, eI2, h⟩ := ob h
      have q2 : I2 q = _ := (by rw [← pU_some eI2]; exact g_up_row cq0 : I2 q = r1.2 q).trans q1
      obtain ⟨r3, er3, h⟩ := ob h
      have q3 : r3.2 q = _ := (zfX9_takeTables I2 er3 q cq0 cq5 cq6 cq7).trans q2
      obtain rfl := Option.some.inj h
      exact q3
    · unfold bX9_text_22 at h
      rcases oi h with ⟨-, h⟩ | ⟨-, h⟩
      · rcases oi h with ⟨-, h⟩ | ⟨-, h⟩
        · obtain rfl := Option.some.inj h
          exact q1
        · obtain ⟨r4, er4, h⟩ := ob h
          have q4 : r4.2 q = _ := (zfX9_readScript (r1.2 62 12) r1.2 er4 q cq0 cq8 cq9).trans q1
          rcases oi h with ⟨-, h⟩ | ⟨-, h⟩
          · obtain ⟨I5, eI5, h⟩ := ob h
            have q5 : I5 q = _ := (by rw [← pU_some eI5]; exact g_up_row cq0 : I5 q = r4.2 q).trans q4
            obtain ⟨I6, eI6, h⟩ := ob h
            have q6 : I6 q = _ := (by rw [← pU_some eI6]; exact g_up_row cq0 : I6 q = I5 q).trans q5
            obtain rfl := Option.some.inj h
            exact q6
          · obtain rfl := Option.some.inj h
            exact q4
      · obtain rfl := Option.some.inj h
        exact q1
  · unfold bX9_text_22 at h
    rcases oi h with ⟨-, h⟩ | ⟨-, h⟩
    · rcases oi h with ⟨-, h⟩ | ⟨-, h⟩
      · obtain rfl := Option.some.inj h
        exact rfl
      · obtain ⟨r4, er4, h⟩ := ob h
        have q7 : r4.2 q = _ := (zfX9_readScript (I 62 12) I er4 q cq0 cq8 cq9).trans rfl
        rcases oi h with ⟨-, h⟩ | ⟨-, h⟩
        · obtain ⟨I5, eI5, h⟩ := ob h
          have q8 : I5 q = _ := (by rw [← pU_some eI5]; exact g_up_row cq0 : I5 q = r4.2 q).trans q7
          obtain ⟨I6, eI6, h⟩ := ob h
          have q9 : I6 q = _ := (by rw [← pU_some eI6]; exact g_up_row cq0 : I6 q = I5 q).trans q8
          obtain rfl := Option.some.inj h
          exact q9
        · obtain rfl := Option.some.inj h
          exact q7
    · obtain rfl := Option.some.inj h
      exact rfl
set_option maxRecDepth 100000 in
set_option maxHeartbeats 1000000 in
theorem zlX9_laysOrder_17  (s : (Int32 × Int32 × Int32 × Int32 × gM)) {r : gM} (h : lX9_laysOrder_17 s = some r) (q : Nat) (cq0 : q ≠ 74) (cq1 : q ≠ 62) : r q = s.2.2.2.2 q := by
  unfold lX9_laysOrder_17 at h
  revert s
  refine itO_ind (P := fun s : (Int32 × Int32 × Int32 × Int32 × gM) => r q = s.2.2.2.2 q) (fun s y h hl hr => ?_)
  rcases oi h with ⟨-, h⟩ | ⟨-, h⟩
  · obtain rfl := Option.some.inj h
    have hh := hr _ rfl
    subst hh
    exact rfl
  · obtain ⟨u2, -, h⟩ := ob h
    obtain ⟨u3, -, h⟩ := ob h
    rcases oi h with ⟨-, h⟩ | ⟨-, h⟩
    · unfold bX9_laysOrder_51 at h
      obtain ⟨w6, -, h⟩ := ob h
      obtain ⟨r7, -, h⟩ := ob h
      obtain ⟨r8, -, h⟩ := ob h
      rcases oi h with ⟨-, h⟩ | ⟨-, h⟩
      · unfold bX9_laysOrder_137 at h
        obtain rfl := Option.some.inj h
        exact (hl _ rfl).trans rfl
      · obtain ⟨I9, eI9, h⟩ := ob h
        have q1 : I9 q = _ := (by rw [← (wI_some eI9).2.2]; exact g_up_row cq0 : I9 q = s.2.2.2.2 q).trans rfl
        obtain ⟨I10, eI10, h⟩ := ob h
        have q2 : I10 q = _ := (by rw [← pU_some eI10]; exact g_up_row cq1 : I10 q = I9 q).trans q1
        unfold bX9_laysOrder_137 at h
        obtain rfl := Option.some.inj h
        exact (hl _ rfl).trans q2
    · obtain ⟨u11, -, h⟩ := ob h
      unfold bX9_laysOrder_51 at h
      obtain ⟨w6, -, h⟩ := ob h
      obtain ⟨r7, -, h⟩ := ob h
      obtain ⟨r8, -, h⟩ := ob h
      rcases oi h with ⟨-, h⟩ | ⟨-, h⟩
      · unfold bX9_laysOrder_137 at h
        obtain rfl := Option.some.inj h
        exact (hl _ rfl).trans rfl
      · obtain ⟨I9, eI9, h⟩ := ob h
        have q3 : I9 q = _ := (by rw [← (wI_some eI9).2.2]; exact g_up_row cq0 : I9 q = s.2.2.2.2 q).trans rfl
        obtain ⟨I10, eI10, h⟩ := ob h
        have q4 : I10 q = _ := (by rw [← pU_some eI10]; exact g_up_row cq1 : I10 q = I9 q).trans q3
        unfold bX9_laysOrder_137 at h
        obtain rfl := Option.some.inj h
        exact (hl _ rfl).trans q4
set_option maxRecDepth 100000 in
set_option maxHeartbeats 1000000 in
theorem zfX9_laysOrder (v1 : Int32) (I : gM) {r : gM} (h : fX9_laysOrder v1 I = some r) (q : Nat) (cq0 : q ≠ 62) (cq1 : q ≠ 74) : r q = I q := by
  unfold fX9_laysOrder at h
  obtain ⟨I1, eI1, h⟩ := ob h
  have q1 : I1 q = _ := (by rw [← pU_some eI1]; exact g_up_row cq0 : I1 q = I q).trans rfl
  obtain ⟨w12, ew12, h⟩ := ob h
  have q2 : w12 q = _ := (zlX9_laysOrder_17 ((15 : Int32), v1, (6 : Int32), (0 : Int32), I1) ew12 q cq1 cq0).trans q1
  obtain rfl := Option.some.inj h
  exact q2
set_option maxRecDepth 100000 in
set_option maxHeartbeats 1000000 in
theorem zlX9_takesKey_66 (v1 : Int32) (v4 : Int32) (s : (Int32 × gM)) {r : gM} (h : lX9_takesKey_66 v1 v4 s = some r) (q : Nat) (cq0 : q ≠ 76) : r q = s.2 q := by
  unfold lX9_takesKey_66 at h
  revert s
  refine itO_ind (P := fun s : (Int32 × gM) => r q = s.2 q) (fun s y h hl hr => ?_)
  rcases oi h with ⟨-, h⟩ | ⟨-, h⟩
  · obtain rfl := Option.some.inj h
    have hh := hr _ rfl
    subst hh
    exact rfl
  · obtain ⟨u4, -, h⟩ := ob h
    obtain ⟨I5, eI5, h⟩ := ob h
    have q1 : I5 q = _ := (by rw [← (wI_some eI5).2.2]; exact g_up_row cq0 : I5 q = s.2 q).trans rfl
    obtain rfl := Option.some.inj h
    exact (hl _ rfl).trans q1
set_option maxRecDepth 100000 in
set_option maxHeartbeats 1000000 in
theorem zfX9_takesKey (v1 : Int32) (v2 : Int32) (I : gM) {r : gM} (h : fX9_takesKey v1 v2 I = some r) (q : Nat) (cq0 : q ≠ 76) (cq1 : q ≠ 77) : r q = I q := by
  unfold fX9_takesKey at h
  obtain ⟨u1, -, h⟩ := ob h
  obtain ⟨w3, -, h⟩ := ob h
  unfold bX9_takesKey_39 at h
  rcases oi h with ⟨-, h⟩ | ⟨-, h⟩
  · unfold bX9_takesKey_63 at h
    obtain ⟨w6, ew6, h⟩ := ob h
    have q1 : w6 q = _ := (zlX9_takesKey_66 v1 w3 (u1, I) ew6 q cq0).trans rfl
    obtain ⟨I7, eI7, h⟩ := ob h
    have q2 : I7 q = _ := (by rw [← (wI_some eI7).2.2]; exact g_up_row cq0 : I7 q = w6 q).trans q1
    obtain ⟨u8, -, h⟩ := ob h
    obtain ⟨I9, eI9, h⟩ := ob h
    have q3 : I9 q = _ := (by rw [← (wI_some eI9).2.2]; exact g_up_row cq1 : I9 q = I7 q).trans q2
    obtain rfl := Option.some.inj h
    exact q3
  · obtain ⟨u10, -, h⟩ := ob h
    rcases oi h with ⟨-, h⟩ | ⟨-, h⟩
    · obtain rfl := Option.some.inj h
      exact rfl
    · unfold bX9_takesKey_63 at h
      obtain ⟨w6, ew6, h⟩ := ob h
      have q4 : w6 q = _ := (zlX9_takesKey_66 v1 w3 (u1, I) ew6 q cq0).trans rfl
      obtain ⟨I7, eI7, h⟩ := ob h
      have q5 : I7 q = _ := (by rw [← (wI_some eI7).2.2]; exact g_up_row cq0 : I7 q = w6 q).trans q4
      obtain ⟨u8, -, h⟩ := ob h
      obtain ⟨I9, eI9, h⟩ := ob h
      have q6 : I9 q = _ := (by rw [← (wI_some eI9).2.2]; exact g_up_row cq1 : I9 q = I7 q).trans q5
      obtain rfl := Option.some.inj h
      exact q6
set_option maxRecDepth 100000 in
set_option maxHeartbeats 1000000 in
theorem zlX9_laysKeys_60 (v1 : Int32) (v3 : Int32) (v4 : Int32) (v5 : Int32) (s : (Int32 × gM)) {r : gM} (h : lX9_laysKeys_60 v1 v3 v4 v5 s = some r) (q : Nat) (cq0 : q ≠ 76) (cq1 : q ≠ 77) : r q = s.2 q := by
  unfold lX9_laysKeys_60 at h
  revert s
  refine itO_ind (P := fun s : (Int32 × gM) => r q = s.2 q) (fun s y h hl hr => ?_)
  obtain ⟨r6, -, h⟩ := ob h
  rcases oi h with ⟨-, h⟩ | ⟨-, h⟩
  · obtain rfl := Option.some.inj h
    have hh := hr _ rfl
    subst hh
    exact rfl
  · obtain ⟨r7, -, h⟩ := ob h
    rcases oi h with ⟨-, h⟩ | ⟨-, h⟩
    · unfold bX9_laysKeys_101 at h
      obtain rfl := Option.some.inj h
      exact (hl _ rfl).trans rfl
    · obtain ⟨r8, -, h⟩ := ob h
      obtain ⟨u9, -, h⟩ := ob h
      obtain ⟨r10, er10, h⟩ := ob h
      have q1 : r10 q = _ := (zfX9_takesKey v4 u9 s.2 er10 q cq0 cq1).trans rfl
      unfold bX9_laysKeys_101 at h
      obtain rfl := Option.some.inj h
      exact (hl _ rfl).trans q1
set_option maxRecDepth 100000 in
set_option maxHeartbeats 1000000 in
theorem zlX9_laysKeys_4 (v1 : Int32) (s : (Int32 × Int32 × gM)) {r : Int32 × gM} (h : lX9_laysKeys_4 v1 s = some r) (q : Nat) (cq0 : q ≠ 77) (cq1 : q ≠ 78) (cq2 : q ≠ 76) : r.2 q = s.2.2 q := by
  unfold lX9_laysKeys_4 at h
  revert s
  refine itO_ind (P := fun s : (Int32 × Int32 × gM) => r.2 q = s.2.2 q) (fun s y h hl hr => ?_)
  rcases oi h with ⟨-, h⟩ | ⟨-, h⟩
  · obtain rfl := Option.some.inj h
    have hh := hr _ rfl
    subst hh
    exact rfl
  · obtain ⟨I1, eI1, h⟩ := ob h
    have q1 : I1 q = _ := (by rw [← (wI_some eI1).2.2]; exact g_up_row cq0 : I1 q = s.2.2 q).trans rfl
    obtain ⟨I2, eI2, h⟩ := ob h
    have q2 : I2 q = _ := (by rw [← (wI_some eI2).2.2]; exact g_up_row cq1 : I2 q = I1 q).trans q1
    obtain ⟨r3, -, h⟩ := ob h
    rcases oi h with ⟨-, h⟩ | ⟨-, h⟩
    · unfold bX9_laysKeys_127 at h
      obtain rfl := Option.some.inj h
      exact (hl _ rfl).trans q2
    · obtain ⟨u4, -, h⟩ := ob h
      obtain ⟨r5, -, h⟩ := ob h
      obtain ⟨w11, ew11, h⟩ := ob h
      have q3 : w11 q = _ := (zlX9_laysKeys_60 v1 s.2.1 (((4 : Int32) * v1) + s.2.1) r5 ((0 : Int32), I2) ew11 q cq2 cq0).trans q2
      rcases oi h with ⟨-, h⟩ | ⟨-, h⟩
      · unfold bX9_laysKeys_125 at h
        unfold bX9_laysKeys_126 at h
        unfold bX9_laysKeys_127 at h
        obtain rfl := Option.some.inj h
        exact (hl _ rfl).trans q3
      · obtain ⟨u12, -, h⟩ := ob h
        rcases oi h with ⟨-, h⟩ | ⟨-, h⟩
        · unfold bX9_laysKeys_125 at h
          unfold bX9_laysKeys_126 at h
          unfold bX9_laysKeys_127 at h
          obtain rfl := Option.some.inj h
          exact (hl _ rfl).trans q3
        · unfold bX9_laysKeys_126 at h
          unfold bX9_laysKeys_127 at h
          obtain rfl := Option.some.inj h
          exact (hl _ rfl).trans q3
set_option maxRecDepth 100000 in
set_option maxHeartbeats 1000000 in
theorem zfX9_laysKeys (v1 : Int32) (I : gM) {r : Int32 × gM} (h : fX9_laysKeys v1 I = some r) (q : Nat) (cq0 : q ≠ 77) (cq1 : q ≠ 78) (cq2 : q ≠ 76) : r.2 q = I q := by
  unfold fX9_laysKeys at h
  obtain ⟨w13, ew13, h⟩ := ob h
  have q1 : w13.2 q = _ := (zlX9_laysKeys_4 v1 ((1 : Int32), (0 : Int32), I) ew13 q cq0 cq1 cq2).trans rfl
  obtain ⟨u14, -, h⟩ := ob h
  obtain rfl := Option.some.inj h
  exact q1
set_option maxRecDepth 100000 in
set_option maxHeartbeats 1000000 in
theorem zlX9_leaps_17 (v3 : Int32) (v4 : Int32) (s : gM) {r : gM} (h : lX9_leaps_17 v3 v4 s = some r) (q : Nat) (cq0 : q ≠ 78) : r q = s q := by
  unfold lX9_leaps_17 at h
  revert s
  refine itO_ind (P := fun s : gM => r q = s q) (fun s y h hl hr => ?_)
  obtain ⟨u2, -, h⟩ := ob h
  obtain ⟨u3, -, h⟩ := ob h
  rcases oi h with ⟨-, h⟩ | ⟨-, h⟩
  · obtain rfl := Option.some.inj h
    have hh := hr _ rfl
    subst hh
    exact rfl
  · obtain ⟨u4, -, h⟩ := ob h
    obtain ⟨u5, -, h⟩ := ob h
    rcases oi h with ⟨-, h⟩ | ⟨-, h⟩
    · obtain rfl := Option.some.inj h
      have hh := hr _ rfl
      subst hh
      exact rfl
    · obtain ⟨u6, -, h⟩ := ob h
      obtain ⟨I7, eI7, h⟩ := ob h
      have q1 : I7 q = _ := (by rw [← (wI_some eI7).2.2]; exact g_up_row cq0 : I7 q = s q).trans rfl
      obtain rfl := Option.some.inj h
      exact (hl _ rfl).trans q1
set_option maxRecDepth 100000 in
set_option maxHeartbeats 1000000 in
theorem zfX9_leaps (v1 : Int32) (v2 : Int32) (v3 : Int32) (I : gM) {r : Int32 × gM} (h : fX9_leaps v1 v2 v3 I = some r) (q : Nat) (cq0 : q ≠ 62) (cq1 : q ≠ 78) : r.2 q = I q := by
  unfold fX9_leaps at h
  obtain ⟨I1, eI1, h⟩ := ob h
  have q1 : I1 q = _ := (by rw [← pU_some eI1]; exact g_up_row cq0 : I1 q = I q).trans rfl
  obtain ⟨w8, ew8, h⟩ := ob h
  have q2 : w8 q = _ := (zlX9_leaps_17 v3 (((4 : Int32) * v1) + v2) I1 ew8 q cq1).trans q1
  unfold bX9_leaps_70 at h
  obtain ⟨u9, -, h⟩ := ob h
  obtain ⟨u10, -, h⟩ := ob h
  rcases oi h with ⟨-, h⟩ | ⟨-, h⟩
  · obtain rfl := Option.some.inj h
    exact q2
  · obtain rfl := Option.some.inj h
    exact q2
set_option maxRecDepth 100000 in
set_option maxHeartbeats 1000000 in
theorem zlX9_takesRow_2  (s : (Int32 × gM)) {r : gM} (h : lX9_takesRow_2 s = some r) (q : Nat) (cq0 : q ≠ 80) : r q = s.2 q := by
  unfold lX9_takesRow_2 at h
  revert s
  refine itO_ind (P := fun s : (Int32 × gM) => r q = s.2 q) (fun s y h hl hr => ?_)
  rcases oi h with ⟨-, h⟩ | ⟨-, h⟩
  · obtain rfl := Option.some.inj h
    have hh := hr _ rfl
    subst hh
    exact rfl
  · obtain ⟨u1, -, h⟩ := ob h
    obtain ⟨I2, eI2, h⟩ := ob h
    have q1 : I2 q = _ := (by rw [← (wI_some eI2).2.2]; exact g_up_row cq0 : I2 q = s.2 q).trans rfl
    obtain rfl := Option.some.inj h
    exact (hl _ rfl).trans q1
set_option maxRecDepth 100000 in
set_option maxHeartbeats 1000000 in
theorem zfX9_takesRow (I : gM) {r : gM} (h : fX9_takesRow I = some r) (q : Nat) (cq0 : q ≠ 80) (cq1 : q ≠ 62) : r q = I q := by
  unfold fX9_takesRow at h
  obtain ⟨w3, ew3, h⟩ := ob h
  have q1 : w3 q = _ := (zlX9_takesRow_2 ((0 : Int32), I) ew3 q cq0).trans rfl
  obtain ⟨I4, eI4, h⟩ := ob h
  have q2 : I4 q = _ := (by rw [← pU_some eI4]; exact g_up_row cq1 : I4 q = w3 q).trans q1
  obtain rfl := Option.some.inj h
  exact q2
set_option maxRecDepth 100000 in
set_option maxHeartbeats 1000000 in
theorem zlX9_goes_19 (rec : Int32 → gM → Option gM) (v1 : Int32) (s : (Int32 × gM)) {r : gM} (h : lX9_goes_19 rec v1 s = some r) (q : Nat) (hrec : ∀ (d : Int32) (I r : gM), rec d I = some r → r q = I q) (cq0 : q ≠ 80) (cq1 : q ≠ 62) (cq2 : q ≠ 77) (cq3 : q ≠ 78) (cq4 : q ≠ 76) (cq5 : q ≠ 75) (cq6 : q ≠ 79) : r q = s.2 q := by
  unfold lX9_goes_19 at h
  revert s
  refine itO_ind (P := fun s : (Int32 × gM) => r q = s.2 q) (fun s y h hl hr => ?_)
  rcases oi h with ⟨-, h⟩ | ⟨-, h⟩
  · obtain rfl := Option.some.inj h
    have hh := hr _ rfl
    subst hh
    exact rfl
  · obtain ⟨r3, -, h⟩ := ob h
    obtain ⟨r4, -, h⟩ := ob h
    rcases oi h with ⟨-, h⟩ | ⟨-, h⟩
    · obtain ⟨u5, -, h⟩ := ob h
      obtain ⟨I6, eI6, h⟩ := ob h
      have q1 : I6 q = _ := (by rw [← (wI_some eI6).2.2]; exact g_up_row cq5 : I6 q = s.2 q).trans rfl
      obtain ⟨u7, -, h⟩ := ob h
      obtain ⟨I8, eI8, h⟩ := ob h
      have q2 : I8 q = _ := (by rw [← (wI_some eI8).2.2]; exact g_up_row cq6 : I8 q = I6 q).trans q1
      obtain ⟨r9, er9, h⟩ := ob h
      have q3 : r9 q = _ := (hrec _ _ _ er9).trans q2
      obtain ⟨u10, -, h⟩ := ob h
      obtain ⟨I11, eI11, h⟩ := ob h
      have q4 : I11 q = _ := (by rw [← (wI_some eI11).2.2]; exact g_up_row cq5 : I11 q = r9 q).trans q3
      obtain ⟨r12, -, h⟩ := ob h
      obtain ⟨r13, er13, h⟩ := ob h
      have q5 : r13.2 q = _ := (zfX9_leaps v1 r12 (r3 + 1) I11 er13 q cq1 cq3).trans q4
      unfold bX9_goes_112 at h
      obtain rfl := Option.some.inj h
      exact (hl _ rfl).trans q5
    · obtain ⟨r14, er14, h⟩ := ob h
      have q6 : r14.2 q = _ := (zfX9_leaps v1 r4 r3 s.2 er14 q cq1 cq3).trans rfl
      unfold bX9_goes_112 at h
      obtain rfl := Option.some.inj h
      exact (hl _ rfl).trans q6
set_option maxRecDepth 100000 in
set_option maxHeartbeats 1000000 in
theorem zfX9_goesB (rec : Int32 → gM → Option gM) (v1 : Int32) (I : gM) {r : gM} (h : fX9_goesB rec v1 I = some r) (q : Nat) (hrec : ∀ (d : Int32) (I r : gM), rec d I = some r → r q = I q) (cq0 : q ≠ 80) (cq1 : q ≠ 62) (cq2 : q ≠ 77) (cq3 : q ≠ 78) (cq4 : q ≠ 76) (cq5 : q ≠ 75) (cq6 : q ≠ 79) : r q = I q := by
  unfold fX9_goesB at h
  rcases oi h with ⟨-, h⟩ | ⟨-, h⟩
  · obtain ⟨r1, er1, h⟩ := ob h
    have q1 : r1 q = _ := (zfX9_takesRow I er1 q cq0 cq1).trans rfl
    obtain rfl := Option.some.inj h
    exact q1
  · obtain ⟨r2, er2, h⟩ := ob h
    have q2 : r2.2 q = _ := (zfX9_laysKeys v1 I er2 q cq2 cq3 cq4).trans rfl
    obtain ⟨w15, ew15, h⟩ := ob h
    have q3 : w15 q = _ := (zlX9_goes_19 rec v1 (r2.1, r2.2) ew15 q hrec cq0 cq1 cq2 cq3 cq4 cq5 cq6).trans q2
    obtain rfl := Option.some.inj h
    exact q3
theorem zfX9_goes (n : Nat) (d : Int32) (I : gM) {r : gM} (h : fX9_goes n d I = some r) (q : Nat) (cq0 : q ≠ 80) (cq1 : q ≠ 62) (cq2 : q ≠ 77) (cq3 : q ≠ 78) (cq4 : q ≠ 76) (cq5 : q ≠ 75) (cq6 : q ≠ 79) : r q = I q := by
  induction n generalizing d I r with
  | zero => cases h
  | succ n ih => exact zfX9_goesB _ d I h q (fun d I r h => ih d I h) cq0 cq1 cq2 cq3 cq4 cq5 cq6
set_option maxRecDepth 100000 in
set_option maxHeartbeats 1000000 in
theorem zlX9_joins_17  (s : (Int32 × gM)) {r : gM} (h : lX9_joins_17 s = some r) (q : Nat) (cq0 : q ≠ 75) (cq1 : q ≠ 79) : r q = s.2 q := by
  unfold lX9_joins_17 at h
  revert s
  refine itO_ind (P := fun s : (Int32 × gM) => r q = s.2 q) (fun s y h hl hr => ?_)
  rcases oi h with ⟨-, h⟩ | ⟨-, h⟩
  · obtain rfl := Option.some.inj h
    have hh := hr _ rfl
    subst hh
    exact rfl
  · obtain ⟨I4, eI4, h⟩ := ob h
    have q1 : I4 q = _ := (by rw [← (wI_some eI4).2.2]; exact g_up_row cq0 : I4 q = s.2 q).trans rfl
    obtain ⟨I5, eI5, h⟩ := ob h
    have q2 : I5 q = _ := (by rw [← (wI_some eI5).2.2]; exact g_up_row cq1 : I5 q = I4 q).trans q1
    obtain rfl := Option.some.inj h
    exact (hl _ rfl).trans q2
set_option maxRecDepth 100000 in
set_option maxHeartbeats 1000000 in
theorem zfX9_joins (v1 : Int32) (I : gM) {r : gM} (h : fX9_joins v1 I = some r) (q : Nat) (cq0 : q ≠ 62) (cq1 : q ≠ 74) (cq2 : q ≠ 75) (cq3 : q ≠ 79) (cq4 : q ≠ 80) (cq5 : q ≠ 77) (cq6 : q ≠ 78) (cq7 : q ≠ 76) : r q = I q := by
  unfold fX9_joins at h
  obtain ⟨r1, er1, h⟩ := ob h
  have q1 : r1 q = _ := (zfX9_laysOrder v1 I er1 q cq0 cq1).trans rfl
  obtain ⟨I2, eI2, h⟩ := ob h
  have q2 : I2 q = _ := (by rw [← pU_some eI2]; exact g_up_row cq0 : I2 q = r1 q).trans q1
  obtain ⟨I3, eI3, h⟩ := ob h
  have q3 : I3 q = _ := (by rw [← pU_some eI3]; exact g_up_row cq0 : I3 q = I2 q).trans q2
  obtain ⟨w6, ew6, h⟩ := ob h
  have q4 : w6 q = _ := (zlX9_joins_17 ((0 : Int32), I3) ew6 q cq2 cq3).trans q3
  obtain ⟨r7, er7, h⟩ := ob h
  have q5 : r7 q = _ := (zfX9_goes 6 (0 : Int32) w6 er7 q cq4 cq0 cq5 cq6 cq7 cq2 cq3).trans q4
  obtain rfl := Option.some.inj h
  exact q5
set_option maxRecDepth 100000 in
set_option maxHeartbeats 1000000 in
theorem zfX9_joinsNow (I : gM) {r : gM} (h : fX9_joinsNow I = some r) (q : Nat) (cq0 : q ≠ 62) (cq1 : q ≠ 74) (cq2 : q ≠ 75) (cq3 : q ≠ 79) (cq4 : q ≠ 80) (cq5 : q ≠ 77) (cq6 : q ≠ 78) (cq7 : q ≠ 76) : r q = I q := by
  unfold fX9_joinsNow at h
  obtain ⟨u1, -, h⟩ := ob h
  obtain ⟨r2, er2, h⟩ := ob h
  have q1 : r2 q = _ := (zfX9_joins u1 I er2 q cq0 cq1 cq2 cq3 cq4 cq5 cq6 cq7).trans rfl
  obtain rfl := Option.some.inj h
  exact q1
set_option maxRecDepth 100000 in
set_option maxHeartbeats 1000000 in
theorem zfX9_doNow (v1 : Int32) (v2 : Int32) (v3 : Int32) (v4 : Int32) (v5 : Int32) (I : gM) {r : Int32 × gM} (h : fX9_doNow v1 v2 v3 v4 v5 I = some r) (q : Nat) (cq0 : q ≠ 70) : r.2 q = I q := by
  unfold fX9_doNow at h
  rcases oi h with ⟨-, h⟩ | ⟨-, h⟩
  · obtain ⟨r1, er1, h⟩ := ob h
    have q1 : r1.2 q = _ := (zfX9_putsNow v2 v3 v4 v5 I er1 q cq0).trans rfl
    obtain rfl := Option.some.inj h
    exact q1
  · rcases oi h with ⟨-, h⟩ | ⟨-, h⟩
    · obtain ⟨r2, er2, h⟩ := ob h
      have q2 : r2.2 q = _ := (zfX9_takesNow v2 v3 v4 v5 I er2 q cq0).trans rfl
      obtain rfl := Option.some.inj h
      exact q2
    · rcases oi h with ⟨-, h⟩ | ⟨-, h⟩
      · obtain ⟨u3, -, h⟩ := ob h
        obtain ⟨I4, eI4, h⟩ := ob h
        have q3 : I4 q = _ := (by rw [← (wI_some eI4).2.2]; exact g_up_row cq0 : I4 q = I q).trans rfl
        obtain ⟨r5, -, h⟩ := ob h
        rcases oi h with ⟨-, h⟩ | ⟨-, h⟩
        · obtain rfl := Option.some.inj h
          exact q3
        · obtain rfl := Option.some.inj h
          exact q3
      · obtain ⟨u6, -, h⟩ := ob h
        obtain ⟨I7, eI7, h⟩ := ob h
        have q4 : I7 q = _ := (by rw [← (wI_some eI7).2.2]; exact g_up_row cq0 : I7 q = I q).trans rfl
        obtain rfl := Option.some.inj h
        exact q4
set_option maxRecDepth 100000 in
set_option maxHeartbeats 1000000 in
theorem zlX9_keep_13  (s : (Int32 × gM)) {r : gM} (h : lX9_keep_13 s = some r) (q : Nat) (cq0 : q ≠ 81) : r q = s.2 q := by
  unfold lX9_keep_13 at h
  revert s
  refine itO_ind (P := fun s : (Int32 × gM) => r q = s.2 q) (fun s y h hl hr => ?_)
  rcases oi h with ⟨-, h⟩ | ⟨-, h⟩
  · obtain rfl := Option.some.inj h
    have hh := hr _ rfl
    subst hh
    exact rfl
  · obtain ⟨u1, -, h⟩ := ob h
    obtain ⟨I2, eI2, h⟩ := ob h
    have q1 : I2 q = _ := (by rw [← (wI_some eI2).2.2]; exact g_up_row cq0 : I2 q = s.2 q).trans rfl
    obtain rfl := Option.some.inj h
    exact (hl _ rfl).trans q1
set_option maxRecDepth 100000 in
set_option maxHeartbeats 1000000 in
theorem zlX9_keep_54  (s : (Int32 × gM)) {r : gM} (h : lX9_keep_54 s = some r) (q : Nat) (cq0 : q ≠ 81) : r q = s.2 q := by
  unfold lX9_keep_54 at h
  revert s
  refine itO_ind (P := fun s : (Int32 × gM) => r q = s.2 q) (fun s y h hl hr => ?_)
  rcases oi h with ⟨-, h⟩ | ⟨-, h⟩
  · obtain rfl := Option.some.inj h
    have hh := hr _ rfl
    subst hh
    exact rfl
  · obtain ⟨u5, -, h⟩ := ob h
    obtain ⟨I6, eI6, h⟩ := ob h
    have q1 : I6 q = _ := (by rw [← (wI_some eI6).2.2]; exact g_up_row cq0 : I6 q = s.2 q).trans rfl
    obtain rfl := Option.some.inj h
    exact (hl _ rfl).trans q1
set_option maxRecDepth 100000 in
set_option maxHeartbeats 1000000 in
theorem zfX9_keep (I : gM) {r : gM} (h : fX9_keep I = some r) (q : Nat) (cq0 : q ≠ 81) (cq1 : q ≠ 62) : r q = I q := by
  unfold fX9_keep at h
  rcases oi h with ⟨-, h⟩ | ⟨-, h⟩
  · obtain ⟨w3, ew3, h⟩ := ob h
    have q1 : w3 q = _ := (zlX9_keep_13 ((331 : Int32), I) ew3 q cq0).trans rfl
    obtain ⟨I4, eI4, h⟩ := ob h
    have q2 : I4 q = _ := (by rw [← pU_some eI4]; exact g_up_row cq1 : I4 q = w3 q).trans q1
    unfold bX9_keep_52 at h
    obtain ⟨w7, ew7, h⟩ := ob h
    have q3 : w7 q = _ := (zlX9_keep_54 ((0 : Int32), I4) ew7 q cq0).trans q2
    obtain ⟨I8, eI8, h⟩ := ob h
    have q4 : I8 q = _ := (by rw [← pU_some eI8]; exact g_up_row cq1 : I8 q = w7 q).trans q3
    obtain rfl := Option.some.inj h
    exact q4
  · unfold bX9_keep_52 at h
    obtain ⟨w7, ew7, h⟩ := ob h
    have q5 : w7 q = _ := (zlX9_keep_54 ((0 : Int32), I) ew7 q cq0).trans rfl
    obtain ⟨I8, eI8, h⟩ := ob h
    have q6 : I8 q = _ := (by rw [← pU_some eI8]; exact g_up_row cq1 : I8 q = w7 q).trans q5
    obtain rfl := Option.some.inj h
    exact q6
set_option maxRecDepth 100000 in
set_option maxHeartbeats 1000000 in
theorem zfX9_rowsNow (I : gM) {r : Int32 × gM} (h : fX9_rowsNow I = some r) (q : Nat) (cq0 : q ≠ 62) (cq1 : q ≠ 74) (cq2 : q ≠ 75) (cq3 : q ≠ 79) (cq4 : q ≠ 80) (cq5 : q ≠ 77) (cq6 : q ≠ 78) (cq7 : q ≠ 76) : r.2 q = I q := by
  unfold fX9_rowsNow at h
  obtain ⟨r1, er1, h⟩ := ob h
  have q1 : r1 q = _ := (zfX9_joinsNow I er1 q cq0 cq1 cq2 cq3 cq4 cq5 cq6 cq7).trans rfl
  obtain rfl := Option.some.inj h
  exact q1
set_option maxRecDepth 100000 in
set_option maxHeartbeats 1000000 in
theorem zlX9_note_15  (s : (Int32 × gM)) {r : gM} (h : lX9_note_15 s = some r) (q : Nat) (cq0 : q ≠ 70) : r q = s.2 q := by
  unfold lX9_note_15 at h
  revert s
  refine itO_ind (P := fun s : (Int32 × gM) => r q = s.2 q) (fun s y h hl hr => ?_)
  rcases oi h with ⟨-, h⟩ | ⟨-, h⟩
  · obtain rfl := Option.some.inj h
    have hh := hr _ rfl
    subst hh
    exact rfl
  · obtain ⟨u2, -, h⟩ := ob h
    obtain ⟨I3, eI3, h⟩ := ob h
    have q1 : I3 q = _ := (by rw [← (wI_some eI3).2.2]; exact g_up_row cq0 : I3 q = s.2 q).trans rfl
    obtain rfl := Option.some.inj h
    exact (hl _ rfl).trans q1
set_option maxRecDepth 100000 in
set_option maxHeartbeats 1000000 in
theorem zfX9_note (v1 : Int32) (v2 : Int32) (I : gM) {r : gM} (h : fX9_note v1 v2 I = some r) (q : Nat) (cq0 : q ≠ 70) (cq1 : q ≠ 62) (cq2 : q ≠ 74) (cq3 : q ≠ 75) (cq4 : q ≠ 79) (cq5 : q ≠ 80) (cq6 : q ≠ 77) (cq7 : q ≠ 78) (cq8 : q ≠ 76) : r q = I q := by
  unfold fX9_note at h
  obtain ⟨u1, -, h⟩ := ob h
  rcases oi h with ⟨-, h⟩ | ⟨-, h⟩
  · obtain ⟨w4, ew4, h⟩ := ob h
    have q1 : w4 q = _ := (zlX9_note_15 ((3 : Int32), I) ew4 q cq0).trans rfl
    obtain ⟨u5, -, h⟩ := ob h
    obtain ⟨I6, eI6, h⟩ := ob h
    have q2 : I6 q = _ := (by rw [← (wI_some eI6).2.2]; exact g_up_row cq0 : I6 q = w4 q).trans q1
    unfold bX9_note_62 at h
    obtain ⟨u7, -, h⟩ := ob h
    obtain ⟨I8, eI8, h⟩ := ob h
    have q3 : I8 q = _ := (by rw [← (wI_some eI8).2.2]; exact g_up_row cq0 : I8 q = I6 q).trans q2
    obtain ⟨I9, eI9, h⟩ := ob h
    have q4 : I9 q = _ := (by rw [← (wI_some eI9).2.2]; exact g_up_row cq0 : I9 q = I8 q).trans q3
    obtain ⟨r10, er10, h⟩ := ob h
    have q5 : r10.2 q = _ := (zfX9_rowsNow I9 er10 q cq1 cq2 cq3 cq4 cq5 cq6 cq7 cq8).trans q4
    obtain ⟨I11, eI11, h⟩ := ob h
    have q6 : I11 q = _ := (by rw [← (wI_some eI11).2.2]; exact g_up_row cq0 : I11 q = r10.2 q).trans q5
    obtain ⟨u12, -, h⟩ := ob h
    obtain ⟨I13, eI13, h⟩ := ob h
    have q7 : I13 q = _ := (by rw [← (wI_some eI13).2.2]; exact g_up_row cq0 : I13 q = I11 q).trans q6
    obtain rfl := Option.some.inj h
    exact q7
  · unfold bX9_note_62 at h
    obtain ⟨u7, -, h⟩ := ob h
    obtain ⟨I8, eI8, h⟩ := ob h
    have q8 : I8 q = _ := (by rw [← (wI_some eI8).2.2]; exact g_up_row cq0 : I8 q = I q).trans rfl
    obtain ⟨I9, eI9, h⟩ := ob h
    have q9 : I9 q = _ := (by rw [← (wI_some eI9).2.2]; exact g_up_row cq0 : I9 q = I8 q).trans q8
    obtain ⟨r10, er10, h⟩ := ob h
    have q10 : r10.2 q = _ := (zfX9_rowsNow I9 er10 q cq1 cq2 cq3 cq4 cq5 cq6 cq7 cq8).trans q9
    obtain ⟨I11, eI11, h⟩ := ob h
    have q11 : I11 q = _ := (by rw [← (wI_some eI11).2.2]; exact g_up_row cq0 : I11 q = r10.2 q).trans q10
    obtain ⟨u12, -, h⟩ := ob h
    obtain ⟨I13, eI13, h⟩ := ob h
    have q12 : I13 q = _ := (by rw [← (wI_some eI13).2.2]; exact g_up_row cq0 : I13 q = I11 q).trans q11
    obtain rfl := Option.some.inj h
    exact q12
set_option maxRecDepth 100000 in
set_option maxHeartbeats 1000000 in
theorem zfX9_act (v1 : Int32) (v2 : Int32) (v3 : Int32) (v4 : Int32) (v5 : Int32) (I : gM) {r : Int32 × gM} (h : fX9_act v1 v2 v3 v4 v5 I = some r) (q : Nat) (cq0 : q ≠ 81) (cq1 : q ≠ 62) (cq2 : q ≠ 70) (cq3 : q ≠ 74) (cq4 : q ≠ 75) (cq5 : q ≠ 79) (cq6 : q ≠ 80) (cq7 : q ≠ 77) (cq8 : q ≠ 78) (cq9 : q ≠ 76) : r.2 q = I q := by
  unfold fX9_act at h
  obtain ⟨r1, er1, h⟩ := ob h
  have q1 : r1 q = _ := (zfX9_keep I er1 q cq0 cq1).trans rfl
  obtain ⟨r2, er2, h⟩ := ob h
  have q2 : r2.2 q = _ := (zfX9_doNow v1 v2 v3 v4 v5 r1 er2 q cq2).trans q1
  obtain ⟨r3, er3, h⟩ := ob h
  have q3 : r3 q = _ := (zfX9_note v1 v2 r2.2 er3 q cq2 cq1 cq3 cq4 cq5 cq6 cq7 cq8 cq9).trans q2
  obtain rfl := Option.some.inj h
  exact q3
set_option maxRecDepth 100000 in
set_option maxHeartbeats 1000000 in
theorem zfX9_hand (v1 : Int32) (v2 : Int32) (v3 : Int32) (v4 : Int32) (v5 : Int32) (I : gM) {r : Int32 × gM} (h : fX9_hand v1 v2 v3 v4 v5 I = some r) (q : Nat) (cq0 : q ≠ 81) (cq1 : q ≠ 62) (cq2 : q ≠ 70) (cq3 : q ≠ 74) (cq4 : q ≠ 75) (cq5 : q ≠ 79) (cq6 : q ≠ 80) (cq7 : q ≠ 77) (cq8 : q ≠ 78) (cq9 : q ≠ 76) (cq10 : q ≠ 71) : r.2 q = I q := by
  unfold fX9_hand at h
  obtain ⟨r1, -, h⟩ := ob h
  rcases oi h with ⟨-, h⟩ | ⟨-, h⟩
  · obtain ⟨r2, er2, h⟩ := ob h
    have q1 : r2.2 q = _ := (zfX9_act v1 v2 v3 v4 v5 I er2 q cq0 cq1 cq2 cq3 cq4 cq5 cq6 cq7 cq8 cq9).trans rfl
    obtain rfl := Option.some.inj h
    exact q1
  · obtain ⟨u3, -, h⟩ := ob h
    obtain ⟨I4, eI4, h⟩ := ob h
    have q2 : I4 q = _ := (by rw [← (wI_some eI4).2.2]; exact g_up_row cq10 : I4 q = I q).trans rfl
    obtain rfl := Option.some.inj h
    exact q2
set_option maxRecDepth 100000 in
set_option maxHeartbeats 1000000 in
theorem zfX9_put (v1 : Int32) (v2 : Int32) (v3 : Int32) (v4 : Int32) (I : gM) {r : Int32 × gM} (h : fX9_put v1 v2 v3 v4 I = some r) (q : Nat) (cq0 : q ≠ 81) (cq1 : q ≠ 62) (cq2 : q ≠ 70) (cq3 : q ≠ 74) (cq4 : q ≠ 75) (cq5 : q ≠ 79) (cq6 : q ≠ 80) (cq7 : q ≠ 77) (cq8 : q ≠ 78) (cq9 : q ≠ 76) (cq10 : q ≠ 71) : r.2 q = I q := by
  unfold fX9_put at h
  obtain ⟨r1, er1, h⟩ := ob h
  have q1 : r1.2 q = _ := (zfX9_hand (0 : Int32) v1 v2 v3 v4 I er1 q cq0 cq1 cq2 cq3 cq4 cq5 cq6 cq7 cq8 cq9 cq10).trans rfl
  obtain rfl := Option.some.inj h
  exact q1
set_option maxRecDepth 100000 in
set_option maxHeartbeats 1000000 in
theorem zfX9_take (v1 : Int32) (v2 : Int32) (v3 : Int32) (v4 : Int32) (I : gM) {r : Int32 × gM} (h : fX9_take v1 v2 v3 v4 I = some r) (q : Nat) (cq0 : q ≠ 81) (cq1 : q ≠ 62) (cq2 : q ≠ 70) (cq3 : q ≠ 74) (cq4 : q ≠ 75) (cq5 : q ≠ 79) (cq6 : q ≠ 80) (cq7 : q ≠ 77) (cq8 : q ≠ 78) (cq9 : q ≠ 76) (cq10 : q ≠ 71) : r.2 q = I q := by
  unfold fX9_take at h
  obtain ⟨r1, er1, h⟩ := ob h
  have q1 : r1.2 q = _ := (zfX9_hand (1 : Int32) v1 v2 v3 v4 I er1 q cq0 cq1 cq2 cq3 cq4 cq5 cq6 cq7 cq8 cq9 cq10).trans rfl
  obtain rfl := Option.some.inj h
  exact q1
set_option maxRecDepth 100000 in
set_option maxHeartbeats 1000000 in
theorem zfX9_use (v1 : Int32) (I : gM) {r : Int32 × gM} (h : fX9_use v1 I = some r) (q : Nat) (cq0 : q ≠ 81) (cq1 : q ≠ 62) (cq2 : q ≠ 70) (cq3 : q ≠ 74) (cq4 : q ≠ 75) (cq5 : q ≠ 79) (cq6 : q ≠ 80) (cq7 : q ≠ 77) (cq8 : q ≠ 78) (cq9 : q ≠ 76) (cq10 : q ≠ 71) : r.2 q = I q := by
  unfold fX9_use at h
  obtain ⟨r1, er1, h⟩ := ob h
  have q1 : r1.2 q = _ := (zfX9_hand (2 : Int32) v1 (0 : Int32) (0 : Int32) (0 : Int32) I er1 q cq0 cq1 cq2 cq3 cq4 cq5 cq6 cq7 cq8 cq9 cq10).trans rfl
  obtain rfl := Option.some.inj h
  exact q1
set_option maxRecDepth 100000 in
set_option maxHeartbeats 1000000 in
theorem zfX9_order (v1 : Int32) (I : gM) {r : Int32 × gM} (h : fX9_order v1 I = some r) (q : Nat) (cq0 : q ≠ 81) (cq1 : q ≠ 62) (cq2 : q ≠ 70) (cq3 : q ≠ 74) (cq4 : q ≠ 75) (cq5 : q ≠ 79) (cq6 : q ≠ 80) (cq7 : q ≠ 77) (cq8 : q ≠ 78) (cq9 : q ≠ 76) (cq10 : q ≠ 71) : r.2 q = I q := by
  unfold fX9_order at h
  obtain ⟨r1, er1, h⟩ := ob h
  have q1 : r1.2 q = _ := (zfX9_hand (3 : Int32) v1 (0 : Int32) (0 : Int32) (0 : Int32) I er1 q cq0 cq1 cq2 cq3 cq4 cq5 cq6 cq7 cq8 cq9 cq10).trans rfl
  obtain rfl := Option.some.inj h
  exact q1
set_option maxRecDepth 100000 in
set_option maxHeartbeats 1000000 in
theorem zfX9_tryOne (v1 : Int32) (v2 : Int32) (v3 : Int32) (v4 : Int32) (v5 : Int32) (I : gM) {r : gM} (h : fX9_tryOne v1 v2 v3 v4 v5 I = some r) (q : Nat) (cq0 : q ≠ 81) (cq1 : q ≠ 62) (cq2 : q ≠ 70) (cq3 : q ≠ 74) (cq4 : q ≠ 75) (cq5 : q ≠ 79) (cq6 : q ≠ 80) (cq7 : q ≠ 77) (cq8 : q ≠ 78) (cq9 : q ≠ 76) : r q = I q := by
  unfold fX9_tryOne at h
  obtain ⟨r1, -, h⟩ := ob h
  rcases oi h with ⟨-, h⟩ | ⟨-, h⟩
  · obtain ⟨r2, er2, h⟩ := ob h
    have q1 : r2.2 q = _ := (zfX9_act v1 v2 v3 v4 v5 I er2 q cq0 cq1 cq2 cq3 cq4 cq5 cq6 cq7 cq8 cq9).trans rfl
    obtain rfl := Option.some.inj h
    exact q1
  · obtain rfl := Option.some.inj h
    exact rfl
set_option maxRecDepth 100000 in
set_option maxHeartbeats 1000000 in
theorem zfX9_drawWay (I : gM) (J : gN) {r : gM × gN} (h : fX9_drawWay I J = some r) (q : Nat) (cq0 : q ≠ 81) (cq1 : q ≠ 62) (cq2 : q ≠ 70) (cq3 : q ≠ 74) (cq4 : q ≠ 75) (cq5 : q ≠ 79) (cq6 : q ≠ 80) (cq7 : q ≠ 77) (cq8 : q ≠ 78) (cq9 : q ≠ 76) : r.1 q = I q := by
  unfold fX9_drawWay at h
  obtain ⟨r1, -, h⟩ := ob h
  rcases oi h with ⟨-, h⟩ | ⟨-, h⟩
  · obtain ⟨r2, -, h⟩ := ob h
    obtain ⟨r3, er3, h⟩ := ob h
    have q1 : r3 q = _ := (zfX9_tryOne (3 : Int32) r2.1 (0 : Int32) (0 : Int32) (0 : Int32) I er3 q cq0 cq1 cq2 cq3 cq4 cq5 cq6 cq7 cq8 cq9).trans rfl
    obtain rfl := Option.some.inj h
    exact q1
  · obtain ⟨r4, -, h⟩ := ob h
    rcases oi h with ⟨-, h⟩ | ⟨-, h⟩
    · rcases oi h with ⟨-, h⟩ | ⟨-, h⟩
      · obtain ⟨r5, er5, h⟩ := ob h
        have q2 : r5 q = _ := (zfX9_tryOne (2 : Int32) r4.1 (0 : Int32) (0 : Int32) (0 : Int32) I er5 q cq0 cq1 cq2 cq3 cq4 cq5 cq6 cq7 cq8 cq9).trans rfl
        obtain rfl := Option.some.inj h
        exact q2
      · obtain ⟨r6, -, h⟩ := ob h
        obtain ⟨r7, -, h⟩ := ob h
        rcases oi h with ⟨-, h⟩ | ⟨-, h⟩
        · obtain rfl := Option.some.inj h
          exact rfl
        · obtain ⟨r8, -, h⟩ := ob h
          obtain ⟨u9, -, h⟩ := ob h
          obtain ⟨u10, -, h⟩ := ob h
          obtain ⟨u11, -, h⟩ := ob h
          obtain ⟨r12, er12, h⟩ := ob h
          have q3 : r12 q = _ := (zfX9_tryOne (1 : Int32) r4.1 u9 u10 u11 I er12 q cq0 cq1 cq2 cq3 cq4 cq5 cq6 cq7 cq8 cq9).trans rfl
          obtain rfl := Option.some.inj h
          exact q3
    · obtain ⟨r13, -, h⟩ := ob h
      obtain ⟨u14, -, h⟩ := ob h
      rcases oi h with ⟨-, h⟩ | ⟨-, h⟩
      · unfold bX9_drawWay_69 at h
        obtain ⟨u15, -, h⟩ := ob h
        rcases oi h with ⟨-, h⟩ | ⟨-, h⟩
        · unfold bX9_drawWay_97 at h
          obtain ⟨r16, er16, h⟩ := ob h
          have q4 : r16 q = _ := (zfX9_tryOne (0 : Int32) r4.1 r13.1 ((-1) : Int32) ((-1) : Int32) I er16 q cq0 cq1 cq2 cq3 cq4 cq5 cq6 cq7 cq8 cq9).trans rfl
          obtain rfl := Option.some.inj h
          exact q4
        · obtain ⟨r17, -, h⟩ := ob h
          unfold bX9_drawWay_97 at h
          obtain ⟨r16, er16, h⟩ := ob h
          have q5 : r16 q = _ := (zfX9_tryOne (0 : Int32) r4.1 r13.1 ((-1) : Int32) r17.1 I er16 q cq0 cq1 cq2 cq3 cq4 cq5 cq6 cq7 cq8 cq9).trans rfl
          obtain rfl := Option.some.inj h
          exact q5
      · obtain ⟨r18, -, h⟩ := ob h
        unfold bX9_drawWay_69 at h
        obtain ⟨u15, -, h⟩ := ob h
        rcases oi h with ⟨-, h⟩ | ⟨-, h⟩
        · unfold bX9_drawWay_97 at h
          obtain ⟨r16, er16, h⟩ := ob h
          have q6 : r16 q = _ := (zfX9_tryOne (0 : Int32) r4.1 r13.1 r18.1 ((-1) : Int32) I er16 q cq0 cq1 cq2 cq3 cq4 cq5 cq6 cq7 cq8 cq9).trans rfl
          obtain rfl := Option.some.inj h
          exact q6
        · obtain ⟨r17, -, h⟩ := ob h
          unfold bX9_drawWay_97 at h
          obtain ⟨r16, er16, h⟩ := ob h
          have q7 : r16 q = _ := (zfX9_tryOne (0 : Int32) r4.1 r13.1 r18.1 r17.1 I er16 q cq0 cq1 cq2 cq3 cq4 cq5 cq6 cq7 cq8 cq9).trans rfl
          obtain rfl := Option.some.inj h
          exact q7
set_option maxRecDepth 100000 in
set_option maxHeartbeats 1000000 in
theorem zlX9_ways_27 (v1 : Int32) (s : (Int32 × gM × gN)) {r : gM × gN} (h : lX9_ways_27 v1 s = some r) (q : Nat) (cq0 : q ≠ 81) (cq1 : q ≠ 62) (cq2 : q ≠ 70) (cq3 : q ≠ 74) (cq4 : q ≠ 75) (cq5 : q ≠ 79) (cq6 : q ≠ 80) (cq7 : q ≠ 77) (cq8 : q ≠ 78) (cq9 : q ≠ 76) : r.1 q = s.2.1 q := by
  unfold lX9_ways_27 at h
  revert s
  refine itO_ind (P := fun s : (Int32 × gM × gN) => r.1 q = s.2.1 q) (fun s y h hl hr => ?_)
  rcases oi h with ⟨-, h⟩ | ⟨-, h⟩
  · obtain rfl := Option.some.inj h
    have hh := hr _ rfl
    subst hh
    exact rfl
  · obtain ⟨r4, er4, h⟩ := ob h
    have q1 : r4.1 q = _ := (zfX9_drawWay s.2.1 s.2.2 er4 q cq0 cq1 cq2 cq3 cq4 cq5 cq6 cq7 cq8 cq9).trans rfl
    obtain rfl := Option.some.inj h
    exact (hl _ rfl).trans q1
set_option maxRecDepth 100000 in
set_option maxHeartbeats 1000000 in
theorem zfX9_ways (v1 : Int32) (v2 : Int64) (I : gM) (J : gN) {r : Int32 × gM × gN} (h : fX9_ways v1 v2 I J = some r) (q : Nat) (cq0 : q ≠ 81) (cq1 : q ≠ 62) (cq2 : q ≠ 70) (cq3 : q ≠ 74) (cq4 : q ≠ 75) (cq5 : q ≠ 79) (cq6 : q ≠ 80) (cq7 : q ≠ 77) (cq8 : q ≠ 78) (cq9 : q ≠ 76) : r.2.1 q = I q := by
  unfold fX9_ways at h
  obtain ⟨r1, -, h⟩ := ob h
  rcases oi h with ⟨-, h⟩ | ⟨-, h⟩
  · obtain rfl := Option.some.inj h
    exact rfl
  · obtain ⟨r2, -, h⟩ := ob h
    rcases oi h with ⟨-, h⟩ | ⟨-, h⟩
    · obtain rfl := Option.some.inj h
      exact rfl
    · obtain ⟨J3, -, h⟩ := ob h
      obtain ⟨w5, ew5, h⟩ := ob h
      have q1 : w5.1 q = _ := (zlX9_ways_27 v1 ((0 : Int32), I, J3) ew5 q cq0 cq1 cq2 cq3 cq4 cq5 cq6 cq7 cq8 cq9).trans rfl
      obtain ⟨r6, er6, h⟩ := ob h
      have q2 : r6.2 q = _ := (zfX9_rowsNow w5.1 er6 q cq1 cq3 cq4 cq5 cq6 cq7 cq8 cq9).trans q1
      obtain rfl := Option.some.inj h
      exact q2
set_option maxRecDepth 100000 in
set_option maxHeartbeats 1000000 in
theorem zlX9_undo_21  (s : (Int32 × gM)) {r : gM} (h : lX9_undo_21 s = some r) (q : Nat) (cq0 : q ≠ 70) : r q = s.2 q := by
  unfold lX9_undo_21 at h
  revert s
  refine itO_ind (P := fun s : (Int32 × gM) => r q = s.2 q) (fun s y h hl hr => ?_)
  rcases oi h with ⟨-, h⟩ | ⟨-, h⟩
  · obtain rfl := Option.some.inj h
    have hh := hr _ rfl
    subst hh
    exact rfl
  · obtain ⟨u2, -, h⟩ := ob h
    obtain ⟨I3, eI3, h⟩ := ob h
    have q1 : I3 q = _ := (by rw [← (wI_some eI3).2.2]; exact g_up_row cq0 : I3 q = s.2 q).trans rfl
    obtain rfl := Option.some.inj h
    exact (hl _ rfl).trans q1
set_option maxRecDepth 100000 in
set_option maxHeartbeats 1000000 in
theorem zfX9_undo (I : gM) {r : Int32 × gM} (h : fX9_undo I = some r) (q : Nat) (cq0 : q ≠ 62) (cq1 : q ≠ 70) : r.2 q = I q := by
  unfold fX9_undo at h
  rcases oi h with ⟨-, h⟩ | ⟨-, h⟩
  · obtain rfl := Option.some.inj h
    exact rfl
  · obtain ⟨I1, eI1, h⟩ := ob h
    have q1 : I1 q = _ := (by rw [← pU_some eI1]; exact g_up_row cq0 : I1 q = I q).trans rfl
    obtain ⟨w4, ew4, h⟩ := ob h
    have q2 : w4 q = _ := (zlX9_undo_21 ((0 : Int32), I1) ew4 q cq1).trans q1
    obtain rfl := Option.some.inj h
    exact q2
set_option maxRecDepth 100000 in
set_option maxHeartbeats 1000000 in
theorem zfX9_table (v1 : Int32) (v2 : Int32) (I : gM) {r : Int32 × gM} (h : fX9_table v1 v2 I = some r) (q : Nat) (cq0 : q ≠ 62) : r.2 q = I q := by
  unfold fX9_table at h
  obtain ⟨r1, -, h⟩ := ob h
  rcases oi h with ⟨-, h⟩ | ⟨-, h⟩
  · unfold bX9_table_22 at h
    unfold bX9_table_23 at h
    obtain ⟨I2, eI2, h⟩ := ob h
    have q1 : I2 q = _ := (by rw [← pU_some eI2]; exact g_up_row cq0 : I2 q = I q).trans rfl
    rcases oi h with ⟨-, h⟩ | ⟨-, h⟩
    · obtain rfl := Option.some.inj h
      exact q1
    · rcases oi h with ⟨-, h⟩ | ⟨-, h⟩
      · obtain ⟨u3, -, h⟩ := ob h
        obtain rfl := Option.some.inj h
        exact q1
      · rcases oi h with ⟨-, h⟩ | ⟨-, h⟩
        · obtain ⟨r4, -, h⟩ := ob h
          obtain rfl := Option.some.inj h
          exact q1
        · rcases oi h with ⟨-, h⟩ | ⟨-, h⟩
          · obtain ⟨r5, -, h⟩ := ob h
            obtain rfl := Option.some.inj h
            exact q1
          · obtain ⟨r6, -, h⟩ := ob h
            rcases oi h with ⟨-, h⟩ | ⟨-, h⟩
            · obtain rfl := Option.some.inj h
              exact q1
            · obtain rfl := Option.some.inj h
              exact q1
  · obtain ⟨r7, -, h⟩ := ob h
    rcases oi h with ⟨-, h⟩ | ⟨-, h⟩
    · unfold bX9_table_22 at h
      unfold bX9_table_23 at h
      obtain ⟨I2, eI2, h⟩ := ob h
      have q2 : I2 q = _ := (by rw [← pU_some eI2]; exact g_up_row cq0 : I2 q = I q).trans rfl
      rcases oi h with ⟨-, h⟩ | ⟨-, h⟩
      · obtain rfl := Option.some.inj h
        exact q2
      · rcases oi h with ⟨-, h⟩ | ⟨-, h⟩
        · obtain ⟨u3, -, h⟩ := ob h
          obtain rfl := Option.some.inj h
          exact q2
        · rcases oi h with ⟨-, h⟩ | ⟨-, h⟩
          · obtain ⟨r4, -, h⟩ := ob h
            obtain rfl := Option.some.inj h
            exact q2
          · rcases oi h with ⟨-, h⟩ | ⟨-, h⟩
            · obtain ⟨r5, -, h⟩ := ob h
              obtain rfl := Option.some.inj h
              exact q2
            · obtain ⟨r6, -, h⟩ := ob h
              rcases oi h with ⟨-, h⟩ | ⟨-, h⟩
              · obtain rfl := Option.some.inj h
                exact q2
              · obtain rfl := Option.some.inj h
                exact q2
    · unfold bX9_table_23 at h
      obtain ⟨I2, eI2, h⟩ := ob h
      have q3 : I2 q = _ := (by rw [← pU_some eI2]; exact g_up_row cq0 : I2 q = I q).trans rfl
      rcases oi h with ⟨-, h⟩ | ⟨-, h⟩
      · obtain rfl := Option.some.inj h
        exact q3
      · rcases oi h with ⟨-, h⟩ | ⟨-, h⟩
        · obtain ⟨u3, -, h⟩ := ob h
          obtain rfl := Option.some.inj h
          exact q3
        · rcases oi h with ⟨-, h⟩ | ⟨-, h⟩
          · obtain ⟨r4, -, h⟩ := ob h
            obtain rfl := Option.some.inj h
            exact q3
          · rcases oi h with ⟨-, h⟩ | ⟨-, h⟩
            · obtain ⟨r5, -, h⟩ := ob h
              obtain rfl := Option.some.inj h
              exact q3
            · obtain ⟨r6, -, h⟩ := ob h
              rcases oi h with ⟨-, h⟩ | ⟨-, h⟩
              · obtain rfl := Option.some.inj h
                exact q3
              · obtain rfl := Option.some.inj h
                exact q3
set_option maxRecDepth 100000 in
set_option maxHeartbeats 1000000 in
theorem zfX9_rows (I : gM) {r : Int32 × gM} (h : fX9_rows I = some r) (q : Nat) (cq0 : q ≠ 62) (cq1 : q ≠ 74) (cq2 : q ≠ 75) (cq3 : q ≠ 79) (cq4 : q ≠ 80) (cq5 : q ≠ 77) (cq6 : q ≠ 78) (cq7 : q ≠ 76) : r.2 q = I q := by
  unfold fX9_rows at h
  obtain ⟨r1, -, h⟩ := ob h
  rcases oi h with ⟨-, h⟩ | ⟨-, h⟩
  · obtain rfl := Option.some.inj h
    exact rfl
  · obtain ⟨r2, er2, h⟩ := ob h
    have q1 : r2.2 q = _ := (zfX9_rowsNow I er2 q cq0 cq1 cq2 cq3 cq4 cq5 cq6 cq7).trans rfl
    obtain rfl := Option.some.inj h
    exact q1
set_option maxRecDepth 100000 in
set_option maxHeartbeats 1000000 in
theorem zfX9_row (v1 : Int32) (v2 : Int32) (I : gM) {r : Int32 × gM} (h : fX9_row v1 v2 I = some r) (q : Nat) (cq0 : q ≠ 62) (cq1 : q ≠ 74) (cq2 : q ≠ 75) (cq3 : q ≠ 79) (cq4 : q ≠ 80) (cq5 : q ≠ 77) (cq6 : q ≠ 78) (cq7 : q ≠ 76) : r.2 q = I q := by
  unfold fX9_row at h
  obtain ⟨r1, -, h⟩ := ob h
  rcases oi h with ⟨-, h⟩ | ⟨-, h⟩
  · obtain rfl := Option.some.inj h
    exact rfl
  · rcases oi h with ⟨-, h⟩ | ⟨-, h⟩
    · obtain rfl := Option.some.inj h
      exact rfl
    · obtain ⟨r2, er2, h⟩ := ob h
      have q1 : r2.2 q = _ := (zfX9_rowsNow I er2 q cq0 cq1 cq2 cq3 cq4 cq5 cq6 cq7).trans rfl
      rcases oi h with ⟨-, h⟩ | ⟨-, h⟩
      · obtain rfl := Option.some.inj h
        exact q1
      · obtain ⟨r3, -, h⟩ := ob h
        obtain rfl := Option.some.inj h
        exact q1
set_option maxRecDepth 100000 in
set_option maxHeartbeats 1000000 in
theorem zfX9_leaps_ (I : gM) {r : Int32 × gM} (h : fX9_leaps_ I = some r) (q : Nat) (cq0 : q ≠ 62) (cq1 : q ≠ 74) (cq2 : q ≠ 75) (cq3 : q ≠ 79) (cq4 : q ≠ 80) (cq5 : q ≠ 77) (cq6 : q ≠ 78) (cq7 : q ≠ 76) : r.2 q = I q := by
  unfold fX9_leaps_ at h
  obtain ⟨r1, -, h⟩ := ob h
  rcases oi h with ⟨-, h⟩ | ⟨-, h⟩
  · obtain rfl := Option.some.inj h
    exact rfl
  · obtain ⟨r2, er2, h⟩ := ob h
    have q1 : r2 q = _ := (zfX9_joinsNow I er2 q cq0 cq1 cq2 cq3 cq4 cq5 cq6 cq7).trans rfl
    obtain rfl := Option.some.inj h
    exact q1
set_option maxRecDepth 100000 in
set_option maxHeartbeats 1000000 in
theorem zfX9_beginnings (v1 : Int32) (I : gM) {r : Int32 × gM} (h : fX9_beginnings v1 I = some r) (q : Nat) (cq0 : q ≠ 62) (cq1 : q ≠ 74) (cq2 : q ≠ 75) (cq3 : q ≠ 79) (cq4 : q ≠ 80) (cq5 : q ≠ 77) (cq6 : q ≠ 78) (cq7 : q ≠ 76) : r.2 q = I q := by
  unfold fX9_beginnings at h
  obtain ⟨r1, -, h⟩ := ob h
  rcases oi h with ⟨-, h⟩ | ⟨-, h⟩
  · obtain rfl := Option.some.inj h
    exact rfl
  · rcases oi h with ⟨-, h⟩ | ⟨-, h⟩
    · obtain ⟨r2, er2, h⟩ := ob h
      have q1 : r2 q = _ := (zfX9_joinsNow I er2 q cq0 cq1 cq2 cq3 cq4 cq5 cq6 cq7).trans rfl
      rcases oi h with ⟨-, h⟩ | ⟨-, h⟩
      · obtain rfl := Option.some.inj h
        exact q1
      · obtain ⟨u3, -, h⟩ := ob h
        obtain rfl := Option.some.inj h
        exact q1
    · obtain rfl := Option.some.inj h
      exact rfl
set_option maxRecDepth 100000 in
set_option maxHeartbeats 1000000 in
theorem zlX9_triesOrders_12  (s : (Int32 × gM)) {r : gM} (h : lX9_triesOrders_12 s = some r) (q : Nat) (cq0 : q ≠ 62) (cq1 : q ≠ 74) (cq2 : q ≠ 75) (cq3 : q ≠ 79) (cq4 : q ≠ 80) (cq5 : q ≠ 77) (cq6 : q ≠ 78) (cq7 : q ≠ 76) : r q = s.2 q := by
  unfold lX9_triesOrders_12 at h
  revert s
  refine itO_ind (P := fun s : (Int32 × gM) => r q = s.2 q) (fun s y h hl hr => ?_)
  rcases oi h with ⟨-, h⟩ | ⟨-, h⟩
  · obtain rfl := Option.some.inj h
    have hh := hr _ rfl
    subst hh
    exact rfl
  · obtain ⟨r3, er3, h⟩ := ob h
    have q1 : r3 q = _ := (zfX9_joins s.1 s.2 er3 q cq0 cq1 cq2 cq3 cq4 cq5 cq6 cq7).trans rfl
    rcases oi h with ⟨-, h⟩ | ⟨-, h⟩
    · unfold bX9_triesOrders_42 at h
      obtain ⟨I4, eI4, h⟩ := ob h
      have q2 : I4 q = _ := (by rw [← pU_some eI4]; exact g_up_row cq0 : I4 q = r3 q).trans q1
      obtain ⟨I5, eI5, h⟩ := ob h
      have q3 : I5 q = _ := (by rw [← pU_some eI5]; exact g_up_row cq0 : I5 q = I4 q).trans q2
      unfold bX9_triesOrders_55 at h
      obtain ⟨I6, eI6, h⟩ := ob h
      have q4 : I6 q = _ := (by rw [← pU_some eI6]; exact g_up_row cq0 : I6 q = I5 q).trans q3
      obtain rfl := Option.some.inj h
      exact (hl _ rfl).trans q4
    · rcases oi h with ⟨-, h⟩ | ⟨-, h⟩
      · unfold bX9_triesOrders_55 at h
        obtain ⟨I6, eI6, h⟩ := ob h
        have q5 : I6 q = _ := (by rw [← pU_some eI6]; exact g_up_row cq0 : I6 q = r3 q).trans q1
        obtain rfl := Option.some.inj h
        exact (hl _ rfl).trans q5
      · unfold bX9_triesOrders_42 at h
        obtain ⟨I4, eI4, h⟩ := ob h
        have q6 : I4 q = _ := (by rw [← pU_some eI4]; exact g_up_row cq0 : I4 q = r3 q).trans q1
        obtain ⟨I5, eI5, h⟩ := ob h
        have q7 : I5 q = _ := (by rw [← pU_some eI5]; exact g_up_row cq0 : I5 q = I4 q).trans q6
        unfold bX9_triesOrders_55 at h
        obtain ⟨I6, eI6, h⟩ := ob h
        have q8 : I6 q = _ := (by rw [← pU_some eI6]; exact g_up_row cq0 : I6 q = I5 q).trans q7
        obtain rfl := Option.some.inj h
        exact (hl _ rfl).trans q8
set_option maxRecDepth 100000 in
set_option maxHeartbeats 1000000 in
theorem zfX9_triesOrders (I : gM) {r : gM} (h : fX9_triesOrders I = some r) (q : Nat) (cq0 : q ≠ 62) (cq1 : q ≠ 74) (cq2 : q ≠ 75) (cq3 : q ≠ 79) (cq4 : q ≠ 80) (cq5 : q ≠ 77) (cq6 : q ≠ 78) (cq7 : q ≠ 76) : r q = I q := by
  unfold fX9_triesOrders at h
  obtain ⟨I1, eI1, h⟩ := ob h
  have q1 : I1 q = _ := (by rw [← pU_some eI1]; exact g_up_row cq0 : I1 q = I q).trans rfl
  obtain ⟨I2, eI2, h⟩ := ob h
  have q2 : I2 q = _ := (by rw [← pU_some eI2]; exact g_up_row cq0 : I2 q = I1 q).trans q1
  obtain ⟨w7, ew7, h⟩ := ob h
  have q3 : w7 q = _ := (zlX9_triesOrders_12 ((0 : Int32), I2) ew7 q cq0 cq1 cq2 cq3 cq4 cq5 cq6 cq7).trans q2
  obtain rfl := Option.some.inj h
  exact q3
set_option maxRecDepth 100000 in
set_option maxHeartbeats 1000000 in
theorem zfX9_best (v1 : Int32) (I : gM) {r : Int32 × gM} (h : fX9_best v1 I = some r) (q : Nat) (cq0 : q ≠ 62) (cq1 : q ≠ 74) (cq2 : q ≠ 75) (cq3 : q ≠ 79) (cq4 : q ≠ 80) (cq5 : q ≠ 77) (cq6 : q ≠ 78) (cq7 : q ≠ 76) : r.2 q = I q := by
  unfold fX9_best at h
  obtain ⟨r1, -, h⟩ := ob h
  rcases oi h with ⟨-, h⟩ | ⟨-, h⟩
  · obtain rfl := Option.some.inj h
    exact rfl
  · obtain ⟨r2, -, h⟩ := ob h
    rcases oi h with ⟨-, h⟩ | ⟨-, h⟩
    · obtain rfl := Option.some.inj h
      exact rfl
    · obtain ⟨r3, er3, h⟩ := ob h
      have q1 : r3 q = _ := (zfX9_triesOrders I er3 q cq0 cq1 cq2 cq3 cq4 cq5 cq6 cq7).trans rfl
      rcases oi h with ⟨-, h⟩ | ⟨-, h⟩
      · obtain rfl := Option.some.inj h
        exact q1
      · obtain rfl := Option.some.inj h
        exact q1
set_option maxRecDepth 100000 in
set_option maxHeartbeats 1000000 in
theorem zfX9_given (v1 : Int32) (I : gM) {r : Int32 × gM} (h : fX9_given v1 I = some r) (q : Nat) (cq0 : q ≠ 62) (cq1 : q ≠ 74) (cq2 : q ≠ 75) (cq3 : q ≠ 79) (cq4 : q ≠ 80) (cq5 : q ≠ 77) (cq6 : q ≠ 78) (cq7 : q ≠ 76) : r.2 q = I q := by
  unfold fX9_given at h
  obtain ⟨r1, -, h⟩ := ob h
  rcases oi h with ⟨-, h⟩ | ⟨-, h⟩
  · obtain rfl := Option.some.inj h
    exact rfl
  · obtain ⟨r2, er2, h⟩ := ob h
    have q1 : r2 q = _ := (zfX9_joinsNow I er2 q cq0 cq1 cq2 cq3 cq4 cq5 cq6 cq7).trans rfl
    obtain ⟨r3, -, h⟩ := ob h
    obtain rfl := Option.some.inj h
    exact q1
set_option maxRecDepth 100000 in
set_option maxHeartbeats 1000000 in
theorem zfX9_without (v1 : Int32) (I : gM) {r : Int32 × gM} (h : fX9_without v1 I = some r) (q : Nat) (cq0 : q ≠ 70) (cq1 : q ≠ 62) (cq2 : q ≠ 74) (cq3 : q ≠ 75) (cq4 : q ≠ 79) (cq5 : q ≠ 80) (cq6 : q ≠ 77) (cq7 : q ≠ 78) (cq8 : q ≠ 76) : r.2 q = I q := by
  unfold fX9_without at h
  obtain ⟨r1, -, h⟩ := ob h
  rcases oi h with ⟨-, h⟩ | ⟨-, h⟩
  · obtain rfl := Option.some.inj h
    exact rfl
  · obtain ⟨u2, -, h⟩ := ob h
    rcases oi h with ⟨-, h⟩ | ⟨-, h⟩
    · obtain rfl := Option.some.inj h
      exact rfl
    · obtain ⟨u3, -, h⟩ := ob h
      obtain ⟨u4, -, h⟩ := ob h
      obtain ⟨I5, eI5, h⟩ := ob h
      have q1 : I5 q = _ := (by rw [← (wI_some eI5).2.2]; exact g_up_row cq0 : I5 q = I q).trans rfl
      obtain ⟨r6, er6, h⟩ := ob h
      have q2 : r6.2 q = _ := (zfX9_rowsNow I5 er6 q cq1 cq2 cq3 cq4 cq5 cq6 cq7 cq8).trans q1
      obtain ⟨I7, eI7, h⟩ := ob h
      have q3 : I7 q = _ := (by rw [← (wI_some eI7).2.2]; exact g_up_row cq0 : I7 q = r6.2 q).trans q2
      obtain rfl := Option.some.inj h
      exact q3
set_option maxRecDepth 100000 in
set_option maxHeartbeats 1000000 in
theorem zlX9_counts_6  (s : (Int32 × gM)) {r : gM} (h : lX9_counts_6 s = some r) (q : Nat) (cq0 : q ≠ 82) : r q = s.2 q := by
  unfold lX9_counts_6 at h
  revert s
  refine itO_ind (P := fun s : (Int32 × gM) => r q = s.2 q) (fun s y h hl hr => ?_)
  rcases oi h with ⟨-, h⟩ | ⟨-, h⟩
  · obtain rfl := Option.some.inj h
    have hh := hr _ rfl
    subst hh
    exact rfl
  · obtain ⟨I2, eI2, h⟩ := ob h
    have q1 : I2 q = _ := (by rw [← (wI_some eI2).2.2]; exact g_up_row cq0 : I2 q = s.2 q).trans rfl
    obtain rfl := Option.some.inj h
    exact (hl _ rfl).trans q1
set_option maxRecDepth 100000 in
set_option maxHeartbeats 1000000 in
theorem zlX9_counts_38 (v1 : Int32) (s : (Int32 × gM)) {r : gM} (h : lX9_counts_38 v1 s = some r) (q : Nat) (cq0 : q ≠ 82) : r q = s.2 q := by
  unfold lX9_counts_38 at h
  revert s
  refine itO_ind (P := fun s : (Int32 × gM) => r q = s.2 q) (fun s y h hl hr => ?_)
  rcases oi h with ⟨-, h⟩ | ⟨-, h⟩
  · obtain rfl := Option.some.inj h
    have hh := hr _ rfl
    subst hh
    exact rfl
  · obtain ⟨r4, -, h⟩ := ob h
    obtain ⟨u5, -, h⟩ := ob h
    obtain ⟨I6, eI6, h⟩ := ob h
    have q1 : I6 q = _ := (by rw [← (wI_some eI6).2.2]; exact g_up_row cq0 : I6 q = s.2 q).trans rfl
    obtain rfl := Option.some.inj h
    exact (hl _ rfl).trans q1
set_option maxRecDepth 100000 in
set_option maxHeartbeats 1000000 in
theorem zlX9_counts_28  (s : (Int32 × gM)) {r : gM} (h : lX9_counts_28 s = some r) (q : Nat) (cq0 : q ≠ 82) : r q = s.2 q := by
  unfold lX9_counts_28 at h
  revert s
  refine itO_ind (P := fun s : (Int32 × gM) => r q = s.2 q) (fun s y h hl hr => ?_)
  rcases oi h with ⟨-, h⟩ | ⟨-, h⟩
  · obtain rfl := Option.some.inj h
    have hh := hr _ rfl
    subst hh
    exact rfl
  · obtain ⟨w7, ew7, h⟩ := ob h
    have q1 : w7 q = _ := (zlX9_counts_38 s.1 ((0 : Int32), s.2) ew7 q cq0).trans rfl
    obtain rfl := Option.some.inj h
    exact (hl _ rfl).trans q1
set_option maxRecDepth 100000 in
set_option maxHeartbeats 1000000 in
theorem zlX9_counts_95 (v1 : Int32) (s : (Int32 × gM)) {r : gM} (h : lX9_counts_95 v1 s = some r) (q : Nat) (cq0 : q ≠ 83) (cq1 : q ≠ 84) : r q = s.2 q := by
  unfold lX9_counts_95 at h
  revert s
  refine itO_ind (P := fun s : (Int32 × gM) => r q = s.2 q) (fun s y h hl hr => ?_)
  rcases oi h with ⟨-, h⟩ | ⟨-, h⟩
  · obtain rfl := Option.some.inj h
    have hh := hr _ rfl
    subst hh
    exact rfl
  · obtain ⟨u10, -, h⟩ := ob h
    obtain ⟨I11, eI11, h⟩ := ob h
    have q1 : I11 q = _ := (by rw [← (wI_some eI11).2.2]; exact g_up_row cq0 : I11 q = s.2 q).trans rfl
    obtain ⟨u12, -, h⟩ := ob h
    obtain ⟨u13, -, h⟩ := ob h
    rcases oi h with ⟨-, h⟩ | ⟨-, h⟩
    · unfold bX9_counts_144 at h
      obtain ⟨I14, eI14, h⟩ := ob h
      have q2 : I14 q = _ := (by rw [← (wI_some eI14).2.2]; exact g_up_row cq1 : I14 q = I11 q).trans q1
      obtain rfl := Option.some.inj h
      exact (hl _ rfl).trans q2
    · unfold bX9_counts_144 at h
      obtain ⟨I14, eI14, h⟩ := ob h
      have q3 : I14 q = _ := (by rw [← (wI_some eI14).2.2]; exact g_up_row cq1 : I14 q = I11 q).trans q1
      obtain rfl := Option.some.inj h
      exact (hl _ rfl).trans q3
set_option maxRecDepth 100000 in
set_option maxHeartbeats 1000000 in
theorem zlX9_counts_81  (s : (Int32 × gM)) {r : gM} (h : lX9_counts_81 s = some r) (q : Nat) (cq0 : q ≠ 84) (cq1 : q ≠ 83) : r q = s.2 q := by
  unfold lX9_counts_81 at h
  revert s
  refine itO_ind (P := fun s : (Int32 × gM) => r q = s.2 q) (fun s y h hl hr => ?_)
  rcases oi h with ⟨-, h⟩ | ⟨-, h⟩
  · obtain rfl := Option.some.inj h
    have hh := hr _ rfl
    subst hh
    exact rfl
  · obtain ⟨I9, eI9, h⟩ := ob h
    have q1 : I9 q = _ := (by rw [← (wI_some eI9).2.2]; exact g_up_row cq0 : I9 q = s.2 q).trans rfl
    obtain ⟨w15, ew15, h⟩ := ob h
    have q2 : w15 q = _ := (zlX9_counts_95 s.1 ((0 : Int32), I9) ew15 q cq1 cq0).trans q1
    obtain rfl := Option.some.inj h
    exact (hl _ rfl).trans q2
set_option maxRecDepth 100000 in
set_option maxHeartbeats 1000000 in
theorem zfX9_counts (I : gM) {r : gM} (h : fX9_counts I = some r) (q : Nat) (cq0 : q ≠ 62) (cq1 : q ≠ 74) (cq2 : q ≠ 75) (cq3 : q ≠ 79) (cq4 : q ≠ 80) (cq5 : q ≠ 77) (cq6 : q ≠ 78) (cq7 : q ≠ 76) (cq8 : q ≠ 82) (cq9 : q ≠ 84) (cq10 : q ≠ 83) : r q = I q := by
  unfold fX9_counts at h
  obtain ⟨r1, er1, h⟩ := ob h
  have q1 : r1 q = _ := (zfX9_joinsNow I er1 q cq0 cq1 cq2 cq3 cq4 cq5 cq6 cq7).trans rfl
  obtain ⟨w3, ew3, h⟩ := ob h
  have q2 : w3 q = _ := (zlX9_counts_6 ((0 : Int32), r1) ew3 q cq8).trans q1
  obtain ⟨w8, ew8, h⟩ := ob h
  have q3 : w8 q = _ := (zlX9_counts_28 ((0 : Int32), w3) ew8 q cq8).trans q2
  obtain ⟨w16, ew16, h⟩ := ob h
  have q4 : w16 q = _ := (zlX9_counts_81 ((0 : Int32), w8) ew16 q cq9 cq10).trans q3
  obtain rfl := Option.some.inj h
  exact q4
set_option maxRecDepth 100000 in
set_option maxHeartbeats 1000000 in
theorem zlX9_projected_36  (s : (Int32 × gM)) {r : gM} (h : lX9_projected_36 s = some r) (q : Nat) (cq0 : q ≠ 85) : r q = s.2 q := by
  unfold lX9_projected_36 at h
  revert s
  refine itO_ind (P := fun s : (Int32 × gM) => r q = s.2 q) (fun s y h hl hr => ?_)
  rcases oi h with ⟨-, h⟩ | ⟨-, h⟩
  · obtain rfl := Option.some.inj h
    have hh := hr _ rfl
    subst hh
    exact rfl
  · obtain ⟨I5, eI5, h⟩ := ob h
    have q1 : I5 q = _ := (by rw [← (wI_some eI5).2.2]; exact g_up_row cq0 : I5 q = s.2 q).trans rfl
    obtain rfl := Option.some.inj h
    exact (hl _ rfl).trans q1
set_option maxRecDepth 100000 in
set_option maxHeartbeats 1000000 in
theorem zlX9_projected_60 (v1 : Int32) (s : (Int32 × Int32 × gM)) {r : Int32 × gM} (h : lX9_projected_60 v1 s = some r) (q : Nat) (cq0 : q ≠ 85) : r.2 q = s.2.2 q := by
  unfold lX9_projected_60 at h
  revert s
  refine itO_ind (P := fun s : (Int32 × Int32 × gM) => r.2 q = s.2.2 q) (fun s y h hl hr => ?_)
  rcases oi h with ⟨-, h⟩ | ⟨-, h⟩
  · obtain rfl := Option.some.inj h
    have hh := hr _ rfl
    subst hh
    exact rfl
  · obtain ⟨w10, -, h⟩ := ob h
    obtain ⟨u11, -, h⟩ := ob h
    rcases oi h with ⟨-, h⟩ | ⟨-, h⟩
    · unfold bX9_projected_142 at h
      obtain ⟨I12, eI12, h⟩ := ob h
      have q1 : I12 q = _ := (by rw [← (wI_some eI12).2.2]; exact g_up_row cq0 : I12 q = s.2.2 q).trans rfl
      obtain rfl := Option.some.inj h
      exact (hl _ rfl).trans q1
    · unfold bX9_projected_142 at h
      obtain ⟨I12, eI12, h⟩ := ob h
      have q2 : I12 q = _ := (by rw [← (wI_some eI12).2.2]; exact g_up_row cq0 : I12 q = s.2.2 q).trans rfl
      obtain rfl := Option.some.inj h
      exact (hl _ rfl).trans q2
set_option maxRecDepth 100000 in
set_option maxHeartbeats 1000000 in
theorem zfX9_projected (v1 : Int32) (I : gM) {r : Int32 × gM} (h : fX9_projected v1 I = some r) (q : Nat) (cq0 : q ≠ 62) (cq1 : q ≠ 74) (cq2 : q ≠ 75) (cq3 : q ≠ 79) (cq4 : q ≠ 80) (cq5 : q ≠ 77) (cq6 : q ≠ 78) (cq7 : q ≠ 76) (cq8 : q ≠ 82) (cq9 : q ≠ 84) (cq10 : q ≠ 83) (cq11 : q ≠ 85) : r.2 q = I q := by
  unfold fX9_projected at h
  obtain ⟨r1, -, h⟩ := ob h
  rcases oi h with ⟨-, h⟩ | ⟨-, h⟩
  · obtain rfl := Option.some.inj h
    exact rfl
  · obtain ⟨r2, -, h⟩ := ob h
    rcases oi h with ⟨-, h⟩ | ⟨-, h⟩
    · obtain rfl := Option.some.inj h
      exact rfl
    · obtain ⟨r3, -, h⟩ := ob h
      rcases oi h with ⟨-, h⟩ | ⟨-, h⟩
      · obtain ⟨r4, er4, h⟩ := ob h
        have q1 : r4 q = _ := (zfX9_counts I er4 q cq0 cq1 cq2 cq3 cq4 cq5 cq6 cq7 cq8 cq9 cq10).trans rfl
        obtain ⟨w6, ew6, h⟩ := ob h
        have q2 : w6 q = _ := (zlX9_projected_36 ((0 : Int32), r4) ew6 q cq11).trans q1
        obtain ⟨w13, ew13, h⟩ := ob h
        have q3 : w13.2 q = _ := (zlX9_projected_60 v1 ((0 : Int32), (0 : Int32), w6) ew13 q cq11).trans q2
        obtain rfl := Option.some.inj h
        exact q3
      · obtain rfl := Option.some.inj h
        exact rfl
set_option maxRecDepth 100000 in
set_option maxHeartbeats 1000000 in
theorem zfX9_times (v1 : Int32) (v2 : Int32) (I : gM) {r : Int32 × gM} (h : fX9_times v1 v2 I = some r) (q : Nat) (cq0 : q ≠ 62) (cq1 : q ≠ 74) (cq2 : q ≠ 75) (cq3 : q ≠ 79) (cq4 : q ≠ 80) (cq5 : q ≠ 77) (cq6 : q ≠ 78) (cq7 : q ≠ 76) (cq8 : q ≠ 82) (cq9 : q ≠ 84) (cq10 : q ≠ 83) : r.2 q = I q := by
  unfold fX9_times at h
  obtain ⟨r1, -, h⟩ := ob h
  rcases oi h with ⟨-, h⟩ | ⟨-, h⟩
  · obtain rfl := Option.some.inj h
    exact rfl
  · obtain ⟨r2, er2, h⟩ := ob h
    have q1 : r2 q = _ := (zfX9_counts I er2 q cq0 cq1 cq2 cq3 cq4 cq5 cq6 cq7 cq8 cq9 cq10).trans rfl
    obtain ⟨r3, -, h⟩ := ob h
    rcases oi h with ⟨-, h⟩ | ⟨-, h⟩
    · obtain rfl := Option.some.inj h
      exact q1
    · obtain ⟨u4, -, h⟩ := ob h
      obtain rfl := Option.some.inj h
      exact q1
set_option maxRecDepth 100000 in
set_option maxHeartbeats 1000000 in
theorem zfX9_distinct (v1 : Int32) (v2 : Int32) (I : gM) {r : Int32 × gM} (h : fX9_distinct v1 v2 I = some r) (q : Nat) (cq0 : q ≠ 62) (cq1 : q ≠ 74) (cq2 : q ≠ 75) (cq3 : q ≠ 79) (cq4 : q ≠ 80) (cq5 : q ≠ 77) (cq6 : q ≠ 78) (cq7 : q ≠ 76) (cq8 : q ≠ 82) (cq9 : q ≠ 84) (cq10 : q ≠ 83) : r.2 q = I q := by
  unfold fX9_distinct at h
  obtain ⟨r1, -, h⟩ := ob h
  rcases oi h with ⟨-, h⟩ | ⟨-, h⟩
  · obtain rfl := Option.some.inj h
    exact rfl
  · obtain ⟨r2, -, h⟩ := ob h
    rcases oi h with ⟨-, h⟩ | ⟨-, h⟩
    · obtain rfl := Option.some.inj h
      exact rfl
    · obtain ⟨r3, er3, h⟩ := ob h
      have q1 : r3 q = _ := (zfX9_counts I er3 q cq0 cq1 cq2 cq3 cq4 cq5 cq6 cq7 cq8 cq9 cq10).trans rfl
      rcases oi h with ⟨-, h⟩ | ⟨-, h⟩
      · obtain ⟨u4, -, h⟩ := ob h
        obtain rfl := Option.some.inj h
        exact q1
      · obtain ⟨r5, -, h⟩ := ob h
        obtain rfl := Option.some.inj h
        exact q1
set_option maxRecDepth 100000 in
set_option maxHeartbeats 1000000 in
theorem zlX9_isTold_2  (s : (Int32 × gM)) {r : gM} (h : lX9_isTold_2 s = some r) (q : Nat) (cq0 : q ≠ 86) : r q = s.2 q := by
  unfold lX9_isTold_2 at h
  revert s
  refine itO_ind (P := fun s : (Int32 × gM) => r q = s.2 q) (fun s y h hl hr => ?_)
  rcases oi h with ⟨-, h⟩ | ⟨-, h⟩
  · obtain rfl := Option.some.inj h
    have hh := hr _ rfl
    subst hh
    exact rfl
  · obtain ⟨I1, eI1, h⟩ := ob h
    have q1 : I1 q = _ := (by rw [← (wI_some eI1).2.2]; exact g_up_row cq0 : I1 q = s.2 q).trans rfl
    obtain rfl := Option.some.inj h
    exact (hl _ rfl).trans q1
set_option maxRecDepth 100000 in
set_option maxHeartbeats 1000000 in
theorem zlX9_isTold_26 (v1 : Int32) (v2 : Int32) (s : (Int32 × Int32 × gM)) {r : Int32 × gM} (h : lX9_isTold_26 v1 v2 s = some r) (q : Nat) (cq0 : q ≠ 86) : r.2 q = s.2.2 q := by
  unfold lX9_isTold_26 at h
  revert s
  refine itO_ind (P := fun s : (Int32 × Int32 × gM) => r.2 q = s.2.2 q) (fun s y h hl hr => ?_)
  rcases oi h with ⟨-, h⟩ | ⟨-, h⟩
  · obtain rfl := Option.some.inj h
    have hh := hr _ rfl
    subst hh
    exact rfl
  · obtain ⟨r3, -, h⟩ := ob h
    rcases oi h with ⟨-, h⟩ | ⟨-, h⟩
    · unfold bX9_isTold_80 at h
      unfold bX9_isTold_81 at h
      obtain ⟨r4, -, h⟩ := ob h
      obtain ⟨I5, eI5, h⟩ := ob h
      have q1 : I5 q = _ := (by rw [← (wI_some eI5).2.2]; exact g_up_row cq0 : I5 q = s.2.2 q).trans rfl
      obtain rfl := Option.some.inj h
      exact (hl _ rfl).trans q1
    · obtain ⟨u6, -, h⟩ := ob h
      rcases oi h with ⟨-, h⟩ | ⟨-, h⟩
      · unfold bX9_isTold_76 at h
        unfold bX9_isTold_81 at h
        obtain ⟨r4, -, h⟩ := ob h
        obtain ⟨I5, eI5, h⟩ := ob h
        have q2 : I5 q = _ := (by rw [← (wI_some eI5).2.2]; exact g_up_row cq0 : I5 q = s.2.2 q).trans rfl
        obtain rfl := Option.some.inj h
        exact (hl _ rfl).trans q2
      · obtain ⟨u7, -, h⟩ := ob h
        obtain ⟨r8, -, h⟩ := ob h
        rcases oi h with ⟨-, h⟩ | ⟨-, h⟩
        · unfold bX9_isTold_76 at h
          unfold bX9_isTold_81 at h
          obtain ⟨r4, -, h⟩ := ob h
          obtain ⟨I5, eI5, h⟩ := ob h
          have q3 : I5 q = _ := (by rw [← (wI_some eI5).2.2]; exact g_up_row cq0 : I5 q = s.2.2 q).trans rfl
          obtain rfl := Option.some.inj h
          exact (hl _ rfl).trans q3
        · unfold bX9_isTold_80 at h
          unfold bX9_isTold_81 at h
          obtain ⟨r4, -, h⟩ := ob h
          obtain ⟨I5, eI5, h⟩ := ob h
          have q4 : I5 q = _ := (by rw [← (wI_some eI5).2.2]; exact g_up_row cq0 : I5 q = s.2.2 q).trans rfl
          obtain rfl := Option.some.inj h
          exact (hl _ rfl).trans q4
set_option maxRecDepth 100000 in
set_option maxHeartbeats 1000000 in
theorem zfX9_isTold (v1 : Int32) (v2 : Int32) (I : gM) {r : Int32 × gM} (h : fX9_isTold v1 v2 I = some r) (q : Nat) (cq0 : q ≠ 86) : r.2 q = I q := by
  unfold fX9_isTold at h
  obtain ⟨w2, ew2, h⟩ := ob h
  have q1 : w2 q = _ := (zlX9_isTold_2 ((0 : Int32), I) ew2 q cq0).trans rfl
  obtain ⟨w9, ew9, h⟩ := ob h
  have q2 : w9.2 q = _ := (zlX9_isTold_26 v1 v2 ((1 : Int32), (0 : Int32), w2) ew9 q cq0).trans q1
  obtain ⟨u10, -, h⟩ := ob h
  obtain rfl := Option.some.inj h
  exact q2
set_option maxRecDepth 100000 in
set_option maxHeartbeats 1000000 in
theorem zfX9_tells (v1 : Int32) (v2 : Int32) (I : gM) {r : Int32 × gM} (h : fX9_tells v1 v2 I = some r) (q : Nat) (cq0 : q ≠ 62) (cq1 : q ≠ 74) (cq2 : q ≠ 75) (cq3 : q ≠ 79) (cq4 : q ≠ 80) (cq5 : q ≠ 77) (cq6 : q ≠ 78) (cq7 : q ≠ 76) (cq8 : q ≠ 86) : r.2 q = I q := by
  unfold fX9_tells at h
  obtain ⟨r1, -, h⟩ := ob h
  rcases oi h with ⟨-, h⟩ | ⟨-, h⟩
  · obtain rfl := Option.some.inj h
    exact rfl
  · obtain ⟨r2, -, h⟩ := ob h
    rcases oi h with ⟨-, h⟩ | ⟨-, h⟩
    · obtain rfl := Option.some.inj h
      exact rfl
    · obtain ⟨r3, er3, h⟩ := ob h
      have q1 : r3 q = _ := (zfX9_joinsNow I er3 q cq0 cq1 cq2 cq3 cq4 cq5 cq6 cq7).trans rfl
      obtain ⟨r4, er4, h⟩ := ob h
      have q2 : r4.2 q = _ := (zfX9_isTold v1 v2 r3 er4 q cq8).trans q1
      obtain ⟨u5, -, h⟩ := ob h
      obtain rfl := Option.some.inj h
      exact q2
set_option maxRecDepth 100000 in
set_option maxHeartbeats 1000000 in
theorem zfX9_takesFour (v1 : Int32) (v2 : Int32) (v3 : Int32) (v4 : Int32) (I : gM) {r : gM} (h : fX9_takesFour v1 v2 v3 v4 I = some r) (q : Nat) (cq0 : q ≠ 87) : r q = I q := by
  unfold fX9_takesFour at h
  obtain ⟨I1, eI1, h⟩ := ob h
  have q1 : I1 q = _ := (by rw [← (wI_some eI1).2.2]; exact g_up_row cq0 : I1 q = I q).trans rfl
  obtain ⟨I2, eI2, h⟩ := ob h
  have q2 : I2 q = _ := (by rw [← (wI_some eI2).2.2]; exact g_up_row cq0 : I2 q = I1 q).trans q1
  obtain ⟨I3, eI3, h⟩ := ob h
  have q3 : I3 q = _ := (by rw [← (wI_some eI3).2.2]; exact g_up_row cq0 : I3 q = I2 q).trans q2
  obtain ⟨I4, eI4, h⟩ := ob h
  have q4 : I4 q = _ := (by rw [← (wI_some eI4).2.2]; exact g_up_row cq0 : I4 q = I3 q).trans q3
  obtain rfl := Option.some.inj h
  exact q4
set_option maxRecDepth 100000 in
set_option maxHeartbeats 1000000 in
theorem zfX9_behind (v1 : Int32) (v2 : Int32) (v3 : Int32) (v4 : Int32) (I : gM) {r : Int32 × gM} (h : fX9_behind v1 v2 v3 v4 I = some r) (q : Nat) (cq0 : q ≠ 87) (cq1 : q ≠ 62) (cq2 : q ≠ 74) (cq3 : q ≠ 75) (cq4 : q ≠ 79) (cq5 : q ≠ 80) (cq6 : q ≠ 77) (cq7 : q ≠ 78) (cq8 : q ≠ 76) : r.2 q = I q := by
  unfold fX9_behind at h
  obtain ⟨r1, -, h⟩ := ob h
  rcases oi h with ⟨-, h⟩ | ⟨-, h⟩
  · obtain rfl := Option.some.inj h
    exact rfl
  · obtain ⟨r2, er2, h⟩ := ob h
    have q1 : r2 q = _ := (zfX9_takesFour v1 v2 v3 v4 I er2 q cq0).trans rfl
    obtain ⟨r3, er3, h⟩ := ob h
    have q2 : r3 q = _ := (zfX9_joinsNow r2 er3 q cq1 cq2 cq3 cq4 cq5 cq6 cq7 cq8).trans q1
    obtain ⟨w5, -, h⟩ := ob h
    rcases w5 with w5_0 | w5_1
    · replace h := oE1 h
      obtain rfl := Option.some.inj h
      exact q2
    · replace h := oE2 h
      obtain rfl := Option.some.inj h
      exact q2
set_option maxRecDepth 100000 in
set_option maxHeartbeats 1000000 in
theorem zfX9_has_ (v1 : Int32) (v2 : Int32) (v3 : Int32) (v4 : Int32) (I : gM) {r : Int32 × gM} (h : fX9_has_ v1 v2 v3 v4 I = some r) (q : Nat) (cq0 : q ≠ 87) (cq1 : q ≠ 62) (cq2 : q ≠ 74) (cq3 : q ≠ 75) (cq4 : q ≠ 79) (cq5 : q ≠ 80) (cq6 : q ≠ 77) (cq7 : q ≠ 78) (cq8 : q ≠ 76) : r.2 q = I q := by
  unfold fX9_has_ at h
  obtain ⟨r1, -, h⟩ := ob h
  rcases oi h with ⟨-, h⟩ | ⟨-, h⟩
  · obtain rfl := Option.some.inj h
    exact rfl
  · obtain ⟨r2, er2, h⟩ := ob h
    have q1 : r2 q = _ := (zfX9_takesFour v1 v2 v3 v4 I er2 q cq0).trans rfl
    obtain ⟨r3, er3, h⟩ := ob h
    have q2 : r3 q = _ := (zfX9_joinsNow r2 er3 q cq1 cq2 cq3 cq4 cq5 cq6 cq7 cq8).trans q1
    obtain ⟨w5, -, h⟩ := ob h
    rcases w5 with w5_0 | w5_1
    · replace h := oE1 h
      obtain rfl := Option.some.inj h
      exact q2
    · replace h := oE2 h
      obtain rfl := Option.some.inj h
      exact q2
set_option maxRecDepth 100000 in
set_option maxHeartbeats 1000000 in
theorem zfX9_hasMean (v1 : Int32) (I : gM) {r : Int32 × gM} (h : fX9_hasMean v1 I = some r) (q : Nat) (cq0 : q ≠ 62) (cq1 : q ≠ 74) (cq2 : q ≠ 75) (cq3 : q ≠ 79) (cq4 : q ≠ 80) (cq5 : q ≠ 77) (cq6 : q ≠ 78) (cq7 : q ≠ 76) : r.2 q = I q := by
  unfold fX9_hasMean at h
  obtain ⟨r1, -, h⟩ := ob h
  rcases oi h with ⟨-, h⟩ | ⟨-, h⟩
  · obtain rfl := Option.some.inj h
    exact rfl
  · obtain ⟨r2, er2, h⟩ := ob h
    have q1 : r2.2 q = _ := (zfX9_rowsNow I er2 q cq0 cq1 cq2 cq3 cq4 cq5 cq6 cq7).trans rfl
    rcases oi h with ⟨-, h⟩ | ⟨-, h⟩
    · obtain rfl := Option.some.inj h
      exact q1
    · obtain rfl := Option.some.inj h
      exact q1
set_option maxRecDepth 100000 in
set_option maxHeartbeats 1000000 in
theorem zlX9_putAside_2  (s : (Int32 × gM)) {r : gM} (h : lX9_putAside_2 s = some r) (q : Nat) (cq0 : q ≠ 88) : r q = s.2 q := by
  unfold lX9_putAside_2 at h
  revert s
  refine itO_ind (P := fun s : (Int32 × gM) => r q = s.2 q) (fun s y h hl hr => ?_)
  rcases oi h with ⟨-, h⟩ | ⟨-, h⟩
  · obtain rfl := Option.some.inj h
    have hh := hr _ rfl
    subst hh
    exact rfl
  · obtain ⟨u1, -, h⟩ := ob h
    obtain ⟨I2, eI2, h⟩ := ob h
    have q1 : I2 q = _ := (by rw [← (wI_some eI2).2.2]; exact g_up_row cq0 : I2 q = s.2 q).trans rfl
    obtain rfl := Option.some.inj h
    exact (hl _ rfl).trans q1
set_option maxRecDepth 100000 in
set_option maxHeartbeats 1000000 in
theorem zfX9_putAside (I : gM) {r : gM} (h : fX9_putAside I = some r) (q : Nat) (cq0 : q ≠ 88) : r q = I q := by
  unfold fX9_putAside at h
  obtain ⟨w3, ew3, h⟩ := ob h
  have q1 : w3 q = _ := (zlX9_putAside_2 ((0 : Int32), I) ew3 q cq0).trans rfl
  obtain rfl := Option.some.inj h
  exact q1
set_option maxRecDepth 100000 in
set_option maxHeartbeats 1000000 in
theorem zlX9_bringBack_2  (s : (Int32 × gM)) {r : gM} (h : lX9_bringBack_2 s = some r) (q : Nat) (cq0 : q ≠ 70) : r q = s.2 q := by
  unfold lX9_bringBack_2 at h
  revert s
  refine itO_ind (P := fun s : (Int32 × gM) => r q = s.2 q) (fun s y h hl hr => ?_)
  rcases oi h with ⟨-, h⟩ | ⟨-, h⟩
  · obtain rfl := Option.some.inj h
    have hh := hr _ rfl
    subst hh
    exact rfl
  · obtain ⟨u1, -, h⟩ := ob h
    obtain ⟨I2, eI2, h⟩ := ob h
    have q1 : I2 q = _ := (by rw [← (wI_some eI2).2.2]; exact g_up_row cq0 : I2 q = s.2 q).trans rfl
    obtain rfl := Option.some.inj h
    exact (hl _ rfl).trans q1
set_option maxRecDepth 100000 in
set_option maxHeartbeats 1000000 in
theorem zfX9_bringBack (I : gM) {r : gM} (h : fX9_bringBack I = some r) (q : Nat) (cq0 : q ≠ 70) : r q = I q := by
  unfold fX9_bringBack at h
  obtain ⟨w3, ew3, h⟩ := ob h
  have q1 : w3 q = _ := (zlX9_bringBack_2 ((0 : Int32), I) ew3 q cq0).trans rfl
  obtain rfl := Option.some.inj h
  exact q1
set_option maxRecDepth 100000 in
set_option maxHeartbeats 1000000 in
theorem zfX9_would (v1 : Int32) (v2 : Int32) (v3 : Int32) (v4 : Int32) (v5 : Int32) (I : gM) {r : Int32 × gM} (h : fX9_would v1 v2 v3 v4 v5 I = some r) (q : Nat) (cq0 : q ≠ 88) (cq1 : q ≠ 70) (cq2 : q ≠ 62) (cq3 : q ≠ 74) (cq4 : q ≠ 75) (cq5 : q ≠ 79) (cq6 : q ≠ 80) (cq7 : q ≠ 77) (cq8 : q ≠ 78) (cq9 : q ≠ 76) : r.2 q = I q := by
  unfold fX9_would at h
  obtain ⟨r1, -, h⟩ := ob h
  rcases oi h with ⟨-, h⟩ | ⟨-, h⟩
  · obtain ⟨r2, -, h⟩ := ob h
    rcases oi h with ⟨-, h⟩ | ⟨-, h⟩
    · obtain rfl := Option.some.inj h
      exact rfl
    · obtain ⟨r3, er3, h⟩ := ob h
      have q1 : r3 q = _ := (zfX9_putAside I er3 q cq0).trans rfl
      obtain ⟨r4, er4, h⟩ := ob h
      have q2 : r4.2 q = _ := (zfX9_putsNow v1 v2 v3 v4 r3 er4 q cq1).trans q1
      obtain ⟨r5, er5, h⟩ := ob h
      have q3 : r5 q = _ := (zfX9_joinsNow r4.2 er5 q cq2 cq3 cq4 cq5 cq6 cq7 cq8 cq9).trans q2
      obtain ⟨r6, er6, h⟩ := ob h
      have q4 : r6 q = _ := (zfX9_bringBack r5 er6 q cq1).trans q3
      rcases oi h with ⟨-, h⟩ | ⟨-, h⟩
      · obtain rfl := Option.some.inj h
        exact q4
      · obtain rfl := Option.some.inj h
        exact q4
  · obtain rfl := Option.some.inj h
    exact rfl
set_option maxRecDepth 100000 in
set_option maxHeartbeats 1000000 in
theorem zlX9_goSteps_2 (v1 : Int32) (v2 : Int32) (s : (Int32 × gM)) {r : (Int32 × gM) ⊕ (gM)} (h : lX9_goSteps_2 v1 v2 s = some r) (q : Nat) (cq0 : q ≠ 70) (cq1 : q ≠ 81) (cq2 : q ≠ 62) (cq3 : q ≠ 74) (cq4 : q ≠ 75) (cq5 : q ≠ 79) (cq6 : q ≠ 80) (cq7 : q ≠ 77) (cq8 : q ≠ 78) (cq9 : q ≠ 76) : ((Sum.elim (fun x : Int32 × gM => x.2 q) (fun x : gM => x q)) r) = s.2 q := by
  unfold lX9_goSteps_2 at h
  revert s
  refine itO_ind (P := fun s : (Int32 × gM) => ((Sum.elim (fun x : Int32 × gM => x.2 q) (fun x : gM => x q)) r) = s.2 q) (fun s y h hl hr => ?_)
  obtain ⟨u1, -, h⟩ := ob h
  rcases oi h with ⟨-, h⟩ | ⟨-, h⟩
  · obtain rfl := Option.some.inj h
    have hh := hr _ rfl
    subst hh
    exact rfl
  · obtain ⟨u2, -, h⟩ := ob h
    obtain ⟨u3, -, h⟩ := ob h
    obtain ⟨u4, -, h⟩ := ob h
    obtain ⟨u5, -, h⟩ := ob h
    obtain ⟨u6, -, h⟩ := ob h
    obtain ⟨r7, -, h⟩ := ob h
    rcases oi h with ⟨-, h⟩ | ⟨-, h⟩
    · rcases oi h with ⟨-, h⟩ | ⟨-, h⟩
      · obtain ⟨u8, -, h⟩ := ob h
        obtain ⟨u9, -, h⟩ := ob h
        obtain ⟨u10, -, h⟩ := ob h
        obtain ⟨u11, -, h⟩ := ob h
        obtain ⟨u12, -, h⟩ := ob h
        obtain ⟨r13, er13, h⟩ := ob h
        have q1 : r13.2 q = _ := (zfX9_doNow u8 u9 u10 u11 u12 s.2 er13 q cq0).trans rfl
        unfold bX9_goSteps_178 at h
        obtain rfl := Option.some.inj h
        exact (hl _ rfl).trans q1
      · obtain ⟨u14, -, h⟩ := ob h
        obtain ⟨u15, -, h⟩ := ob h
        obtain ⟨u16, -, h⟩ := ob h
        obtain ⟨u17, -, h⟩ := ob h
        obtain ⟨u18, -, h⟩ := ob h
        obtain ⟨r19, er19, h⟩ := ob h
        have q2 : r19.2 q = _ := (zfX9_act u14 u15 u16 u17 u18 s.2 er19 q cq1 cq2 cq0 cq3 cq4 cq5 cq6 cq7 cq8 cq9).trans rfl
        unfold bX9_goSteps_178 at h
        obtain rfl := Option.some.inj h
        exact (hl _ rfl).trans q2
    · obtain rfl := Option.some.inj h
      have hh := hr _ rfl
      subst hh
      exact rfl
set_option maxRecDepth 100000 in
set_option maxHeartbeats 1000000 in
theorem zfX9_goSteps (v1 : Int32) (v2 : Int32) (I : gM) {r : Int32 × gM} (h : fX9_goSteps v1 v2 I = some r) (q : Nat) (cq0 : q ≠ 70) (cq1 : q ≠ 81) (cq2 : q ≠ 62) (cq3 : q ≠ 74) (cq4 : q ≠ 75) (cq5 : q ≠ 79) (cq6 : q ≠ 80) (cq7 : q ≠ 77) (cq8 : q ≠ 78) (cq9 : q ≠ 76) : r.2 q = I q := by
  unfold fX9_goSteps at h
  obtain ⟨w20, ew20, h⟩ := ob h
  have q1 := (zlX9_goSteps_2 v1 v2 ((0 : Int32), I) ew20 q cq0 cq1 cq2 cq3 cq4 cq5 cq6 cq7 cq8 cq9).trans rfl
  rcases w20 with w20_0 | w20_1
  · replace h := oE1 h
    have q2 : w20_0.2 q = _ := q1
    obtain rfl := Option.some.inj h
    exact q2
  · replace h := oE2 h
    have q3 : w20_1 q = _ := q1
    obtain ⟨u21, -, h⟩ := ob h
    obtain rfl := Option.some.inj h
    exact q3
set_option maxRecDepth 100000 in
set_option maxHeartbeats 1000000 in
theorem zfX9_run (v1 : Int32) (v2 : Int32) (I : gM) {r : Int32 × gM} (h : fX9_run v1 v2 I = some r) (q : Nat) (cq0 : q ≠ 88) (cq1 : q ≠ 70) (cq2 : q ≠ 81) (cq3 : q ≠ 62) (cq4 : q ≠ 74) (cq5 : q ≠ 75) (cq6 : q ≠ 79) (cq7 : q ≠ 80) (cq8 : q ≠ 77) (cq9 : q ≠ 78) (cq10 : q ≠ 76) : r.2 q = I q := by
  unfold fX9_run at h
  obtain ⟨r1, -, h⟩ := ob h
  rcases oi h with ⟨-, h⟩ | ⟨-, h⟩
  · obtain rfl := Option.some.inj h
    exact rfl
  · obtain ⟨r2, -, h⟩ := ob h
    rcases oi h with ⟨-, h⟩ | ⟨-, h⟩
    · obtain rfl := Option.some.inj h
      exact rfl
    · obtain ⟨r3, -, h⟩ := ob h
      rcases oi h with ⟨-, h⟩ | ⟨-, h⟩
      · obtain rfl := Option.some.inj h
        exact rfl
      · obtain ⟨r4, er4, h⟩ := ob h
        have q1 : r4 q = _ := (zfX9_putAside I er4 q cq0).trans rfl
        obtain ⟨r5, er5, h⟩ := ob h
        have q2 : r5.2 q = _ := (zfX9_goSteps v1 (0 : Int32) r4 er5 q cq1 cq2 cq3 cq4 cq5 cq6 cq7 cq8 cq9 cq10).trans q1
        obtain ⟨r6, er6, h⟩ := ob h
        have q3 : r6.2 q = _ := (zfX9_rowsNow r5.2 er6 q cq3 cq4 cq5 cq6 cq7 cq8 cq9 cq10).trans q2
        obtain ⟨r7, er7, h⟩ := ob h
        have q4 : r7 q = _ := (zfX9_bringBack r6.2 er7 q cq1).trans q3
        rcases oi h with ⟨-, h⟩ | ⟨-, h⟩
        · obtain rfl := Option.some.inj h
          exact q4
        · obtain ⟨u8, -, h⟩ := ob h
          rcases oi h with ⟨-, h⟩ | ⟨-, h⟩
          · obtain rfl := Option.some.inj h
            exact q4
          · obtain rfl := Option.some.inj h
            exact q4
set_option maxRecDepth 100000 in
set_option maxHeartbeats 1000000 in
theorem zfX9_perform (v1 : Int32) (I : gM) {r : Int32 × gM} (h : fX9_perform v1 I = some r) (q : Nat) (cq0 : q ≠ 70) (cq1 : q ≠ 81) (cq2 : q ≠ 62) (cq3 : q ≠ 74) (cq4 : q ≠ 75) (cq5 : q ≠ 79) (cq6 : q ≠ 80) (cq7 : q ≠ 77) (cq8 : q ≠ 78) (cq9 : q ≠ 76) : r.2 q = I q := by
  unfold fX9_perform at h
  obtain ⟨r1, -, h⟩ := ob h
  rcases oi h with ⟨-, h⟩ | ⟨-, h⟩
  · obtain rfl := Option.some.inj h
    exact rfl
  · obtain ⟨r2, -, h⟩ := ob h
    rcases oi h with ⟨-, h⟩ | ⟨-, h⟩
    · obtain rfl := Option.some.inj h
      exact rfl
    · obtain ⟨r3, er3, h⟩ := ob h
      have q1 : r3.2 q = _ := (zfX9_goSteps v1 (1 : Int32) I er3 q cq0 cq1 cq2 cq3 cq4 cq5 cq6 cq7 cq8 cq9).trans rfl
      obtain rfl := Option.some.inj h
      exact q1
set_option maxRecDepth 100000 in
set_option maxHeartbeats 1000000 in
theorem zlX9_couples_11 (v2 : Int32) (s : (Int32 × Int32 × gM)) {r : Int32 × gM} (h : lX9_couples_11 v2 s = some r) (q : Nat) (cq0 : q ≠ 86) : r.2 q = s.2.2 q := by
  unfold lX9_couples_11 at h
  revert s
  refine itO_ind (P := fun s : (Int32 × Int32 × gM) => r.2 q = s.2.2 q) (fun s y h hl hr => ?_)
  rcases oi h with ⟨-, h⟩ | ⟨-, h⟩
  · obtain rfl := Option.some.inj h
    have hh := hr _ rfl
    subst hh
    exact rfl
  · rcases oi h with ⟨-, h⟩ | ⟨-, h⟩
    · unfold bX9_couples_51 at h
      unfold bX9_couples_52 at h
      obtain rfl := Option.some.inj h
      exact (hl _ rfl).trans rfl
    · obtain ⟨r1, -, h⟩ := ob h
      rcases oi h with ⟨-, h⟩ | ⟨-, h⟩
      · unfold bX9_couples_51 at h
        unfold bX9_couples_52 at h
        obtain rfl := Option.some.inj h
        exact (hl _ rfl).trans rfl
      · obtain ⟨r2, -, h⟩ := ob h
        rcases oi h with ⟨-, h⟩ | ⟨-, h⟩
        · unfold bX9_couples_51 at h
          unfold bX9_couples_52 at h
          obtain rfl := Option.some.inj h
          exact (hl _ rfl).trans rfl
        · obtain ⟨r3, er3, h⟩ := ob h
          have q1 : r3.2 q = _ := (zfX9_isTold v2 s.2.1 s.2.2 er3 q cq0).trans rfl
          rcases oi h with ⟨-, h⟩ | ⟨-, h⟩
          · unfold bX9_couples_51 at h
            unfold bX9_couples_52 at h
            obtain rfl := Option.some.inj h
            exact (hl _ rfl).trans q1
          · unfold bX9_couples_52 at h
            obtain rfl := Option.some.inj h
            exact (hl _ rfl).trans q1
set_option maxRecDepth 100000 in
set_option maxHeartbeats 1000000 in
theorem zlX9_couples_4  (s : (Int32 × Int32 × gM)) {r : Int32 × gM} (h : lX9_couples_4 s = some r) (q : Nat) (cq0 : q ≠ 86) : r.2 q = s.2.2 q := by
  unfold lX9_couples_4 at h
  revert s
  refine itO_ind (P := fun s : (Int32 × Int32 × gM) => r.2 q = s.2.2 q) (fun s y h hl hr => ?_)
  rcases oi h with ⟨-, h⟩ | ⟨-, h⟩
  · obtain rfl := Option.some.inj h
    have hh := hr _ rfl
    subst hh
    exact rfl
  · obtain ⟨w4, ew4, h⟩ := ob h
    have q1 : w4.2 q = _ := (zlX9_couples_11 s.2.1 (s.1, (0 : Int32), s.2.2) ew4 q cq0).trans rfl
    obtain rfl := Option.some.inj h
    exact (hl _ rfl).trans q1
set_option maxRecDepth 100000 in
set_option maxHeartbeats 1000000 in
theorem zfX9_couples (I : gM) {r : Int32 × gM} (h : fX9_couples I = some r) (q : Nat) (cq0 : q ≠ 86) : r.2 q = I q := by
  unfold fX9_couples at h
  obtain ⟨w5, ew5, h⟩ := ob h
  have q1 : w5.2 q = _ := (zlX9_couples_4 ((0 : Int32), (0 : Int32), I) ew5 q cq0).trans rfl
  obtain rfl := Option.some.inj h
  exact q1
set_option maxRecDepth 100000 in
set_option maxHeartbeats 1000000 in
theorem zfX9_most (v1 : Int32) (I : gM) {r : Int32 × gM} (h : fX9_most v1 I = some r) (q : Nat) (cq0 : q ≠ 62) (cq1 : q ≠ 74) (cq2 : q ≠ 75) (cq3 : q ≠ 79) (cq4 : q ≠ 80) (cq5 : q ≠ 77) (cq6 : q ≠ 78) (cq7 : q ≠ 76) (cq8 : q ≠ 86) : r.2 q = I q := by
  unfold fX9_most at h
  obtain ⟨r1, -, h⟩ := ob h
  rcases oi h with ⟨-, h⟩ | ⟨-, h⟩
  · obtain rfl := Option.some.inj h
    exact rfl
  · obtain ⟨r2, -, h⟩ := ob h
    rcases oi h with ⟨-, h⟩ | ⟨-, h⟩
    · obtain rfl := Option.some.inj h
      exact rfl
    · obtain ⟨r3, er3, h⟩ := ob h
      have q1 : r3 q = _ := (zfX9_joinsNow I er3 q cq0 cq1 cq2 cq3 cq4 cq5 cq6 cq7).trans rfl
      rcases oi h with ⟨-, h⟩ | ⟨-, h⟩
      · obtain ⟨r4, -, h⟩ := ob h
        obtain rfl := Option.some.inj h
        exact q1
      · rcases oi h with ⟨-, h⟩ | ⟨-, h⟩
        · rcases oi h with ⟨-, h⟩ | ⟨-, h⟩
          · unfold bX9_most_80 at h
            obtain ⟨r5, -, h⟩ := ob h
            obtain rfl := Option.some.inj h
            exact q1
          · unfold bX9_most_80 at h
            obtain ⟨r5, -, h⟩ := ob h
            obtain rfl := Option.some.inj h
            exact q1
        · rcases oi h with ⟨-, h⟩ | ⟨-, h⟩
          · rcases oi h with ⟨-, h⟩ | ⟨-, h⟩
            · unfold bX9_most_80 at h
              obtain ⟨r5, -, h⟩ := ob h
              obtain rfl := Option.some.inj h
              exact q1
            · unfold bX9_most_80 at h
              obtain ⟨r5, -, h⟩ := ob h
              obtain rfl := Option.some.inj h
              exact q1
          · rcases oi h with ⟨-, h⟩ | ⟨-, h⟩
            · obtain ⟨r6, -, h⟩ := ob h
              obtain rfl := Option.some.inj h
              exact q1
            · rcases oi h with ⟨-, h⟩ | ⟨-, h⟩
              · obtain ⟨r7, er7, h⟩ := ob h
                have q2 : r7.2 q = _ := (zfX9_couples r3 er7 q cq8).trans q1
                obtain rfl := Option.some.inj h
                exact q2
              · rcases oi h with ⟨-, h⟩ | ⟨-, h⟩
                · obtain ⟨r8, er8, h⟩ := ob h
                  have q3 : r8 q = _ := (zfX9_joins (0 : Int32) r3 er8 q cq0 cq1 cq2 cq3 cq4 cq5 cq6 cq7).trans q1
                  obtain rfl := Option.some.inj h
                  exact q3
                · obtain ⟨r9, er9, h⟩ := ob h
                  have q4 : r9 q = _ := (zfX9_triesOrders r3 er9 q cq0 cq1 cq2 cq3 cq4 cq5 cq6 cq7).trans q1
                  obtain rfl := Option.some.inj h
                  exact q4
set_option maxRecDepth 100000 in
set_option maxHeartbeats 1000000 in
theorem zlX9_image_11  (s : (Int32 × gM)) {r : gM} (h : lX9_image_11 s = some r) (q : Nat) (cq0 : q ≠ 89) : r q = s.2 q := by
  unfold lX9_image_11 at h
  revert s
  refine itO_ind (P := fun s : (Int32 × gM) => r q = s.2 q) (fun s y h hl hr => ?_)
  rcases oi h with ⟨-, h⟩ | ⟨-, h⟩
  · obtain rfl := Option.some.inj h
    have hh := hr _ rfl
    subst hh
    exact rfl
  · obtain ⟨u2, -, h⟩ := ob h
    obtain ⟨I3, eI3, h⟩ := ob h
    have q1 : I3 q = _ := (by rw [← (wI_some eI3).2.2]; exact g_up_row cq0 : I3 q = s.2 q).trans rfl
    obtain rfl := Option.some.inj h
    exact (hl _ rfl).trans q1
set_option maxRecDepth 100000 in
set_option maxHeartbeats 1000000 in
theorem zfX9_image (I : gM) {r : Int32 × gM} (h : fX9_image I = some r) (q : Nat) (cq0 : q ≠ 89) (cq1 : q ≠ 62) (cq2 : q ≠ 74) (cq3 : q ≠ 75) (cq4 : q ≠ 79) (cq5 : q ≠ 80) (cq6 : q ≠ 77) (cq7 : q ≠ 78) (cq8 : q ≠ 76) : r.2 q = I q := by
  unfold fX9_image at h
  obtain ⟨r1, -, h⟩ := ob h
  rcases oi h with ⟨-, h⟩ | ⟨-, h⟩
  · obtain rfl := Option.some.inj h
    exact rfl
  · obtain ⟨w4, ew4, h⟩ := ob h
    have q1 : w4 q = _ := (zlX9_image_11 ((0 : Int32), I) ew4 q cq0).trans rfl
    obtain ⟨I5, eI5, h⟩ := ob h
    have q2 : I5 q = _ := (by rw [← pU_some eI5]; exact g_up_row cq1 : I5 q = w4 q).trans q1
    obtain ⟨r6, er6, h⟩ := ob h
    have q3 : r6.2 q = _ := (zfX9_rowsNow I5 er6 q cq1 cq2 cq3 cq4 cq5 cq6 cq7 cq8).trans q2
    obtain rfl := Option.some.inj h
    exact q3
set_option maxRecDepth 100000 in
set_option maxHeartbeats 1000000 in
theorem zlX9_back_11  (s : (Int32 × gM)) {r : gM} (h : lX9_back_11 s = some r) (q : Nat) (cq0 : q ≠ 70) : r q = s.2 q := by
  unfold lX9_back_11 at h
  revert s
  refine itO_ind (P := fun s : (Int32 × gM) => r q = s.2 q) (fun s y h hl hr => ?_)
  rcases oi h with ⟨-, h⟩ | ⟨-, h⟩
  · obtain rfl := Option.some.inj h
    have hh := hr _ rfl
    subst hh
    exact rfl
  · obtain ⟨u1, -, h⟩ := ob h
    obtain ⟨I2, eI2, h⟩ := ob h
    have q1 : I2 q = _ := (by rw [← (wI_some eI2).2.2]; exact g_up_row cq0 : I2 q = s.2 q).trans rfl
    obtain rfl := Option.some.inj h
    exact (hl _ rfl).trans q1
set_option maxRecDepth 100000 in
set_option maxHeartbeats 1000000 in
theorem zfX9_back (I : gM) {r : Int32 × gM} (h : fX9_back I = some r) (q : Nat) (cq0 : q ≠ 70) (cq1 : q ≠ 62) (cq2 : q ≠ 74) (cq3 : q ≠ 75) (cq4 : q ≠ 79) (cq5 : q ≠ 80) (cq6 : q ≠ 77) (cq7 : q ≠ 78) (cq8 : q ≠ 76) : r.2 q = I q := by
  unfold fX9_back at h
  rcases oi h with ⟨-, h⟩ | ⟨-, h⟩
  · obtain rfl := Option.some.inj h
    exact rfl
  · obtain ⟨w3, ew3, h⟩ := ob h
    have q1 : w3 q = _ := (zlX9_back_11 ((0 : Int32), I) ew3 q cq0).trans rfl
    obtain ⟨I4, eI4, h⟩ := ob h
    have q2 : I4 q = _ := (by rw [← pU_some eI4]; exact g_up_row cq1 : I4 q = w3 q).trans q1
    obtain ⟨r5, er5, h⟩ := ob h
    have q3 : r5.2 q = _ := (zfX9_rowsNow I4 er5 q cq1 cq2 cq3 cq4 cq5 cq6 cq7 cq8).trans q2
    obtain rfl := Option.some.inj h
    exact q3
