theorem dX6_bytesIn_0 : decode cX6_bytesIn 0 = .ok (.iconst 0, 1) := by decide +kernel
theorem dX6_bytesIn_1 : decode cX6_bytesIn 1 = .ok (.istore_n 1, 1) := by decide +kernel
theorem dX6_bytesIn_2 : decode cX6_bytesIn 2 = .ok (.bipush 24, 2) := by decide +kernel
theorem dX6_bytesIn_4 : decode cX6_bytesIn 4 = .ok (.istore_n 2, 1) := by decide +kernel
theorem dX6_bytesIn_5 : decode cX6_bytesIn 5 = .ok (.iload_n 2, 1) := by decide +kernel
theorem dX6_bytesIn_6 : decode cX6_bytesIn 6 = .ok (.ifCond .lt 22, 3) := by decide +kernel
theorem dX6_bytesIn_9 : decode cX6_bytesIn 9 = .ok (.iload_n 0, 1) := by decide +kernel
theorem dX6_bytesIn_10 : decode cX6_bytesIn 10 = .ok (.iload_n 2, 1) := by decide +kernel
theorem dX6_bytesIn_11 : decode cX6_bytesIn 11 = .ok (.ishr, 1) := by decide +kernel
theorem dX6_bytesIn_12 : decode cX6_bytesIn 12 = .ok (.sipush 255, 3) := by decide +kernel
theorem dX6_bytesIn_15 : decode cX6_bytesIn 15 = .ok (.iand, 1) := by decide +kernel
theorem dX6_bytesIn_16 : decode cX6_bytesIn 16 = .ok (.ifCond .eq 6, 3) := by decide +kernel
theorem dX6_bytesIn_19 : decode cX6_bytesIn 19 = .ok (.iinc 1 1, 3) := by decide +kernel
theorem dX6_bytesIn_22 : decode cX6_bytesIn 22 = .ok (.iinc 2 (-8), 3) := by decide +kernel
theorem dX6_bytesIn_25 : decode cX6_bytesIn 25 = .ok (.goto (-20), 3) := by decide +kernel
theorem dX6_bytesIn_28 : decode cX6_bytesIn 28 = .ok (.iload_n 1, 1) := by decide +kernel
theorem dX6_bytesIn_29 : decode cX6_bytesIn 29 = .ok (.ireturn, 1) := by decide +kernel
theorem dX6_append_0 : decode cX6_append 0 = .ok (.bipush 24, 2) := by decide +kernel
theorem dX6_append_2 : decode cX6_append 2 = .ok (.istore_n 2, 1) := by decide +kernel
theorem dX6_append_3 : decode cX6_append 3 = .ok (.iload_n 2, 1) := by decide +kernel
theorem dX6_append_4 : decode cX6_append 4 = .ok (.ifCond .lt 52, 3) := by decide +kernel
theorem dX6_append_7 : decode cX6_append 7 = .ok (.iload_n 1, 1) := by decide +kernel
theorem dX6_append_8 : decode cX6_append 8 = .ok (.iload_n 2, 1) := by decide +kernel
theorem dX6_append_9 : decode cX6_append 9 = .ok (.ishr, 1) := by decide +kernel
theorem dX6_append_10 : decode cX6_append 10 = .ok (.sipush 255, 3) := by decide +kernel
theorem dX6_append_13 : decode cX6_append 13 = .ok (.iand, 1) := by decide +kernel
theorem dX6_append_14 : decode cX6_append 14 = .ok (.istore_n 3, 1) := by decide +kernel
theorem dX6_append_15 : decode cX6_append 15 = .ok (.iload_n 3, 1) := by decide +kernel
theorem dX6_append_16 : decode cX6_append 16 = .ok (.ifCond .eq 34, 3) := by decide +kernel
theorem dX6_append_19 : decode cX6_append 19 = .ok (.aload_n 0, 1) := by decide +kernel
theorem dX6_append_20 : decode cX6_append 20 = .ok (.getfield 9, 3) := by decide +kernel
theorem dX6_append_23 : decode cX6_append 23 = .ok (.sipush 400, 3) := by decide +kernel
theorem dX6_append_26 : decode cX6_append 26 = .ok (.if_icmp .ge 24, 3) := by decide +kernel
theorem dX6_append_29 : decode cX6_append 29 = .ok (.aload_n 0, 1) := by decide +kernel
theorem dX6_append_30 : decode cX6_append 30 = .ok (.getfield 15, 3) := by decide +kernel
theorem dX6_append_33 : decode cX6_append 33 = .ok (.aload_n 0, 1) := by decide +kernel
theorem dX6_append_34 : decode cX6_append 34 = .ok (.getfield 9, 3) := by decide +kernel
theorem dX6_append_37 : decode cX6_append 37 = .ok (.iload_n 3, 1) := by decide +kernel
theorem dX6_append_38 : decode cX6_append 38 = .ok (.i2b, 1) := by decide +kernel
theorem dX6_append_39 : decode cX6_append 39 = .ok (.bastore, 1) := by decide +kernel
theorem dX6_append_40 : decode cX6_append 40 = .ok (.aload_n 0, 1) := by decide +kernel
theorem dX6_append_41 : decode cX6_append 41 = .ok (.dup, 1) := by decide +kernel
theorem dX6_append_42 : decode cX6_append 42 = .ok (.getfield 9, 3) := by decide +kernel
theorem dX6_append_45 : decode cX6_append 45 = .ok (.iconst 1, 1) := by decide +kernel
theorem dX6_append_46 : decode cX6_append 46 = .ok (.iadd, 1) := by decide +kernel
theorem dX6_append_47 : decode cX6_append 47 = .ok (.putfield 9, 3) := by decide +kernel
theorem dX6_append_50 : decode cX6_append 50 = .ok (.iinc 2 (-8), 3) := by decide +kernel
theorem dX6_append_53 : decode cX6_append 53 = .ok (.goto (-50), 3) := by decide +kernel
theorem dX6_append_56 : decode cX6_append 56 = .ok (.return_, 1) := by decide +kernel
theorem dX8_feed_0 : decode cX8_feed 0 = .ok (.iload_n 1, 1) := by decide +kernel
theorem dX8_feed_1 : decode cX8_feed 1 = .ok (.invokestatic 97, 3) := by decide +kernel
theorem dX8_feed_4 : decode cX8_feed 4 = .ok (.iload_n 2, 1) := by decide +kernel
theorem dX8_feed_5 : decode cX8_feed 5 = .ok (.invokestatic 97, 3) := by decide +kernel
theorem dX8_feed_8 : decode cX8_feed 8 = .ok (.iadd, 1) := by decide +kernel
theorem dX8_feed_9 : decode cX8_feed 9 = .ok (.iload_n 3, 1) := by decide +kernel
theorem dX8_feed_10 : decode cX8_feed 10 = .ok (.invokestatic 97, 3) := by decide +kernel
theorem dX8_feed_13 : decode cX8_feed 13 = .ok (.iadd, 1) := by decide +kernel
theorem dX8_feed_14 : decode cX8_feed 14 = .ok (.iload 4, 2) := by decide +kernel
theorem dX8_feed_16 : decode cX8_feed 16 = .ok (.invokestatic 97, 3) := by decide +kernel
theorem dX8_feed_19 : decode cX8_feed 19 = .ok (.iadd, 1) := by decide +kernel
theorem dX8_feed_20 : decode cX8_feed 20 = .ok (.iload 5, 2) := by decide +kernel
theorem dX8_feed_22 : decode cX8_feed 22 = .ok (.invokestatic 97, 3) := by decide +kernel
theorem dX8_feed_25 : decode cX8_feed 25 = .ok (.iadd, 1) := by decide +kernel
theorem dX8_feed_26 : decode cX8_feed 26 = .ok (.istore 6, 2) := by decide +kernel
theorem dX8_feed_28 : decode cX8_feed 28 = .ok (.aload_n 0, 1) := by decide +kernel
theorem dX8_feed_29 : decode cX8_feed 29 = .ok (.getfield 12, 3) := by decide +kernel
theorem dX8_feed_32 : decode cX8_feed 32 = .ok (.getfield 101, 3) := by decide +kernel
theorem dX8_feed_35 : decode cX8_feed 35 = .ok (.iload 6, 2) := by decide +kernel
theorem dX8_feed_37 : decode cX8_feed 37 = .ok (.iadd, 1) := by decide +kernel
theorem dX8_feed_38 : decode cX8_feed 38 = .ok (.sipush 400, 3) := by decide +kernel
theorem dX8_feed_41 : decode cX8_feed 41 = .ok (.if_icmp .le 5, 3) := by decide +kernel
theorem dX8_feed_44 : decode cX8_feed 44 = .ok (.iconst (-1), 1) := by decide +kernel
theorem dX8_feed_45 : decode cX8_feed 45 = .ok (.ireturn, 1) := by decide +kernel
theorem dX8_feed_46 : decode cX8_feed 46 = .ok (.aload_n 0, 1) := by decide +kernel
theorem dX8_feed_47 : decode cX8_feed 47 = .ok (.getfield 12, 3) := by decide +kernel
theorem dX8_feed_50 : decode cX8_feed 50 = .ok (.iload_n 1, 1) := by decide +kernel
theorem dX8_feed_51 : decode cX8_feed 51 = .ok (.invokevirtual 104, 3) := by decide +kernel
theorem dX8_feed_54 : decode cX8_feed 54 = .ok (.aload_n 0, 1) := by decide +kernel
theorem dX8_feed_55 : decode cX8_feed 55 = .ok (.getfield 12, 3) := by decide +kernel
theorem dX8_feed_58 : decode cX8_feed 58 = .ok (.iload_n 2, 1) := by decide +kernel
theorem dX8_feed_59 : decode cX8_feed 59 = .ok (.invokevirtual 104, 3) := by decide +kernel
theorem dX8_feed_62 : decode cX8_feed 62 = .ok (.aload_n 0, 1) := by decide +kernel
theorem dX8_feed_63 : decode cX8_feed 63 = .ok (.getfield 12, 3) := by decide +kernel
theorem dX8_feed_66 : decode cX8_feed 66 = .ok (.iload_n 3, 1) := by decide +kernel
theorem dX8_feed_67 : decode cX8_feed 67 = .ok (.invokevirtual 104, 3) := by decide +kernel
theorem dX8_feed_70 : decode cX8_feed 70 = .ok (.aload_n 0, 1) := by decide +kernel
theorem dX8_feed_71 : decode cX8_feed 71 = .ok (.getfield 12, 3) := by decide +kernel
theorem dX8_feed_74 : decode cX8_feed 74 = .ok (.iload 4, 2) := by decide +kernel
theorem dX8_feed_76 : decode cX8_feed 76 = .ok (.invokevirtual 104, 3) := by decide +kernel
theorem dX8_feed_79 : decode cX8_feed 79 = .ok (.aload_n 0, 1) := by decide +kernel
theorem dX8_feed_80 : decode cX8_feed 80 = .ok (.getfield 12, 3) := by decide +kernel
theorem dX8_feed_83 : decode cX8_feed 83 = .ok (.iload 5, 2) := by decide +kernel
theorem dX8_feed_85 : decode cX8_feed 85 = .ok (.invokevirtual 104, 3) := by decide +kernel
theorem dX8_feed_88 : decode cX8_feed 88 = .ok (.aload_n 0, 1) := by decide +kernel
theorem dX8_feed_89 : decode cX8_feed 89 = .ok (.getfield 12, 3) := by decide +kernel
theorem dX8_feed_92 : decode cX8_feed 92 = .ok (.getfield 101, 3) := by decide +kernel
theorem dX8_feed_95 : decode cX8_feed 95 = .ok (.ireturn, 1) := by decide +kernel
theorem mX6_bytesIn : gMs yX6_bytesIn cX6_bytesIn 3 (some .int) 1 := ⟨q208, q2, q209, by decide, by decide, by decide +kernel⟩
theorem mX6_append : gMv yX6_append cX6_append 4 none RX6 1 := ⟨q211, q212, q2, q213, rfl, by decide, by decide, by decide +kernel⟩
/-! feed: the bytes of a number, the highest first, those of 0 left out -/
def wb1 (x sh : Int32) : List Int32 := if x >>> sh &&& 255 = 0 then [] else [x >>> sh &&& 255]
def wb (x : Int32) : List Int32 := wb1 x 24 ++ (wb1 x 16 ++ (wb1 x 8 ++ wb1 x 0))
theorem wb1_0 {x sh : Int32} (h : x >>> sh &&& 255 = 0) : wb1 x sh = [] := if_pos h
theorem wb1_1 {x sh : Int32} (h : ¬ x >>> sh &&& 255 = 0) : wb1 x sh = [x >>> sh &&& 255] := if_neg h
theorem wb1_le (x sh : Int32) : (wb1 x sh).length ≤ 1 := by unfold wb1; split <;> simp
theorem wb_le (x : Int32) : (wb x).length ≤ 4 := by
  have h1 := wb1_le x 24
  have h2 := wb1_le x 16
  have h3 := wb1_le x 8
  have h4 := wb1_le x 0
  simp only [wb, List.length_append]
  omega
/-- the tape of LeapJoin holds the bytes t -/
def TX (t : List Int32) (I : gM) : Prop := t.length ≤ 400 ∧ I 1 0 = iI t.length ∧ ∀ (j : Nat) (h : j < t.length), I 2 j = t[j].toInt8.toInt32
theorem TX_push {t : List Int32} {I : gM} {b : Int32} (h : TX t I) (hl : t.length < 400) : TX (t ++ [b]) (g_up (g_up I 2 ((t.length : Int)).toNat b.toInt8.toInt32) 1 0 (iI ((t.length : Int) + 1))) := by
  obtain ⟨h1, h2, h3⟩ := h
  refine ⟨by simp only [List.length_append, List.length_cons, List.length_nil]; omega, ?_, fun j hj => ?_⟩
  · rw [g_up_self]; simp
  · rw [g_up_ne (Or.inl (by decide))]
    by_cases e : j = t.length
    · subst e
      rw [Int.toNat_natCast, g_up_self]; simp
    · have hj' : j < t.length := by simp only [List.length_append, List.length_cons, List.length_nil] at hj; omega
      rw [g_up_ne (Or.inr (by simpa using e)), h3 j hj', List.getElem_append_left hj']
/-- what a method leaves as it was -/
def fr (p : Nat → Nat → Prop) (I I' : gM) : Prop := ∀ k j, ¬ p k j → I' k j = I k j
theorem fr_rf {p : Nat → Nat → Prop} {I : gM} : fr p I I := fun _ _ _ => rfl
theorem fr_up {p : Nat → Nat → Prop} {I I' : gM} {k j : Nat} {v : Int32} (h : fr p I I') (hp : p k j) : fr p I (g_up I' k j v) := fun a b hn => by
  by_cases e : a = k ∧ b = j
  · exact absurd (by rw [e.1, e.2]; exact hp) hn
  · simp only [g_up, if_neg e]; exact h a b hn
theorem fr_tr {p : Nat → Nat → Prop} {I I' I2 : gM} (h : fr p I I') (h2 : fr p I' I2) : fr p I I2 := fun a b hn => (h2 a b hn).trans (h a b hn)
def frT (k j : Nat) : Prop := (k = 1 ∧ j = 0) ∨ k = 2
theorem vp_nar_b8 (x : Int32) : vp_nar .byte x.toInt8.toInt32 = x.toInt8.toInt32 := pk_vb x
set_option maxRecDepth 100000 in
set_option maxHeartbeats 4000000 in
theorem kX6_bytesIn (l : Launch) (E : gE) (hE : gDist sh E) (I : gM) (J : gN) (x : Int32) : Ct l sh E yX6_bytesIn cX6_bytesIn 3 (some .int) (gR 0) [.int x] I J (fun r I1 J1 => r = some (.int (iI (wb x).length)) ∧ I1 = I ∧ J1 = J) := by
  refine Ct.of "LeapJoin$Tape" rfl hE (by decide) (Nat.le_of_ble_eq_true rfl) (fun z F e hl => ?_)
  subst hl
  have K4 : ∀ s : Int, s = (wb x).length → G z 5 [(0, .int x), (1, .int (iI s)), (2, .int (-8))] [] I J := by
    intro s hs
    refine g_iload_n F 2 dX6_bytesIn_5 rfl rfl ?_
    refine g_if_lt (tgt := 28) F dX6_bytesIn_6 (by decide) (fun _ => ?_) (fun h => absurd (by decide) h)
    refine g_iload_n F 1 dX6_bytesIn_28 rfl rfl ?_
    exact g_iret F e dX6_bytesIn_29 ⟨by rw [hs], rfl, rfl⟩
  have K3 : ∀ s : Int, s + (wb1 x 0).length = (wb x).length → G z 5 [(0, .int x), (1, .int (iI s)), (2, .int 0)] [] I J := by
    intro s hs
    refine g_iload_n F 2 dX6_bytesIn_5 rfl rfl ?_
    refine g_if_lt (tgt := 28) F dX6_bytesIn_6 (by decide) (fun h => absurd h (by decide)) (fun _ => ?_)
    refine g_iload_n F 0 dX6_bytesIn_9 rfl rfl ?_
    refine g_iload_n F 2 dX6_bytesIn_10 rfl rfl ?_
    refine g_ishr (v := x >>> 0) F dX6_bytesIn_11 rfl ?_
    refine g_sipush (v := 255) F dX6_bytesIn_12 (by decide) ?_
    refine g_iand (v := (x >>> 0) &&& 255) F dX6_bytesIn_15 rfl ?_
    refine g_if_eq (tgt := 22) F dX6_bytesIn_16 (by decide) (fun c16 => ?_) (fun c16f => ?_)
    · refine g_iinc (v := (-8)) (Ln := [(2, .int (-8)), (0, .int x), (1, .int (iI (s)))]) F 2 dX6_bytesIn_22 rfl (by decide) (by decide) rfl ?_
      refine g_goto (tgt := 5) F dX6_bytesIn_25 (by decide) ?_
      refine g_sub (Ln := [(0, .int x), (1, .int (iI (s))), (2, .int (-8))]) [1, 2, 0] rfl ?_
      exact K4 _ (by rw [wb1_0 c16] at hs; simp only [List.length_nil, List.length_cons] at hs; omega)
    · refine g_iinc (v := iI (s + 1)) (Ln := [(1, .int (iI (s + 1))), (0, .int x), (2, .int 0)]) F 1 dX6_bytesIn_19 rfl (iI_add rfl (by decide)) (by decide) rfl ?_
      refine g_iinc (v := (-8)) (Ln := [(2, .int (-8)), (1, .int (iI (s + 1))), (0, .int x)]) F 2 dX6_bytesIn_22 rfl (by decide) (by decide) rfl ?_
      refine g_goto (tgt := 5) F dX6_bytesIn_25 (by decide) ?_
      refine g_sub (Ln := [(0, .int x), (1, .int (iI (s + 1))), (2, .int (-8))]) [2, 1, 0] rfl ?_
      exact K4 _ (by rw [wb1_1 c16f] at hs; simp only [List.length_nil, List.length_cons] at hs; omega)
  have K2 : ∀ s : Int, s + (wb1 x 8).length + (wb1 x 0).length = (wb x).length → G z 5 [(0, .int x), (1, .int (iI s)), (2, .int 8)] [] I J := by
    intro s hs
    refine g_iload_n F 2 dX6_bytesIn_5 rfl rfl ?_
    refine g_if_lt (tgt := 28) F dX6_bytesIn_6 (by decide) (fun h => absurd h (by decide)) (fun _ => ?_)
    refine g_iload_n F 0 dX6_bytesIn_9 rfl rfl ?_
    refine g_iload_n F 2 dX6_bytesIn_10 rfl rfl ?_
    refine g_ishr (v := x >>> 8) F dX6_bytesIn_11 rfl ?_
    refine g_sipush (v := 255) F dX6_bytesIn_12 (by decide) ?_
    refine g_iand (v := (x >>> 8) &&& 255) F dX6_bytesIn_15 rfl ?_
    refine g_if_eq (tgt := 22) F dX6_bytesIn_16 (by decide) (fun c16 => ?_) (fun c16f => ?_)
    · refine g_iinc (v := 0) (Ln := [(2, .int 0), (0, .int x), (1, .int (iI (s)))]) F 2 dX6_bytesIn_22 rfl (by decide) (by decide) rfl ?_
      refine g_goto (tgt := 5) F dX6_bytesIn_25 (by decide) ?_
      refine g_sub (Ln := [(0, .int x), (1, .int (iI (s))), (2, .int 0)]) [1, 2, 0] rfl ?_
      exact K3 _ (by rw [wb1_0 c16] at hs; simp only [List.length_nil, List.length_cons] at hs; omega)
    · refine g_iinc (v := iI (s + 1)) (Ln := [(1, .int (iI (s + 1))), (0, .int x), (2, .int 8)]) F 1 dX6_bytesIn_19 rfl (iI_add rfl (by decide)) (by decide) rfl ?_
      refine g_iinc (v := 0) (Ln := [(2, .int 0), (1, .int (iI (s + 1))), (0, .int x)]) F 2 dX6_bytesIn_22 rfl (by decide) (by decide) rfl ?_
      refine g_goto (tgt := 5) F dX6_bytesIn_25 (by decide) ?_
      refine g_sub (Ln := [(0, .int x), (1, .int (iI (s + 1))), (2, .int 0)]) [2, 1, 0] rfl ?_
      exact K3 _ (by rw [wb1_1 c16f] at hs; simp only [List.length_nil, List.length_cons] at hs; omega)
  have K1 : ∀ s : Int, s + (wb1 x 16).length + (wb1 x 8).length + (wb1 x 0).length = (wb x).length → G z 5 [(0, .int x), (1, .int (iI s)), (2, .int 16)] [] I J := by
    intro s hs
    refine g_iload_n F 2 dX6_bytesIn_5 rfl rfl ?_
    refine g_if_lt (tgt := 28) F dX6_bytesIn_6 (by decide) (fun h => absurd h (by decide)) (fun _ => ?_)
    refine g_iload_n F 0 dX6_bytesIn_9 rfl rfl ?_
    refine g_iload_n F 2 dX6_bytesIn_10 rfl rfl ?_
    refine g_ishr (v := x >>> 16) F dX6_bytesIn_11 rfl ?_
    refine g_sipush (v := 255) F dX6_bytesIn_12 (by decide) ?_
    refine g_iand (v := (x >>> 16) &&& 255) F dX6_bytesIn_15 rfl ?_
    refine g_if_eq (tgt := 22) F dX6_bytesIn_16 (by decide) (fun c16 => ?_) (fun c16f => ?_)
    · refine g_iinc (v := 8) (Ln := [(2, .int 8), (0, .int x), (1, .int (iI (s)))]) F 2 dX6_bytesIn_22 rfl (by decide) (by decide) rfl ?_
      refine g_goto (tgt := 5) F dX6_bytesIn_25 (by decide) ?_
      refine g_sub (Ln := [(0, .int x), (1, .int (iI (s))), (2, .int 8)]) [1, 2, 0] rfl ?_
      exact K2 _ (by rw [wb1_0 c16] at hs; simp only [List.length_nil, List.length_cons] at hs; omega)
    · refine g_iinc (v := iI (s + 1)) (Ln := [(1, .int (iI (s + 1))), (0, .int x), (2, .int 16)]) F 1 dX6_bytesIn_19 rfl (iI_add rfl (by decide)) (by decide) rfl ?_
      refine g_iinc (v := 8) (Ln := [(2, .int 8), (1, .int (iI (s + 1))), (0, .int x)]) F 2 dX6_bytesIn_22 rfl (by decide) (by decide) rfl ?_
      refine g_goto (tgt := 5) F dX6_bytesIn_25 (by decide) ?_
      refine g_sub (Ln := [(0, .int x), (1, .int (iI (s + 1))), (2, .int 8)]) [2, 1, 0] rfl ?_
      exact K2 _ (by rw [wb1_1 c16f] at hs; simp only [List.length_nil, List.length_cons] at hs; omega)
  have K0 : ∀ s : Int, s + (wb1 x 24).length + (wb1 x 16).length + (wb1 x 8).length + (wb1 x 0).length = (wb x).length → G z 5 [(0, .int x), (1, .int (iI s)), (2, .int 24)] [] I J := by
    intro s hs
    refine g_iload_n F 2 dX6_bytesIn_5 rfl rfl ?_
    refine g_if_lt (tgt := 28) F dX6_bytesIn_6 (by decide) (fun h => absurd h (by decide)) (fun _ => ?_)
    refine g_iload_n F 0 dX6_bytesIn_9 rfl rfl ?_
    refine g_iload_n F 2 dX6_bytesIn_10 rfl rfl ?_
    refine g_ishr (v := x >>> 24) F dX6_bytesIn_11 rfl ?_
    refine g_sipush (v := 255) F dX6_bytesIn_12 (by decide) ?_
    refine g_iand (v := (x >>> 24) &&& 255) F dX6_bytesIn_15 rfl ?_
    refine g_if_eq (tgt := 22) F dX6_bytesIn_16 (by decide) (fun c16 => ?_) (fun c16f => ?_)
    · refine g_iinc (v := 16) (Ln := [(2, .int 16), (0, .int x), (1, .int (iI (s)))]) F 2 dX6_bytesIn_22 rfl (by decide) (by decide) rfl ?_
      refine g_goto (tgt := 5) F dX6_bytesIn_25 (by decide) ?_
      refine g_sub (Ln := [(0, .int x), (1, .int (iI (s))), (2, .int 16)]) [1, 2, 0] rfl ?_
      exact K1 _ (by rw [wb1_0 c16] at hs; simp only [List.length_nil, List.length_cons] at hs; omega)
    · refine g_iinc (v := iI (s + 1)) (Ln := [(1, .int (iI (s + 1))), (0, .int x), (2, .int 24)]) F 1 dX6_bytesIn_19 rfl (iI_add rfl (by decide)) (by decide) rfl ?_
      refine g_iinc (v := 16) (Ln := [(2, .int 16), (1, .int (iI (s + 1))), (0, .int x)]) F 2 dX6_bytesIn_22 rfl (by decide) (by decide) rfl ?_
      refine g_goto (tgt := 5) F dX6_bytesIn_25 (by decide) ?_
      refine g_sub (Ln := [(0, .int x), (1, .int (iI (s + 1))), (2, .int 16)]) [2, 1, 0] rfl ?_
      exact K1 _ (by rw [wb1_1 c16f] at hs; simp only [List.length_nil, List.length_cons] at hs; omega)
  refine g_iconst (v := 0) F dX6_bytesIn_0 (by decide) ?_
  refine g_istore_n (Ln := [(1, .int 0), (0, .int x)]) F dX6_bytesIn_1 rfl (by decide) rfl ?_
  refine g_bipush (v := 24) F dX6_bytesIn_2 (by decide) ?_
  refine g_istore_n (Ln := [(2, .int 24), (1, .int 0), (0, .int x)]) F dX6_bytesIn_4 rfl (by decide) rfl ?_
  refine g_sub (Ln := [(0, .int x), (1, .int 0), (2, .int 24)]) [2, 1, 0] rfl ?_
  exact K0 0 (by simp only [wb, List.length_append]; omega)
set_option maxRecDepth 100000 in
set_option maxHeartbeats 4000000 in
theorem kX6_append (l : Launch) (E : gE) (hE : gDist sh E) (I : gM) (J : gN) (x : Int32) (t0 : List Int32) (ht0 : TX t0 I) (hle : (t0 ++ wb x).length ≤ 400) : Ct l sh E yX6_append cX6_append 4 none (gR 0) [.ref (E.2.1 1), .int x] I J (fun r I1 J1 => r = none ∧ TX (t0 ++ wb x) I1 ∧ fr frT I I1 ∧ J1 = J) := by
  refine Ct.of "LeapJoin$Tape" rfl hE (by decide) (Nat.le_of_ble_eq_true rfl) (fun z F e hl => ?_)
  subst hl
  have K4 : ∀ (t : List Int32) (I1 : gM), TX t I1 → t = t0 ++ wb x → fr frT I I1 → G z 3 [(0, .ref (E.2.1 1)), (1, .int x), (2, .int (-8))] [] I1 J := by
    intro t I1 ht hq hf
    refine g_iload_n F 2 dX6_append_3 rfl rfl ?_
    refine g_if_lt (tgt := 56) F dX6_append_4 (by decide) (fun _ => ?_) (fun h => absurd (by decide) h)
    exact g_vret F e dX6_append_56 ⟨rfl, hq ▸ ht, hf, rfl⟩
  have K3 : ∀ (t : List Int32) (I1 : gM), TX t I1 → t ++ (wb1 x 0) = t0 ++ wb x → fr frT I I1 → G z 3 [(0, .ref (E.2.1 1)), (1, .int x), (2, .int 0)] [] I1 J := by
    intro t I1 ht hq hf
    have hlen := congrArg List.length hq
    simp only [List.length_append] at hlen hle
    obtain ⟨-, ht2, -⟩ := id ht
    refine g_iload_n F 2 dX6_append_3 rfl rfl ?_
    refine g_if_lt (tgt := 56) F dX6_append_4 (by decide) (fun h => absurd h (by decide)) (fun _ => ?_)
    refine g_iload_n F 1 dX6_append_7 rfl rfl ?_
    refine g_iload_n F 2 dX6_append_8 rfl rfl ?_
    refine g_ishr (v := x >>> 0) F dX6_append_9 rfl ?_
    refine g_sipush (v := 255) F dX6_append_10 (by decide) ?_
    refine g_iand (v := (x >>> 0) &&& 255) F dX6_append_13 rfl ?_
    refine g_istore_n (Ln := [(3, .int ((x >>> 0) &&& 255)), (0, .ref (E.2.1 1)), (1, .int x), (2, .int 0)]) F dX6_append_14 rfl (by decide) rfl ?_
    refine g_iload_n F 0 dX6_append_15 rfl rfl ?_
    refine g_if_eq (tgt := 50) F dX6_append_16 (by decide) (fun c16 => ?_) (fun c16f => ?_)
    · refine g_iinc (v := (-8)) (Ln := [(2, .int (-8)), (3, .int ((x >>> 0) &&& 255)), (0, .ref (E.2.1 1)), (1, .int x)]) F 3 dX6_append_50 rfl (by decide) (by decide) rfl ?_
      refine g_goto (tgt := 3) F dX6_append_53 (by decide) ?_
      refine g_sub (Ln := [(0, .ref (E.2.1 1)), (1, .int x), (2, .int (-8))]) [2, 3, 0] rfl ?_
      exact K4 t _ ht (by simpa [wb1_0 c16] using hq) hf
    · refine g_aload_n F 1 dX6_append_19 rfl rfl ?_
      refine g_geti (j := 0) (v := I1 1 0) F s1 rfl rfl uX6 (by decide) q35 rfl dX6_append_20 ?_
      refine g_sipush (v := 400) F dX6_append_23 (by decide) ?_
      refine g_icmpI_ge (tgt := 50) (a := (t.length : Int)) (b := 400) F (by rw [ht2]; exact iI_t (by omega) (by omega)) (by decide) dX6_append_26 (by decide) (fun c26 => ?_) (fun c26f => ?_)
      · refine g_iinc (v := (-8)) (Ln := [(2, .int (-8)), (3, .int ((x >>> 0) &&& 255)), (0, .ref (E.2.1 1)), (1, .int x)]) F 3 dX6_append_50 rfl (by decide) (by decide) rfl ?_
        refine g_goto (tgt := 3) F dX6_append_53 (by decide) ?_
        refine g_sub (Ln := [(0, .ref (E.2.1 1)), (1, .int x), (2, .int (-8))]) [2, 3, 0] rfl ?_
        exfalso; rw [wb1_1 c16f] at hlen; simp only [List.length_cons, List.length_nil] at hlen; omega
      · refine g_aload_n F 1 dX6_append_29 rfl rfl ?_
        refine g_getr (j := 1) (nn := 2) F s1 rfl rfl uX6 (by decide) q37 dX6_append_30 ?_
        refine g_aload_n F 1 dX6_append_33 rfl rfl ?_
        refine g_geti (j := 0) (v := I1 1 0) F s1 rfl rfl uX6 (by decide) q35 rfl dX6_append_34 ?_
        refine g_iload_n F 0 dX6_append_37 rfl rfl ?_
        refine g_i2b (v := ((x >>> 0) &&& 255).toInt8.toInt32) F dX6_append_38 rfl ?_
        refine g_bastI (v := ((x >>> 0) &&& 255).toInt8.toInt32) F (t.length : Int) s2 ht2 (by omega) (by omega) (by decide) (by exact vp_nar_b8 _) dX6_append_39 ?_
        refine g_aload_n F 1 dX6_append_40 rfl rfl ?_
        refine g_dup F dX6_append_41 rfl ?_
        refine g_geti (j := 0) (v := I1 1 0) F s1 rfl rfl uX6 (by decide) q35 rfl dX6_append_42 ?_
        refine g_iconst (v := 1) F dX6_append_45 (by decide) ?_
        refine g_iadd (v := iI ((t.length : Int) + 1)) F dX6_append_46 (iI_add ht2 (by decide)) ?_
        refine g_puti (j := 0) F s1 rfl rfl uX6 (by decide) q35 tyX6_ok nmX6 rfl rfl rfl dX6_append_47 ?_
        refine g_iinc (v := (-8)) (Ln := [(2, .int (-8)), (3, .int ((x >>> 0) &&& 255)), (0, .ref (E.2.1 1)), (1, .int x)]) F 3 dX6_append_50 rfl (by decide) (by decide) rfl ?_
        refine g_goto (tgt := 3) F dX6_append_53 (by decide) ?_
        refine g_sub (Ln := [(0, .ref (E.2.1 1)), (1, .int x), (2, .int (-8))]) [2, 3, 0] rfl ?_
        exact K4 (t ++ [x >>> 0 &&& 255]) _ (TX_push ht (by omega)) (by simpa [wb1_1 c16f] using hq) (fr_up (fr_up hf (Or.inr rfl)) (Or.inl ⟨rfl, rfl⟩))
  have K2 : ∀ (t : List Int32) (I1 : gM), TX t I1 → t ++ (wb1 x 8 ++ (wb1 x 0)) = t0 ++ wb x → fr frT I I1 → G z 3 [(0, .ref (E.2.1 1)), (1, .int x), (2, .int 8)] [] I1 J := by
    intro t I1 ht hq hf
    have hlen := congrArg List.length hq
    simp only [List.length_append] at hlen hle
    obtain ⟨-, ht2, -⟩ := id ht
    refine g_iload_n F 2 dX6_append_3 rfl rfl ?_
    refine g_if_lt (tgt := 56) F dX6_append_4 (by decide) (fun h => absurd h (by decide)) (fun _ => ?_)
    refine g_iload_n F 1 dX6_append_7 rfl rfl ?_
    refine g_iload_n F 2 dX6_append_8 rfl rfl ?_
    refine g_ishr (v := x >>> 8) F dX6_append_9 rfl ?_
    refine g_sipush (v := 255) F dX6_append_10 (by decide) ?_
    refine g_iand (v := (x >>> 8) &&& 255) F dX6_append_13 rfl ?_
    refine g_istore_n (Ln := [(3, .int ((x >>> 8) &&& 255)), (0, .ref (E.2.1 1)), (1, .int x), (2, .int 8)]) F dX6_append_14 rfl (by decide) rfl ?_
    refine g_iload_n F 0 dX6_append_15 rfl rfl ?_
    refine g_if_eq (tgt := 50) F dX6_append_16 (by decide) (fun c16 => ?_) (fun c16f => ?_)
    · refine g_iinc (v := 0) (Ln := [(2, .int 0), (3, .int ((x >>> 8) &&& 255)), (0, .ref (E.2.1 1)), (1, .int x)]) F 3 dX6_append_50 rfl (by decide) (by decide) rfl ?_
      refine g_goto (tgt := 3) F dX6_append_53 (by decide) ?_
      refine g_sub (Ln := [(0, .ref (E.2.1 1)), (1, .int x), (2, .int 0)]) [2, 3, 0] rfl ?_
      exact K3 t _ ht (by simpa [wb1_0 c16] using hq) hf
    · refine g_aload_n F 1 dX6_append_19 rfl rfl ?_
      refine g_geti (j := 0) (v := I1 1 0) F s1 rfl rfl uX6 (by decide) q35 rfl dX6_append_20 ?_
      refine g_sipush (v := 400) F dX6_append_23 (by decide) ?_
      refine g_icmpI_ge (tgt := 50) (a := (t.length : Int)) (b := 400) F (by rw [ht2]; exact iI_t (by omega) (by omega)) (by decide) dX6_append_26 (by decide) (fun c26 => ?_) (fun c26f => ?_)
      · refine g_iinc (v := 0) (Ln := [(2, .int 0), (3, .int ((x >>> 8) &&& 255)), (0, .ref (E.2.1 1)), (1, .int x)]) F 3 dX6_append_50 rfl (by decide) (by decide) rfl ?_
        refine g_goto (tgt := 3) F dX6_append_53 (by decide) ?_
        refine g_sub (Ln := [(0, .ref (E.2.1 1)), (1, .int x), (2, .int 0)]) [2, 3, 0] rfl ?_
        exfalso; rw [wb1_1 c16f] at hlen; simp only [List.length_cons, List.length_nil] at hlen; omega
      · refine g_aload_n F 1 dX6_append_29 rfl rfl ?_
        refine g_getr (j := 1) (nn := 2) F s1 rfl rfl uX6 (by decide) q37 dX6_append_30 ?_
        refine g_aload_n F 1 dX6_append_33 rfl rfl ?_
        refine g_geti (j := 0) (v := I1 1 0) F s1 rfl rfl uX6 (by decide) q35 rfl dX6_append_34 ?_
        refine g_iload_n F 0 dX6_append_37 rfl rfl ?_
        refine g_i2b (v := ((x >>> 8) &&& 255).toInt8.toInt32) F dX6_append_38 rfl ?_
        refine g_bastI (v := ((x >>> 8) &&& 255).toInt8.toInt32) F (t.length : Int) s2 ht2 (by omega) (by omega) (by decide) (by exact vp_nar_b8 _) dX6_append_39 ?_
        refine g_aload_n F 1 dX6_append_40 rfl rfl ?_
        refine g_dup F dX6_append_41 rfl ?_
        refine g_geti (j := 0) (v := I1 1 0) F s1 rfl rfl uX6 (by decide) q35 rfl dX6_append_42 ?_
        refine g_iconst (v := 1) F dX6_append_45 (by decide) ?_
        refine g_iadd (v := iI ((t.length : Int) + 1)) F dX6_append_46 (iI_add ht2 (by decide)) ?_
        refine g_puti (j := 0) F s1 rfl rfl uX6 (by decide) q35 tyX6_ok nmX6 rfl rfl rfl dX6_append_47 ?_
        refine g_iinc (v := 0) (Ln := [(2, .int 0), (3, .int ((x >>> 8) &&& 255)), (0, .ref (E.2.1 1)), (1, .int x)]) F 3 dX6_append_50 rfl (by decide) (by decide) rfl ?_
        refine g_goto (tgt := 3) F dX6_append_53 (by decide) ?_
        refine g_sub (Ln := [(0, .ref (E.2.1 1)), (1, .int x), (2, .int 0)]) [2, 3, 0] rfl ?_
        exact K3 (t ++ [x >>> 8 &&& 255]) _ (TX_push ht (by omega)) (by simpa [wb1_1 c16f] using hq) (fr_up (fr_up hf (Or.inr rfl)) (Or.inl ⟨rfl, rfl⟩))
  have K1 : ∀ (t : List Int32) (I1 : gM), TX t I1 → t ++ (wb1 x 16 ++ (wb1 x 8 ++ (wb1 x 0))) = t0 ++ wb x → fr frT I I1 → G z 3 [(0, .ref (E.2.1 1)), (1, .int x), (2, .int 16)] [] I1 J := by
    intro t I1 ht hq hf
    have hlen := congrArg List.length hq
    simp only [List.length_append] at hlen hle
    obtain ⟨-, ht2, -⟩ := id ht
    refine g_iload_n F 2 dX6_append_3 rfl rfl ?_
    refine g_if_lt (tgt := 56) F dX6_append_4 (by decide) (fun h => absurd h (by decide)) (fun _ => ?_)
    refine g_iload_n F 1 dX6_append_7 rfl rfl ?_
    refine g_iload_n F 2 dX6_append_8 rfl rfl ?_
    refine g_ishr (v := x >>> 16) F dX6_append_9 rfl ?_
    refine g_sipush (v := 255) F dX6_append_10 (by decide) ?_
    refine g_iand (v := (x >>> 16) &&& 255) F dX6_append_13 rfl ?_
    refine g_istore_n (Ln := [(3, .int ((x >>> 16) &&& 255)), (0, .ref (E.2.1 1)), (1, .int x), (2, .int 16)]) F dX6_append_14 rfl (by decide) rfl ?_
    refine g_iload_n F 0 dX6_append_15 rfl rfl ?_
    refine g_if_eq (tgt := 50) F dX6_append_16 (by decide) (fun c16 => ?_) (fun c16f => ?_)
    · refine g_iinc (v := 8) (Ln := [(2, .int 8), (3, .int ((x >>> 16) &&& 255)), (0, .ref (E.2.1 1)), (1, .int x)]) F 3 dX6_append_50 rfl (by decide) (by decide) rfl ?_
      refine g_goto (tgt := 3) F dX6_append_53 (by decide) ?_
      refine g_sub (Ln := [(0, .ref (E.2.1 1)), (1, .int x), (2, .int 8)]) [2, 3, 0] rfl ?_
      exact K2 t _ ht (by simpa [wb1_0 c16] using hq) hf
    · refine g_aload_n F 1 dX6_append_19 rfl rfl ?_
      refine g_geti (j := 0) (v := I1 1 0) F s1 rfl rfl uX6 (by decide) q35 rfl dX6_append_20 ?_
      refine g_sipush (v := 400) F dX6_append_23 (by decide) ?_
      refine g_icmpI_ge (tgt := 50) (a := (t.length : Int)) (b := 400) F (by rw [ht2]; exact iI_t (by omega) (by omega)) (by decide) dX6_append_26 (by decide) (fun c26 => ?_) (fun c26f => ?_)
      · refine g_iinc (v := 8) (Ln := [(2, .int 8), (3, .int ((x >>> 16) &&& 255)), (0, .ref (E.2.1 1)), (1, .int x)]) F 3 dX6_append_50 rfl (by decide) (by decide) rfl ?_
        refine g_goto (tgt := 3) F dX6_append_53 (by decide) ?_
        refine g_sub (Ln := [(0, .ref (E.2.1 1)), (1, .int x), (2, .int 8)]) [2, 3, 0] rfl ?_
        exfalso; rw [wb1_1 c16f] at hlen; simp only [List.length_cons, List.length_nil] at hlen; omega
      · refine g_aload_n F 1 dX6_append_29 rfl rfl ?_
        refine g_getr (j := 1) (nn := 2) F s1 rfl rfl uX6 (by decide) q37 dX6_append_30 ?_
        refine g_aload_n F 1 dX6_append_33 rfl rfl ?_
        refine g_geti (j := 0) (v := I1 1 0) F s1 rfl rfl uX6 (by decide) q35 rfl dX6_append_34 ?_
        refine g_iload_n F 0 dX6_append_37 rfl rfl ?_
        refine g_i2b (v := ((x >>> 16) &&& 255).toInt8.toInt32) F dX6_append_38 rfl ?_
        refine g_bastI (v := ((x >>> 16) &&& 255).toInt8.toInt32) F (t.length : Int) s2 ht2 (by omega) (by omega) (by decide) (by exact vp_nar_b8 _) dX6_append_39 ?_
        refine g_aload_n F 1 dX6_append_40 rfl rfl ?_
        refine g_dup F dX6_append_41 rfl ?_
        refine g_geti (j := 0) (v := I1 1 0) F s1 rfl rfl uX6 (by decide) q35 rfl dX6_append_42 ?_
        refine g_iconst (v := 1) F dX6_append_45 (by decide) ?_
        refine g_iadd (v := iI ((t.length : Int) + 1)) F dX6_append_46 (iI_add ht2 (by decide)) ?_
        refine g_puti (j := 0) F s1 rfl rfl uX6 (by decide) q35 tyX6_ok nmX6 rfl rfl rfl dX6_append_47 ?_
        refine g_iinc (v := 8) (Ln := [(2, .int 8), (3, .int ((x >>> 16) &&& 255)), (0, .ref (E.2.1 1)), (1, .int x)]) F 3 dX6_append_50 rfl (by decide) (by decide) rfl ?_
        refine g_goto (tgt := 3) F dX6_append_53 (by decide) ?_
        refine g_sub (Ln := [(0, .ref (E.2.1 1)), (1, .int x), (2, .int 8)]) [2, 3, 0] rfl ?_
        exact K2 (t ++ [x >>> 16 &&& 255]) _ (TX_push ht (by omega)) (by simpa [wb1_1 c16f] using hq) (fr_up (fr_up hf (Or.inr rfl)) (Or.inl ⟨rfl, rfl⟩))
  have K0 : ∀ (t : List Int32) (I1 : gM), TX t I1 → t ++ (wb1 x 24 ++ (wb1 x 16 ++ (wb1 x 8 ++ (wb1 x 0)))) = t0 ++ wb x → fr frT I I1 → G z 3 [(0, .ref (E.2.1 1)), (1, .int x), (2, .int 24)] [] I1 J := by
    intro t I1 ht hq hf
    have hlen := congrArg List.length hq
    simp only [List.length_append] at hlen hle
    obtain ⟨-, ht2, -⟩ := id ht
    refine g_iload_n F 2 dX6_append_3 rfl rfl ?_
    refine g_if_lt (tgt := 56) F dX6_append_4 (by decide) (fun h => absurd h (by decide)) (fun _ => ?_)
    refine g_iload_n F 1 dX6_append_7 rfl rfl ?_
    refine g_iload_n F 2 dX6_append_8 rfl rfl ?_
    refine g_ishr (v := x >>> 24) F dX6_append_9 rfl ?_
    refine g_sipush (v := 255) F dX6_append_10 (by decide) ?_
    refine g_iand (v := (x >>> 24) &&& 255) F dX6_append_13 rfl ?_
    refine g_istore_n (Ln := [(3, .int ((x >>> 24) &&& 255)), (0, .ref (E.2.1 1)), (1, .int x), (2, .int 24)]) F dX6_append_14 rfl (by decide) rfl ?_
    refine g_iload_n F 0 dX6_append_15 rfl rfl ?_
    refine g_if_eq (tgt := 50) F dX6_append_16 (by decide) (fun c16 => ?_) (fun c16f => ?_)
    · refine g_iinc (v := 16) (Ln := [(2, .int 16), (3, .int ((x >>> 24) &&& 255)), (0, .ref (E.2.1 1)), (1, .int x)]) F 3 dX6_append_50 rfl (by decide) (by decide) rfl ?_
      refine g_goto (tgt := 3) F dX6_append_53 (by decide) ?_
      refine g_sub (Ln := [(0, .ref (E.2.1 1)), (1, .int x), (2, .int 16)]) [2, 3, 0] rfl ?_
      exact K1 t _ ht (by simpa [wb1_0 c16] using hq) hf
    · refine g_aload_n F 1 dX6_append_19 rfl rfl ?_
      refine g_geti (j := 0) (v := I1 1 0) F s1 rfl rfl uX6 (by decide) q35 rfl dX6_append_20 ?_
      refine g_sipush (v := 400) F dX6_append_23 (by decide) ?_
      refine g_icmpI_ge (tgt := 50) (a := (t.length : Int)) (b := 400) F (by rw [ht2]; exact iI_t (by omega) (by omega)) (by decide) dX6_append_26 (by decide) (fun c26 => ?_) (fun c26f => ?_)
      · refine g_iinc (v := 16) (Ln := [(2, .int 16), (3, .int ((x >>> 24) &&& 255)), (0, .ref (E.2.1 1)), (1, .int x)]) F 3 dX6_append_50 rfl (by decide) (by decide) rfl ?_
        refine g_goto (tgt := 3) F dX6_append_53 (by decide) ?_
        refine g_sub (Ln := [(0, .ref (E.2.1 1)), (1, .int x), (2, .int 16)]) [2, 3, 0] rfl ?_
        exfalso; rw [wb1_1 c16f] at hlen; simp only [List.length_cons, List.length_nil] at hlen; omega
      · refine g_aload_n F 1 dX6_append_29 rfl rfl ?_
        refine g_getr (j := 1) (nn := 2) F s1 rfl rfl uX6 (by decide) q37 dX6_append_30 ?_
        refine g_aload_n F 1 dX6_append_33 rfl rfl ?_
        refine g_geti (j := 0) (v := I1 1 0) F s1 rfl rfl uX6 (by decide) q35 rfl dX6_append_34 ?_
        refine g_iload_n F 0 dX6_append_37 rfl rfl ?_
        refine g_i2b (v := ((x >>> 24) &&& 255).toInt8.toInt32) F dX6_append_38 rfl ?_
        refine g_bastI (v := ((x >>> 24) &&& 255).toInt8.toInt32) F (t.length : Int) s2 ht2 (by omega) (by omega) (by decide) (by exact vp_nar_b8 _) dX6_append_39 ?_
        refine g_aload_n F 1 dX6_append_40 rfl rfl ?_
        refine g_dup F dX6_append_41 rfl ?_
        refine g_geti (j := 0) (v := I1 1 0) F s1 rfl rfl uX6 (by decide) q35 rfl dX6_append_42 ?_
        refine g_iconst (v := 1) F dX6_append_45 (by decide) ?_
        refine g_iadd (v := iI ((t.length : Int) + 1)) F dX6_append_46 (iI_add ht2 (by decide)) ?_
        refine g_puti (j := 0) F s1 rfl rfl uX6 (by decide) q35 tyX6_ok nmX6 rfl rfl rfl dX6_append_47 ?_
        refine g_iinc (v := 16) (Ln := [(2, .int 16), (3, .int ((x >>> 24) &&& 255)), (0, .ref (E.2.1 1)), (1, .int x)]) F 3 dX6_append_50 rfl (by decide) (by decide) rfl ?_
        refine g_goto (tgt := 3) F dX6_append_53 (by decide) ?_
        refine g_sub (Ln := [(0, .ref (E.2.1 1)), (1, .int x), (2, .int 16)]) [2, 3, 0] rfl ?_
        exact K1 (t ++ [x >>> 24 &&& 255]) _ (TX_push ht (by omega)) (by simpa [wb1_1 c16f] using hq) (fr_up (fr_up hf (Or.inr rfl)) (Or.inl ⟨rfl, rfl⟩))
  refine g_bipush (v := 24) F dX6_append_0 (by decide) ?_
  refine g_istore_n (Ln := [(2, .int 24), (0, .ref (E.2.1 1)), (1, .int x)]) F dX6_append_2 rfl (by decide) rfl ?_
  refine g_sub (Ln := [(0, .ref (E.2.1 1)), (1, .int x), (2, .int 24)]) [1, 2, 0] rfl ?_
  exact K0 t0 I ht0 rfl fr_rf
def bl (a b c d e : Int32) : List Int32 := wb a ++ (wb b ++ (wb c ++ (wb d ++ wb e)))
set_option maxRecDepth 100000 in
set_option maxHeartbeats 4000000 in
theorem kX8_feed (l : Launch) (E : gE) (hE : gDist sh E) (I : gM) (J : gN) (a1 a2 a3 a4 a5 : Int32) (t0 : List Int32) (ht0 : TX t0 I) : Ct l sh E yX8_feed cX8_feed 7 (some .int) (gR 1) [.ref (E.2.1 0), .int a1, .int a2, .int a3, .int a4, .int a5] I J (fun r I1 J1 => ((t0 ++ bl a1 a2 a3 a4 a5).length ≤ 400 ∧ r = some (.int (iI (t0 ++ bl a1 a2 a3 a4 a5).length)) ∧ TX (t0 ++ bl a1 a2 a3 a4 a5) I1 ∧ fr frT I I1 ∧ J1 = J) ∨ (¬ (t0 ++ bl a1 a2 a3 a4 a5).length ≤ 400 ∧ r = some (.int (-1)) ∧ I1 = I ∧ J1 = J)) := by
  refine Ct.of "LeapJoin" rfl hE (by decide) (Nat.le_of_ble_eq_true rfl) (fun z F e hl => ?_)
  subst hl
  have hn0 := ht0.2.1
  have hb0 := ht0.1
  have la1 := wb_le a1
  have la2 := wb_le a2
  have la3 := wb_le a3
  have la4 := wb_le a4
  have la5 := wb_le a5
  refine g_iload_n F 1 dX8_feed_0 rfl rfl ?_
  refine g_callS (As := [.int a1]) (rest := []) F (kX6_bytesIn (zl z) E hE _ _ a1) mX6_bytesIn q207 rfl rfl rfl (Nat.le_of_ble_eq_true rfl) dX8_feed_1 (fun r I2 J2 h2 => ?_)
  obtain ⟨rfl, eh2, fh2⟩ := h2
  refine g_mem eh2 fh2 ?_
  refine g_st (sn := [.int (iI (((wb a1).length : Int)))]) rfl ?_
  refine g_iload_n F 2 dX8_feed_4 rfl rfl ?_
  refine g_callS (As := [.int a2]) (rest := [.int (iI (((wb a1).length : Int)))]) F (kX6_bytesIn (zl z) E hE _ _ a2) mX6_bytesIn q207 rfl rfl rfl (Nat.le_of_ble_eq_true rfl) dX8_feed_5 (fun r I3 J3 h3 => ?_)
  obtain ⟨rfl, eh3, fh3⟩ := h3
  refine g_mem eh3 fh3 ?_
  refine g_st (sn := [.int (iI (((wb a2).length : Int))), .int (iI (((wb a1).length : Int)))]) rfl ?_
  refine g_iadd (v := iI ((((wb a1).length : Int)) + (((wb a2).length : Int)))) F dX8_feed_8 (iI_add rfl rfl) ?_
  refine g_iload_n F 3 dX8_feed_9 rfl rfl ?_
  refine g_callS (As := [.int a3]) (rest := [.int (iI ((((wb a1).length : Int)) + (((wb a2).length : Int))))]) F (kX6_bytesIn (zl z) E hE _ _ a3) mX6_bytesIn q207 rfl rfl rfl (Nat.le_of_ble_eq_true rfl) dX8_feed_10 (fun r I4 J4 h4 => ?_)
  obtain ⟨rfl, eh4, fh4⟩ := h4
  refine g_mem eh4 fh4 ?_
  refine g_st (sn := [.int (iI (((wb a3).length : Int))), .int (iI ((((wb a1).length : Int)) + (((wb a2).length : Int))))]) rfl ?_
  refine g_iadd (v := iI (((((wb a1).length : Int)) + (((wb a2).length : Int))) + (((wb a3).length : Int)))) F dX8_feed_13 (iI_add rfl rfl) ?_
  refine g_iload F 4 dX8_feed_14 rfl ?_
  refine g_callS (As := [.int a4]) (rest := [.int (iI (((((wb a1).length : Int)) + (((wb a2).length : Int))) + (((wb a3).length : Int))))]) F (kX6_bytesIn (zl z) E hE _ _ a4) mX6_bytesIn q207 rfl rfl rfl (Nat.le_of_ble_eq_true rfl) dX8_feed_16 (fun r I5 J5 h5 => ?_)
  obtain ⟨rfl, eh5, fh5⟩ := h5
  refine g_mem eh5 fh5 ?_
  refine g_st (sn := [.int (iI (((wb a4).length : Int))), .int (iI (((((wb a1).length : Int)) + (((wb a2).length : Int))) + (((wb a3).length : Int))))]) rfl ?_
  refine g_iadd (v := iI ((((((wb a1).length : Int)) + (((wb a2).length : Int))) + (((wb a3).length : Int))) + (((wb a4).length : Int)))) F dX8_feed_19 (iI_add rfl rfl) ?_
  refine g_iload F 5 dX8_feed_20 rfl ?_
  refine g_callS (As := [.int a5]) (rest := [.int (iI ((((((wb a1).length : Int)) + (((wb a2).length : Int))) + (((wb a3).length : Int))) + (((wb a4).length : Int))))]) F (kX6_bytesIn (zl z) E hE _ _ a5) mX6_bytesIn q207 rfl rfl rfl (Nat.le_of_ble_eq_true rfl) dX8_feed_22 (fun r I6 J6 h6 => ?_)
  obtain ⟨rfl, eh6, fh6⟩ := h6
  refine g_mem eh6 fh6 ?_
  refine g_st (sn := [.int (iI (((wb a5).length : Int))), .int (iI ((((((wb a1).length : Int)) + (((wb a2).length : Int))) + (((wb a3).length : Int))) + (((wb a4).length : Int))))]) rfl ?_
  refine g_iadd (v := iI (((((((wb a1).length : Int)) + (((wb a2).length : Int))) + (((wb a3).length : Int))) + (((wb a4).length : Int))) + (((wb a5).length : Int)))) F dX8_feed_25 (iI_add rfl rfl) ?_
  refine g_istore (Ln := [(6, .int (iI (((((((wb a1).length : Int)) + (((wb a2).length : Int))) + (((wb a3).length : Int))) + (((wb a4).length : Int))) + (((wb a5).length : Int))))), (0, .ref (E.2.1 0)), (1, .int a1), (2, .int a2), (3, .int a3), (4, .int a4), (5, .int a5)]) F dX8_feed_26 (by decide) rfl ?_
  refine g_aload_n F 1 dX8_feed_28 rfl rfl ?_
  refine g_getr (j := 0) (nn := 1) F s0 rfl rfl uX8 (by decide) q169 dX8_feed_29 ?_
  refine g_geti (j := 0) (v := I 1 0) F s1 rfl rfl uX6 (by decide) q36 rfl dX8_feed_32 ?_
  refine g_iload F 0 dX8_feed_35 rfl ?_
  refine g_iadd (v := iI ((t0.length : Int) + (((((((wb a1).length : Int)) + (((wb a2).length : Int))) + (((wb a3).length : Int))) + (((wb a4).length : Int))) + (((wb a5).length : Int))))) F dX8_feed_37 (iI_add hn0 rfl) ?_
  refine g_sipush (v := 400) F dX8_feed_38 (by decide) ?_
  refine g_icmpI_le (tgt := 46) (a := ((t0.length : Int) + (((((((wb a1).length : Int)) + (((wb a2).length : Int))) + (((wb a3).length : Int))) + (((wb a4).length : Int))) + (((wb a5).length : Int))))) (b := 400) F (iI_t (by omega) (by omega)) (by decide) dX8_feed_41 (by decide) (fun c41 => ?_) (fun c41f => ?_)
  · have hle : (t0 ++ bl a1 a2 a3 a4 a5).length ≤ 400 := by simp only [bl, List.length_append]; omega
    simp only [bl] at hle
    refine g_aload_n F 1 dX8_feed_46 rfl rfl ?_
    refine g_getr (j := 0) (nn := 1) F s0 rfl rfl uX8 (by decide) q169 dX8_feed_47 ?_
    refine g_iload_n F 2 dX8_feed_50 rfl rfl ?_
    refine g_callV (k := 1) (As := [.int a1]) (rest := []) F (kX6_append (zl z) E hE _ _ a1 t0 ht0 (by simp only [List.length_append] at hle ⊢; omega)) mX6_append q210 rfl s1 rfl rfl rfl (Nat.le_of_ble_eq_true rfl) dX8_feed_51 (fun r I7 J7 h7 => ?_)
    obtain ⟨rfl, ht7, hf7, eh7⟩ := h7
    refine g_mem rfl eh7 ?_
    have hn7 := ht7.2.1
    refine g_st (sn := []) rfl ?_
    refine g_aload_n F 1 dX8_feed_54 rfl rfl ?_
    refine g_getr (j := 0) (nn := 1) F s0 rfl rfl uX8 (by decide) q169 dX8_feed_55 ?_
    refine g_iload_n F 3 dX8_feed_58 rfl rfl ?_
    refine g_callV (k := 1) (As := [.int a2]) (rest := []) F (kX6_append (zl z) E hE _ _ a2 (t0 ++ wb a1) ht7 (by simp only [List.length_append] at hle ⊢; omega)) mX6_append q210 rfl s1 rfl rfl rfl (Nat.le_of_ble_eq_true rfl) dX8_feed_59 (fun r I8 J8 h8 => ?_)
    obtain ⟨rfl, ht8, hf8, eh8⟩ := h8
    refine g_mem rfl eh8 ?_
    have hn8 := ht8.2.1
    refine g_st (sn := []) rfl ?_
    refine g_aload_n F 1 dX8_feed_62 rfl rfl ?_
    refine g_getr (j := 0) (nn := 1) F s0 rfl rfl uX8 (by decide) q169 dX8_feed_63 ?_
    refine g_iload_n F 4 dX8_feed_66 rfl rfl ?_
    refine g_callV (k := 1) (As := [.int a3]) (rest := []) F (kX6_append (zl z) E hE _ _ a3 ((t0 ++ wb a1) ++ wb a2) ht8 (by simp only [List.length_append] at hle ⊢; omega)) mX6_append q210 rfl s1 rfl rfl rfl (Nat.le_of_ble_eq_true rfl) dX8_feed_67 (fun r I9 J9 h9 => ?_)
    obtain ⟨rfl, ht9, hf9, eh9⟩ := h9
    refine g_mem rfl eh9 ?_
    have hn9 := ht9.2.1
    refine g_st (sn := []) rfl ?_
    refine g_aload_n F 1 dX8_feed_70 rfl rfl ?_
    refine g_getr (j := 0) (nn := 1) F s0 rfl rfl uX8 (by decide) q169 dX8_feed_71 ?_
    refine g_iload F 5 dX8_feed_74 rfl ?_
    refine g_callV (k := 1) (As := [.int a4]) (rest := []) F (kX6_append (zl z) E hE _ _ a4 (((t0 ++ wb a1) ++ wb a2) ++ wb a3) ht9 (by simp only [List.length_append] at hle ⊢; omega)) mX6_append q210 rfl s1 rfl rfl rfl (Nat.le_of_ble_eq_true rfl) dX8_feed_76 (fun r I10 J10 h10 => ?_)
    obtain ⟨rfl, ht10, hf10, eh10⟩ := h10
    refine g_mem rfl eh10 ?_
    have hn10 := ht10.2.1
    refine g_st (sn := []) rfl ?_
    refine g_aload_n F 1 dX8_feed_79 rfl rfl ?_
    refine g_getr (j := 0) (nn := 1) F s0 rfl rfl uX8 (by decide) q169 dX8_feed_80 ?_
    refine g_iload F 6 dX8_feed_83 rfl ?_
    refine g_callV (k := 1) (As := [.int a5]) (rest := []) F (kX6_append (zl z) E hE _ _ a5 ((((t0 ++ wb a1) ++ wb a2) ++ wb a3) ++ wb a4) ht10 (by simp only [List.length_append] at hle ⊢; omega)) mX6_append q210 rfl s1 rfl rfl rfl (Nat.le_of_ble_eq_true rfl) dX8_feed_85 (fun r I11 J11 h11 => ?_)
    obtain ⟨rfl, ht11, hf11, eh11⟩ := h11
    refine g_mem rfl eh11 ?_
    have hn11 := ht11.2.1
    refine g_st (sn := []) rfl ?_
    refine g_aload_n F 1 dX8_feed_88 rfl rfl ?_
    refine g_getr (j := 0) (nn := 1) F s0 rfl rfl uX8 (by decide) q169 dX8_feed_89 ?_
    refine g_geti (j := 0) (v := I11 1 0) F s1 rfl rfl uX6 (by decide) q36 rfl dX8_feed_92 ?_
    exact g_iret F e dX8_feed_95 (by
    refine Or.inl ⟨by simp only [bl, List.length_append]; omega, ?_, by simpa only [bl, List.append_assoc] using ht11, fr_tr (fr_tr (fr_tr (fr_tr hf7 hf8) hf9) hf10) hf11, rfl⟩
    rw [hn11]; simp only [bl, List.append_assoc])
  · refine g_iconst (v := (-1)) F dX8_feed_44 (by decide) ?_
    exact g_iret F e dX8_feed_45 (by
    refine Or.inr ⟨by simp only [bl, List.length_append]; omega, rfl, rfl, rfl⟩)
