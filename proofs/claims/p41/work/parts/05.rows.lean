/-! whole numbers behind the ints -/
def iI (a : Int) : Int32 := Int32.ofInt a
theorem iI_t {a : Int} (h1 : -2147483648 ≤ a) (h2 : a < 2147483648) : (iI a).toInt = a := Int32.toInt_ofInt_of_le (by simpa using h1) (by simpa using h2)
theorem iI_self (x : Int32) : x = iI x.toInt := (Int32.ofInt_toInt x).symm
theorem iI_add {x y : Int32} {a b : Int} (hx : x = iI a) (hy : y = iI b) : x + y = iI (a + b) := by subst hx; subst hy; exact (Int32.ofInt_add a b).symm
theorem iI_sub {x y : Int32} {a b : Int} (hx : x = iI a) (hy : y = iI b) : x - y = iI (a - b) := by subst hx; subst hy; exact (Int32.ofInt_sub a b).symm
theorem iI_mul {x y : Int32} {a b : Int} (hx : x = iI a) (hy : y = iI b) : x * y = iI (a * b) := by subst hx; subst hy; exact (Int32.ofInt_mul a b).symm
theorem iI_n (n : Nat) : iI (n : Int) = nI n := Int32.ofInt_eq_ofNat

section GROWS
variable {z : gZ} {S : List gS} {E : gE} {own : String} {cc : ByteArray} {rm : Room} {nL : Nat} {pc : Nat} {L : List (Nat × Value)} {st : List Value} {I : gM} {J : gN}
theorem g_iconst (F : Fx z S E own cc rm nL) {n : Int} {v : Int32} (hd : decode cc pc = .ok (.iconst n, 1)) (hv : Int32.ofInt n = v) (K : G z (pc + 1) L (.int v :: st) I J) : G z pc L (st) I J := by
  obtain ⟨hx, hb, hml, hown, hts, hK, hD, hk0, rfl, rfl, rfl, rfl⟩ := F
  intro H locs ls hP hS hl
  exact lv_iconst hx hb hd hv (K H locs ls hP hS hl)
theorem g_bipush (F : Fx z S E own cc rm nL) {n : Int} {v : Int32} (hd : decode cc pc = .ok (.bipush n, 2)) (hv : (Int8.ofInt n).toInt32 = v) (K : G z (pc + 2) L (.int v :: st) I J) : G z pc L (st) I J := by
  obtain ⟨hx, hb, hml, hown, hts, hK, hD, hk0, rfl, rfl, rfl, rfl⟩ := F
  intro H locs ls hP hS hl
  exact lv_bipush hx hb hd hv (K H locs ls hP hS hl)
theorem g_sipush (F : Fx z S E own cc rm nL) {n : Int} {v : Int32} (hd : decode cc pc = .ok (.sipush n, 3)) (hv : (Int16.ofInt n).toInt32 = v) (K : G z (pc + 3) L (.int v :: st) I J) : G z pc L (st) I J := by
  obtain ⟨hx, hb, hml, hown, hts, hK, hD, hk0, rfl, rfl, rfl, rfl⟩ := F
  intro H locs ls hP hS hl
  exact lv_sipush hx hb hd hv (K H locs ls hP hS hl)
theorem g_lconst (F : Fx z S E own cc rm nL) {n : Fin 2} {v : Int64} (hd : decode cc pc = .ok (.lconst n, 1)) (hv : Int64.ofNat (n : Nat) = v) (K : G z (pc + 1) L (.long v :: st) I J) : G z pc L (st) I J := by
  obtain ⟨hx, hb, hml, hown, hts, hK, hD, hk0, rfl, rfl, rfl, rfl⟩ := F
  intro H locs ls hP hS hl
  exact lv_lconst hx hb hd hv (K H locs ls hP hS hl)
theorem g_ldc (F : Fx z S E own cc rm nL) {idx : Nat} {v : Int32} (hd : decode cc pc = .ok (.ldc idx, 2)) (hq : Cond.constant own idx v ∈ gw) (K : G z (pc + 2) L (.int v :: st) I J) : G z pc L (st) I J := by
  obtain ⟨hx, hb, hml, hown, hts, hK, hD, hk0, rfl, rfl, rfl, rfl⟩ := F
  intro H locs ls hP hS hl
  exact lv_ldc hx hb hown (hts _ hq) hd (K H locs ls hP hS hl)
theorem g_ldc_w (F : Fx z S E own cc rm nL) {idx : Nat} {v : Int32} (hd : decode cc pc = .ok (.ldc_w idx, 3)) (hq : Cond.constant own idx v ∈ gw) (K : G z (pc + 3) L (.int v :: st) I J) : G z pc L (st) I J := by
  obtain ⟨hx, hb, hml, hown, hts, hK, hD, hk0, rfl, rfl, rfl, rfl⟩ := F
  intro H locs ls hP hS hl
  exact lv_ldcw hx hb hown (hts _ hq) hd (K H locs ls hP hS hl)
theorem g_ldc2_w (F : Fx z S E own cc rm nL) {idx : Nat} {v : Int64} (hd : decode cc pc = .ok (.ldc2_w idx, 3)) (hq : Cond.constantLong own idx v ∈ gw) (K : G z (pc + 3) L (.long v :: st) I J) : G z pc L (st) I J := by
  obtain ⟨hx, hb, hml, hown, hts, hK, hD, hk0, rfl, rfl, rfl, rfl⟩ := F
  intro H locs ls hP hS hl
  exact lv_ldc2 hx hb hown (hts _ hq) hd (K H locs ls hP hS hl)
theorem g_iload_n (F : Fx z S E own cc rm nL) {k : Fin 4} {i : Nat} {x : Int32} (q : Nat) (hd : decode cc pc = .ok (.iload_n k, 1)) (hi : (k : Nat) = i) (hq : L[q]? = some (i, .int x)) (K : G z (pc + 1) L (.int x :: st) I J) : G z pc L (st) I J := by
  obtain ⟨hx, hb, hml, hown, hts, hK, hD, hk0, rfl, rfl, rfl, rfl⟩ := F
  intro H locs ls hP hS hl
  exact lv_iload_n hx hb hd hi (lv_at hl q hq) (K H locs ls hP hS hl)
theorem g_iload (F : Fx z S E own cc rm nL) {i : Nat} {x : Int32} (q : Nat) (hd : decode cc pc = .ok (.iload i, 2)) (hq : L[q]? = some (i, .int x)) (K : G z (pc + 2) L (.int x :: st) I J) : G z pc L (st) I J := by
  obtain ⟨hx, hb, hml, hown, hts, hK, hD, hk0, rfl, rfl, rfl, rfl⟩ := F
  intro H locs ls hP hS hl
  exact lv_iload hx hb hd (lv_at hl q hq) (K H locs ls hP hS hl)
theorem g_lload_n (F : Fx z S E own cc rm nL) {k : Fin 4} {i : Nat} {x : Int64} (q : Nat) (hd : decode cc pc = .ok (.lload_n k, 1)) (hi : (k : Nat) = i) (hq : L[q]? = some (i, .long x)) (K : G z (pc + 1) L (.long x :: st) I J) : G z pc L (st) I J := by
  obtain ⟨hx, hb, hml, hown, hts, hK, hD, hk0, rfl, rfl, rfl, rfl⟩ := F
  intro H locs ls hP hS hl
  exact lv_lload_n hx hb hd hi (lv_at hl q hq) (K H locs ls hP hS hl)
theorem g_lload (F : Fx z S E own cc rm nL) {i : Nat} {x : Int64} (q : Nat) (hd : decode cc pc = .ok (.lload i, 2)) (hq : L[q]? = some (i, .long x)) (K : G z (pc + 2) L (.long x :: st) I J) : G z pc L (st) I J := by
  obtain ⟨hx, hb, hml, hown, hts, hK, hD, hk0, rfl, rfl, rfl, rfl⟩ := F
  intro H locs ls hP hS hl
  exact lv_lload hx hb hd (lv_at hl q hq) (K H locs ls hP hS hl)
theorem g_aload_n (F : Fx z S E own cc rm nL) {k : Fin 4} {i : Nat} {x : Nat} (q : Nat) (hd : decode cc pc = .ok (.aload_n k, 1)) (hi : (k : Nat) = i) (hq : L[q]? = some (i, .ref x)) (K : G z (pc + 1) L (.ref x :: st) I J) : G z pc L (st) I J := by
  obtain ⟨hx, hb, hml, hown, hts, hK, hD, hk0, rfl, rfl, rfl, rfl⟩ := F
  intro H locs ls hP hS hl
  exact lv_aload_n hx hb hd hi (lv_at hl q hq) (K H locs ls hP hS hl)
theorem g_aload (F : Fx z S E own cc rm nL) {i : Nat} {x : Nat} (q : Nat) (hd : decode cc pc = .ok (.aload i, 2)) (hq : L[q]? = some (i, .ref x)) (K : G z (pc + 2) L (.ref x :: st) I J) : G z pc L (st) I J := by
  obtain ⟨hx, hb, hml, hown, hts, hK, hD, hk0, rfl, rfl, rfl, rfl⟩ := F
  intro H locs ls hP hS hl
  exact lv_aload hx hb hd (lv_at hl q hq) (K H locs ls hP hS hl)
theorem g_istore_n (F : Fx z S E own cc rm nL) {k : Fin 4} {i : Nat} {x : Int32} {Ln : List (Nat × Value)} (hd : decode cc pc = .ok (.istore_n k, 1)) (hi : (k : Nat) = i) (hn : i < nL) (hL : (i, Value.int x) :: L.filter (fun q => !(q.1 == i) && !(q.1 + 1 == i && q.2.category == 2)) = Ln) (K : G z (pc + 1) Ln st I J) : G z pc L (.int x :: st) I J := by
  obtain ⟨hx, hb, hml, hown, hts, hK, hD, hk0, rfl, rfl, rfl, rfl⟩ := F
  intro H locs ls hP hS hl
  exact lv_istore_n (lv := L) hx hb hd hi hl hn hL (fun ls hl => K H locs ls hP hS hl)
theorem g_istore (F : Fx z S E own cc rm nL) {i : Nat} {x : Int32} {Ln : List (Nat × Value)} (hd : decode cc pc = .ok (.istore i, 2)) (hn : i < nL) (hL : (i, Value.int x) :: L.filter (fun q => !(q.1 == i) && !(q.1 + 1 == i && q.2.category == 2)) = Ln) (K : G z (pc + 2) Ln st I J) : G z pc L (.int x :: st) I J := by
  obtain ⟨hx, hb, hml, hown, hts, hK, hD, hk0, rfl, rfl, rfl, rfl⟩ := F
  intro H locs ls hP hS hl
  exact lv_istore (lv := L) hx hb hd hl hn hL (fun ls hl => K H locs ls hP hS hl)
theorem g_lstore_n (F : Fx z S E own cc rm nL) {k : Fin 4} {i : Nat} {x : Int64} {Ln : List (Nat × Value)} (hd : decode cc pc = .ok (.lstore_n k, 1)) (hi : (k : Nat) = i) (hn : i + 1 < nL) (hL : (i, Value.long x) :: L.filter (fun q => !(q.1 == i) && (!(q.1 == i + 1) && !(q.1 + 1 == i && q.2.category == 2))) = Ln) (K : G z (pc + 1) Ln st I J) : G z pc L (.long x :: st) I J := by
  obtain ⟨hx, hb, hml, hown, hts, hK, hD, hk0, rfl, rfl, rfl, rfl⟩ := F
  intro H locs ls hP hS hl
  exact lv_lstore_n (lv := L) hx hb hd hi hl hn hL (fun ls hl => K H locs ls hP hS hl)
theorem g_lstore (F : Fx z S E own cc rm nL) {i : Nat} {x : Int64} {Ln : List (Nat × Value)} (hd : decode cc pc = .ok (.lstore i, 2)) (hn : i + 1 < nL) (hL : (i, Value.long x) :: L.filter (fun q => !(q.1 == i) && (!(q.1 == i + 1) && !(q.1 + 1 == i && q.2.category == 2))) = Ln) (K : G z (pc + 2) Ln st I J) : G z pc L (.long x :: st) I J := by
  obtain ⟨hx, hb, hml, hown, hts, hK, hD, hk0, rfl, rfl, rfl, rfl⟩ := F
  intro H locs ls hP hS hl
  exact lv_lstore (lv := L) hx hb hd hl hn hL (fun ls hl => K H locs ls hP hS hl)
theorem g_astore_n (F : Fx z S E own cc rm nL) {k : Fin 4} {i : Nat} {x : Nat} {Ln : List (Nat × Value)} (hd : decode cc pc = .ok (.astore_n k, 1)) (hi : (k : Nat) = i) (hn : i < nL) (hL : (i, Value.ref x) :: L.filter (fun q => !(q.1 == i) && !(q.1 + 1 == i && q.2.category == 2)) = Ln) (K : G z (pc + 1) Ln st I J) : G z pc L (.ref x :: st) I J := by
  obtain ⟨hx, hb, hml, hown, hts, hK, hD, hk0, rfl, rfl, rfl, rfl⟩ := F
  intro H locs ls hP hS hl
  exact lv_astore_n (lv := L) hx hb hd hi hl hn hL (fun ls hl => K H locs ls hP hS hl)
theorem g_astore (F : Fx z S E own cc rm nL) {i : Nat} {x : Nat} {Ln : List (Nat × Value)} (hd : decode cc pc = .ok (.astore i, 2)) (hn : i < nL) (hL : (i, Value.ref x) :: L.filter (fun q => !(q.1 == i) && !(q.1 + 1 == i && q.2.category == 2)) = Ln) (K : G z (pc + 2) Ln st I J) : G z pc L (.ref x :: st) I J := by
  obtain ⟨hx, hb, hml, hown, hts, hK, hD, hk0, rfl, rfl, rfl, rfl⟩ := F
  intro H locs ls hP hS hl
  exact lv_astore (lv := L) hx hb hd hl hn hL (fun ls hl => K H locs ls hP hS hl)
theorem g_iinc (F : Fx z S E own cc rm nL) {i : Nat} {n : Int} {x v : Int32} {Ln : List (Nat × Value)} (q : Nat) (hd : decode cc pc = .ok (.iinc i n, 3)) (hq : L[q]? = some (i, .int x)) (hv : x + Int32.ofInt n = v) (hn : i < nL) (hL : (i, Value.int v) :: L.filter (fun q => !(q.1 == i) && !(q.1 + 1 == i && q.2.category == 2)) = Ln) (K : G z (pc + 3) Ln st I J) : G z pc L (st) I J := by
  obtain ⟨hx, hb, hml, hown, hts, hK, hD, hk0, rfl, rfl, rfl, rfl⟩ := F
  intro H locs ls hP hS hl
  exact lv_iinc (lv := L) hx hb hd hl hq hv hn hL (fun ls hl => K H locs ls hP hS hl)
theorem g_iadd (F : Fx z S E own cc rm nL) {x y v : Int32} (hd : decode cc pc = .ok (.iadd, 1)) (hv : x + y = v) (K : G z (pc + 1) L (.int v :: st) I J) : G z pc L (.int y :: .int x :: st) I J := by
  obtain ⟨hx, hb, hml, hown, hts, hK, hD, hk0, rfl, rfl, rfl, rfl⟩ := F
  intro H locs ls hP hS hl
  exact lv_iadd hx hb hd (by rw [hv]; exact K H locs ls hP hS hl)
theorem g_isub (F : Fx z S E own cc rm nL) {x y v : Int32} (hd : decode cc pc = .ok (.isub, 1)) (hv : x - y = v) (K : G z (pc + 1) L (.int v :: st) I J) : G z pc L (.int y :: .int x :: st) I J := by
  obtain ⟨hx, hb, hml, hown, hts, hK, hD, hk0, rfl, rfl, rfl, rfl⟩ := F
  intro H locs ls hP hS hl
  exact lv_isub hx hb hd (by rw [hv]; exact K H locs ls hP hS hl)
theorem g_imul (F : Fx z S E own cc rm nL) {x y v : Int32} (hd : decode cc pc = .ok (.imul, 1)) (hv : x * y = v) (K : G z (pc + 1) L (.int v :: st) I J) : G z pc L (.int y :: .int x :: st) I J := by
  obtain ⟨hx, hb, hml, hown, hts, hK, hD, hk0, rfl, rfl, rfl, rfl⟩ := F
  intro H locs ls hP hS hl
  exact lv_imul hx hb hd (by rw [hv]; exact K H locs ls hP hS hl)
theorem g_iand (F : Fx z S E own cc rm nL) {x y v : Int32} (hd : decode cc pc = .ok (.iand, 1)) (hv : x &&& y = v) (K : G z (pc + 1) L (.int v :: st) I J) : G z pc L (.int y :: .int x :: st) I J := by
  obtain ⟨hx, hb, hml, hown, hts, hK, hD, hk0, rfl, rfl, rfl, rfl⟩ := F
  intro H locs ls hP hS hl
  exact lv_iand hx hb hd (by rw [hv]; exact K H locs ls hP hS hl)
theorem g_ior (F : Fx z S E own cc rm nL) {x y v : Int32} (hd : decode cc pc = .ok (.ior, 1)) (hv : x ||| y = v) (K : G z (pc + 1) L (.int v :: st) I J) : G z pc L (.int y :: .int x :: st) I J := by
  obtain ⟨hx, hb, hml, hown, hts, hK, hD, hk0, rfl, rfl, rfl, rfl⟩ := F
  intro H locs ls hP hS hl
  exact lv_ior hx hb hd (by rw [hv]; exact K H locs ls hP hS hl)
theorem g_ixor (F : Fx z S E own cc rm nL) {x y v : Int32} (hd : decode cc pc = .ok (.ixor, 1)) (hv : x ^^^ y = v) (K : G z (pc + 1) L (.int v :: st) I J) : G z pc L (.int y :: .int x :: st) I J := by
  obtain ⟨hx, hb, hml, hown, hts, hK, hD, hk0, rfl, rfl, rfl, rfl⟩ := F
  intro H locs ls hP hS hl
  exact lv_ixor hx hb hd (by rw [hv]; exact K H locs ls hP hS hl)
theorem g_ishl (F : Fx z S E own cc rm nL) {x y v : Int32} (hd : decode cc pc = .ok (.ishl, 1)) (hv : x <<< (y &&& 31) = v) (K : G z (pc + 1) L (.int v :: st) I J) : G z pc L (.int y :: .int x :: st) I J := by
  obtain ⟨hx, hb, hml, hown, hts, hK, hD, hk0, rfl, rfl, rfl, rfl⟩ := F
  intro H locs ls hP hS hl
  exact lv_ishl hx hb hd (by rw [hv]; exact K H locs ls hP hS hl)
theorem g_ishr (F : Fx z S E own cc rm nL) {x y v : Int32} (hd : decode cc pc = .ok (.ishr, 1)) (hv : x >>> (y &&& 31) = v) (K : G z (pc + 1) L (.int v :: st) I J) : G z pc L (.int y :: .int x :: st) I J := by
  obtain ⟨hx, hb, hml, hown, hts, hK, hD, hk0, rfl, rfl, rfl, rfl⟩ := F
  intro H locs ls hP hS hl
  exact lv_ishr hx hb hd (by rw [hv]; exact K H locs ls hP hS hl)
theorem g_iushr (F : Fx z S E own cc rm nL) {x y v : Int32} (hd : decode cc pc = .ok (.iushr, 1)) (hv : (x.toUInt32 >>> (y.toUInt32 &&& Int32.toUInt32 31)).toInt32 = v) (K : G z (pc + 1) L (.int v :: st) I J) : G z pc L (.int y :: .int x :: st) I J := by
  obtain ⟨hx, hb, hml, hown, hts, hK, hD, hk0, rfl, rfl, rfl, rfl⟩ := F
  intro H locs ls hP hS hl
  exact lv_iushr hx hb hd hv (K H locs ls hP hS hl)
theorem g_irem (F : Fx z S E own cc rm nL) {x y v : Int32} (hd : decode cc pc = .ok (.irem, 1)) (hne : ¬ y = 0) (hv : x - x / y * y = v) (K : G z (pc + 1) L (.int v :: st) I J) : G z pc L (.int y :: .int x :: st) I J := by
  obtain ⟨hx, hb, hml, hown, hts, hK, hD, hk0, rfl, rfl, rfl, rfl⟩ := F
  intro H locs ls hP hS hl
  exact lv_irem hx hb hd hne (by rw [hv]; exact K H locs ls hP hS hl)
theorem g_idiv (F : Fx z S E own cc rm nL) {x y v : Int32} (hd : decode cc pc = .ok (.idiv, 1)) (hne : ¬ y = 0) (hv : x / y = v) (K : G z (pc + 1) L (.int v :: st) I J) : G z pc L (.int y :: .int x :: st) I J := by
  obtain ⟨hx, hb, hml, hown, hts, hK, hD, hk0, rfl, rfl, rfl, rfl⟩ := F
  intro H locs ls hP hS hl
  exact lv_idiv hx hb hd hne (by rw [hv]; exact K H locs ls hP hS hl)
theorem g_ladd (F : Fx z S E own cc rm nL) {x y v : Int64} (hd : decode cc pc = .ok (.ladd, 1)) (hv : x + y = v) (K : G z (pc + 1) L (.long v :: st) I J) : G z pc L (.long y :: .long x :: st) I J := by
  obtain ⟨hx, hb, hml, hown, hts, hK, hD, hk0, rfl, rfl, rfl, rfl⟩ := F
  intro H locs ls hP hS hl
  exact lv_ladd hx hb hd (by rw [hv]; exact K H locs ls hP hS hl)
theorem g_lmul (F : Fx z S E own cc rm nL) {x y v : Int64} (hd : decode cc pc = .ok (.lmul, 1)) (hv : x * y = v) (K : G z (pc + 1) L (.long v :: st) I J) : G z pc L (.long y :: .long x :: st) I J := by
  obtain ⟨hx, hb, hml, hown, hts, hK, hD, hk0, rfl, rfl, rfl, rfl⟩ := F
  intro H locs ls hP hS hl
  exact lv_lmul hx hb hd (by rw [hv]; exact K H locs ls hP hS hl)
theorem g_land (F : Fx z S E own cc rm nL) {x y v : Int64} (hd : decode cc pc = .ok (.land, 1)) (hv : x &&& y = v) (K : G z (pc + 1) L (.long v :: st) I J) : G z pc L (.long y :: .long x :: st) I J := by
  obtain ⟨hx, hb, hml, hown, hts, hK, hD, hk0, rfl, rfl, rfl, rfl⟩ := F
  intro H locs ls hP hS hl
  exact lv_land hx hb hd (by rw [hv]; exact K H locs ls hP hS hl)
theorem g_lor (F : Fx z S E own cc rm nL) {x y v : Int64} (hd : decode cc pc = .ok (.lor, 1)) (hv : x ||| y = v) (K : G z (pc + 1) L (.long v :: st) I J) : G z pc L (.long y :: .long x :: st) I J := by
  obtain ⟨hx, hb, hml, hown, hts, hK, hD, hk0, rfl, rfl, rfl, rfl⟩ := F
  intro H locs ls hP hS hl
  exact lv_lor hx hb hd (by rw [hv]; exact K H locs ls hP hS hl)
theorem g_lrem (F : Fx z S E own cc rm nL) {x y v : Int64} (hd : decode cc pc = .ok (.lrem, 1)) (hne : ¬ y = 0) (hv : x - x / y * y = v) (K : G z (pc + 1) L (.long v :: st) I J) : G z pc L (.long y :: .long x :: st) I J := by
  obtain ⟨hx, hb, hml, hown, hts, hK, hD, hk0, rfl, rfl, rfl, rfl⟩ := F
  intro H locs ls hP hS hl
  exact lv_lrem hx hb hd hne (by rw [hv]; exact K H locs ls hP hS hl)
theorem g_lshl (F : Fx z S E own cc rm nL) {x v : Int64} {y : Int32} (hd : decode cc pc = .ok (.lshl, 1)) (hv : x <<< (y.toInt64 &&& 63) = v) (K : G z (pc + 1) L (.long v :: st) I J) : G z pc L (.int y :: .long x :: st) I J := by
  obtain ⟨hx, hb, hml, hown, hts, hK, hD, hk0, rfl, rfl, rfl, rfl⟩ := F
  intro H locs ls hP hS hl
  exact lv_lshl hx hb hd hv (K H locs ls hP hS hl)
theorem g_lushr (F : Fx z S E own cc rm nL) {x v : Int64} {y : Int32} (hd : decode cc pc = .ok (.lushr, 1)) (hv : (x.toUInt64 >>> (y.toInt64.toUInt64 &&& Int64.toUInt64 63)).toInt64 = v) (K : G z (pc + 1) L (.long v :: st) I J) : G z pc L (.int y :: .long x :: st) I J := by
  obtain ⟨hx, hb, hml, hown, hts, hK, hD, hk0, rfl, rfl, rfl, rfl⟩ := F
  intro H locs ls hP hS hl
  exact lv_lushr hx hb hd hv (K H locs ls hP hS hl)
theorem g_i2l (F : Fx z S E own cc rm nL) {x : Int32} {v : Int64} (hd : decode cc pc = .ok (.i2l, 1)) (hv : x.toInt64 = v) (K : G z (pc + 1) L (.long v :: st) I J) : G z pc L (.int x :: st) I J := by
  obtain ⟨hx, hb, hml, hown, hts, hK, hD, hk0, rfl, rfl, rfl, rfl⟩ := F
  intro H locs ls hP hS hl
  exact lv_i2l hx hb hd hv (K H locs ls hP hS hl)
theorem g_l2i (F : Fx z S E own cc rm nL) {x : Int64} {v : Int32} (hd : decode cc pc = .ok (.l2i, 1)) (hv : x.toInt32 = v) (K : G z (pc + 1) L (.int v :: st) I J) : G z pc L (.long x :: st) I J := by
  obtain ⟨hx, hb, hml, hown, hts, hK, hD, hk0, rfl, rfl, rfl, rfl⟩ := F
  intro H locs ls hP hS hl
  exact lv_l2i hx hb hd hv (K H locs ls hP hS hl)
theorem g_i2b (F : Fx z S E own cc rm nL) {x v : Int32} (hd : decode cc pc = .ok (.i2b, 1)) (hv : x.toInt8.toInt32 = v) (K : G z (pc + 1) L (.int v :: st) I J) : G z pc L (.int x :: st) I J := by
  obtain ⟨hx, hb, hml, hown, hts, hK, hD, hk0, rfl, rfl, rfl, rfl⟩ := F
  intro H locs ls hP hS hl
  exact lv_i2b hx hb hd hv (K H locs ls hP hS hl)
theorem g_dup (F : Fx z S E own cc rm nL) {a : Value} (hd : decode cc pc = .ok (.dup, 1)) (ha : a.category = 1) (K : G z (pc + 1) L (a :: a :: st) I J) : G z pc L (a :: st) I J := by
  obtain ⟨hx, hb, hml, hown, hts, hK, hD, hk0, rfl, rfl, rfl, rfl⟩ := F
  intro H locs ls hP hS hl
  exact lv_dup hx hb hd ha (K H locs ls hP hS hl)
theorem g_pop (F : Fx z S E own cc rm nL) {a : Value} (hd : decode cc pc = .ok (.pop, 1)) (ha : a.category = 1) (K : G z (pc + 1) L (st) I J) : G z pc L (a :: st) I J := by
  obtain ⟨hx, hb, hml, hown, hts, hK, hD, hk0, rfl, rfl, rfl, rfl⟩ := F
  intro H locs ls hP hS hl
  exact lv_pop hx hb hd ha (K H locs ls hP hS hl)
theorem g_dup_x1 (F : Fx z S E own cc rm nL) {a b : Value} (hd : decode cc pc = .ok (.dup_x1, 1)) (ha : a.category = 1) (hb2 : b.category = 1) (K : G z (pc + 1) L (a :: b :: a :: st) I J) : G z pc L (a :: b :: st) I J := by
  obtain ⟨hx, hb, hml, hown, hts, hK, hD, hk0, rfl, rfl, rfl, rfl⟩ := F
  intro H locs ls hP hS hl
  exact lv_dup_x1 hx hb hd ha hb2 (K H locs ls hP hS hl)
theorem g_dup2 (F : Fx z S E own cc rm nL) {a b : Value} (hd : decode cc pc = .ok (.dup2, 1)) (ha : a.category = 1) (hb2 : b.category = 1) (K : G z (pc + 1) L (a :: b :: a :: b :: st) I J) : G z pc L (a :: b :: st) I J := by
  obtain ⟨hx, hb, hml, hown, hts, hK, hD, hk0, rfl, rfl, rfl, rfl⟩ := F
  intro H locs ls hP hS hl
  exact lv_dup2_11 hx hb hd ha hb2 (K H locs ls hP hS hl)
theorem g_goto (F : Fx z S E own cc rm nL) {off : Int} {tgt : Nat} (hd : decode cc pc = .ok (.goto off, 3)) (ht : (pc : Int) + off = (tgt : Int)) (K : G z tgt L st I J) : G z pc L (st) I J := by
  obtain ⟨hx, hb, hml, hown, hts, hK, hD, hk0, rfl, rfl, rfl, rfl⟩ := F
  intro H locs ls hP hS hl
  exact lv_goto hx hb hd ht (K H locs ls hP hS hl)
theorem g_if_eq (F : Fx z S E own cc rm nL) {x : Int32} {off : Int} {tgt : Nat} (hd : decode cc pc = .ok (.ifCond .eq off, 3)) (ht : (pc : Int) + off = (tgt : Int)) (kt : x = 0 → G z tgt L st I J) (kf : ¬ x = 0 → G z (pc + 3) L st I J) : G z pc L (.int x :: st) I J := by
  obtain ⟨hx, hb, hml, hown, hts, hK, hD, hk0, rfl, rfl, rfl, rfl⟩ := F
  intro H locs ls hP hS hl
  exact lv_if_eq hx hb hd ht (fun h => kt h H locs ls hP hS hl) (fun h => kf h H locs ls hP hS hl)
theorem g_icmp_eq (F : Fx z S E own cc rm nL) {x y : Int32} {off : Int} {tgt : Nat} (hd : decode cc pc = .ok (.if_icmp .eq off, 3)) (ht : (pc : Int) + off = (tgt : Int)) (kt : x = y → G z tgt L st I J) (kf : ¬ x = y → G z (pc + 3) L st I J) : G z pc L (.int y :: .int x :: st) I J := by
  obtain ⟨hx, hb, hml, hown, hts, hK, hD, hk0, rfl, rfl, rfl, rfl⟩ := F
  intro H locs ls hP hS hl
  exact lv_icmp_eq hx hb hd ht (fun h => kt h H locs ls hP hS hl) (fun h => kf h H locs ls hP hS hl)
theorem g_if_ne (F : Fx z S E own cc rm nL) {x : Int32} {off : Int} {tgt : Nat} (hd : decode cc pc = .ok (.ifCond .ne off, 3)) (ht : (pc : Int) + off = (tgt : Int)) (kt : ¬ x = 0 → G z tgt L st I J) (kf : x = 0 → G z (pc + 3) L st I J) : G z pc L (.int x :: st) I J := by
  obtain ⟨hx, hb, hml, hown, hts, hK, hD, hk0, rfl, rfl, rfl, rfl⟩ := F
  intro H locs ls hP hS hl
  exact lv_if_ne hx hb hd ht (fun h => kt h H locs ls hP hS hl) (fun h => kf h H locs ls hP hS hl)
theorem g_icmp_ne (F : Fx z S E own cc rm nL) {x y : Int32} {off : Int} {tgt : Nat} (hd : decode cc pc = .ok (.if_icmp .ne off, 3)) (ht : (pc : Int) + off = (tgt : Int)) (kt : ¬ x = y → G z tgt L st I J) (kf : x = y → G z (pc + 3) L st I J) : G z pc L (.int y :: .int x :: st) I J := by
  obtain ⟨hx, hb, hml, hown, hts, hK, hD, hk0, rfl, rfl, rfl, rfl⟩ := F
  intro H locs ls hP hS hl
  exact lv_icmp_ne hx hb hd ht (fun h => kt h H locs ls hP hS hl) (fun h => kf h H locs ls hP hS hl)
theorem g_if_lt (F : Fx z S E own cc rm nL) {x : Int32} {off : Int} {tgt : Nat} (hd : decode cc pc = .ok (.ifCond .lt off, 3)) (ht : (pc : Int) + off = (tgt : Int)) (kt : x < 0 → G z tgt L st I J) (kf : ¬ x < 0 → G z (pc + 3) L st I J) : G z pc L (.int x :: st) I J := by
  obtain ⟨hx, hb, hml, hown, hts, hK, hD, hk0, rfl, rfl, rfl, rfl⟩ := F
  intro H locs ls hP hS hl
  exact lv_if_lt hx hb hd ht (fun h => kt h H locs ls hP hS hl) (fun h => kf h H locs ls hP hS hl)
theorem g_icmp_lt (F : Fx z S E own cc rm nL) {x y : Int32} {off : Int} {tgt : Nat} (hd : decode cc pc = .ok (.if_icmp .lt off, 3)) (ht : (pc : Int) + off = (tgt : Int)) (kt : x < y → G z tgt L st I J) (kf : ¬ x < y → G z (pc + 3) L st I J) : G z pc L (.int y :: .int x :: st) I J := by
  obtain ⟨hx, hb, hml, hown, hts, hK, hD, hk0, rfl, rfl, rfl, rfl⟩ := F
  intro H locs ls hP hS hl
  exact lv_icmp_lt hx hb hd ht (fun h => kt h H locs ls hP hS hl) (fun h => kf h H locs ls hP hS hl)
theorem g_if_ge (F : Fx z S E own cc rm nL) {x : Int32} {off : Int} {tgt : Nat} (hd : decode cc pc = .ok (.ifCond .ge off, 3)) (ht : (pc : Int) + off = (tgt : Int)) (kt : 0 ≤ x → G z tgt L st I J) (kf : ¬ 0 ≤ x → G z (pc + 3) L st I J) : G z pc L (.int x :: st) I J := by
  obtain ⟨hx, hb, hml, hown, hts, hK, hD, hk0, rfl, rfl, rfl, rfl⟩ := F
  intro H locs ls hP hS hl
  exact lv_if_ge hx hb hd ht (fun h => kt h H locs ls hP hS hl) (fun h => kf h H locs ls hP hS hl)
theorem g_icmp_ge (F : Fx z S E own cc rm nL) {x y : Int32} {off : Int} {tgt : Nat} (hd : decode cc pc = .ok (.if_icmp .ge off, 3)) (ht : (pc : Int) + off = (tgt : Int)) (kt : y ≤ x → G z tgt L st I J) (kf : ¬ y ≤ x → G z (pc + 3) L st I J) : G z pc L (.int y :: .int x :: st) I J := by
  obtain ⟨hx, hb, hml, hown, hts, hK, hD, hk0, rfl, rfl, rfl, rfl⟩ := F
  intro H locs ls hP hS hl
  exact lv_icmp_ge hx hb hd ht (fun h => kt h H locs ls hP hS hl) (fun h => kf h H locs ls hP hS hl)
theorem g_if_gt (F : Fx z S E own cc rm nL) {x : Int32} {off : Int} {tgt : Nat} (hd : decode cc pc = .ok (.ifCond .gt off, 3)) (ht : (pc : Int) + off = (tgt : Int)) (kt : 0 < x → G z tgt L st I J) (kf : ¬ 0 < x → G z (pc + 3) L st I J) : G z pc L (.int x :: st) I J := by
  obtain ⟨hx, hb, hml, hown, hts, hK, hD, hk0, rfl, rfl, rfl, rfl⟩ := F
  intro H locs ls hP hS hl
  exact lv_if_gt hx hb hd ht (fun h => kt h H locs ls hP hS hl) (fun h => kf h H locs ls hP hS hl)
theorem g_icmp_gt (F : Fx z S E own cc rm nL) {x y : Int32} {off : Int} {tgt : Nat} (hd : decode cc pc = .ok (.if_icmp .gt off, 3)) (ht : (pc : Int) + off = (tgt : Int)) (kt : y < x → G z tgt L st I J) (kf : ¬ y < x → G z (pc + 3) L st I J) : G z pc L (.int y :: .int x :: st) I J := by
  obtain ⟨hx, hb, hml, hown, hts, hK, hD, hk0, rfl, rfl, rfl, rfl⟩ := F
  intro H locs ls hP hS hl
  exact lv_icmp_gt hx hb hd ht (fun h => kt h H locs ls hP hS hl) (fun h => kf h H locs ls hP hS hl)
theorem g_if_le (F : Fx z S E own cc rm nL) {x : Int32} {off : Int} {tgt : Nat} (hd : decode cc pc = .ok (.ifCond .le off, 3)) (ht : (pc : Int) + off = (tgt : Int)) (kt : x ≤ 0 → G z tgt L st I J) (kf : ¬ x ≤ 0 → G z (pc + 3) L st I J) : G z pc L (.int x :: st) I J := by
  obtain ⟨hx, hb, hml, hown, hts, hK, hD, hk0, rfl, rfl, rfl, rfl⟩ := F
  intro H locs ls hP hS hl
  exact lv_if_le hx hb hd ht (fun h => kt h H locs ls hP hS hl) (fun h => kf h H locs ls hP hS hl)
theorem g_icmp_le (F : Fx z S E own cc rm nL) {x y : Int32} {off : Int} {tgt : Nat} (hd : decode cc pc = .ok (.if_icmp .le off, 3)) (ht : (pc : Int) + off = (tgt : Int)) (kt : x ≤ y → G z tgt L st I J) (kf : ¬ x ≤ y → G z (pc + 3) L st I J) : G z pc L (.int y :: .int x :: st) I J := by
  obtain ⟨hx, hb, hml, hown, hts, hK, hD, hk0, rfl, rfl, rfl, rfl⟩ := F
  intro H locs ls hP hS hl
  exact lv_icmp_le hx hb hd ht (fun h => kt h H locs ls hP hS hl) (fun h => kf h H locs ls hP hS hl)
theorem g_ifI_eq (F : Fx z S E own cc rm nL) {x : Int32} {a : Int} {off : Int} {tgt : Nat} (hx : x.toInt = a) (hd : decode cc pc = .ok (.ifCond .eq off, 3)) (ht : (pc : Int) + off = (tgt : Int)) (kt : a = 0 → G z tgt L st I J) (kf : a ≠ 0 → G z (pc + 3) L st I J) : G z pc L (.int x :: st) I J :=
  g_if_eq F hd ht (fun h => kt (by subst hx; simp only [Int32.lt_iff_toInt_lt, Int32.le_iff_toInt_le, ← Int32.toInt_inj, Int32.toInt_zero] at h; omega)) (fun h => kf (by subst hx; simp only [Int32.lt_iff_toInt_lt, Int32.le_iff_toInt_le, ← Int32.toInt_inj, Int32.toInt_zero] at h; omega))
theorem g_icmpI_eq (F : Fx z S E own cc rm nL) {x y : Int32} {a b : Int} {off : Int} {tgt : Nat} (hx : x.toInt = a) (hy : y.toInt = b) (hd : decode cc pc = .ok (.if_icmp .eq off, 3)) (ht : (pc : Int) + off = (tgt : Int)) (kt : a = b → G z tgt L st I J) (kf : a ≠ b → G z (pc + 3) L st I J) : G z pc L (.int y :: .int x :: st) I J :=
  g_icmp_eq F hd ht (fun h => kt (by subst hx; subst hy; simp only [Int32.lt_iff_toInt_lt, Int32.le_iff_toInt_le, ← Int32.toInt_inj] at h; omega)) (fun h => kf (by subst hx; subst hy; simp only [Int32.lt_iff_toInt_lt, Int32.le_iff_toInt_le, ← Int32.toInt_inj] at h; omega))
theorem g_ifI_ne (F : Fx z S E own cc rm nL) {x : Int32} {a : Int} {off : Int} {tgt : Nat} (hx : x.toInt = a) (hd : decode cc pc = .ok (.ifCond .ne off, 3)) (ht : (pc : Int) + off = (tgt : Int)) (kt : a ≠ 0 → G z tgt L st I J) (kf : a = 0 → G z (pc + 3) L st I J) : G z pc L (.int x :: st) I J :=
  g_if_ne F hd ht (fun h => kt (by subst hx; simp only [Int32.lt_iff_toInt_lt, Int32.le_iff_toInt_le, ← Int32.toInt_inj, Int32.toInt_zero] at h; omega)) (fun h => kf (by subst hx; simp only [Int32.lt_iff_toInt_lt, Int32.le_iff_toInt_le, ← Int32.toInt_inj, Int32.toInt_zero] at h; omega))
theorem g_icmpI_ne (F : Fx z S E own cc rm nL) {x y : Int32} {a b : Int} {off : Int} {tgt : Nat} (hx : x.toInt = a) (hy : y.toInt = b) (hd : decode cc pc = .ok (.if_icmp .ne off, 3)) (ht : (pc : Int) + off = (tgt : Int)) (kt : a ≠ b → G z tgt L st I J) (kf : a = b → G z (pc + 3) L st I J) : G z pc L (.int y :: .int x :: st) I J :=
  g_icmp_ne F hd ht (fun h => kt (by subst hx; subst hy; simp only [Int32.lt_iff_toInt_lt, Int32.le_iff_toInt_le, ← Int32.toInt_inj] at h; omega)) (fun h => kf (by subst hx; subst hy; simp only [Int32.lt_iff_toInt_lt, Int32.le_iff_toInt_le, ← Int32.toInt_inj] at h; omega))
theorem g_ifI_lt (F : Fx z S E own cc rm nL) {x : Int32} {a : Int} {off : Int} {tgt : Nat} (hx : x.toInt = a) (hd : decode cc pc = .ok (.ifCond .lt off, 3)) (ht : (pc : Int) + off = (tgt : Int)) (kt : a < 0 → G z tgt L st I J) (kf : 0 ≤ a → G z (pc + 3) L st I J) : G z pc L (.int x :: st) I J :=
  g_if_lt F hd ht (fun h => kt (by subst hx; simp only [Int32.lt_iff_toInt_lt, Int32.le_iff_toInt_le, ← Int32.toInt_inj, Int32.toInt_zero] at h; omega)) (fun h => kf (by subst hx; simp only [Int32.lt_iff_toInt_lt, Int32.le_iff_toInt_le, ← Int32.toInt_inj, Int32.toInt_zero] at h; omega))
theorem g_icmpI_lt (F : Fx z S E own cc rm nL) {x y : Int32} {a b : Int} {off : Int} {tgt : Nat} (hx : x.toInt = a) (hy : y.toInt = b) (hd : decode cc pc = .ok (.if_icmp .lt off, 3)) (ht : (pc : Int) + off = (tgt : Int)) (kt : a < b → G z tgt L st I J) (kf : b ≤ a → G z (pc + 3) L st I J) : G z pc L (.int y :: .int x :: st) I J :=
  g_icmp_lt F hd ht (fun h => kt (by subst hx; subst hy; simp only [Int32.lt_iff_toInt_lt, Int32.le_iff_toInt_le, ← Int32.toInt_inj] at h; omega)) (fun h => kf (by subst hx; subst hy; simp only [Int32.lt_iff_toInt_lt, Int32.le_iff_toInt_le, ← Int32.toInt_inj] at h; omega))
theorem g_ifI_ge (F : Fx z S E own cc rm nL) {x : Int32} {a : Int} {off : Int} {tgt : Nat} (hx : x.toInt = a) (hd : decode cc pc = .ok (.ifCond .ge off, 3)) (ht : (pc : Int) + off = (tgt : Int)) (kt : 0 ≤ a → G z tgt L st I J) (kf : a < 0 → G z (pc + 3) L st I J) : G z pc L (.int x :: st) I J :=
  g_if_ge F hd ht (fun h => kt (by subst hx; simp only [Int32.lt_iff_toInt_lt, Int32.le_iff_toInt_le, ← Int32.toInt_inj, Int32.toInt_zero] at h; omega)) (fun h => kf (by subst hx; simp only [Int32.lt_iff_toInt_lt, Int32.le_iff_toInt_le, ← Int32.toInt_inj, Int32.toInt_zero] at h; omega))
theorem g_icmpI_ge (F : Fx z S E own cc rm nL) {x y : Int32} {a b : Int} {off : Int} {tgt : Nat} (hx : x.toInt = a) (hy : y.toInt = b) (hd : decode cc pc = .ok (.if_icmp .ge off, 3)) (ht : (pc : Int) + off = (tgt : Int)) (kt : b ≤ a → G z tgt L st I J) (kf : a < b → G z (pc + 3) L st I J) : G z pc L (.int y :: .int x :: st) I J :=
  g_icmp_ge F hd ht (fun h => kt (by subst hx; subst hy; simp only [Int32.lt_iff_toInt_lt, Int32.le_iff_toInt_le, ← Int32.toInt_inj] at h; omega)) (fun h => kf (by subst hx; subst hy; simp only [Int32.lt_iff_toInt_lt, Int32.le_iff_toInt_le, ← Int32.toInt_inj] at h; omega))
theorem g_ifI_gt (F : Fx z S E own cc rm nL) {x : Int32} {a : Int} {off : Int} {tgt : Nat} (hx : x.toInt = a) (hd : decode cc pc = .ok (.ifCond .gt off, 3)) (ht : (pc : Int) + off = (tgt : Int)) (kt : 0 < a → G z tgt L st I J) (kf : a ≤ 0 → G z (pc + 3) L st I J) : G z pc L (.int x :: st) I J :=
  g_if_gt F hd ht (fun h => kt (by subst hx; simp only [Int32.lt_iff_toInt_lt, Int32.le_iff_toInt_le, ← Int32.toInt_inj, Int32.toInt_zero] at h; omega)) (fun h => kf (by subst hx; simp only [Int32.lt_iff_toInt_lt, Int32.le_iff_toInt_le, ← Int32.toInt_inj, Int32.toInt_zero] at h; omega))
theorem g_icmpI_gt (F : Fx z S E own cc rm nL) {x y : Int32} {a b : Int} {off : Int} {tgt : Nat} (hx : x.toInt = a) (hy : y.toInt = b) (hd : decode cc pc = .ok (.if_icmp .gt off, 3)) (ht : (pc : Int) + off = (tgt : Int)) (kt : b < a → G z tgt L st I J) (kf : a ≤ b → G z (pc + 3) L st I J) : G z pc L (.int y :: .int x :: st) I J :=
  g_icmp_gt F hd ht (fun h => kt (by subst hx; subst hy; simp only [Int32.lt_iff_toInt_lt, Int32.le_iff_toInt_le, ← Int32.toInt_inj] at h; omega)) (fun h => kf (by subst hx; subst hy; simp only [Int32.lt_iff_toInt_lt, Int32.le_iff_toInt_le, ← Int32.toInt_inj] at h; omega))
theorem g_ifI_le (F : Fx z S E own cc rm nL) {x : Int32} {a : Int} {off : Int} {tgt : Nat} (hx : x.toInt = a) (hd : decode cc pc = .ok (.ifCond .le off, 3)) (ht : (pc : Int) + off = (tgt : Int)) (kt : a ≤ 0 → G z tgt L st I J) (kf : 0 < a → G z (pc + 3) L st I J) : G z pc L (.int x :: st) I J :=
  g_if_le F hd ht (fun h => kt (by subst hx; simp only [Int32.lt_iff_toInt_lt, Int32.le_iff_toInt_le, ← Int32.toInt_inj, Int32.toInt_zero] at h; omega)) (fun h => kf (by subst hx; simp only [Int32.lt_iff_toInt_lt, Int32.le_iff_toInt_le, ← Int32.toInt_inj, Int32.toInt_zero] at h; omega))
theorem g_icmpI_le (F : Fx z S E own cc rm nL) {x y : Int32} {a b : Int} {off : Int} {tgt : Nat} (hx : x.toInt = a) (hy : y.toInt = b) (hd : decode cc pc = .ok (.if_icmp .le off, 3)) (ht : (pc : Int) + off = (tgt : Int)) (kt : a ≤ b → G z tgt L st I J) (kf : b < a → G z (pc + 3) L st I J) : G z pc L (.int y :: .int x :: st) I J :=
  g_icmp_le F hd ht (fun h => kt (by subst hx; subst hy; simp only [Int32.lt_iff_toInt_lt, Int32.le_iff_toInt_le, ← Int32.toInt_inj] at h; omega)) (fun h => kf (by subst hx; subst hy; simp only [Int32.lt_iff_toInt_lt, Int32.le_iff_toInt_le, ← Int32.toInt_inj] at h; omega))
theorem g_tableIn (F : Fx z S E own cc rm nL) {dflt lo hi : Int} {offs : Array Int} {len : Nat} {x : Int32} {off : Int} {tgt : Nat} (hd : decode cc pc = .ok (.tableswitch dflt lo hi offs, len)) (h1 : ¬ x.toInt < lo) (h2 : ¬ hi < x.toInt) (ho : offs[(x.toInt - lo).toNat]? = some off) (ht : (pc : Int) + off = (tgt : Int)) (K : G z tgt L st I J) : G z pc L (.int x :: st) I J := by
  obtain ⟨hx, hb, hml, hown, hts, hK, hD, hk0, rfl, rfl, rfl, rfl⟩ := F
  intro H locs ls hP hS hl
  exact lv_tableIn hx hb hd h1 h2 ho ht (K H locs ls hP hS hl)
theorem g_tableOut (F : Fx z S E own cc rm nL) {dflt lo hi : Int} {offs : Array Int} {len : Nat} {x : Int32} {tgt : Nat} (hd : decode cc pc = .ok (.tableswitch dflt lo hi offs, len)) (h : x.toInt < lo ∨ hi < x.toInt) (ht : (pc : Int) + dflt = (tgt : Int)) (K : G z tgt L st I J) : G z pc L (.int x :: st) I J := by
  obtain ⟨hx, hb, hml, hown, hts, hK, hD, hk0, rfl, rfl, rfl, rfl⟩ := F
  intro H locs ls hP hS hl
  exact lv_tableOut hx hb hd h ht (K H locs ls hP hS hl)
theorem g_sub {Ln : List (Nat × Value)} (ks : List Nat) (h : lv_pick L ks = Ln) (K : G z pc Ln st I J) : G z pc L st I J := fun H locs ls hP hS hl => K H locs ls hP hS (lv_sub hl ks h)
theorem g_mem {I' : gM} {J' : gN} (hI : I = I') (hJ : J = J') (K : G z pc L st I' J') : G z pc L st I J := by subst hI; subst hJ; exact K
theorem g_mi {I' : gM} (hI : I = I') (K : G z pc L st I' J) : G z pc L st I J := by subst hI; exact K
theorem g_st {sn : List Value} (h : st = sn) (K : G z pc L sn I J) : G z pc L st I J := by subst h; exact K
theorem g_lo {Ln : List (Nat × Value)} (h : L = Ln) (K : G z pc Ln st I J) : G z pc L st I J := by subst h; exact K
theorem g_geti (F : Fx z S E own cc rm nL) {k j ci idx N : Nat} {fds : List Nat} {C : String} {T : u_T} (hs : S[k]? = some (.inl (ci, fds))) (hf : fds[j]? = some 0) (hc : vwCl[ci]? = some (C, T, N)) (hin : ∀ w ∈ u_ws C T N, w ∈ gw) (hj : j < N) (hq : Cond.fieldLink own idx (T j).1 (T j).2.1 (T j).2.2.1 ∈ gw) {v : Int32} (hv : I k j = v) (hd : decode cc pc = .ok (.getfield idx, 3)) (K : G z (pc + 3) L (.int v :: st) I J) : G z pc L (.ref (E.2.1 k) :: st) I J := by
  obtain ⟨hx, hb, hml, hown, hts, hK, hD, hk0, rfl, rfl, rfl, rfl⟩ := F
  intro H locs ls hP hS hl
  exact va_get (D := (zE z).1) (T := T) hx hb hts hin hown hK hP k (g_get hs) hc j hj (hts _ hq) (fun _ h => h) (g_fget hf) hd (by rw [show g_fv (zE z).2.1 (I k) (J k) j 0 = Value.int v from by rw [← hv]; rfl]; exact K H locs ls hP hS hl)
theorem g_getl (F : Fx z S E own cc rm nL) {k j ci idx N : Nat} {fds : List Nat} {C : String} {T : u_T} (hs : S[k]? = some (.inl (ci, fds))) (hf : fds[j]? = some 1) (hc : vwCl[ci]? = some (C, T, N)) (hin : ∀ w ∈ u_ws C T N, w ∈ gw) (hj : j < N) (hq : Cond.fieldLink own idx (T j).1 (T j).2.1 (T j).2.2.1 ∈ gw) {v : Int64} (hv : J k j = v) (hd : decode cc pc = .ok (.getfield idx, 3)) (K : G z (pc + 3) L (.long v :: st) I J) : G z pc L (.ref (E.2.1 k) :: st) I J := by
  obtain ⟨hx, hb, hml, hown, hts, hK, hD, hk0, rfl, rfl, rfl, rfl⟩ := F
  intro H locs ls hP hS hl
  exact va_get (D := (zE z).1) (T := T) hx hb hts hin hown hK hP k (g_get hs) hc j hj (hts _ hq) (fun _ h => h) (g_fget hf) hd (by rw [show g_fv (zE z).2.1 (I k) (J k) j 1 = Value.long v from by rw [← hv]; rfl]; exact K H locs ls hP hS hl)
theorem g_getr (F : Fx z S E own cc rm nL) {k j ci idx N nn : Nat} {fds : List Nat} {C : String} {T : u_T} (hs : S[k]? = some (.inl (ci, fds))) (hf : fds[j]? = some (nn + 3)) (hc : vwCl[ci]? = some (C, T, N)) (hin : ∀ w ∈ u_ws C T N, w ∈ gw) (hj : j < N) (hq : Cond.fieldLink own idx (T j).1 (T j).2.1 (T j).2.2.1 ∈ gw) (hd : decode cc pc = .ok (.getfield idx, 3)) (K : G z (pc + 3) L (.ref (E.2.1 nn) :: st) I J) : G z pc L (.ref (E.2.1 k) :: st) I J := by
  obtain ⟨hx, hb, hml, hown, hts, hK, hD, hk0, rfl, rfl, rfl, rfl⟩ := F
  intro H locs ls hP hS hl
  exact va_get (D := (zE z).1) (T := T) hx hb hts hin hown hK hP k (g_get hs) hc j hj (hts _ hq) (fun _ h => h) (g_fget hf) hd (K H locs ls hP hS hl)
theorem g_puti (F : Fx z S E own cc rm nL) {k j ci idx N : Nat} {fds : List Nat} {C : String} {T : u_T} (hs : S[k]? = some (.inl (ci, fds))) (hf : fds[j]? = some 0) (hc : vwCl[ci]? = some (C, T, N)) (hin : ∀ w ∈ u_ws C T N, w ∈ gw) (hj : j < N) (hq : Cond.fieldLink own idx (T j).1 (T j).2.1 (T j).2.2.1 ∈ gw) {ty : Nat → FieldType} (hty : ∀ k, k < N → parseFieldDescriptor (T k).2.2.1 = some (ty k)) (hnm : ∀ a, a < N → ∀ b, b < N → a ≠ b → (T a).2.1 ≠ (T b).2.1) (hfin : (T j).2.2.2 = false) {v : Int32} (hn : narrow (ty j) (.int v) = .int v) (hfit : fits (ty j) (.int v) = true) (hd : decode cc pc = .ok (.putfield idx, 3)) (K : G z (pc + 3) L st (g_up I k j v) J) : G z pc L (.int v :: .ref (E.2.1 k) :: st) I J := by
  obtain ⟨hx, hb, hml, hown, hts, hK, hD, hk0, rfl, rfl, rfl, rfl⟩ := F
  intro H locs ls hP hS hl
  exact va_put (D := (zE z).1) (T := T) hx hb hts hin ty hty hnm hown hK hP (hD I J) hS k (g_get hs) hc j hj (hts _ hq) (fun _ h => h) hfin (hty j hj) hn hfit (by rw [List.length_mapIdx]; exact (List.getElem?_eq_some_iff.mp hf).1) hd (fun H1 locs1 hP1 hD1 hS1 => K H1 locs1 ls (by
    rw [g_fset hf, ← g_up_upd] at hP1
    rw [← g_set (J' := J) hs (fun i h => g_up_row h) (fun _ _ => rfl)]
    exact hP1) hS1 hl)
theorem g_putl (F : Fx z S E own cc rm nL) {k j ci idx N : Nat} {fds : List Nat} {C : String} {T : u_T} (hs : S[k]? = some (.inl (ci, fds))) (hf : fds[j]? = some 1) (hc : vwCl[ci]? = some (C, T, N)) (hin : ∀ w ∈ u_ws C T N, w ∈ gw) (hj : j < N) (hq : Cond.fieldLink own idx (T j).1 (T j).2.1 (T j).2.2.1 ∈ gw) {ty : Nat → FieldType} (hty : ∀ k, k < N → parseFieldDescriptor (T k).2.2.1 = some (ty k)) (hnm : ∀ a, a < N → ∀ b, b < N → a ≠ b → (T a).2.1 ≠ (T b).2.1) (hfin : (T j).2.2.2 = false) {v : Int64} (hn : narrow (ty j) (.long v) = .long v) (hfit : fits (ty j) (.long v) = true) (hd : decode cc pc = .ok (.putfield idx, 3)) (K : G z (pc + 3) L st I (g_up J k j v)) : G z pc L (.long v :: .ref (E.2.1 k) :: st) I J := by
  obtain ⟨hx, hb, hml, hown, hts, hK, hD, hk0, rfl, rfl, rfl, rfl⟩ := F
  intro H locs ls hP hS hl
  exact va_put (D := (zE z).1) (T := T) hx hb hts hin ty hty hnm hown hK hP (hD I J) hS k (g_get hs) hc j hj (hts _ hq) (fun _ h => h) hfin (hty j hj) hn hfit (by rw [List.length_mapIdx]; exact (List.getElem?_eq_some_iff.mp hf).1) hd (fun H1 locs1 hP1 hD1 hS1 => K H1 locs1 ls (by
    rw [g_fsetL hf, ← g_up_updL] at hP1
    rw [← g_set (I' := I) hs (fun _ _ => rfl) (fun i h => g_up_row h)]
    exact hP1) hS1 hl)
theorem g_iald (F : Fx z S E own cc rm nL) {k n : Nat} {i : Int32} (j : Nat) (hs : S[k]? = some (.inr (0, n, 0))) (hi : i = nI j) (hj : j < n) (hn : n < 2 ^ 31) {v : Int32} (hv : I k j = v) (hd : decode cc pc = .ok (.iaload, 1)) (K : G z (pc + 1) L (.int v :: st) I J) : G z pc L (.int i :: .ref (E.2.1 k) :: st) I J := by
  obtain ⟨hx, hb, hml, hown, hts, hK, hD, hk0, rfl, rfl, rfl, rfl⟩ := F
  intro H locs ls hP hS hl
  exact va_iald hx hb hK hP k 0 (g_get hs) rfl (by rw [hi]; exact vp_in_nI hj hn) hd (by rw [hi, nI_clamp (Nat.lt_trans hj hn), show I k j = v from hv]; exact K H locs ls hP hS hl)
theorem g_bald (F : Fx z S E own cc rm nL) {k n : Nat} {i : Int32} (j : Nat) (hs : S[k]? = some (.inr (1, n, 0))) (hi : i = nI j) (hj : j < n) (hn : n < 2 ^ 31) {v : Int32} (hv : I k j = v) (hd : decode cc pc = .ok (.baload, 1)) (K : G z (pc + 1) L (.int v :: st) I J) : G z pc L (.int i :: .ref (E.2.1 k) :: st) I J := by
  obtain ⟨hx, hb, hml, hown, hts, hK, hD, hk0, rfl, rfl, rfl, rfl⟩ := F
  intro H locs ls hP hS hl
  exact va_bald hx hb hK hP k 1 (g_get hs) rfl (by rw [hi]; exact vp_in_nI hj hn) hd (by rw [hi, nI_clamp (Nat.lt_trans hj hn), show I k j = v from hv]; exact K H locs ls hP hS hl)
theorem g_zald (F : Fx z S E own cc rm nL) {k n : Nat} {i : Int32} (j : Nat) (hs : S[k]? = some (.inr (2, n, 0))) (hi : i = nI j) (hj : j < n) (hn : n < 2 ^ 31) {v : Int32} (hv : I k j = v) (hd : decode cc pc = .ok (.baload, 1)) (K : G z (pc + 1) L (.int v :: st) I J) : G z pc L (.int i :: .ref (E.2.1 k) :: st) I J := by
  obtain ⟨hx, hb, hml, hown, hts, hK, hD, hk0, rfl, rfl, rfl, rfl⟩ := F
  intro H locs ls hP hS hl
  exact va_zald hx hb hK hP k 2 (g_get hs) rfl (by rw [hi]; exact vp_in_nI hj hn) hd (by rw [hi, nI_clamp (Nat.lt_trans hj hn), show I k j = v from hv]; exact K H locs ls hP hS hl)
theorem g_iast (F : Fx z S E own cc rm nL) {k n : Nat} {i x : Int32} (j : Nat) (hs : S[k]? = some (.inr (0, n, 0))) (hi : i = nI j) (hj : j < n) (hn : n < 2 ^ 31) {v : Int32} (hv : x = v) (hd : decode cc pc = .ok (.iastore, 1)) (K : G z (pc + 1) L st (g_up I k j v) J) : G z pc L (.int x :: .int i :: .ref (E.2.1 k) :: st) I J := by
  obtain ⟨hx, hb, hml, hown, hts, hK, hD, hk0, rfl, rfl, rfl, rfl⟩ := F
  intro H locs ls hP hS hl
  exact va_iast hx hb hK hP (hD I J) hS k 0 (g_get hs) rfl (by rw [hi]; exact vp_in_nI hj hn) hd (fun H1 locs1 hP1 hD1 hS1 => K H1 locs1 ls (by
    rw [hi, nI_clamp (Nat.lt_trans hj hn), hv, ← g_up_upd] at hP1
    rw [← g_set (J' := J) hs (fun i h => g_up_row h) (fun _ _ => rfl)]
    exact hP1) hS1 hl)
theorem g_bast (F : Fx z S E own cc rm nL) {k n : Nat} {i x : Int32} (j : Nat) (hs : S[k]? = some (.inr (1, n, 0))) (hi : i = nI j) (hj : j < n) (hn : n < 2 ^ 31) {v : Int32} (hv : (vp_nar .byte x) = v) (hd : decode cc pc = .ok (.bastore, 1)) (K : G z (pc + 1) L st (g_up I k j v) J) : G z pc L (.int x :: .int i :: .ref (E.2.1 k) :: st) I J := by
  obtain ⟨hx, hb, hml, hown, hts, hK, hD, hk0, rfl, rfl, rfl, rfl⟩ := F
  intro H locs ls hP hS hl
  exact va_bast hx hb hK hP (hD I J) hS k 1 (g_get hs) rfl (by rw [hi]; exact vp_in_nI hj hn) hd (fun H1 locs1 hP1 hD1 hS1 => K H1 locs1 ls (by
    rw [hi, nI_clamp (Nat.lt_trans hj hn), hv, ← g_up_upd] at hP1
    rw [← g_set (J' := J) hs (fun i h => g_up_row h) (fun _ _ => rfl)]
    exact hP1) hS1 hl)
theorem g_zast (F : Fx z S E own cc rm nL) {k n : Nat} {i x : Int32} (j : Nat) (hs : S[k]? = some (.inr (2, n, 0))) (hi : i = nI j) (hj : j < n) (hn : n < 2 ^ 31) {v : Int32} (hv : (vp_nar .boolean x) = v) (hd : decode cc pc = .ok (.bastore, 1)) (K : G z (pc + 1) L st (g_up I k j v) J) : G z pc L (.int x :: .int i :: .ref (E.2.1 k) :: st) I J := by
  obtain ⟨hx, hb, hml, hown, hts, hK, hD, hk0, rfl, rfl, rfl, rfl⟩ := F
  intro H locs ls hP hS hl
  exact va_zast hx hb hK hP (hD I J) hS k 2 (g_get hs) rfl (by rw [hi]; exact vp_in_nI hj hn) hd (fun H1 locs1 hP1 hD1 hS1 => K H1 locs1 ls (by
    rw [hi, nI_clamp (Nat.lt_trans hj hn), hv, ← g_up_upd] at hP1
    rw [← g_set (J' := J) hs (fun i h => g_up_row h) (fun _ _ => rfl)]
    exact hP1) hS1 hl)
theorem g_ialdI (F : Fx z S E own cc rm nL) {k n : Nat} {i : Int32} (a : Int) (hs : S[k]? = some (.inr (0, n, 0))) (hi : i = iI a) (h0 : 0 ≤ a) (hj : a < (n : Int)) (hn : n < 2 ^ 31) {v : Int32} (hv : I k a.toNat = v) (hd : decode cc pc = .ok (.iaload, 1)) (K : G z (pc + 1) L (.int v :: st) I J) : G z pc L (.int i :: .ref (E.2.1 k) :: st) I J := by
  obtain ⟨hx, hb, hml, hown, hts, hK, hD, hk0, rfl, rfl, rfl, rfl⟩ := F
  intro H locs ls hP hS hl
  exact g_iald ⟨hx, hb, hml, hown, hts, hK, hD, hk0, rfl, rfl, rfl, rfl⟩ a.toNat hs (by rw [hi, ← iI_n, Int.toNat_of_nonneg h0]) (by omega) hn hv hd K H locs ls hP hS hl
theorem g_baldI (F : Fx z S E own cc rm nL) {k n : Nat} {i : Int32} (a : Int) (hs : S[k]? = some (.inr (1, n, 0))) (hi : i = iI a) (h0 : 0 ≤ a) (hj : a < (n : Int)) (hn : n < 2 ^ 31) {v : Int32} (hv : I k a.toNat = v) (hd : decode cc pc = .ok (.baload, 1)) (K : G z (pc + 1) L (.int v :: st) I J) : G z pc L (.int i :: .ref (E.2.1 k) :: st) I J := by
  obtain ⟨hx, hb, hml, hown, hts, hK, hD, hk0, rfl, rfl, rfl, rfl⟩ := F
  intro H locs ls hP hS hl
  exact g_bald ⟨hx, hb, hml, hown, hts, hK, hD, hk0, rfl, rfl, rfl, rfl⟩ a.toNat hs (by rw [hi, ← iI_n, Int.toNat_of_nonneg h0]) (by omega) hn hv hd K H locs ls hP hS hl
theorem g_zaldI (F : Fx z S E own cc rm nL) {k n : Nat} {i : Int32} (a : Int) (hs : S[k]? = some (.inr (2, n, 0))) (hi : i = iI a) (h0 : 0 ≤ a) (hj : a < (n : Int)) (hn : n < 2 ^ 31) {v : Int32} (hv : I k a.toNat = v) (hd : decode cc pc = .ok (.baload, 1)) (K : G z (pc + 1) L (.int v :: st) I J) : G z pc L (.int i :: .ref (E.2.1 k) :: st) I J := by
  obtain ⟨hx, hb, hml, hown, hts, hK, hD, hk0, rfl, rfl, rfl, rfl⟩ := F
  intro H locs ls hP hS hl
  exact g_zald ⟨hx, hb, hml, hown, hts, hK, hD, hk0, rfl, rfl, rfl, rfl⟩ a.toNat hs (by rw [hi, ← iI_n, Int.toNat_of_nonneg h0]) (by omega) hn hv hd K H locs ls hP hS hl
theorem g_iastI (F : Fx z S E own cc rm nL) {k n : Nat} {i x : Int32} (a : Int) (hs : S[k]? = some (.inr (0, n, 0))) (hi : i = iI a) (h0 : 0 ≤ a) (hj : a < (n : Int)) (hn : n < 2 ^ 31) {v : Int32} (hv : x = v) (hd : decode cc pc = .ok (.iastore, 1)) (K : G z (pc + 1) L st (g_up I k a.toNat v) J) : G z pc L (.int x :: .int i :: .ref (E.2.1 k) :: st) I J := by
  obtain ⟨hx, hb, hml, hown, hts, hK, hD, hk0, rfl, rfl, rfl, rfl⟩ := F
  intro H locs ls hP hS hl
  exact g_iast ⟨hx, hb, hml, hown, hts, hK, hD, hk0, rfl, rfl, rfl, rfl⟩ a.toNat hs (by rw [hi, ← iI_n, Int.toNat_of_nonneg h0]) (by omega) hn hv hd K H locs ls hP hS hl
theorem g_bastI (F : Fx z S E own cc rm nL) {k n : Nat} {i x : Int32} (a : Int) (hs : S[k]? = some (.inr (1, n, 0))) (hi : i = iI a) (h0 : 0 ≤ a) (hj : a < (n : Int)) (hn : n < 2 ^ 31) {v : Int32} (hv : (vp_nar .byte x) = v) (hd : decode cc pc = .ok (.bastore, 1)) (K : G z (pc + 1) L st (g_up I k a.toNat v) J) : G z pc L (.int x :: .int i :: .ref (E.2.1 k) :: st) I J := by
  obtain ⟨hx, hb, hml, hown, hts, hK, hD, hk0, rfl, rfl, rfl, rfl⟩ := F
  intro H locs ls hP hS hl
  exact g_bast ⟨hx, hb, hml, hown, hts, hK, hD, hk0, rfl, rfl, rfl, rfl⟩ a.toNat hs (by rw [hi, ← iI_n, Int.toNat_of_nonneg h0]) (by omega) hn hv hd K H locs ls hP hS hl
theorem g_zastI (F : Fx z S E own cc rm nL) {k n : Nat} {i x : Int32} (a : Int) (hs : S[k]? = some (.inr (2, n, 0))) (hi : i = iI a) (h0 : 0 ≤ a) (hj : a < (n : Int)) (hn : n < 2 ^ 31) {v : Int32} (hv : (vp_nar .boolean x) = v) (hd : decode cc pc = .ok (.bastore, 1)) (K : G z (pc + 1) L st (g_up I k a.toNat v) J) : G z pc L (.int x :: .int i :: .ref (E.2.1 k) :: st) I J := by
  obtain ⟨hx, hb, hml, hown, hts, hK, hD, hk0, rfl, rfl, rfl, rfl⟩ := F
  intro H locs ls hP hS hl
  exact g_zast ⟨hx, hb, hml, hown, hts, hK, hD, hk0, rfl, rfl, rfl, rfl⟩ a.toNat hs (by rw [hi, ← iI_n, Int.toNat_of_nonneg h0]) (by omega) hn hv hd K H locs ls hP hS hl
theorem g_ialdX (F : Fx z S E own cc rm nL) {k n : Nat} {i : Int32} (hs : S[k]? = some (.inr (0, n, 0))) (hin : vp_in i n) (hn : n < 2 ^ 31) {v : Int32} (hv : I k i.toNatClampNeg = v) (hd : decode cc pc = .ok (.iaload, 1)) (K : G z (pc + 1) L (.int v :: st) I J) : G z pc L (.int i :: .ref (E.2.1 k) :: st) I J := by
  obtain ⟨hx, hb, hml, hown, hts, hK, hD, hk0, rfl, rfl, rfl, rfl⟩ := F
  intro H locs ls hP hS hl
  exact va_iald hx hb hK hP k 0 (g_get hs) rfl hin hd (by rw [show I k i.toNatClampNeg = v from hv]; exact K H locs ls hP hS hl)
theorem g_lald (F : Fx z S E own cc rm nL) {k n : Nat} {i : Int32} (j : Nat) (hs : S[k]? = some (.inr (3, n, 1))) (hi : i = nI j) (hj : j < n) (hn : n < 2 ^ 31) {v : Int64} (hv : J k j = v) (hd : decode cc pc = .ok (.laload, 1)) (K : G z (pc + 1) L (.long v :: st) I J) : G z pc L (.int i :: .ref (E.2.1 k) :: st) I J := by
  obtain ⟨hx, hb, hml, hown, hts, hK, hD, hk0, rfl, rfl, rfl, rfl⟩ := F
  intro H locs ls hP hS hl
  exact va_lald hx hb hK hP k 3 (g_get hs) rfl (by rw [hi]; exact vp_in_nI hj hn) hd (by rw [hi, nI_clamp (Nat.lt_trans hj hn), show J k j = v from hv]; exact K H locs ls hP hS hl)
theorem g_last (F : Fx z S E own cc rm nL) {k n : Nat} {i : Int32} {x : Int64} (j : Nat) (hs : S[k]? = some (.inr (3, n, 1))) (hi : i = nI j) (hj : j < n) (hn : n < 2 ^ 31) (hd : decode cc pc = .ok (.lastore, 1)) (K : G z (pc + 1) L st I (g_up J k j x)) : G z pc L (.long x :: .int i :: .ref (E.2.1 k) :: st) I J := by
  obtain ⟨hx, hb, hml, hown, hts, hK, hD, hk0, rfl, rfl, rfl, rfl⟩ := F
  intro H locs ls hP hS hl
  exact va_last hx hb hK hP (hD I J) hS k 3 (g_get hs) rfl (by rw [hi]; exact vp_in_nI hj hn) hd (fun H1 locs1 hP1 hD1 hS1 => K H1 locs1 ls (by
    rw [hi, nI_clamp (Nat.lt_trans hj hn), ← g_up_updL] at hP1
    rw [← g_set (I' := I) hs (fun _ _ => rfl) (fun i h => g_up_row h)]
    exact hP1) hS1 hl)
theorem g_alen (F : Fx z S E own cc rm nL) {k t n so : Nat} {ty : FieldType} {v : Int32} (hs : S[k]? = some (.inr (t, n, so))) (ht : (g_ty E)[t]? = some (E.2.2 t, ty)) (hv : nI n = v) (hd : decode cc pc = .ok (.arraylength, 1)) (K : G z (pc + 1) L (.int v :: st) I J) : G z pc L (.ref (E.2.1 k) :: st) I J := by
  obtain ⟨hx, hb, hml, hown, hts, hK, hD, hk0, rfl, rfl, rfl, rfl⟩ := F
  intro H locs ls hP hS hl
  exact va_alen hx hb hK hP k t (g_get hs) ht hv hd (K H locs ls hP hS hl)
theorem g_aald (F : Fx z S E own cc rm nL) {k n nn kk : Nat} {i : Int32} (j : Nat) (hs : S[k]? = some (.inr (4, n, nn + 3))) (hi : i = nI j) (hj : j < n) (hn : n < 2 ^ 31) (hc : j < nn % 8) (hkk : nn / 8 + 2 * j = kk) (hd : decode cc pc = .ok (.aaload, 1)) (K : G z (pc + 1) L (.ref (E.2.1 kk) :: st) I J) : G z pc L (.int i :: .ref (E.2.1 k) :: st) I J := by
  obtain ⟨hx, hb, hml, hown, hts, hK, hD, hk0, rfl, rfl, rfl, rfl⟩ := F
  intro H locs ls hP hS hl
  exact va_aldq hx hb hK hP k 4 (g_get hs) rfl (by rw [hi]; exact vp_in_nI hj hn) hd (by rw [hi, nI_clamp (Nat.lt_trans hj hn), if_pos hc, hkk]; exact K H locs ls hP hS hl)
/-- the end that a method is to come to -/
abbrev Fe (z : gZ) (S : List gS) (E : gE) (ret : Option FieldType) (post : Option Value → gM → gN → Prop) : Prop := (zh z).sig.returnType = ret ∧ (zh z).locks = false ∧ zQ z = MQ (zb z) (gQ S E (zA z) post) (za z) (zs z) (zk z) (zn z) (zA z)
theorem g_iret (F : Fx z S E own cc rm nL) {post : Option Value → gM → gN → Prop} {v : Int32} (e : Fe z S E (some .int) post) (hd : decode cc pc = .ok (.ireturn, 1)) (h : post (some (.int v)) I J) : G z pc L ([.int v]) I J := by
  obtain ⟨hx, hb, hml, hown, hts, hK, hD, hk0, rfl, rfl, rfl, rfl⟩ := F
  intro H locs ls hP hS hl
  unfold gW
  rw [e.2.2]
  exact W.iret hx hb e.1 (fun t ht hW => ⟨⟨_, I, J, rfl, h, by rw [ht]; exact hP⟩, hS.F ht⟩) hS.2.2 hd e.2.1
theorem g_zret (F : Fx z S E own cc rm nL) {post : Option Value → gM → gN → Prop} {v : Int32} (hn : narrow .boolean (.int v) = .int v) (e : Fe z S E (some .boolean) post) (hd : decode cc pc = .ok (.ireturn, 1)) (h : post (some (.int v)) I J) : G z pc L ([.int v]) I J := by
  obtain ⟨hx, hb, hml, hown, hts, hK, hD, hk0, rfl, rfl, rfl, rfl⟩ := F
  intro H locs ls hP hS hl
  unfold gW
  rw [e.2.2]
  exact W.zret hx hb e.1 hn (fun t ht hW => ⟨⟨_, I, J, rfl, h, by rw [ht]; exact hP⟩, hS.F ht⟩) hS.2.2 hd e.2.1
theorem g_lret (F : Fx z S E own cc rm nL) {post : Option Value → gM → gN → Prop} {v : Int64} (e : Fe z S E (some .long) post) (hd : decode cc pc = .ok (.lreturn, 1)) (h : post (some (.long v)) I J) : G z pc L ([.long v]) I J := by
  obtain ⟨hx, hb, hml, hown, hts, hK, hD, hk0, rfl, rfl, rfl, rfl⟩ := F
  intro H locs ls hP hS hl
  unfold gW
  rw [e.2.2]
  exact W.lret hx hb e.1 (fun t ht hW => ⟨⟨_, I, J, rfl, h, by rw [ht]; exact hP⟩, hS.F ht⟩) hS.2.2 hd e.2.1
theorem g_vret (F : Fx z S E own cc rm nL) {post : Option Value → gM → gN → Prop}  (e : Fe z S E none post) (hd : decode cc pc = .ok (.return_, 1)) (h : post none I J) : G z pc L ([]) I J := by
  obtain ⟨hx, hb, hml, hown, hts, hK, hD, hk0, rfl, rfl, rfl, rfl⟩ := F
  intro H locs ls hP hS hl
  unfold gW
  rw [e.2.2]
  exact W.vret hx hb e.1 (fun t ht hW => ⟨⟨_, I, J, rfl, h, by rw [ht]; exact hP⟩, hS.F ht⟩) hS.2.2 hd e.2.1
end GROWS
/-! contracts and calls -/
def gA (S : List gS) (E : gE) : Nat → Prop := fun q => ∃ k, k < S.length ∧ q = E.2.1 k
def gDist (S : List gS) (E : gE) : Prop := ∀ i j, i < S.length → j < S.length → E.2.1 i = E.2.1 j → i = j
theorem g_D {S : List gS} {E : gE} {A : Nat → Prop} (h : gDist S E) (hA : ∀ k, k < S.length → A (E.2.1 k)) (I : gM) (J : gN) : va_D A (g_w S E I J) := by
  refine ⟨fun i j p q hi hj hpq => ?_, fun k q hk => ?_⟩
  · obtain ⟨x, hx, rfl⟩ := g_get' hi
    obtain ⟨y, hy, rfl⟩ := g_get' hj
    exact h i j (List.getElem?_eq_some_iff.mp hx).1 (List.getElem?_eq_some_iff.mp hy).1 hpq
  · obtain ⟨x, hx, rfl⟩ := g_get' hk
    exact hA k (List.getElem?_eq_some_iff.mp hx).1
abbrev gws (y : MethodName) (cc : ByteArray) (nL : Nat) (ret : Option FieldType) : List Cond := Cond.code y cc nL ret :: gw
def Ct (l : Launch) (S : List gS) (E : gE) (y : MethodName) (cc : ByteArray) (nL : Nat) (ret : Option FieldType) (rm : Room) (av : List Value) (I : gM) (J : gN) (post : Option Value → gM → gN → Prop) : Prop :=
  Met l y (gws y cc nL ret) rm (gP S E I J av) (gQ S E (gA S E) post) 0 0 (gA S E)
theorem Ct.of {l : Launch} {S : List gS} {E : gE} {y : MethodName} {cc : ByteArray} {nL : Nat} {ret : Option FieldType} {rm : Room} {av : List Value} {I : gM} {J : gN} {post : Option Value → gM → gN → Prop} (own : String) (hown : y.cls = own)
    (hdist : gDist S E) (hy : plainName y.cls = true) (hlen : (lg_sl av).length ≤ nL)
    (body : ∀ z, Fx z S E own cc rm nL → Fe z S E ret post → zl z = l → G z 0 (lv_args 0 av) [] I J) : Ct l S E y cc nL ret rm av I J post := by
  refine Met.ofW (cc := cc) (maxL := nL) (ret := ret) hy rfl ?_
  intro p e s m args below meth c s₁ B hml hv
  obtain ⟨rfl, hP, hK⟩ := hv
  have hts := atoms_spec (ws := gws y cc nL ret) B.pre
  have hl := lv_entry av (n := nL) hlen
  rw [lg_entry_eq]
  exact body ((p, l, e, (headSpec (gws y cc nL ret) rm).room, s, m, av.toArray, below, meth, c), (0, 0, MQ below (gQ S E (gA S E) post) av.toArray s 0 0 (gA S E)), (S, E), gA S E, nL)
    ⟨B.exec, B.bytes, hml, by rw [← hown]; exact findClass_of_methodNamed B.named, fun w h => hts w (List.mem_cons_of_mem _ h), hK, g_D hdist (fun k hk => ⟨k, hk, rfl⟩), ⟨Nat.zero_le _, Nat.zero_le _⟩, rfl, rfl, rfl, rfl⟩ ⟨B.returns, B.notSynchronized, rfl⟩ rfl s.heap [] _ hP va_S.rf hl
abbrev gMv (y : MethodName) (cc : ByteArray) (nL : Nat) (ret : Option FieldType) (C : String) (n : Nat) : Prop := Cond.instanceMethod y ∈ gw ∧ Cond.selects C y y ∈ gw ∧ Cond.initialized C ∈ gw ∧ Cond.code y cc nL ret ∈ gw ∧ y.cls = C ∧ y.cls ≠ "java/lang/invoke/MethodHandle" ∧ y.cls ≠ "java/lang/invoke/VarHandle" ∧ (parseMethodDescriptor y.desc).map (fun d => d.parameters.length) = some n
abbrev gMs (y : MethodName) (cc : ByteArray) (nL : Nat) (ret : Option FieldType) (n : Nat) : Prop := Cond.static y ∈ gw ∧ Cond.initialized y.cls ∈ gw ∧ Cond.code y cc nL ret ∈ gw ∧ y.cls ≠ "java/lang/invoke/MethodHandle" ∧ y.cls ≠ "java/lang/invoke/VarHandle" ∧ (parseMethodDescriptor y.desc).map (fun d => d.parameters.length) = some n
def gR (h : Nat) : Room := { frames := h, cells := 0, slots := 0, locals := 64 * h }
def gRok (a : Room) (n : Nat) (b : Room) : Bool := Nat.ble (a.frames + 1) b.frames && Nat.ble (8 + (n + 11) + a.locals) b.locals && Nat.beq a.cells 0 && Nat.beq a.slots 0
theorem gRok_le {a b : Room} {n : Nat} (h : gRok a n b = true) : a.frames + 1 ≤ b.frames ∧ 8 + (n + 11) + a.locals ≤ b.locals ∧ a.cells = 0 ∧ a.slots = 0 := by
  simp only [gRok, Bool.and_eq_true] at h
  exact ⟨Nat.le_of_ble_eq_true h.1.1.1, Nat.le_of_ble_eq_true h.1.1.2, Nat.eq_of_beq_eq_true h.1.2, Nat.eq_of_beq_eq_true h.2⟩
section GCALLS
variable {z : gZ} {S : List gS} {E : gE} {own : String} {cc : ByteArray} {rm : Room} {nL : Nat} {pc : Nat} {L : List (Nat × Value)} {st : List Value} {I : gM} {J : gN}
theorem g_run {post : Option Value → gM → gN → Prop} {H : Heap} {locs : List Loc} {ls : Array Slot} {rest : List Value} {a : Array Value} (hAA : ∀ q, gA (zS z) (zE z) q → zA z q)
    (hr : va_Run (zp z) (zl z) (ze z) (zR z) (zs z) (zm z) (za z) (zb z) (zh z) (zc z) H locs (zk z) (zn z) 0 0 (F0 (zm z) pc ls st) rest (gQ (zS z) (zE z) (gA (zS z) (zE z)) post a) (gA (zS z) (zE z)))
    (hS : va_S (zA z) (zs z).heap H locs) (hl : lv_has ls (zL z) L)
    (K : ∀ (r : Option Value) (I' : gM) (J' : gN), post r I' J' → G z (pc + 3) L (r.toList ++ rest) I' J') : gW z H locs (F0 (zm z) pc ls st) := by
  intro T hT X
  obtain ⟨v, st₀, t, T', L2, h0, X', hL, e1, e2, ⟨⟨r, I', J', hv, hp, hP'⟩, hz, hk⟩, stp⟩ := hr T hT X
  cases hv
  rw [h0] at hz hk
  obtain ⟨t2, a1, b1⟩ := K v I' J' hp T'.heap (locs ++ L2) ls (by rw [e1]; exact hP')
    ⟨Nat.le_trans hS.1 (by rw [e1]; exact hz), fun q h1 h2 => by rw [e1, hk q (Nat.lt_of_lt_of_le h1 hS.1) (fun y => h2 (hAA q y))]; exact hS.2.1 q h1 h2, fun q hq => by
      rcases List.mem_append.mp hq with h | h
      · exact hS.2.2 q h
      · exact hAA _ (hL q h)⟩ hl T' rfl X'
  exact ⟨t2, stp t2 a1, b1⟩
theorem g_blind {av : List Value} : FrameBlind (gP S E I J av) := fun a U g mk q => by
  obtain ⟨q0, qP, qK⟩ := q
  exact ⟨q0, qP, va_K.moved (u := U) (U := U.calling g mk a) (Vm.Alike.refl U.vm) qK⟩
theorem g_AA {A : Nat → Prop} (h : ∀ I J, va_D A (g_w S E I J)) : ∀ q, gA S E q → A q := by
  rintro q ⟨k, hk, rfl⟩
  exact (h (fun _ _ => 0) (fun _ _ => 0)).2 k _ (g_get (List.getElem?_eq_getElem hk))
theorem g_room {m : MethodId} {ls : Array Slot} {st rest : List Value} (h : (rest.map fun v => v.category).sum ≤ 8) : 2 * (F0 m pc ls st).monitorRoom + (rest.map fun v => v.category).sum ≤ 8 := by
  simpa [F0, JFrame.monitorRoom] using h
/-- a call of an object's method -/
theorem g_callV (F : Fx z S E own cc rm nL) {y : MethodName} {c2 : ByteArray} {n2 n idx k ci N : Nat} {ret : Option FieldType} {r2 : Room} {As rest : List Value} {post : Option Value → gM → gN → Prop} {C : String} {T : u_T} {fds : List Nat}
    (hC : Ct (zl z) S E y c2 n2 ret r2 (.ref (E.2.1 k) :: As) I J post) (hm : gMv y c2 n2 ret C n) (hq : Cond.methodLink own idx y ∈ gw) (hR : gRok r2 n2 rm = true)
    (hs : S[k]? = some (.inl (ci, fds))) (hc : vwCl[ci]? = some (C, T, N)) (hn : As.length = n) (hst : st = As.reverse ++ .ref (E.2.1 k) :: rest) (hW : (rest.map fun v => v.category).sum ≤ 8) (hd : decode cc pc = .ok (.invokevirtual idx, 3))
    (K : ∀ (r : Option Value) (I' : gM) (J' : gN), post r I' J' → G z (pc + 3) L (r.toList ++ rest) I' J') : G z pc L st I J := by
  obtain ⟨hx, hb, hml, hown, hts, hK, hD, hk0, rfl, rfl, rfl, rfl⟩ := F
  obtain ⟨m1, m2, m3, m4, m5, m6, m7, m8⟩ := hm
  obtain ⟨r1, r2', r3, r4⟩ := gRok_le hR
  intro H locs ls hP hS hl
  have cw : CallW (zR z) (zs z) (za z) own C idx y c2 n2 ret (gws y c2 n2 ret) r2 0 0 n :=
    ⟨callB_of n hts (gw_good0 m4) rfl r3 r4 (by rw [m5]; exact hts _ m3) (hts _ hq) ⟨m6, m7, m8⟩ ⟨r1, r2'⟩, hts _ m1, hts _ m2⟩
  refine g_run (fun q h => g_AA hD q h) (va_runV (As := As) (rest := rest) ⟨hx, hb, hml, hown, hts⟩ hC cw ⟨g_blind, va_recv hK hP hc (g_get hs), fun U hU hW => ⟨rfl, by rw [hU]; exact hP, va_K.moved hW.alike hK⟩⟩ rfl hn hl.1 hst (g_room hW) hd ⟨hk0.1, hk0.2⟩) hS hl K
/-- a call of a static method -/
theorem g_callS (F : Fx z S E own cc rm nL) {y : MethodName} {c2 : ByteArray} {n2 n idx : Nat} {ret : Option FieldType} {r2 : Room} {As rest : List Value} {post : Option Value → gM → gN → Prop}
    (hC : Ct (zl z) S E y c2 n2 ret r2 As I J post) (hm : gMs y c2 n2 ret n) (hq : Cond.methodLink own idx y ∈ gw) (hR : gRok r2 n2 rm = true)
    (hn : As.length = n) (hst : st = As.reverse ++ rest) (hW : (rest.map fun v => v.category).sum ≤ 8) (hd : decode cc pc = .ok (.invokestatic idx, 3))
    (K : ∀ (r : Option Value) (I' : gM) (J' : gN), post r I' J' → G z (pc + 3) L (r.toList ++ rest) I' J') : G z pc L st I J := by
  obtain ⟨hx, hb, hml, hown, hts, hK, hD, hk0, rfl, rfl, rfl, rfl⟩ := F
  obtain ⟨m1, m3, m4, m6, m7, m8⟩ := hm
  obtain ⟨r1, r2', r3, r4⟩ := gRok_le hR
  intro H locs ls hP hS hl
  refine g_run (fun q h => g_AA hD q h) (va_runS (As := As) (rest := rest) ⟨hx, hb, hml, hown, hts⟩ hC ⟨callB_of n hts (gw_good0 m4) rfl r3 r4 (hts _ m3) (hts _ hq) ⟨m6, m7, m8⟩ ⟨r1, r2'⟩, hts _ m1⟩ ⟨g_blind, fun U hU hW => ⟨rfl, by rw [hU]; exact hP, va_K.moved hW.alike hK⟩⟩ rfl hn hl.1 hst (g_room hW) hd ⟨hk0.1, hk0.2⟩) hS hl K
theorem q_max : Cond.code Lib.Math.max.name Lib.Math.max.code 2 (some .int) ∈ gw := by
  have e : prog_18_method_65_code = Lib.Math.max.code := by decide +kernel
  rw [← e]; exact q378
theorem q_min : Cond.code Lib.Math.min.name Lib.Math.min.code 2 (some .int) ∈ gw := by
  have e : prog_18_method_69_code = Lib.Math.min.code := by decide +kernel
  rw [← e]; exact q602
theorem g_mmax (F : Fx z S E own cc rm nL) {idx : Nat} {x y v : Int32} (hq : Cond.methodLink own idx Lib.Math.max.name ∈ gw) (hv : (if x < y then y else x) = v) (hf : 1 ≤ rm.frames) (hw : (st.map fun v => v.category).sum ≤ 8) (hlo : 21 ≤ rm.locals) (hd : decode cc pc = .ok (.invokestatic idx, 3)) (K : G z (pc + 3) L (.int v :: st) I J) : G z pc L (.int y :: .int x :: st) I J := by
  obtain ⟨hx, hb, hml, hown, hts, hK, hD, hk0, rfl, rfl, rfl, rfl⟩ := F
  intro H locs ls hP hS hl
  exact va_mmax hx hb (hml.trans hl.1.symm) hown (hts _ hq) (hts _ q377) (hts _ q13) (hts _ q_max) hf (Nat.le_trans (Nat.add_le_add_right hw 13) hlo) hk0.1 hk0.2 hd (by rw [hv]; exact K H locs ls hP hS hl)
theorem g_mmin (F : Fx z S E own cc rm nL) {idx : Nat} {x y v : Int32} (hq : Cond.methodLink own idx Lib.Math.min.name ∈ gw) (hv : (if y < x then y else x) = v) (hf : 1 ≤ rm.frames) (hw : (st.map fun v => v.category).sum ≤ 8) (hlo : 21 ≤ rm.locals) (hd : decode cc pc = .ok (.invokestatic idx, 3)) (K : G z (pc + 3) L (.int v :: st) I J) : G z pc L (.int y :: .int x :: st) I J := by
  obtain ⟨hx, hb, hml, hown, hts, hK, hD, hk0, rfl, rfl, rfl, rfl⟩ := F
  intro H locs ls hP hS hl
  exact va_mmin hx hb (hml.trans hl.1.symm) hown (hts _ hq) (hts _ q601) (hts _ q13) (hts _ q_min) hf (Nat.le_trans (Nat.add_le_add_right hw 13) hlo) hk0.1 hk0.2 hd (by rw [hv]; exact K H locs ls hP hS hl)
end GCALLS
