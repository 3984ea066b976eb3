/-! many instructions of a method decoded in one walk over its bytes -/
section DECODE
theorem rA_bind {α β : Type} {x : Jvm.ClassFile.Decoder α} {f : α → Jvm.ClassFile.Decoder β} {cc : ByteArray} {p q : Nat} {a : α} (h : Jvm.ClassFile.Reader.runAt x cc p = .ok (a, q)) : Jvm.ClassFile.Reader.runAt (x >>= f) cc p = Jvm.ClassFile.Reader.runAt (f a) cc q := by
  show (Jvm.ClassFile.Reader.runAt x cc p >>= fun y => Jvm.ClassFile.Reader.runAt (f y.1) cc y.2) = _
  rw [h]
  rfl
theorem rA_pure {α : Type} {a : α} {cc : ByteArray} {p : Nat} : Jvm.ClassFile.Reader.runAt (pure a : Jvm.ClassFile.Decoder α) cc p = .ok (a, p) := rfl
theorem rd_drop {cc : ByteArray} {p : Nat} {b : UInt8} {t : List UInt8} (h : cc.data.toList.drop p = b :: t) : ∃ q : p < cc.size, cc[p] = b := by
  have hl : p < cc.data.toList.length := by
    rcases Nat.lt_or_ge p cc.data.toList.length with q | q
    · exact q
    · rw [List.drop_of_length_le q] at h
      exact absurd h (List.cons_ne_nil _ _).symm
  have e := List.drop_eq_getElem_cons hl
  rw [h] at e
  exact ⟨hl, (List.cons.inj e).1.symm⟩
theorem rd_tail {l : List UInt8} {p : Nat} {b : UInt8} {t : List UInt8} (h : l.drop p = b :: t) : l.drop (p + 1) = t := by
  rw [← List.tail_drop, h]
  rfl
theorem rA_u1 {cc : ByteArray} {p : Nat} {b : UInt8} {t : List UInt8} (h : cc.data.toList.drop p = b :: t) : Jvm.ClassFile.Reader.runAt (Jvm.ClassFile.Reader.u1 : Jvm.ClassFile.Decoder Nat) cc p = .ok (b.toNat, p + 1) := by
  obtain ⟨q, e⟩ := rd_drop h
  show ReaderT.run (if h : p < cc.size then (do set (p + 1); pure cc[p].toNat : Jvm.ClassFile.Decoder Nat) else throw (Jvm.ClassFile.HasTruncated.truncated p)) cc p = _
  rw [dif_pos q, e]
  rfl
theorem rA_s1 {cc : ByteArray} {p : Nat} {b : UInt8} {t : List UInt8} (h : cc.data.toList.drop p = b :: t) : Jvm.ClassFile.Reader.runAt (Jvm.ClassFile.Reader.s1 : Jvm.ClassFile.Decoder Int) cc p = .ok (Jvm.ClassFile.Reader.signed 8 b.toNat, p + 1) := by
  show Jvm.ClassFile.Reader.runAt (Jvm.ClassFile.Reader.u1 >>= fun x => pure (Jvm.ClassFile.Reader.signed 8 x) : Jvm.ClassFile.Decoder Int) cc p = _
  rw [rA_bind (rA_u1 h)]
  rfl
theorem rA_u2 {cc : ByteArray} {p : Nat} {b d : UInt8} {t : List UInt8} (h : cc.data.toList.drop p = b :: d :: t) : Jvm.ClassFile.Reader.runAt (Jvm.ClassFile.Reader.u2 : Jvm.ClassFile.Decoder Nat) cc p = .ok (b.toNat * 256 + d.toNat, p + 2) := by
  show Jvm.ClassFile.Reader.runAt (Jvm.ClassFile.Reader.u1 >>= fun x => Jvm.ClassFile.Reader.u1 >>= fun y => pure (x * 256 + y) : Jvm.ClassFile.Decoder Nat) cc p = _
  rw [rA_bind (rA_u1 h), rA_bind (rA_u1 (rd_tail h))]
  rfl
theorem rA_s2 {cc : ByteArray} {p : Nat} {b d : UInt8} {t : List UInt8} (h : cc.data.toList.drop p = b :: d :: t) : Jvm.ClassFile.Reader.runAt (Jvm.ClassFile.Reader.s2 : Jvm.ClassFile.Decoder Int) cc p = .ok (Jvm.ClassFile.Reader.signed 16 (b.toNat * 256 + d.toNat), p + 2) := by
  show Jvm.ClassFile.Reader.runAt (Jvm.ClassFile.Reader.u2 >>= fun x => pure (Jvm.ClassFile.Reader.signed 16 x) : Jvm.ClassFile.Decoder Int) cc p = _
  rw [rA_bind (rA_u2 h)]
  rfl
/-- what stands behind an opcode: the instruction and how many bytes it takes -/
def dG : Type := List UInt8 → Option (Jvm.ClassFile.Instr × Nat)
def g0' (i : Jvm.ClassFile.Instr) : dG := fun _ => some (i, 1)
def gu1 (c : Nat → Jvm.ClassFile.Instr) : dG := fun t => match t with | b :: _ => some (c b.toNat, 2) | _ => none
def gs1 (c : Int → Jvm.ClassFile.Instr) : dG := fun t => match t with | b :: _ => some (c (Jvm.ClassFile.Reader.signed 8 b.toNat), 2) | _ => none
def gu2 (c : Nat → Jvm.ClassFile.Instr) : dG := fun t => match t with | b :: d :: _ => some (c (b.toNat * 256 + d.toNat), 3) | _ => none
def gs2 (c : Int → Jvm.ClassFile.Instr) : dG := fun t => match t with | b :: d :: _ => some (c (Jvm.ClassFile.Reader.signed 16 (b.toNat * 256 + d.toNat)), 3) | _ => none
def gus (c : Nat → Int → Jvm.ClassFile.Instr) : dG := fun t => match t with | b :: d :: _ => some (c b.toNat (Jvm.ClassFile.Reader.signed 8 d.toNat), 3) | _ => none
/-- a reader behind the opcode does what the row says -/
def dOK (m : Jvm.ClassFile.Decoder Jvm.ClassFile.Instr) (g : dG) : Prop := ∀ (cc : ByteArray) (p : Nat) (t : List UInt8) (i : Jvm.ClassFile.Instr) (n : Nat), cc.data.toList.drop (p + 1) = t → g t = some (i, n) → Jvm.ClassFile.Reader.runAt m cc (p + 1) = .ok (i, p + n)
theorem ok0 {i : Jvm.ClassFile.Instr} : dOK (pure i) (g0' i) := by
  intro cc p t j n _ h
  obtain ⟨rfl, rfl⟩ := Prod.mk.inj (Option.some.inj h)
  rfl
theorem oku1 {c : Nat → Jvm.ClassFile.Instr} : dOK (Jvm.ClassFile.Reader.u1 >>= fun x => pure (c x)) (gu1 c) := by
  intro cc p t j n ht h
  match t, h with
  | b :: t, h =>
    obtain ⟨rfl, rfl⟩ := Prod.mk.inj (Option.some.inj h)
    rw [rA_bind (rA_u1 ht)]
    rfl
theorem oks1 {c : Int → Jvm.ClassFile.Instr} : dOK (Jvm.ClassFile.Reader.s1 >>= fun x => pure (c x)) (gs1 c) := by
  intro cc p t j n ht h
  match t, h with
  | b :: t, h =>
    obtain ⟨rfl, rfl⟩ := Prod.mk.inj (Option.some.inj h)
    rw [rA_bind (rA_s1 ht)]
    rfl
theorem oku2 {c : Nat → Jvm.ClassFile.Instr} : dOK (Jvm.ClassFile.Reader.u2 >>= fun x => pure (c x)) (gu2 c) := by
  intro cc p t j n ht h
  match t, h with
  | b :: d :: t, h =>
    obtain ⟨rfl, rfl⟩ := Prod.mk.inj (Option.some.inj h)
    rw [rA_bind (rA_u2 ht)]
    rfl
theorem oks2 {c : Int → Jvm.ClassFile.Instr} : dOK (Jvm.ClassFile.Reader.s2 >>= fun x => pure (c x)) (gs2 c) := by
  intro cc p t j n ht h
  match t, h with
  | b :: d :: t, h =>
    obtain ⟨rfl, rfl⟩ := Prod.mk.inj (Option.some.inj h)
    rw [rA_bind (rA_s2 ht)]
    rfl
theorem okus {c : Nat → Int → Jvm.ClassFile.Instr} : dOK (Jvm.ClassFile.Reader.u1 >>= fun x => Jvm.ClassFile.Reader.s1 >>= fun y => pure (c x y)) (gus c) := by
  intro cc p t j n ht h
  match t, h with
  | b :: d :: t, h =>
    obtain ⟨rfl, rfl⟩ := Prod.mk.inj (Option.some.inj h)
    rw [rA_bind (rA_u1 ht), rA_bind (rA_s1 (rd_tail ht))]
    rfl
def dT0 : List (Nat × dG) := [(42, g0' (.aload_n 0 : Jvm.ClassFile.Instr)), (43, g0' (.aload_n 1 : Jvm.ClassFile.Instr)), (44, g0' (.aload_n 2 : Jvm.ClassFile.Instr)), (45, g0' (.aload_n 3 : Jvm.ClassFile.Instr)), (3, g0' (.iconst 0 : Jvm.ClassFile.Instr)), (4, g0' (.iconst 1 : Jvm.ClassFile.Instr)), (26, g0' (.iload_n 0 : Jvm.ClassFile.Instr)), (27, g0' (.iload_n 1 : Jvm.ClassFile.Instr)), (28, g0' (.iload_n 2 : Jvm.ClassFile.Instr)), (29, g0' (.iload_n 3 : Jvm.ClassFile.Instr)), (180, gu2 (fun x => .getfield x)), (182, gu2 (fun x => .invokevirtual x)), (21, gu1 (fun x => .iload x)), (46, g0' (.iaload : Jvm.ClassFile.Instr)), (172, g0' (.ireturn : Jvm.ClassFile.Instr)), (54, gu1 (fun x => .istore x)), (167, gs2 (fun x => .goto x)), (96, g0' (.iadd : Jvm.ClassFile.Instr)), (160, gs2 (fun x => .if_icmp .ne x)), (161, gs2 (fun x => .if_icmp .lt x)), (162, gs2 (fun x => .if_icmp .ge x)), (163, gs2 (fun x => .if_icmp .gt x)), (164, gs2 (fun x => .if_icmp .le x)), (159, gs2 (fun x => .if_icmp .eq x))]
def dT1 : List (Nat × dG) := [(153, gs2 (fun x => .ifCond .eq x)), (154, gs2 (fun x => .ifCond .ne x)), (155, gs2 (fun x => .ifCond .lt x)), (156, gs2 (fun x => .ifCond .ge x)), (157, gs2 (fun x => .ifCond .gt x)), (158, gs2 (fun x => .ifCond .le x)), (16, gs1 (fun x => .bipush x)), (181, gu2 (fun x => .putfield x)), (132, gus (fun x y => .iinc x y)), (59, g0' (.istore_n 0 : Jvm.ClassFile.Instr)), (60, g0' (.istore_n 1 : Jvm.ClassFile.Instr)), (61, g0' (.istore_n 2 : Jvm.ClassFile.Instr)), (62, g0' (.istore_n 3 : Jvm.ClassFile.Instr)), (184, gu2 (fun x => .invokestatic x)), (104, g0' (.imul : Jvm.ClassFile.Instr)), (79, g0' (.iastore : Jvm.ClassFile.Instr)), (177, g0' (.return_ : Jvm.ClassFile.Instr)), (100, g0' (.isub : Jvm.ClassFile.Instr)), (87, g0' (.pop : Jvm.ClassFile.Instr)), (89, g0' (.dup : Jvm.ClassFile.Instr)), (17, gs2 (fun x => .sipush x)), (126, g0' (.iand : Jvm.ClassFile.Instr)), (2, g0' (.iconst (-1) : Jvm.ClassFile.Instr)), (5, g0' (.iconst 2 : Jvm.ClassFile.Instr))]
def dT2 : List (Nat × dG) := [(6, g0' (.iconst 3 : Jvm.ClassFile.Instr)), (7, g0' (.iconst 4 : Jvm.ClassFile.Instr)), (8, g0' (.iconst 5 : Jvm.ClassFile.Instr)), (9, g0' (.lconst 0 : Jvm.ClassFile.Instr)), (10, g0' (.lconst 1 : Jvm.ClassFile.Instr)), (11, g0' (.fconst 0 : Jvm.ClassFile.Instr)), (12, g0' (.fconst 1 : Jvm.ClassFile.Instr)), (13, g0' (.fconst 2 : Jvm.ClassFile.Instr)), (14, g0' (.dconst 0 : Jvm.ClassFile.Instr)), (15, g0' (.dconst 1 : Jvm.ClassFile.Instr)), (18, gu1 (fun x => .ldc x)), (19, gu2 (fun x => .ldc_w x)), (20, gu2 (fun x => .ldc2_w x)), (24, gu1 (fun x => .dload x)), (30, g0' (.lload_n 0 : Jvm.ClassFile.Instr)), (31, g0' (.lload_n 1 : Jvm.ClassFile.Instr)), (32, g0' (.lload_n 2 : Jvm.ClassFile.Instr)), (33, g0' (.lload_n 3 : Jvm.ClassFile.Instr)), (34, g0' (.fload_n 0 : Jvm.ClassFile.Instr)), (35, g0' (.fload_n 1 : Jvm.ClassFile.Instr)), (36, g0' (.fload_n 2 : Jvm.ClassFile.Instr)), (37, g0' (.fload_n 3 : Jvm.ClassFile.Instr)), (38, g0' (.dload_n 0 : Jvm.ClassFile.Instr)), (39, g0' (.dload_n 1 : Jvm.ClassFile.Instr))]
def dT3 : List (Nat × dG) := [(40, g0' (.dload_n 2 : Jvm.ClassFile.Instr)), (41, g0' (.dload_n 3 : Jvm.ClassFile.Instr)), (50, g0' (.aaload : Jvm.ClassFile.Instr)), (51, g0' (.baload : Jvm.ClassFile.Instr)), (57, gu1 (fun x => .dstore x)), (58, gu1 (fun x => .astore x)), (63, g0' (.lstore_n 0 : Jvm.ClassFile.Instr)), (64, g0' (.lstore_n 1 : Jvm.ClassFile.Instr)), (65, g0' (.lstore_n 2 : Jvm.ClassFile.Instr)), (66, g0' (.lstore_n 3 : Jvm.ClassFile.Instr)), (71, g0' (.dstore_n 0 : Jvm.ClassFile.Instr)), (72, g0' (.dstore_n 1 : Jvm.ClassFile.Instr)), (73, g0' (.dstore_n 2 : Jvm.ClassFile.Instr)), (74, g0' (.dstore_n 3 : Jvm.ClassFile.Instr)), (75, g0' (.astore_n 0 : Jvm.ClassFile.Instr)), (76, g0' (.astore_n 1 : Jvm.ClassFile.Instr)), (77, g0' (.astore_n 2 : Jvm.ClassFile.Instr)), (78, g0' (.astore_n 3 : Jvm.ClassFile.Instr)), (80, g0' (.lastore : Jvm.ClassFile.Instr)), (83, g0' (.aastore : Jvm.ClassFile.Instr)), (84, g0' (.bastore : Jvm.ClassFile.Instr)), (88, g0' (.pop2 : Jvm.ClassFile.Instr)), (92, g0' (.dup2 : Jvm.ClassFile.Instr)), (97, g0' (.ladd : Jvm.ClassFile.Instr))]
def dT4 : List (Nat × dG) := [(99, g0' (.dadd : Jvm.ClassFile.Instr)), (103, g0' (.dsub : Jvm.ClassFile.Instr)), (105, g0' (.lmul : Jvm.ClassFile.Instr)), (107, g0' (.dmul : Jvm.ClassFile.Instr)), (108, g0' (.idiv : Jvm.ClassFile.Instr)), (110, g0' (.fdiv : Jvm.ClassFile.Instr)), (111, g0' (.ddiv : Jvm.ClassFile.Instr)), (112, g0' (.irem : Jvm.ClassFile.Instr)), (113, g0' (.lrem : Jvm.ClassFile.Instr)), (119, g0' (.dneg : Jvm.ClassFile.Instr)), (120, g0' (.ishl : Jvm.ClassFile.Instr)), (121, g0' (.lshl : Jvm.ClassFile.Instr)), (122, g0' (.ishr : Jvm.ClassFile.Instr)), (124, g0' (.iushr : Jvm.ClassFile.Instr)), (125, g0' (.lushr : Jvm.ClassFile.Instr)), (127, g0' (.land : Jvm.ClassFile.Instr)), (128, g0' (.ior : Jvm.ClassFile.Instr)), (129, g0' (.lor : Jvm.ClassFile.Instr)), (130, g0' (.ixor : Jvm.ClassFile.Instr)), (133, g0' (.i2l : Jvm.ClassFile.Instr)), (134, g0' (.i2f : Jvm.ClassFile.Instr)), (135, g0' (.i2d : Jvm.ClassFile.Instr)), (136, g0' (.l2i : Jvm.ClassFile.Instr)), (138, g0' (.l2d : Jvm.ClassFile.Instr))]
def dT5 : List (Nat × dG) := [(141, g0' (.f2d : Jvm.ClassFile.Instr)), (142, g0' (.d2i : Jvm.ClassFile.Instr)), (143, g0' (.d2l : Jvm.ClassFile.Instr)), (144, g0' (.d2f : Jvm.ClassFile.Instr)), (145, g0' (.i2b : Jvm.ClassFile.Instr)), (149, g0' (.fcmp .l : Jvm.ClassFile.Instr)), (151, g0' (.dcmp .l : Jvm.ClassFile.Instr)), (152, g0' (.dcmp .g : Jvm.ClassFile.Instr)), (173, g0' (.lreturn : Jvm.ClassFile.Instr)), (175, g0' (.dreturn : Jvm.ClassFile.Instr)), (178, gu2 (fun x => .getstatic x)), (183, gu2 (fun x => .invokespecial x)), (187, gu2 (fun x => .new x)), (189, gu2 (fun x => .anewarray x)), (190, g0' (.arraylength : Jvm.ClassFile.Instr)), (191, g0' (.athrow : Jvm.ClassFile.Instr))]
/-- every row of these tables is right of a reader behind the opcode -/
def allG (F : Nat → Nat → Jvm.ClassFile.Decoder Jvm.ClassFile.Instr) : List (Nat × dG) → Prop
  | [] => True
  | e :: r => (∀ pc, dOK (F pc e.1) e.2) ∧ allG F r
set_option maxHeartbeats 2000000 in
theorem instr_is : ∃ F : Nat → Nat → Jvm.ClassFile.Decoder Jvm.ClassFile.Instr, (∀ pc, Jvm.ClassFile.Decoder.instr pc = Jvm.ClassFile.Reader.u1 >>= F pc) ∧ allG F dT0 ∧ allG F dT1 ∧ allG F dT2 ∧ allG F dT3 ∧ allG F dT4 ∧ allG F dT5 := by
  refine ⟨_, fun _ => rfl, ?_, ?_, ?_, ?_, ?_, ?_⟩
  · exact ⟨fun _ => ok0, fun _ => ok0, fun _ => ok0, fun _ => ok0, fun _ => ok0, fun _ => ok0, fun _ => ok0, fun _ => ok0, fun _ => ok0, fun _ => ok0, fun _ => oku2, fun _ => oku2, fun _ => oku1, fun _ => ok0, fun _ => ok0, fun _ => oku1, fun _ => oks2, fun _ => ok0, fun _ => oks2, fun _ => oks2, fun _ => oks2, fun _ => oks2, fun _ => oks2, fun _ => oks2, trivial⟩
  · exact ⟨fun _ => oks2, fun _ => oks2, fun _ => oks2, fun _ => oks2, fun _ => oks2, fun _ => oks2, fun _ => oks1, fun _ => oku2, fun _ => okus, fun _ => ok0, fun _ => ok0, fun _ => ok0, fun _ => ok0, fun _ => oku2, fun _ => ok0, fun _ => ok0, fun _ => ok0, fun _ => ok0, fun _ => ok0, fun _ => ok0, fun _ => oks2, fun _ => ok0, fun _ => ok0, fun _ => ok0, trivial⟩
  · exact ⟨fun _ => ok0, fun _ => ok0, fun _ => ok0, fun _ => ok0, fun _ => ok0, fun _ => ok0, fun _ => ok0, fun _ => ok0, fun _ => ok0, fun _ => ok0, fun _ => oku1, fun _ => oku2, fun _ => oku2, fun _ => oku1, fun _ => ok0, fun _ => ok0, fun _ => ok0, fun _ => ok0, fun _ => ok0, fun _ => ok0, fun _ => ok0, fun _ => ok0, fun _ => ok0, fun _ => ok0, trivial⟩
  · exact ⟨fun _ => ok0, fun _ => ok0, fun _ => ok0, fun _ => ok0, fun _ => oku1, fun _ => oku1, fun _ => ok0, fun _ => ok0, fun _ => ok0, fun _ => ok0, fun _ => ok0, fun _ => ok0, fun _ => ok0, fun _ => ok0, fun _ => ok0, fun _ => ok0, fun _ => ok0, fun _ => ok0, fun _ => ok0, fun _ => ok0, fun _ => ok0, fun _ => ok0, fun _ => ok0, fun _ => ok0, trivial⟩
  · exact ⟨fun _ => ok0, fun _ => ok0, fun _ => ok0, fun _ => ok0, fun _ => ok0, fun _ => ok0, fun _ => ok0, fun _ => ok0, fun _ => ok0, fun _ => ok0, fun _ => ok0, fun _ => ok0, fun _ => ok0, fun _ => ok0, fun _ => ok0, fun _ => ok0, fun _ => ok0, fun _ => ok0, fun _ => ok0, fun _ => ok0, fun _ => ok0, fun _ => ok0, fun _ => ok0, fun _ => ok0, trivial⟩
  · exact ⟨fun _ => ok0, fun _ => ok0, fun _ => ok0, fun _ => ok0, fun _ => ok0, fun _ => ok0, fun _ => ok0, fun _ => ok0, fun _ => ok0, fun _ => ok0, fun _ => oku2, fun _ => oku2, fun _ => oku2, fun _ => oku2, fun _ => ok0, fun _ => ok0, trivial⟩
def dLook : List (Nat × dG) → Nat → Option dG
  | [], _ => none
  | e :: r, b => if e.1 = b then some e.2 else dLook r b
theorem dLook_ok {F : Nat → Nat → Jvm.ClassFile.Decoder Jvm.ClassFile.Instr} : ∀ {l : List (Nat × dG)} {b : Nat} {g : dG}, allG F l → dLook l b = some g → ∀ pc, dOK (F pc b) g
  | [], _, _, _, h => by cases h
  | e :: r, b, g, hA, h => by
    unfold dLook at h
    by_cases hb : e.1 = b
    · rw [if_pos hb] at h
      rw [← Option.some.inj h, ← hb]
      exact hA.1
    · rw [if_neg hb] at h
      exact dLook_ok hA.2 h
def dAll (b : Nat) : Option dG := ((((((((((dLook dT0 b).or (dLook dT1 b))).or (dLook dT2 b))).or (dLook dT3 b))).or (dLook dT4 b))).or (dLook dT5 b))
theorem or_case {α : Type} {a b : Option α} {x : α} (h : a.or b = some x) : a = some x ∨ b = some x := by
  cases a with
  | none => exact Or.inr h
  | some y => exact Or.inl h
theorem dAll_ok : ∃ F : Nat → Nat → Jvm.ClassFile.Decoder Jvm.ClassFile.Instr, (∀ pc, Jvm.ClassFile.Decoder.instr pc = Jvm.ClassFile.Reader.u1 >>= F pc) ∧ ∀ b g, dAll b = some g → ∀ pc, dOK (F pc b) g := by
  obtain ⟨F, hF, h0, h1, h2, h3, h4, h5⟩ := instr_is
  refine ⟨F, hF, fun b g h => ?_⟩
  rcases or_case h with h | h
  rotate_left
  · exact dLook_ok h5 h
  rcases or_case h with h | h
  rotate_left
  · exact dLook_ok h4 h
  rcases or_case h with h | h
  rotate_left
  · exact dLook_ok h3 h
  rcases or_case h with h | h
  rotate_left
  · exact dLook_ok h2 h
  rcases or_case h with h | h
  rotate_left
  · exact dLook_ok h1 h
  exact dLook_ok h0 h
/-- one instruction at the head of the bytes -/
def dOne (l : List UInt8) : Option (Jvm.ClassFile.Instr × Nat) := match l with
  | [] => none
  | b :: t => (dAll b.toNat).bind (fun g => g t)
theorem dOne_ok {cc : ByteArray} {pc : Nat} {i : Jvm.ClassFile.Instr} {n : Nat} (h : dOne (cc.data.toList.drop pc) = some (i, n)) : decode cc pc = .ok (i, n) := by
  obtain ⟨F, hF, hA⟩ := dAll_ok
  match e : cc.data.toList.drop pc, h with
  | b :: t, h =>
    have h : (dAll b.toNat).bind (fun g => g t) = some (i, n) := h
    match hg : dAll b.toNat, h with
    | some g, h =>
      have h1 := hA _ _ hg pc cc pc t i n (rd_tail e) h
      have h2 : Jvm.ClassFile.Reader.runAt (Jvm.ClassFile.Decoder.instr pc) cc pc = .ok (i, pc + n) := by
        rw [hF, rA_bind (rA_u1 e)]
        exact h1
      show (Jvm.ClassFile.Reader.runAt (Jvm.ClassFile.Decoder.instr pc) cc pc >>= fun y => pure (y.1, y.2 - pc)) = _
      rw [h2]
      show Except.ok (i, pc + n - pc) = _
      rw [Nat.add_sub_cancel_left]
def dChk : List UInt8 → Nat → List (Nat × Jvm.ClassFile.Instr × Nat) → Bool
  | _, _, [] => true
  | l, p, e :: r => decide (p ≤ e.1) && decide (dOne (l.drop (e.1 - p)) = some e.2) && dChk (l.drop (e.1 - p)) e.1 r
/-- the rows of a list hold -/
def dAre (cc : ByteArray) : List (Nat × Jvm.ClassFile.Instr × Nat) → Prop
  | [] => True
  | e :: r => decode cc e.1 = .ok e.2 ∧ dAre cc r
theorem dAre_ok {cc : ByteArray} : ∀ {L : List (Nat × Jvm.ClassFile.Instr × Nat)} {l : List UInt8} {p : Nat}, l = cc.data.toList.drop p → dChk l p L = true → dAre cc L
  | [], _, _, _, _ => trivial
  | e :: r, l, p, hl, h => by
    have h : (decide (p ≤ e.1) && decide (dOne (l.drop (e.1 - p)) = some e.2) && dChk (l.drop (e.1 - p)) e.1 r) = true := h
    rw [Bool.and_eq_true, Bool.and_eq_true] at h
    have h1 := of_decide_eq_true h.1.1
    have e1 : l.drop (e.1 - p) = cc.data.toList.drop e.1 := by
      rw [hl, List.drop_drop]
      congr 1
      omega
    refine ⟨?_, dAre_ok e1 h.2⟩
    have h2 := of_decide_eq_true h.1.2
    rw [e1] at h2
    exact dOne_ok h2
theorem dAre0 {cc : ByteArray} {L : List (Nat × Jvm.ClassFile.Instr × Nat)} (h : dChk cc.data.toList 0 L = true) : dAre cc L := dAre_ok (p := 0) rfl h
end DECODE
