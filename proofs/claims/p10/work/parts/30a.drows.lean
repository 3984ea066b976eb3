/-! doubles and floats: what a run may answer where no result is a NaN -/
def gD (r : UInt64) : Option UInt64 := if r &&& 0x7fffffffffffffff ≤ 0x7ff0000000000000 then some r else none
def gF (r : UInt32) : Option UInt32 := if r &&& 0x7fffffff ≤ 0x7f800000 then some r else none
theorem gD_some {r u : UInt64} (h : gD r = some u) : vf_n64 r ∧ r = u := by
  unfold gD at h
  split at h
  · rename_i q; exact ⟨q, Option.some.inj h⟩
  · cases h
theorem gF_some {r u : UInt32} (h : gF r = some u) : vf_n32 r ∧ r = u := by
  unfold gF at h
  split at h
  · rename_i q; exact ⟨q, Option.some.inj h⟩
  · cases h
section DROWS
variable {z : gZ} {S : List gS} {E : gE} {own : String} {cc : ByteArray} {rm : Room} {nL : Nat} {pc : Nat} {L : List (Nat × Value)} {st : List Value} {I : gM} {J : gN}
theorem g_dconst0 (F : Fx z S E own cc rm nL) (hd : decode cc pc = .ok (.dconst 0, 1)) (K : G z (pc + 1) L (.double FP.dconst0 :: st) I J) : G z pc L (st) I J := by
  obtain ⟨hx, hb, hml, hown, hts, hK, hD, hk0, rfl, rfl, rfl, rfl⟩ := F
  intro H locs ls hP hS hl
  exact lv_dconst0 hx hb hd (K H locs ls hP hS hl)
theorem g_dconst1 (F : Fx z S E own cc rm nL) (hd : decode cc pc = .ok (.dconst 1, 1)) (K : G z (pc + 1) L (.double FP.dconst1 :: st) I J) : G z pc L (st) I J := by
  obtain ⟨hx, hb, hml, hown, hts, hK, hD, hk0, rfl, rfl, rfl, rfl⟩ := F
  intro H locs ls hP hS hl
  exact lv_dconst1 hx hb hd (K H locs ls hP hS hl)
theorem g_fconst0 (F : Fx z S E own cc rm nL) (hd : decode cc pc = .ok (.fconst 0, 1)) (K : G z (pc + 1) L (.float FP.fconst0 :: st) I J) : G z pc L (st) I J := by
  obtain ⟨hx, hb, hml, hown, hts, hK, hD, hk0, rfl, rfl, rfl, rfl⟩ := F
  intro H locs ls hP hS hl
  exact lv_fconst0 hx hb hd (K H locs ls hP hS hl)
theorem g_dload_n (F : Fx z S E own cc rm nL) {k : Fin 4} {i : Nat} {x : UInt64} (q : Nat) (hd : decode cc pc = .ok (.dload_n k, 1)) (hi : (k : Nat) = i) (hq : L[q]? = some (i, .double x)) (K : G z (pc + 1) L (.double x :: st) I J) : G z pc L (st) I J := by
  obtain ⟨hx, hb, hml, hown, hts, hK, hD, hk0, rfl, rfl, rfl, rfl⟩ := F
  intro H locs ls hP hS hl
  exact lv_dload_n hx hb hd hi (lv_at hl q hq) (K H locs ls hP hS hl)
theorem g_dload (F : Fx z S E own cc rm nL) {i : Nat} {x : UInt64} (q : Nat) (hd : decode cc pc = .ok (.dload i, 2)) (hq : L[q]? = some (i, .double x)) (K : G z (pc + 2) L (.double x :: st) I J) : G z pc L (st) I J := by
  obtain ⟨hx, hb, hml, hown, hts, hK, hD, hk0, rfl, rfl, rfl, rfl⟩ := F
  intro H locs ls hP hS hl
  exact lv_dload hx hb hd (lv_at hl q hq) (K H locs ls hP hS hl)
theorem g_fload_n (F : Fx z S E own cc rm nL) {k : Fin 4} {i : Nat} {x : UInt32} (q : Nat) (hd : decode cc pc = .ok (.fload_n k, 1)) (hi : (k : Nat) = i) (hq : L[q]? = some (i, .float x)) (K : G z (pc + 1) L (.float x :: st) I J) : G z pc L (st) I J := by
  obtain ⟨hx, hb, hml, hown, hts, hK, hD, hk0, rfl, rfl, rfl, rfl⟩ := F
  intro H locs ls hP hS hl
  exact lv_fload_n hx hb hd hi (lv_at hl q hq) (K H locs ls hP hS hl)
theorem g_dstore_n (F : Fx z S E own cc rm nL) {k : Fin 4} {i : Nat} {x : UInt64} {Ln : List (Nat × Value)} (hd : decode cc pc = .ok (.dstore_n k, 1)) (hi : (k : Nat) = i) (hn : i + 1 < nL) (hL : (i, Value.double x) :: L.filter (fun q => !(q.1 == i) && (!(q.1 == i + 1) && !(q.1 + 1 == i && q.2.category == 2))) = Ln) (K : G z (pc + 1) Ln st I J) : G z pc L (.double x :: st) I J := by
  obtain ⟨hx, hb, hml, hown, hts, hK, hD, hk0, rfl, rfl, rfl, rfl⟩ := F
  intro H locs ls hP hS hl
  exact lv_dstore_n (lv := L) hx hb hd hi hl hn hL (fun ls hl => K H locs ls hP hS hl)
theorem g_dstore (F : Fx z S E own cc rm nL) {i : Nat} {x : UInt64} {Ln : List (Nat × Value)} (hd : decode cc pc = .ok (.dstore i, 2)) (hn : i + 1 < nL) (hL : (i, Value.double x) :: L.filter (fun q => !(q.1 == i) && (!(q.1 == i + 1) && !(q.1 + 1 == i && q.2.category == 2))) = Ln) (K : G z (pc + 2) Ln st I J) : G z pc L (.double x :: st) I J := by
  obtain ⟨hx, hb, hml, hown, hts, hK, hD, hk0, rfl, rfl, rfl, rfl⟩ := F
  intro H locs ls hP hS hl
  exact lv_dstore (lv := L) hx hb hd hl hn hL (fun ls hl => K H locs ls hP hS hl)
theorem g_i2d (F : Fx z S E own cc rm nL) {x : Int32} (hd : decode cc pc = .ok (.i2d, 1)) (K : G z (pc + 1) L (.double (FP.i2d x) :: st) I J) : G z pc L (.int x :: st) I J := by
  obtain ⟨hx, hb, hml, hown, hts, hK, hD, hk0, rfl, rfl, rfl, rfl⟩ := F
  intro H locs ls hP hS hl
  exact lv_i2d hx hb hd (K H locs ls hP hS hl)
theorem g_l2d (F : Fx z S E own cc rm nL) {x : Int64} (hd : decode cc pc = .ok (.l2d, 1)) (K : G z (pc + 1) L (.double (FP.l2d x) :: st) I J) : G z pc L (.long x :: st) I J := by
  obtain ⟨hx, hb, hml, hown, hts, hK, hD, hk0, rfl, rfl, rfl, rfl⟩ := F
  intro H locs ls hP hS hl
  exact lv_l2d hx hb hd (K H locs ls hP hS hl)
theorem g_d2i (F : Fx z S E own cc rm nL) {x : UInt64} (hd : decode cc pc = .ok (.d2i, 1)) (K : G z (pc + 1) L (.int (FP.d2i x) :: st) I J) : G z pc L (.double x :: st) I J := by
  obtain ⟨hx, hb, hml, hown, hts, hK, hD, hk0, rfl, rfl, rfl, rfl⟩ := F
  intro H locs ls hP hS hl
  exact lv_d2i hx hb hd (K H locs ls hP hS hl)
theorem g_d2l (F : Fx z S E own cc rm nL) {x : UInt64} (hd : decode cc pc = .ok (.d2l, 1)) (K : G z (pc + 1) L (.long (FP.d2l x) :: st) I J) : G z pc L (.double x :: st) I J := by
  obtain ⟨hx, hb, hml, hown, hts, hK, hD, hk0, rfl, rfl, rfl, rfl⟩ := F
  intro H locs ls hP hS hl
  exact lv_d2l hx hb hd (K H locs ls hP hS hl)
theorem g_dneg (F : Fx z S E own cc rm nL) {x : UInt64} (hd : decode cc pc = .ok (.dneg, 1)) (K : G z (pc + 1) L (.double (FP.dneg x) :: st) I J) : G z pc L (.double x :: st) I J := by
  obtain ⟨hx, hb, hml, hown, hts, hK, hD, hk0, rfl, rfl, rfl, rfl⟩ := F
  intro H locs ls hP hS hl
  exact lv_dneg hx hb hd (K H locs ls hP hS hl)
theorem g_i2f (F : Fx z S E own cc rm nL) {x : Int32} (hd : decode cc pc = .ok (.i2f, 1)) (K : G z (pc + 1) L (.float (FP.i2f x) :: st) I J) : G z pc L (.int x :: st) I J := by
  obtain ⟨hx, hb, hml, hown, hts, hK, hD, hk0, rfl, rfl, rfl, rfl⟩ := F
  intro H locs ls hP hS hl
  exact lv_i2f hx hb hd (K H locs ls hP hS hl)
theorem g_dcmp (F : Fx z S E own cc rm nL) {x y : UInt64} {op : CmpOp} (hd : decode cc pc = .ok (.dcmp op, 1)) (K : G z (pc + 1) L (.int (Op.cmpValue (FP.dcmp x y) op) :: st) I J) : G z pc L (.double y :: .double x :: st) I J := by
  obtain ⟨hx, hb, hml, hown, hts, hK, hD, hk0, rfl, rfl, rfl, rfl⟩ := F
  intro H locs ls hP hS hl
  exact lv_dcmp hx hb hd (K H locs ls hP hS hl)
theorem g_fcmp (F : Fx z S E own cc rm nL) {x y : UInt32} {op : CmpOp} (hd : decode cc pc = .ok (.fcmp op, 1)) (K : G z (pc + 1) L (.int (Op.cmpValue (FP.fcmp x y) op) :: st) I J) : G z pc L (.float y :: .float x :: st) I J := by
  obtain ⟨hx, hb, hml, hown, hts, hK, hD, hk0, rfl, rfl, rfl, rfl⟩ := F
  intro H locs ls hP hS hl
  exact lv_fcmp hx hb hd (K H locs ls hP hS hl)
theorem g_ldc2d (F : Fx z S E own cc rm nL) {idx : Nat} {v : UInt64} (hd : decode cc pc = .ok (.ldc2_w idx, 3)) (hq : Cond.constantDouble own idx v ∈ gw) (K : G z (pc + 3) L (.double v :: st) I J) : G z pc L (st) I J := by
  obtain ⟨hx, hb, hml, hown, hts, hK, hD, hk0, rfl, rfl, rfl, rfl⟩ := F
  intro H locs ls hP hS hl
  exact lv_ldc2d hx hb hown (hts _ hq) hd (K H locs ls hP hS hl)
theorem u_dadd {α : Type} {y : α} (F : Fx z S E own cc rm nL) {x yy : UInt64} {f : UInt64 → Option α} (hd : decode cc pc = .ok (.dadd, 1)) (h : (gD (FP.dadd x yy)).bind f = some y) (K : ∀ u, f u = some y → G z (pc + 1) L (.double u :: st) I J) : G z pc L (.double yy :: .double x :: st) I J := by
  obtain ⟨u, e, h⟩ := ob h
  obtain ⟨e1, rfl⟩ := gD_some e
  obtain ⟨hx, hb, hml, hown, hts, hK, hD, hk0, rfl, rfl, rfl, rfl⟩ := F
  intro H locs ls hP hS hl
  exact lv_dadd hx hb hd e1 (K _ h H locs ls hP hS hl)
theorem u_dsub {α : Type} {y : α} (F : Fx z S E own cc rm nL) {x yy : UInt64} {f : UInt64 → Option α} (hd : decode cc pc = .ok (.dsub, 1)) (h : (gD (FP.dsub x yy)).bind f = some y) (K : ∀ u, f u = some y → G z (pc + 1) L (.double u :: st) I J) : G z pc L (.double yy :: .double x :: st) I J := by
  obtain ⟨u, e, h⟩ := ob h
  obtain ⟨e1, rfl⟩ := gD_some e
  obtain ⟨hx, hb, hml, hown, hts, hK, hD, hk0, rfl, rfl, rfl, rfl⟩ := F
  intro H locs ls hP hS hl
  exact lv_dsub hx hb hd e1 (K _ h H locs ls hP hS hl)
theorem u_dmul {α : Type} {y : α} (F : Fx z S E own cc rm nL) {x yy : UInt64} {f : UInt64 → Option α} (hd : decode cc pc = .ok (.dmul, 1)) (h : (gD (FP.dmul x yy)).bind f = some y) (K : ∀ u, f u = some y → G z (pc + 1) L (.double u :: st) I J) : G z pc L (.double yy :: .double x :: st) I J := by
  obtain ⟨u, e, h⟩ := ob h
  obtain ⟨e1, rfl⟩ := gD_some e
  obtain ⟨hx, hb, hml, hown, hts, hK, hD, hk0, rfl, rfl, rfl, rfl⟩ := F
  intro H locs ls hP hS hl
  exact lv_dmul hx hb hd e1 (K _ h H locs ls hP hS hl)
theorem u_ddiv {α : Type} {y : α} (F : Fx z S E own cc rm nL) {x yy : UInt64} {f : UInt64 → Option α} (hd : decode cc pc = .ok (.ddiv, 1)) (h : (gD (FP.ddiv x yy)).bind f = some y) (K : ∀ u, f u = some y → G z (pc + 1) L (.double u :: st) I J) : G z pc L (.double yy :: .double x :: st) I J := by
  obtain ⟨u, e, h⟩ := ob h
  obtain ⟨e1, rfl⟩ := gD_some e
  obtain ⟨hx, hb, hml, hown, hts, hK, hD, hk0, rfl, rfl, rfl, rfl⟩ := F
  intro H locs ls hP hS hl
  exact lv_ddiv hx hb hd e1 (K _ h H locs ls hP hS hl)
theorem u_fdiv {α : Type} {y : α} (F : Fx z S E own cc rm nL) {x yy : UInt32} {f : UInt32 → Option α} (hd : decode cc pc = .ok (.fdiv, 1)) (h : (gF (FP.fdiv x yy)).bind f = some y) (K : ∀ u, f u = some y → G z (pc + 1) L (.float u :: st) I J) : G z pc L (.float yy :: .float x :: st) I J := by
  obtain ⟨u, e, h⟩ := ob h
  obtain ⟨e1, rfl⟩ := gF_some e
  obtain ⟨hx, hb, hml, hown, hts, hK, hD, hk0, rfl, rfl, rfl, rfl⟩ := F
  intro H locs ls hP hS hl
  exact lv_fdiv hx hb hd e1 (K _ h H locs ls hP hS hl)
theorem u_d2f {α : Type} {y : α} (F : Fx z S E own cc rm nL) {x : UInt64} {f : UInt32 → Option α} (hd : decode cc pc = .ok (.d2f, 1)) (h : (gF (FP.d2f x)).bind f = some y) (K : ∀ u, f u = some y → G z (pc + 1) L (.float u :: st) I J) : G z pc L (.double x :: st) I J := by
  obtain ⟨u, e, h⟩ := ob h
  obtain ⟨e1, rfl⟩ := gF_some e
  obtain ⟨hx, hb, hml, hown, hts, hK, hD, hk0, rfl, rfl, rfl, rfl⟩ := F
  intro H locs ls hP hS hl
  exact lv_d2f hx hb hd e1 (K _ h H locs ls hP hS hl)
theorem u_f2d {α : Type} {y : α} (F : Fx z S E own cc rm nL) {x : UInt32} {f : UInt64 → Option α} (hd : decode cc pc = .ok (.f2d, 1)) (h : (gD (FP.f2d x)).bind f = some y) (K : ∀ u, f u = some y → G z (pc + 1) L (.double u :: st) I J) : G z pc L (.float x :: st) I J := by
  obtain ⟨u, e, h⟩ := ob h
  obtain ⟨e1, rfl⟩ := gD_some e
  obtain ⟨hx, hb, hml, hown, hts, hK, hD, hk0, rfl, rfl, rfl, rfl⟩ := F
  intro H locs ls hP hS hl
  exact lv_f2d hx hb hd e1 (K _ h H locs ls hP hS hl)
theorem g_dret (F : Fx z S E own cc rm nL) {post : Option Value → gM → gN → Prop} {v : UInt64} (e : Fe z S E (some .double) post) (hd : decode cc pc = .ok (.dreturn, 1)) (h : post (some (.double v)) I J) : G z pc L ([.double v]) I J := by
  obtain ⟨hx, hb, hml, hown, hts, hK, hD, hk0, rfl, rfl, rfl, rfl⟩ := F
  intro H locs ls hP hS hl
  unfold gW
  rw [e.2.2]
  exact W.dret hx hb e.1 (fun t ht hW => ⟨⟨_, I, J, rfl, h, by rw [ht]; exact hP⟩, hS.F ht⟩) hS.2.2 hd e.2.1
theorem g_dBits (F : Fx z S E own cc rm nL) {idx : Nat} {x : UInt64} (hq : Cond.methodLink own idx ⟨"java/lang/Double", "doubleToRawLongBits", "(D)J"⟩ ∈ gw) (h1q : Cond.native ⟨"java/lang/Double", "doubleToRawLongBits", "(D)J"⟩ ∈ gw) (h2q : Cond.static ⟨"java/lang/Double", "doubleToRawLongBits", "(D)J"⟩ ∈ gw) (h3q : Cond.initialized "java/lang/Double" ∈ gw) (hf : 1 ≤ rm.frames) (hlo : (st.map fun v => v.category).sum + 15 ≤ rm.locals) (hd : decode cc pc = .ok (.invokestatic idx, 3)) (K : G z (pc + 3) L (.long x.toInt64 :: st) I J) : G z pc L (.double x :: st) I J := by
  obtain ⟨hx, hb, hml, hown, hts, hK, hD, hk0, rfl, rfl, rfl, rfl⟩ := F
  intro H locs ls hP hS hl
  exact vn_d2l hx hb (hml.trans hl.1.symm) hown (hts _ hq) (hts _ h1q) (hts _ h2q) (hts _ h3q) hf hlo hd (K H locs ls hP hS hl)
theorem g_fBits (F : Fx z S E own cc rm nL) {idx : Nat} {x : UInt32} (hq : Cond.methodLink own idx ⟨"java/lang/Float", "floatToRawIntBits", "(F)I"⟩ ∈ gw) (h1q : Cond.native ⟨"java/lang/Float", "floatToRawIntBits", "(F)I"⟩ ∈ gw) (h2q : Cond.static ⟨"java/lang/Float", "floatToRawIntBits", "(F)I"⟩ ∈ gw) (h3q : Cond.initialized "java/lang/Float" ∈ gw) (hf : 1 ≤ rm.frames) (hlo : (st.map fun v => v.category).sum + 15 ≤ rm.locals) (hd : decode cc pc = .ok (.invokestatic idx, 3)) (K : G z (pc + 3) L (.int x.toInt32 :: st) I J) : G z pc L (.float x :: st) I J := by
  obtain ⟨hx, hb, hml, hown, hts, hK, hD, hk0, rfl, rfl, rfl, rfl⟩ := F
  intro H locs ls hP hS hl
  exact vn_f2i hx hb (hml.trans hl.1.symm) hown (hts _ hq) (hts _ h1q) (hts _ h2q) (hts _ h3q) hf hlo hd (K H locs ls hP hS hl)
end DROWS
/-- a method of a class some of whose methods are run by an entry: this one is not -/
theorem met_ofWF {l : Launch} {y : MethodName} {ws ws' : List Cond} {rm : Room} {Pc : Array Value → State → Prop} {Qc : Array Value → State → Outcome → State → Prop} {mc ms : Nat} {free : Addr → Prop} {cc : ByteArray} {maxL : Nat} {ret : Option FieldType}
    (hy : plainFor y = true) (hw : ws = Cond.code y cc maxL ret :: ws')
    (body : ∀ p e s m args below meth c s₁, BodyLoose p l y (headSpec ws rm) cc maxL ret e s m args below meth c s₁ → c.maxLocals = maxL → Pc args s →
      W p l e (headSpec ws rm).room s m args below meth c s.heap [] 0 0 (MQ below Qc args s mc ms free) (entryFrame m args maxL)) : Met l y ws rm Pc Qc mc ms free := by
  refine MetFree.of_bodySF (code := cc) (maxLocals := maxL) (ret := ret) hy ?_ ?_
  · intro args s m h hn
    obtain ⟨meth, c, h1, h2, h3, h4, h5, h6, -, -⟩ := Cond.code_spec hn (atoms_spec (ws := ws) h _ (by rw [hw]; exact List.mem_cons_self))
    exact ⟨meth, c, h1, h2, h3, h4, h5, h6⟩
  · intro p e s m args below meth c s₁ B hml hP _
    have hh0 : s₁.heap = s.heap := by rw [B.state]; rfl
    obtain ⟨t, a1, o, b1, b2, b3⟩ := body p e s m args below meth c s₁ B hml hP s₁ hh0 (Stand.of_body B)
    exact ⟨t, o, a1, b1, b2, ⟨b3.1, b3.2⟩⟩
theorem Cu.ofF {l : Launch} {S : List gS} {E : gE} {bk : Nat} {y : MethodName} {cc : ByteArray} {nL : Nat} {ret : Option FieldType} {rm : Room} {av : List Value} {I : gM} {J : gN} {post : Option Value → gM → gN → Prop} (own : String) (hown : y.cls = own)
    (hdist : gDist S E) (hy : plainFor y = true) (hlen : (lg_sl av).length ≤ nL)
    (body : ∀ z, Fx z S E own cc rm nL → bZ z bk → Fe z S E ret post → zl z = l → G z 0 (lv_args 0 av) [] I J) : Cu l S E bk y cc nL ret rm av I J post := by
  refine met_ofWF (cc := cc) (maxL := nL) (ret := ret) hy rfl ?_
  intro p e s m args below meth c s₁ B hml hv
  obtain ⟨rfl, hP, hK, hB⟩ := hv
  have hts := atoms_spec (ws := gws y cc nL ret) B.pre
  have hl := lv_entry av (n := nL) hlen
  rw [lg_entry_eq]
  exact body ((p, l, e, (headSpec (gws y cc nL ret) rm).room, s, m, av.toArray, below, meth, c), (0, 0, MQ below (gQ S E (gA S E) post) av.toArray s 0 0 (gA S E)), (S, E), gA S E, nL)
    ⟨B.exec, B.bytes, hml, by rw [← hown]; exact findClass_of_methodNamed B.named, fun w h => hts w (List.mem_cons_of_mem _ h), hK, g_D hdist (fun k hk => ⟨k, hk, rfl⟩), ⟨Nat.zero_le _, Nat.zero_le _⟩, rfl, rfl, rfl, rfl⟩ hB ⟨B.returns, B.notSynchronized, rfl⟩ rfl s.heap [] _ hP va_S.rf hl
