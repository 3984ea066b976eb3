/-! a constructor's contract: from the cells S to the cells S1 (the elder ones where they were), all numbers 0 -/
def gAI (S : List gS) (ad : Nat → Nat) (sz : Nat) : Nat → Prop := fun q => (∃ k, k < S.length ∧ q = ad k) ∨ sz ≤ q
def gQI (D : va_G) (tA : Nat → ClassId) (S S1 : List gS) (ad : Nat → Nat) (A : Nat → Prop) : Array Value → State → Outcome → State → Prop := fun _ st oc t =>
  (oc = .returned none ∧ ∃ ad1 : Nat → Nat, (∀ k, k < S.length → ad1 k = ad k) ∧ va_P D vwCl (g_w S1 (D, ad1, tA) g0 h0) t.heap ∧ va_D A (g_w S1 (D, ad1, tA) g0 h0)) ∧ va_F A st t
abbrev gPI (D : va_G) (tA : Nat → ClassId) (S : List gS) (ad : Nat → Nat) (k sz : Nat) (Ex : State → Prop) : Array Value → State → Prop := va_Pc [.ref (ad k)] (fun U => U.heap.size = sz ∧ va_P D vwCl (g_w S (D, ad, tA) g0 h0) U.heap ∧ va_K D vwCl (g_ty (D, fun _ => 0, tA)) U ∧ va_D (fun _ => True) (g_w S (D, ad, tA) g0 h0) ∧ Ex U)
def CtI (l : Launch) (D : va_G) (tA : Nat → ClassId) (S S1 : List gS) (k : Nat) (y : MethodName) (cc : ByteArray) (nL : Nat) (rm : Room) (mc ms : Nat) (Ex : State → Prop) : Prop :=
  ∀ (ad : Nat → Nat) (sz : Nat), Met l y (gws y cc nL none) rm (gPI D tA S ad k sz Ex) (gQI D tA S S1 ad (gAI S ad sz)) mc ms (gAI S ad sz)
abbrev FcE (z : gZ) (D : va_G) (tA : Nat → ClassId) (S S1 : List gS) (ad : Nat → Nat) (mc ms : Nat) : Prop := (zh z).sig.returnType = none ∧ (zh z).locks = false ∧ zQ z = MQ (zb z) (gQI D tA S S1 ad (zA z)) (za z) (zs z) mc ms (zA z)
theorem CtI.of {l : Launch} {D : va_G} {tA : Nat → ClassId} {S S1 : List gS} {k : Nat} {y : MethodName} {cc : ByteArray} {nL : Nat} {rm : Room} {mc ms : Nat} {Ex : State → Prop} (own : String) (hown : y.cls = own) (hname : y.name = "<init>") (hy : plainName y.cls = true) (hnL : 1 ≤ nL)
    (body : ∀ z ad, Fc z own cc rm nL D tA → (zh z).name = "<init>" → FcE z D tA S S1 ad mc ms → zl z = l → Ex (zs z) → GC z 0 0 S (D, ad, tA) 0 [(0, .ref (ad k))] []) : CtI l D tA S S1 k y cc nL rm mc ms Ex := by
  intro ad sz
  refine Met.ofW (cc := cc) (maxL := nL) (ret := none) hy rfl ?_
  intro p e s m args below meth c s₁ B hml hv
  obtain ⟨rfl, hsz, hP, hK, hD, hEx⟩ := hv
  subst hsz
  have hts := atoms_spec (ws := gws y cc nL none) B.pre
  have hl := lv_entry [.ref (ad k)] (n := nL) hnL
  have hin : meth.name = y.name := (name_of_methodNamed B.named B.method).1
  rw [hname] at hin
  rw [lg_entry_eq]
  have hD2 : va_D (gAI S ad s.heap.size) (g_w S (D, ad, tA) g0 h0) := hD.weaken (fun i q hq _ => by
    obtain ⟨x, hx, rfl⟩ := g_get' hq
    exact Or.inl ⟨i, (List.getElem?_eq_some_iff.mp hx).1, rfl⟩)
  exact body ((p, l, e, (headSpec (gws y cc nL none) rm).room, s, m, [Value.ref (ad k)].toArray, below, meth, c), (0, 0, MQ below (gQI D tA S S1 ad (gAI S ad s.heap.size)) [Value.ref (ad k)].toArray s mc ms (gAI S ad s.heap.size)), (S, (D, ad, tA)), gAI S ad s.heap.size, nL) ad
    ⟨B.exec, B.bytes, hml, by rw [← hown]; exact findClass_of_methodNamed B.named, fun w h => hts w (List.mem_cons_of_mem _ h), hK, fun q h => Or.inr h, rfl, rfl⟩ hin ⟨B.returns, B.notSynchronized, rfl⟩ rfl hEx s.heap [] _ hP hD2 va_S.rf hl
section GCENDS
variable {z : gZ} {k n : Nat} {S : List gS} {D : va_G} {ad : Nat → Nat} {tA : Nat → ClassId} {own : String} {cc : ByteArray} {rm : Room} {nL pc : Nat} {L : List (Nat × Value)} {st : List Value}
theorem gc_vret (F : Fc z own cc rm nL D tA) {S0 : List gS} {ad0 : Nat → Nat} (e : FcE z D tA S0 S ad0 k n) (hag : ∀ i, i < S0.length → ad i = ad0 i) (hd : decode cc pc = .ok (.return_, 1)) : GC z k n S (D, ad, tA) pc L [] := by
  obtain ⟨hx, hb, hml, hown, hts, hK, hA, rfl, rfl⟩ := F
  intro H locs ls hP hD hS hl
  rw [e.2.2]
  exact W.vret hx hb e.1 (fun t ht hW => ⟨⟨rfl, ad, hag, by rw [ht]; exact hP, hD⟩, hS.F ht⟩) hS.2.2 hd e.2.1
theorem gc_run {S1 : List gS} {H : Heap} {locs : List Loc} {ls : Array Slot} {rest st0 : List Value} {a : Array Value} {mc ms : Nat} (hA : ∀ q, (zs z).heap.size ≤ q → zA z q)
    (hr : va_Run (zp z) (zl z) (ze z) (zR z) (zs z) (zm z) (za z) (zb z) (zh z) (zc z) H locs k n mc ms (F0 (zm z) pc ls st0) rest (gQI D tA S S1 ad (gAI S ad H.size) a) (gAI S ad H.size))
    (hD : va_D (zA z) (g_w S (D, ad, tA) g0 h0)) (hS : va_S (zA z) (zs z).heap H locs) (hl : lv_has ls (zL z) L)
    (K : ∀ ad1 : Nat → Nat, (∀ i, i < S.length → ad1 i = ad i) → GC z (k + mc) (n + ms) S1 (D, ad1, tA) (pc + 3) L rest) :
    W (zp z) (zl z) (ze z) (zR z) (zs z) (zm z) (za z) (zb z) (zh z) (zc z) H locs k n (zQ z) (F0 (zm z) pc ls st0) := by
  have hAA : ∀ q, gAI S ad H.size q → zA z q := by
    rintro q (⟨i, hi, rfl⟩ | h)
    · exact hD.2 i _ (g_get (List.getElem?_eq_getElem hi))
    · exact hA q (Nat.le_trans hS.1 h)
  intro T hT X
  obtain ⟨v, st₀, t, T', L2, h0', X', hL, e1, e2, ⟨⟨hv, ad1, hag, hP', hD'⟩, hz, hk⟩, stp⟩ := hr T hT X
  cases hv
  rw [h0'] at hz hk
  obtain ⟨t2, a1, b1⟩ := K ad1 hag T'.heap (locs ++ L2) ls (by rw [e1]; exact hP') (hD'.weaken (fun _ q _ h => hAA _ h))
    ⟨Nat.le_trans hS.1 (by rw [e1]; exact hz), fun q h1 h2 => by rw [e1, hk q (Nat.lt_of_lt_of_le h1 hS.1) (fun y => h2 (hAA q y))]; exact hS.2.1 q h1 h2, fun q hq => by
      rcases List.mem_append.mp hq with h | h
      · exact hS.2.2 q h
      · exact hAA _ (hL q h)⟩ hl T' rfl X'
  exact ⟨t2, stp t2 a1, b1⟩
theorem gPI_blind {i sz : Nat} {Ex : State → Prop} (hEx : ∀ (a : Array Value) (U : State) (g : JFrame) (mk : MethodId), Ex U → Ex (U.calling g mk a)) : FrameBlind (gPI D tA S ad i sz Ex) := fun a U g mk q => by
  obtain ⟨q0, q1, qP, qK, qD, qE⟩ := q
  exact ⟨q0, q1, qP, va_K.moved (u := U) (U := U.calling g mk a) (Vm.Alike.refl U.vm) qK, qD, hEx a U g mk qE⟩
/-- a constructor called across nest mates -/
theorem gc_callN (F : Fc z own cc rm nL D tA) {y : MethodName} {c2 : ByteArray} {n2 idx i a mc ms : Nat} {r2 : Room} {S1 : List gS} {host : String}
    (hC : CtI (zl z) D tA S S1 i y c2 n2 r2 mc ms (fun _ => True)) (ha : a = ad i) (hnest : va_Nw (.methodLinkNest own idx y host) (zs z)) (hinst : Cond.instanceMethod y ∈ gw) (hini : Cond.initialized y.cls ∈ gw) (hcode : Cond.code y c2 n2 none ∈ gw) (hy1 : y.name = "<init>")
    (hd4 : y.cls ≠ "java/lang/invoke/MethodHandle" ∧ y.cls ≠ "java/lang/invoke/VarHandle" ∧ (parseMethodDescriptor y.desc).map (fun d => d.parameters.length) = some 0) (hR : r2.frames + 1 ≤ rm.frames ∧ 8 + (n2 + 11) + r2.locals ≤ rm.locals) (hrc : r2.cells = mc) (hrs : r2.slots = ms) (hk : k + mc ≤ rm.cells) (hn : n + ms ≤ rm.slots)
    (hW : (st.map fun v => v.category).sum ≤ 8) (hd : decode cc pc = .ok (.invokespecial idx, 3))
    (K : ∀ ad1 : Nat → Nat, (∀ j, j < S.length → ad1 j = ad j) → GC z (k + mc) (n + ms) S1 (D, ad1, tA) (pc + 3) L st) : GC z k n S (D, ad, tA) pc L (.ref a :: st) := by
  obtain ⟨hx, hb, hml, hown, hts, hK, hA, rfl, rfl⟩ := F
  subst ha
  intro H locs ls hP hD hS hl
  exact gc_run (S := S) hA (va_runIN (As := []) (rest := st) ⟨hx, hb, hml, hown, hts⟩ (hC ad H.size) ⟨va_cnB 0 hts (gw_good0 hcode) rfl hrc hrs hnest (hts _ hini) hd4 hR, hy1, hts _ hinst⟩ ⟨gPI_blind (fun _ _ _ _ q => q), fun U hU hW => ⟨rfl, by rw [hU], by rw [hU]; exact hP, va_K.moved hW.alike hK, hD.weaken (fun _ _ _ _ => trivial), trivial⟩⟩ rfl rfl hl.1 rfl (g_room hW) hd ⟨hk, hn⟩) hD hS hl K
/-- a constructor called from elsewhere -/
theorem gc_callI (F : Fc z own cc rm nL D tA) {y : MethodName} {c2 : ByteArray} {n2 idx i a mc ms : Nat} {r2 : Room} {S1 : List gS} {Ex : State → Prop} (hExb : ∀ (a : Array Value) (U : State) (g : JFrame) (mk : MethodId), Ex U → Ex (U.calling g mk a)) (hExw : ∀ U : State, (zs z).WarmedH U.vm → Ex U)
    (hC : CtI (zl z) D tA S S1 i y c2 n2 r2 mc ms Ex) (ha : a = ad i) (hq : Cond.methodLink own idx y ∈ gw) (hinst : Cond.instanceMethod y ∈ gw) (hini : Cond.initialized y.cls ∈ gw) (hcode : Cond.code y c2 n2 none ∈ gw) (hy1 : y.name = "<init>")
    (hd4 : y.cls ≠ "java/lang/invoke/MethodHandle" ∧ y.cls ≠ "java/lang/invoke/VarHandle" ∧ (parseMethodDescriptor y.desc).map (fun d => d.parameters.length) = some 0) (hR : r2.frames + 1 ≤ rm.frames ∧ 8 + (n2 + 11) + r2.locals ≤ rm.locals) (hrc : r2.cells = mc) (hrs : r2.slots = ms) (hk : k + mc ≤ rm.cells) (hn : n + ms ≤ rm.slots)
    (hW : (st.map fun v => v.category).sum ≤ 8) (hd : decode cc pc = .ok (.invokespecial idx, 3))
    (K : ∀ ad1 : Nat → Nat, (∀ j, j < S.length → ad1 j = ad j) → GC z (k + mc) (n + ms) S1 (D, ad1, tA) (pc + 3) L st) : GC z k n S (D, ad, tA) pc L (.ref a :: st) := by
  obtain ⟨hx, hb, hml, hown, hts, hK, hA, rfl, rfl⟩ := F
  subst ha
  intro H locs ls hP hD hS hl
  exact gc_run (S := S) hA (va_runI (As := []) (rest := st) ⟨hx, hb, hml, hown, hts⟩ (hC ad H.size) (cwI 0 hts (gw_good0 hcode) rfl hrc hrs (hts _ hini) (hts _ hq) (hts _ hinst) hy1 hd4 hR) ⟨gPI_blind hExb, fun U hU hW => ⟨rfl, by rw [hU], by rw [hU]; exact hP, va_K.moved hW.alike hK, hD.weaken (fun _ _ _ _ => trivial), hExw U hW⟩⟩ rfl rfl hl.1 rfl (g_room hW) hd ⟨hk, hn⟩) hD hS hl K
end GCENDS
