/-! constructors: the cells come one by one; all numbers are 0 -/
def gCl (N : Nat) (x : gS) : Bool := match x with
  | .inl (_, fds) => fds.all (fun f => Nat.blt f (N + 3))
  | .inr (_, _, so) => Nat.blt so 3 || Nat.beq ((so - 3) % 8) 0 || Nat.ble ((so - 3) / 8 + 2 * ((so - 3) % 8)) (N + 1)
theorem g_el_up {E : gE} {a : Nat → Int32} {b : Nat → Int64} {x : gS} {N q : Nat} (h : gCl N x = true) : g_el (E.1, va_up E.2.1 N q, E.2.2) a b x = g_el E a b x := by
  match x with
  | .inl (ci, fds) =>
    simp only [g_el]
    congr 2
    apply List.ext_getElem?
    intro i
    simp only [List.getElem?_mapIdx]
    cases hx : fds[i]? with
    | none => rfl
    | some f =>
      have hf : f < N + 3 := by
        have h1 := List.all_eq_true.mp h f (List.mem_of_getElem? hx)
        simpa [Nat.blt_eq] using h1
      match f, hf with
      | 0, _ => rfl
      | 1, _ => rfl
      | 2, _ => rfl
      | n + 3, hf => simp [g_fv, va_up, Nat.ne_of_lt (Nat.lt_of_add_lt_add_right hf)]
  | .inr (t, len, so) =>
    match so, h with
    | 0, _ => rfl
    | 1, _ => rfl
    | 2, _ => rfl
    | n + 3, h =>
      have h2 : n % 8 = 0 ∨ n / 8 + 2 * (n % 8) ≤ N + 1 := by
        have h3 : (Nat.blt (n + 3) 3 || Nat.beq ((n + 3 - 3) % 8) 0 || Nat.ble ((n + 3 - 3) / 8 + 2 * ((n + 3 - 3) % 8)) (N + 1)) = true := h
        simp only [Bool.or_eq_true, Nat.blt_eq, Nat.add_sub_cancel] at h3
        rcases h3 with (h3 | h3) | h3
        · omega
        · exact Or.inl (Nat.eq_of_beq_eq_true h3)
        · exact Or.inr (Nat.le_of_ble_eq_true h3)
      simp only [g_el, g_av]
      congr 4
      simp only [Sum.inr.injEq]
      funext j
      by_cases hj : j < n % 8
      · simp only [if_pos hj]
        have hne : ¬ n / 8 + 2 * j = N := by omega
        simp [va_up, hne]
      · simp only [if_neg hj]
theorem g_push {S : List gS} {E : gE} {I : gM} {J : gN} {x : gS} {q N : Nat} (hN : S.length = N) (hcl : (S ++ [x]).all (gCl N) = true) : g_w S E I J ++ [(q, g_el E (I N) (J N) x)] = g_w (S ++ [x]) (E.1, va_up E.2.1 N q, E.2.2) I J := by
  subst hN
  have hall : ∀ y ∈ S ++ [x], gCl S.length y = true := fun y hy => List.all_eq_true.mp hcl y hy
  have hlen : (g_w S E I J).length = S.length := by simp [g_w]
  apply List.ext_getElem?
  intro i
  rcases Nat.lt_trichotomy i S.length with h | h | h
  · have hi : S[i]? = some S[i] := List.getElem?_eq_getElem h
    rw [List.getElem?_append_left (by rw [hlen]; exact h), g_get hi, g_get (S := S ++ [x]) (k := i) (x := S[i]) (by rw [List.getElem?_append_left h, hi]), g_el_up (hall _ (List.mem_append_left _ (List.getElem_mem h)))]
    simp [va_up, Nat.ne_of_lt h]
  · subst h
    rw [List.getElem?_append_right (by rw [hlen]; exact Nat.le_refl _), hlen, Nat.sub_self, g_get (S := S ++ [x]) (k := S.length) (x := x) (by simp), g_el_up (hall _ (by simp))]
    simp [va_up]
  · rw [List.getElem?_eq_none (by simp [hlen]; omega), List.getElem?_eq_none (by simp [g_w]; omega)]
theorem g_setS {S : List gS} {E : gE} {I : gM} {J : gN} {k : Nat} {x y : gS} (h : S[k]? = some x) : (g_w S E I J).set k (E.2.1 k, g_el E (I k) (J k) y) = g_w (S.set k y) E I J := by
  have hlt := (List.getElem?_eq_some_iff.mp h).1
  apply List.ext_getElem?
  intro i
  by_cases hi : i = k
  · subst hi
    rw [List.getElem?_set_self (by simp [g_w]; exact hlt), g_get (List.getElem?_set_self hlt)]
  · rw [List.getElem?_set_ne (Ne.symm hi)]
    simp only [g_w, List.getElem?_mapIdx, List.getElem?_set_ne (Ne.symm hi)]
theorem g_fsetR {ad : Nat → Nat} {a : Nat → Int32} {b : Nat → Int64} {fds : List Nat} {j n f0 : Nat} (hf : fds[j]? = some f0) : (fds.mapIdx (fun i f => g_fv ad a b i f)).set j (.ref (ad n)) = (fds.set j (n + 3)).mapIdx (fun i f => g_fv ad a b i f) := by
  have hlt := (List.getElem?_eq_some_iff.mp hf).1
  apply List.ext_getElem?
  intro i
  by_cases hi : i = j
  · subst hi
    rw [List.getElem?_set_self (by rw [List.length_mapIdx]; exact hlt)]
    simp only [List.getElem?_mapIdx, List.getElem?_set_self hlt, Option.map_some]
    rfl
  · rw [List.getElem?_set_ne (Ne.symm hi)]
    simp only [List.getElem?_mapIdx, List.getElem?_set_ne (Ne.symm hi)]
/-- a walk in which cells come: k cells of n slots have come -/
def GC (z : gZ) (k n : Nat) (S : List gS) (E : gE) (pc : Nat) (L : List (Nat × Value)) (st : List Value) : Prop :=
  ∀ (H : Heap) (locs : List Loc) (ls : Array Slot), va_P E.1 vwCl (g_w S E g0 h0) H → va_D (zA z) (g_w S E g0 h0) → va_S (zA z) (zs z).heap H locs → lv_has ls (zL z) L →
    W (zp z) (zl z) (ze z) (zR z) (zs z) (zm z) (za z) (zb z) (zh z) (zc z) H locs k n (zQ z) (F0 (zm z) pc ls st)
abbrev Fc (z : gZ) (own : String) (cc : ByteArray) (rm : Room) (nL : Nat) (D : va_G) (tA : Nat → ClassId) : Prop :=
  (zp z).tables.exec = Jvm.exec ∧ (zc z).code = cc ∧ (zc z).maxLocals = nL ∧ (zs z).vm.findClass own = some (zm z).cls ∧ (∀ w ∈ gw, w.before (za z) (zs z) = true) ∧
  va_K D vwCl (g_ty (D, fun _ => 0, tA)) (zs z) ∧ (∀ q, (zs z).heap.size ≤ q → zA z q) ∧ zL z = nL ∧ zR z = rm
section GCROWS
variable {z : gZ} {k n : Nat} {S : List gS} {D : va_G} {ad : Nat → Nat} {tA : Nat → ClassId} {own : String} {cc : ByteArray} {rm : Room} {nL pc : Nat} {L : List (Nat × Value)} {st : List Value}
theorem gc_ls {Ln : List (Nat × Value)} {sn : List Value} (h1 : L = Ln) (h2 : st = sn) (K : GC z k n S (D, ad, tA) pc Ln sn) : GC z k n S (D, ad, tA) pc L st := by subst h1; subst h2; exact K
theorem gc_S {S2 : List gS} (h : S = S2) (K : GC z k n S2 (D, ad, tA) pc L st) : GC z k n S (D, ad, tA) pc L st := by subst h; exact K
theorem gc_sub {Ln : List (Nat × Value)} (ks : List Nat) (h : lv_pick L ks = Ln) (K : GC z k n S (D, ad, tA) pc Ln st) : GC z k n S (D, ad, tA) pc L st := fun H locs ls hP hD hS hl => K H locs ls hP hD hS (lv_sub hl ks h)
theorem gc_iconst (F : Fc z own cc rm nL D tA) {c : Int} {v : Int32} (hd : decode cc pc = .ok (.iconst c, 1)) (hv : Int32.ofInt c = v) (K : GC z k n S (D, ad, tA) (pc + 1) L (.int v :: st)) : GC z k n S (D, ad, tA) pc L st :=
  fun H locs ls hP hD hS hl => lv_iconst F.1 F.2.1 hd hv (K H locs ls hP hD hS hl)
theorem gc_bipush (F : Fc z own cc rm nL D tA) {c : Int} {v : Int32} (hd : decode cc pc = .ok (.bipush c, 2)) (hv : (Int8.ofInt c).toInt32 = v) (K : GC z k n S (D, ad, tA) (pc + 2) L (.int v :: st)) : GC z k n S (D, ad, tA) pc L st :=
  fun H locs ls hP hD hS hl => lv_bipush F.1 F.2.1 hd hv (K H locs ls hP hD hS hl)
theorem gc_sipush (F : Fc z own cc rm nL D tA) {c : Int} {v : Int32} (hd : decode cc pc = .ok (.sipush c, 3)) (hv : (Int16.ofInt c).toInt32 = v) (K : GC z k n S (D, ad, tA) (pc + 3) L (.int v :: st)) : GC z k n S (D, ad, tA) pc L st :=
  fun H locs ls hP hD hS hl => lv_sipush F.1 F.2.1 hd hv (K H locs ls hP hD hS hl)
theorem gc_ldc (F : Fc z own cc rm nL D tA) {idx : Nat} {v : Int32} (hd : decode cc pc = .ok (.ldc idx, 2)) (hq : Cond.constant own idx v ∈ gw) (K : GC z k n S (D, ad, tA) (pc + 2) L (.int v :: st)) : GC z k n S (D, ad, tA) pc L st :=
  fun H locs ls hP hD hS hl => lv_ldc F.1 F.2.1 F.2.2.2.1 (F.2.2.2.2.1 _ hq) hd (K H locs ls hP hD hS hl)
theorem gc_lconst (F : Fc z own cc rm nL D tA) {c : Fin 2} {v : Int64} (hd : decode cc pc = .ok (.lconst c, 1)) (hv : Int64.ofNat (c : Nat) = v) (K : GC z k n S (D, ad, tA) (pc + 1) L (.long v :: st)) : GC z k n S (D, ad, tA) pc L st :=
  fun H locs ls hP hD hS hl => lv_lconst F.1 F.2.1 hd hv (K H locs ls hP hD hS hl)
theorem gc_aload_n (F : Fc z own cc rm nL D tA) {c : Fin 4} {i x : Nat} (q : Nat) (hd : decode cc pc = .ok (.aload_n c, 1)) (hi : (c : Nat) = i) (hq : L[q]? = some (i, .ref x)) (K : GC z k n S (D, ad, tA) (pc + 1) L (.ref x :: st)) : GC z k n S (D, ad, tA) pc L st :=
  fun H locs ls hP hD hS hl => lv_aload_n F.1 F.2.1 hd hi (lv_at hl q hq) (K H locs ls hP hD hS hl)
theorem gc_iload_n (F : Fc z own cc rm nL D tA) {c : Fin 4} {i : Nat} {x : Int32} (q : Nat) (hd : decode cc pc = .ok (.iload_n c, 1)) (hi : (c : Nat) = i) (hq : L[q]? = some (i, .int x)) (K : GC z k n S (D, ad, tA) (pc + 1) L (.int x :: st)) : GC z k n S (D, ad, tA) pc L st :=
  fun H locs ls hP hD hS hl => lv_iload_n F.1 F.2.1 hd hi (lv_at hl q hq) (K H locs ls hP hD hS hl)
theorem gc_istore_n (F : Fc z own cc rm nL D tA) {c : Fin 4} {i : Nat} {x : Int32} {Ln : List (Nat × Value)} (hd : decode cc pc = .ok (.istore_n c, 1)) (hi : (c : Nat) = i) (hn : i < nL) (hL : (i, Value.int x) :: L.filter (fun q => !(q.1 == i) && !(q.1 + 1 == i && q.2.category == 2)) = Ln) (K : GC z k n S (D, ad, tA) (pc + 1) Ln st) : GC z k n S (D, ad, tA) pc L (.int x :: st) := by
  obtain ⟨hx, hb, hml, hown, hts, hK, hA, rfl, rfl⟩ := F
  exact fun H locs ls hP hD hS hl => lv_istore_n (lv := L) hx hb hd hi hl hn hL (fun ls hl => K H locs ls hP hD hS hl)
theorem gc_astore_n (F : Fc z own cc rm nL D tA) {c : Fin 4} {i : Nat} {x : Nat} {Ln : List (Nat × Value)} (hd : decode cc pc = .ok (.astore_n c, 1)) (hi : (c : Nat) = i) (hn : i < nL) (hL : (i, Value.ref x) :: L.filter (fun q => !(q.1 == i) && !(q.1 + 1 == i && q.2.category == 2)) = Ln) (K : GC z k n S (D, ad, tA) (pc + 1) Ln st) : GC z k n S (D, ad, tA) pc L (.ref x :: st) := by
  obtain ⟨hx, hb, hml, hown, hts, hK, hA, rfl, rfl⟩ := F
  exact fun H locs ls hP hD hS hl => lv_astore_n (lv := L) hx hb hd hi hl hn hL (fun ls hl => K H locs ls hP hD hS hl)
theorem gc_iinc (F : Fc z own cc rm nL D tA) {i : Nat} {c : Int} {x v : Int32} {Ln : List (Nat × Value)} (q : Nat) (hd : decode cc pc = .ok (.iinc i c, 3)) (hq : L[q]? = some (i, .int x)) (hv : x + Int32.ofInt c = v) (hn : i < nL) (hL : (i, Value.int v) :: L.filter (fun q => !(q.1 == i) && !(q.1 + 1 == i && q.2.category == 2)) = Ln) (K : GC z k n S (D, ad, tA) (pc + 3) Ln st) : GC z k n S (D, ad, tA) pc L st := by
  obtain ⟨hx, hb, hml, hown, hts, hK, hA, rfl, rfl⟩ := F
  exact fun H locs ls hP hD hS hl => lv_iinc (lv := L) hx hb hd hl hq hv hn hL (fun ls hl => K H locs ls hP hD hS hl)
theorem gc_dup (F : Fc z own cc rm nL D tA) {x : Nat} (hd : decode cc pc = .ok (.dup, 1)) (K : GC z k n S (D, ad, tA) (pc + 1) L (.ref x :: .ref x :: st)) : GC z k n S (D, ad, tA) pc L (.ref x :: st) :=
  fun H locs ls hP hD hS hl => lv_dup F.1 F.2.1 hd rfl (K H locs ls hP hD hS hl)
theorem gc_goto (F : Fc z own cc rm nL D tA) {off : Int} {tgt : Nat} (hd : decode cc pc = .ok (.goto off, 3)) (ht : (pc : Int) + off = (tgt : Int)) (K : GC z k n S (D, ad, tA) tgt L st) : GC z k n S (D, ad, tA) pc L st :=
  fun H locs ls hP hD hS hl => lv_goto F.1 F.2.1 hd ht (K H locs ls hP hD hS hl)
theorem gc_icmp_ge (F : Fc z own cc rm nL D tA) {x y : Int32} {off : Int} {tgt : Nat} (hd : decode cc pc = .ok (.if_icmp .ge off, 3)) (ht : (pc : Int) + off = (tgt : Int)) (kt : y ≤ x → GC z k n S (D, ad, tA) tgt L st) (kf : ¬ y ≤ x → GC z k n S (D, ad, tA) (pc + 3) L st) : GC z k n S (D, ad, tA) pc L (.int y :: .int x :: st) :=
  fun H locs ls hP hD hS hl => lv_icmp_ge F.1 F.2.1 hd ht (fun h => kt h H locs ls hP hD hS hl) (fun h => kf h H locs ls hP hD hS hl)
theorem gc_objInit (F : Fc z own cc rm nL D tA) {idx x : Nat} (hq : Cond.methodLink own idx objectInit ∈ gw) (hi : Cond.instanceMethod objectInit ∈ gw) (hc : Cond.code objectInit ⟨#[0xb1]⟩ 1 none ∈ gw) (hR : gRok (gR 0) 1 (gR rm.frames) = true) (hlo : 64 ≤ rm.locals) (hW : (st.map fun v => v.category).sum ≤ 8) (hd : decode cc pc = .ok (.invokespecial idx, 3)) (K : GC z k n S (D, ad, tA) (pc + 3) L st) : GC z k n S (D, ad, tA) pc L (.ref x :: st) := by
  obtain ⟨hx, hb, hml, hown, hts, hK, hA, rfl, rfl⟩ := F
  intro H locs ls hP hD hS hl
  exact W.objInit hx hb hown (hts _ hq) (hts _ hi) (hts _ hc) rfl (hl.1.trans hml.symm) rfl hd (gRok_le hR).1 (by have := g_room (pc := pc) (m := zm z) (ls := ls) (st := .ref x :: st) hW; omega) (W.eq (g2 := F0 (zm z) (pc + 3) ls st) rfl (K H locs ls hP hD hS hl))
theorem gc_puti (F : Fc z own cc rm nL D tA) {i j ci idx N a : Nat} {fds : List Nat} {C : String} {T : u_T} (ha : a = ad i) (hs : S[i]? = some (.inl (ci, fds))) (hf : fds[j]? = some 0) (hc : vwCl[ci]? = some (C, T, N)) (hin : ∀ w ∈ u_ws C T N, w ∈ gw) (hj : j < N) (hq : Cond.fieldLink own idx (T j).1 (T j).2.1 (T j).2.2.1 ∈ gw)
    {ty : Nat → FieldType} (hty : ∀ k, k < N → parseFieldDescriptor (T k).2.2.1 = some (ty k)) (hnm : ∀ a, a < N → ∀ b, b < N → a ≠ b → (T a).2.1 ≠ (T b).2.1) (hfin : (T j).2.2.2 = false) (hn : narrow (ty j) (.int 0) = .int 0) (hfit : fits (ty j) (.int 0) = true) (hd : decode cc pc = .ok (.putfield idx, 3)) (K : GC z k n S (D, ad, tA) (pc + 3) L st) : GC z k n S (D, ad, tA) pc L (.int 0 :: .ref a :: st) := by
  obtain ⟨hx, hb, hml, hown, hts, hK, hA, rfl, rfl⟩ := F
  subst ha
  intro H locs ls hP hD hS hl
  exact va_put (D := D) (T := T) hx hb hts hin ty hty hnm hown hK hP hD hS i (g_get hs) hc j hj (hts _ hq) (fun _ h => h) hfin (hty j hj) hn hfit (by rw [List.length_mapIdx]; exact (List.getElem?_eq_some_iff.mp hf).1) hd (fun H1 locs1 hP1 hD1 hS1 => by
    have e : ((g_w S (D, ad, tA) g0 h0).set i (ad i, .inr (ci, (fds.mapIdx (fun j f => g_fv ad (g0 i) (h0 i) j f)).set j (.int 0)))) = g_w S (D, ad, tA) g0 h0 := by
      rw [g_fset hf, ← g_up_upd]
      have e2 := g_set (E := (D, ad, tA)) (J := h0) (J' := h0) hs (fun q h => g_up_row (I := g0) (k := i) (j := j) (v := 0) h) (fun _ _ => rfl)
      rw [g_up_same (I := g0) (k := i) (j := j) (v := (0 : Int32)) rfl] at e2 ⊢
      exact e2
    rw [e] at hP1 hD1
    exact K H1 locs1 ls hP1 hD1 hS1 hl)
theorem gc_putl (F : Fc z own cc rm nL D tA) {i j ci idx N a : Nat} {fds : List Nat} {C : String} {T : u_T} (ha : a = ad i) (hs : S[i]? = some (.inl (ci, fds))) (hf : fds[j]? = some 1) (hc : vwCl[ci]? = some (C, T, N)) (hin : ∀ w ∈ u_ws C T N, w ∈ gw) (hj : j < N) (hq : Cond.fieldLink own idx (T j).1 (T j).2.1 (T j).2.2.1 ∈ gw)
    {ty : Nat → FieldType} (hty : ∀ k, k < N → parseFieldDescriptor (T k).2.2.1 = some (ty k)) (hnm : ∀ a, a < N → ∀ b, b < N → a ≠ b → (T a).2.1 ≠ (T b).2.1) (hfin : (T j).2.2.2 = false) (hn : narrow (ty j) (.long 0) = .long 0) (hfit : fits (ty j) (.long 0) = true) (hd : decode cc pc = .ok (.putfield idx, 3)) (K : GC z k n S (D, ad, tA) (pc + 3) L st) : GC z k n S (D, ad, tA) pc L (.long 0 :: .ref a :: st) := by
  obtain ⟨hx, hb, hml, hown, hts, hK, hA, rfl, rfl⟩ := F
  subst ha
  intro H locs ls hP hD hS hl
  exact va_put (D := D) (T := T) hx hb hts hin ty hty hnm hown hK hP hD hS i (g_get hs) hc j hj (hts _ hq) (fun _ h => h) hfin (hty j hj) hn hfit (by rw [List.length_mapIdx]; exact (List.getElem?_eq_some_iff.mp hf).1) hd (fun H1 locs1 hP1 hD1 hS1 => by
    have e : ((g_w S (D, ad, tA) g0 h0).set i (ad i, .inr (ci, (fds.mapIdx (fun j f => g_fv ad (g0 i) (h0 i) j f)).set j (.long 0)))) = g_w S (D, ad, tA) g0 h0 := by
      rw [g_fsetL hf, ← g_up_updL]
      have e2 := g_set (E := (D, ad, tA)) (I := g0) (I' := g0) hs (fun _ _ => rfl) (fun q h => g_up_row (I := h0) (k := i) (j := j) (v := 0) h)
      rw [g_up_same (I := h0) (k := i) (j := j) (v := (0 : Int64)) rfl] at e2 ⊢
      exact e2
    rw [e] at hP1 hD1
    exact K H1 locs1 ls hP1 hD1 hS1 hl)
theorem gc_putr (F : Fc z own cc rm nL D tA) {i j ci idx N a b m : Nat} {fds : List Nat} {C : String} {T : u_T} {S1 : List gS} (hin2 : (zh z).name = "<init>") (ha : a = ad i) (hb2 : b = ad m) (hs : S[i]? = some (.inl (ci, fds))) (hf : fds[j]? = some 2) (hS1 : S.set i (.inl (ci, fds.set j (m + 3))) = S1) (hc : vwCl[ci]? = some (C, T, N)) (hin : ∀ w ∈ u_ws C T N, w ∈ gw) (hj : j < N) (hq : Cond.fieldLink own idx (T j).1 (T j).2.1 (T j).2.2.1 ∈ gw)
    {ty : Nat → FieldType} (hty : ∀ k, k < N → parseFieldDescriptor (T k).2.2.1 = some (ty k)) (hnm : ∀ a, a < N → ∀ b, b < N → a ≠ b → (T a).2.1 ≠ (T b).2.1) (hfin : (T j).2.2.2 = true) (hdecl : (T j).1 = own) (hn : ∀ q, narrow (ty j) (.ref q) = .ref q) (hfit : ∀ q, fits (ty j) (.ref q) = true) (hd : decode cc pc = .ok (.putfield idx, 3)) (K : GC z k n S1 (D, ad, tA) (pc + 3) L st) : GC z k n S (D, ad, tA) pc L (.ref b :: .ref a :: st) := by
  obtain ⟨hx, hb, hml, hown, hts, hK, hA, rfl, rfl⟩ := F
  subst ha; subst hb2; subst hS1
  intro H locs ls hP hD hS hl
  exact va_putF (D := D) (T := T) hx hb hts hin ty hty hnm hown hK hP hD hS i (g_get hs) hc j hj (hts _ hq) (fun _ h => h) hfin hin2 hdecl (hty j hj) (hn _) (hfit _) (by rw [List.length_mapIdx]; exact (List.getElem?_eq_some_iff.mp hf).1) hd (fun H1 locs1 hP1 hD1 hS1 => by
    have e : ((g_w S (D, ad, tA) g0 h0).set i (ad i, .inr (ci, (fds.mapIdx (fun j f => g_fv ad (g0 i) (h0 i) j f)).set j (.ref (ad m))))) = g_w (S.set i (.inl (ci, fds.set j (m + 3)))) (D, ad, tA) g0 h0 := by
      rw [g_fsetR hf]
      exact g_setS (E := (D, ad, tA)) (I := g0) (J := h0) (y := .inl (ci, fds.set j (m + 3))) hs
    rw [e] at hP1 hD1
    exact K H1 locs1 ls hP1 hD1 hS1 hl)
theorem gc_getr (F : Fc z own cc rm nL D tA) {i j ci idx N a m : Nat} {fds : List Nat} {C : String} {T : u_T} (ha : a = ad i) (hs : S[i]? = some (.inl (ci, fds))) (hf : fds[j]? = some (m + 3)) (hc : vwCl[ci]? = some (C, T, N)) (hin : ∀ w ∈ u_ws C T N, w ∈ gw) (hj : j < N) (hq : Cond.fieldLink own idx (T j).1 (T j).2.1 (T j).2.2.1 ∈ gw) (hd : decode cc pc = .ok (.getfield idx, 3)) (K : GC z k n S (D, ad, tA) (pc + 3) L (.ref (ad m) :: st)) : GC z k n S (D, ad, tA) pc L (.ref a :: st) := by
  obtain ⟨hx, hb, hml, hown, hts, hK, hA, rfl, rfl⟩ := F
  subst ha
  intro H locs ls hP hD hS hl
  exact va_get (D := D) (T := T) hx hb hts hin hown hK hP i (g_get hs) hc j hj (hts _ hq) (fun _ h => h) (g_fget hf) hd (K H locs ls hP hD hS hl)
theorem gc_newa (F : Fc z own cc rm nL D tA) {at_ : ArrayType} {ty : FieldType} {t so len N : Nat} {v : Int32} {S1 : List gS} (hty : newarray.typeOf at_ = ty) (hq : Cond.arrayClass ty ∈ gw) (ht : (g_ty (D, fun _ => 0, tA))[t]? = some (tA t, ty)) (hra : ∀ c, va_RA (zs z) c ty = ((zs z).vm.findClass ("[" ++ ty.toString) = some c))
    (hcell : ∀ cA : ClassId, vp_cell cA (len, g_av ad (g0 N) (h0 N) so) = arrV cA len (fun _ => defaultValue ty)) (hv0 : ¬ v < 0) (hv : v.toNatClampNeg = len) (hby : len * componentBytes ty ≤ 536870912) (hk : k + 1 ≤ rm.cells) (hn : n + len ≤ rm.slots) (hS1 : S ++ [.inr (t, len, so)] = S1) (hN : S.length = N) (hcl : S1.all (gCl N) = true) (hd : decode cc pc = .ok (.newarray at_, 2))
    (K : ∀ q, GC z (k + 1) (n + len) S1 (D, va_up ad N q, tA) (pc + 2) L (.ref (va_up ad N q N) :: st)) : GC z k n S (D, ad, tA) pc L (.int v :: st) := by
  obtain ⟨hx, hb, hml, hown, hts, hK, hA, rfl, rfl⟩ := F
  subst hS1; subst hty
  intro H locs ls hP hD hS hl
  refine va_newa hx hb (hts _ hq) rfl hK hP hD hS hA hcell hv0 hv hby hk hn hd (fun q cA H1 hK1 hP1 hD1 hS1 => ?_)
  have hcA : cA = tA t := by
    have h1 := (hK1.2 5 (cA, newarray.typeOf at_) (by rfl)).2
    have h2 := (hK.2 t _ ht).2
    rw [hra] at h1 h2
    exact Option.some.inj (h1.symm.trans h2)
  subst hcA
  have e := g_push (E := (D, ad, tA)) (I := g0) (J := h0) (q := q) hN hcl
  have hP2 : va_P D vwCl (g_w (S ++ [.inr (t, len, so)]) (D, va_up ad N q, tA) g0 h0) H1 := e ▸ hP1
  have hD2 : va_D (zA z) (g_w (S ++ [.inr (t, len, so)]) (D, va_up ad N q, tA) g0 h0) := e ▸ hD1
  have K2 := K q H1 locs ls hP2 hD2 hS1 hl
  rw [va_up_self] at K2
  exact K2
theorem gc_newq (F : Fc z own cc rm nL D tA) {idx m len N : Nat} {v : Int32} {S1 : List gS} (hq : Cond.classLink own idx "LeapJoin$Script" ∈ gw) (hao : va_AO "LeapJoin$Script" (zs z)) (hv0 : ¬ v < 0) (hv : v.toNatClampNeg = len) (hby : len * 4 ≤ 536870912) (hk : k + 1 ≤ rm.cells) (hn : n + len ≤ rm.slots) (hS1 : S ++ [.inr (4, len, 8 * m + 3)] = S1) (hN : S.length = N) (hcl : S1.all (gCl N) = true) (hd : decode cc pc = .ok (.anewarray idx, 3))
    (K : ∀ q, GC z (k + 1) (n + len) S1 (D, va_up ad N q, tA) (pc + 3) L (.ref (va_up ad N q N) :: st)) : GC z k n S (D, ad, tA) pc L (.int v :: st) := by
  obtain ⟨hx, hb, hml, hown, hts, hK, hA, rfl, rfl⟩ := F
  subst hS1
  intro H locs ls hP hD hS hl
  refine va_newq hx hb hown (hts _ hq) hao hK hP hD hS hA hv0 hv hby hk hn hd (fun q cA H1 hK1 hP1 hD1 hS1 => ?_)
  have hcA : cA = tA 4 := by
    obtain ⟨k1, c1, -, -, -, h1⟩ := (hK1.2 5 (cA, .object "LeapJoin$Script") (by rfl)).2
    obtain ⟨k2, c2, -, -, -, h2⟩ := (hK.2 4 (tA 4, .object "LeapJoin$Script") (by rfl)).2
    exact Option.some.inj (h1.symm.trans h2)
  subst hcA
  have e := g_push (E := (D, ad, tA)) (I := g0) (J := h0) (q := q) hN hcl
  have e0 : g_el (D, ad, tA) (g0 N) (h0 N) (.inr (4, len, 8 * m + 3)) = .inl (tA 4, len, .inr (.inr (.inr (.inr (fun _ => none))))) := by
    simp only [g_el, g_av]
    congr 4
    simp only [Sum.inr.injEq]
    funext j
    rw [if_neg (by omega)]
  rw [e0] at e
  have hP2 : va_P D vwCl (g_w (S ++ [.inr (4, len, 8 * m + 3)]) (D, va_up ad N q, tA) g0 h0) H1 := e ▸ hP1
  have hD2 : va_D (zA z) (g_w (S ++ [.inr (4, len, 8 * m + 3)]) (D, va_up ad N q, tA) g0 h0) := e ▸ hD1
  have K2 := K q H1 locs ls hP2 hD2 hS1 hl
  rw [va_up_self] at K2
  exact K2
theorem gc_aast (F : Fc z own cc rm nL D tA) {a b i c m len qk ci N : Nat} {v : Int32} {C : String} {T : u_T} {fds : List Nat} {S1 : List gS} (ha : a = ad i) (hb2 : b = ad qk) (hs : S[i]? = some (.inr (4, len, 8 * m + c + 3))) (hqk : qk = m + 2 * c) (hsv : S[qk]? = some (.inl (ci, fds))) (hc : vwCl[ci]? = some ("LeapJoin$Script", T, N)) (hv : v = nI c) (hl : c < len) (hl2 : len < 8) (hS1 : S.set i (.inr (4, len, 8 * m + (c + 1) + 3)) = S1) (hd : decode cc pc = .ok (.aastore, 1))
    (K : GC z k n S1 (D, ad, tA) (pc + 1) L st) : GC z k n S (D, ad, tA) pc L (.ref b :: .int v :: .ref a :: st) := by
  obtain ⟨hx, hb, hml, hown, hts, hK, hA, rfl, rfl⟩ := F
  subst ha; subst hb2; subst hS1
  intro H locs ls hP hD hS hll
  refine va_astq (D := D) (r := ("LeapJoin$Script", T, N)) hx hb hK hP hD hS i 4 qk ci (g_get hs) rfl (g_get hsv) hc (by rw [hv]; exact vp_in_nI hl (by omega)) hd (fun H1 locs1 hP1 hD1 hS1 => ?_)
  have e : ((g_w S (D, ad, tA) g0 h0).set i (ad i, .inl (tA 4, len, .inr (.inr (.inr (.inr (va_up (fun j => if j < (8 * m + c) % 8 then some (ad ((8 * m + c) / 8 + 2 * j)) else none) v.toNatClampNeg (some (ad qk))))))))) = g_w (S.set i (.inr (4, len, 8 * m + (c + 1) + 3))) (D, ad, tA) g0 h0 := by
    rw [← g_setS (E := (D, ad, tA)) (I := g0) (J := h0) (y := .inr (4, len, 8 * m + (c + 1) + 3)) hs]
    congr 3
    simp only [g_el, g_av]
    congr 4
    simp only [Sum.inr.injEq]
    funext j
    rw [hv, nI_clamp (by omega)]
    have h1 : (8 * m + c) % 8 = c := by omega
    have h2 : (8 * m + (c + 1)) % 8 = c + 1 ∨ c + 1 = 8 := by omega
    have h3 : (8 * m + c) / 8 = m := by omega
    have h4 : (8 * m + (c + 1)) / 8 = m ∨ c + 1 = 8 := by omega
    rcases h2 with h2 | h2
    · rcases h4 with h4 | h4
      · rw [h1, h2, h3, h4]
        by_cases hj : j = c
        · subst hj
          rw [va_up_self, if_pos (by omega), hqk]
        · rw [va_up_ne _ _ hj]
          by_cases hj2 : j < c
          · rw [if_pos hj2, if_pos (by omega)]
          · rw [if_neg hj2, if_neg (by omega)]
      · omega
    · omega
  have hP2 : va_P D vwCl (g_w (S.set i (.inr (4, len, 8 * m + (c + 1) + 3))) (D, ad, tA) g0 h0) H1 := e ▸ hP1
  have hD2 : va_D (zA z) (g_w (S.set i (.inr (4, len, 8 * m + (c + 1) + 3))) (D, ad, tA) g0 h0) := e ▸ hD1
  exact K H1 locs1 ls hP2 hD2 hS1 hll
theorem gc_new (F : Fc z own cc rm nL D tA) {idx ci N2 N : Nat} {C : String} {T : u_T} {fds : List Nat} {S1 : List gS} {ty : Nat → FieldType} (hin : ∀ w ∈ u_ws C T N2, w ∈ gw) (hty : ∀ k, k < N2 → parseFieldDescriptor (T k).2.2.1 = some (ty k)) (hq : Cond.classLink own idx C ∈ gw) (hi : Cond.instantiable C N2 ∈ gw) (hini : Cond.initialized C ∈ gw) (hc : vwCl[ci]? = some (C, T, N2)) (hfs : ∀ j, j < N2 → defaultValue (ty j) = vp_V (fds.mapIdx (fun j f => g_fv ad (g0 N) (h0 N) j f)) j) (hk : k + 1 ≤ rm.cells) (hn : n + N2 ≤ rm.slots) (hS1 : S ++ [.inl (ci, fds)] = S1) (hN : S.length = N) (hcl : S1.all (gCl N) = true) (hd : decode cc pc = .ok (.new idx, 3))
    (K : ∀ q, GC z (k + 1) (n + N2) S1 (D, va_up ad N q, tA) (pc + 3) L (.ref (va_up ad N q N) :: st)) : GC z k n S (D, ad, tA) pc L st := by
  obtain ⟨hx, hb, hml, hown, hts, hK, hA, rfl, rfl⟩ := F
  subst hS1
  intro H locs ls hP hD hS hl
  refine va_new hx hb hts hin ty hty hown (hts _ hq) (hts _ hi) (hts _ hini) hK hP hD hS hA hc hfs hk hn hd (fun q H1 hP1 hD1 hS1 => ?_)
  have e := g_push (E := (D, ad, tA)) (I := g0) (J := h0) (q := q) hN hcl
  have hP2 : va_P D vwCl (g_w (S ++ [.inl (ci, fds)]) (D, va_up ad N q, tA) g0 h0) H1 := e ▸ hP1
  have hD2 : va_D (zA z) (g_w (S ++ [.inl (ci, fds)]) (D, va_up ad N q, tA) g0 h0) := e ▸ hD1
  have K2 := K q H1 locs ls hP2 hD2 hS1 hl
  rw [va_up_self] at K2
  exact K2
end GCROWS
