/-! the memory of the two objects as two functions: g of a cell and a place, whole numbers (fields, elements), and h, longs -/
abbrev gM : Type := Nat → Nat → Int32
abbrev gN : Type := Nat → Nat → Int64
/-- a cell's kind: an object (its class's place, of each field what it is: 0 an int, 1 a long, 2 null, n + 3 the cell n) or an array (its type's place, its length, what it holds: 0 ints, 1 longs, 2 nulls, 8 n + c + 3 the c cells n, n + 2, n + 4 .., behind them nulls) -/
abbrev gS : Type := (Nat × List Nat) ⊕ (Nat × Nat × Nat)
abbrev gE : Type := va_G × (Nat → Nat) × (Nat → ClassId)
def g_up {α : Type} (I : Nat → Nat → α) (k j : Nat) (v : α) : Nat → Nat → α := fun k' j' => if k' = k ∧ j' = j then v else I k' j'
def g_fv (ad : Nat → Nat) (a : Nat → Int32) (b : Nat → Int64) (j f : Nat) : Value := match f with
  | 0 => .int (a j)
  | 1 => .long (b j)
  | 2 => .null
  | n + 3 => .ref (ad n)
def g_av (ad : Nat → Nat) (a : Nat → Int32) (b : Nat → Int64) (so : Nat) : (Nat → Int32) ⊕ (Nat → Int64) ⊕ (Nat → UInt32) ⊕ (Nat → UInt64) ⊕ (Nat → Option Nat) := match so with
  | 0 => .inl a
  | 1 => .inr (.inl b)
  | 2 => .inr (.inr (.inr (.inr (fun _ => none))))
  | n + 3 => .inr (.inr (.inr (.inr (fun j => if j < n % 8 then some (ad (n / 8 + 2 * j)) else none))))
def g_el (E : gE) (a : Nat → Int32) (b : Nat → Int64) (x : gS) : va_E := match x with
  | .inl (ci, fds) => .inr (ci, fds.mapIdx (fun j f => g_fv E.2.1 a b j f))
  | .inr (t, len, so) => .inl (E.2.2 t, len, g_av E.2.1 a b so)
def g_w (S : List gS) (E : gE) (I : gM) (J : gN) : va_W := S.mapIdx (fun k x => (E.2.1 k, g_el E (I k) (J k) x))
abbrev g_ty (E : gE) : List (ClassId × FieldType) := [(E.2.2 0, .int), (E.2.2 1, .byte), (E.2.2 2, .boolean), (E.2.2 3, .long), (E.2.2 4, .object "LeapJoin$Script")]
theorem g_get {S : List gS} {E : gE} {I : gM} {J : gN} {k : Nat} {x : gS} (h : S[k]? = some x) : (g_w S E I J)[k]? = some (E.2.1 k, g_el E (I k) (J k) x) := by
  simp [g_w, List.getElem?_mapIdx, h]
theorem g_get' {S : List gS} {E : gE} {I : gM} {J : gN} {k : Nat} {q : Nat × va_E} (h : (g_w S E I J)[k]? = some q) : ∃ x, S[k]? = some x ∧ q = (E.2.1 k, g_el E (I k) (J k) x) := by
  simp only [g_w, List.getElem?_mapIdx] at h
  cases hx : S[k]? with
  | none => rw [hx] at h; cases h
  | some x => rw [hx] at h; cases h; exact ⟨x, rfl, rfl⟩
theorem g_set {S : List gS} {E : gE} {I I' : gM} {J J' : gN} {k : Nat} {x : gS} (h : S[k]? = some x) (hI : ∀ i, i ≠ k → I' i = I i) (hJ : ∀ i, i ≠ k → J' i = J i) : (g_w S E I J).set k (E.2.1 k, g_el E (I' k) (J' k) x) = g_w S E I' J' := by
  apply List.ext_getElem?
  intro i
  by_cases hi : i = k
  · subst hi
    rw [List.getElem?_set_self (by rw [g_w, List.length_mapIdx]; exact (List.getElem?_eq_some_iff.mp h).1), g_get h]
  · rw [List.getElem?_set_ne (Ne.symm hi)]
    simp only [g_w, List.getElem?_mapIdx, hI i hi, hJ i hi]
theorem g_up_row {α : Type} {I : Nat → Nat → α} {k j : Nat} {v : α} {i : Nat} (h : i ≠ k) : g_up I k j v i = I i := by
  funext x; simp [g_up, h]
theorem g_up_upd {I : gM} {k j : Nat} {v : Int32} : g_up I k j v k = upd (I k) j v := by
  funext x; simp [g_up, upd]
theorem g_up_updL {J : gN} {k j : Nat} {v : Int64} : g_up J k j v k = vp_updL (J k) j v := by
  funext x; simp [g_up, vp_updL]
theorem g_up_self {α : Type} {I : Nat → Nat → α} {k j : Nat} {v : α} : g_up I k j v k j = v := by simp [g_up]
theorem g_up_ne {α : Type} {I : Nat → Nat → α} {k j k' j' : Nat} {v : α} (h : k' ≠ k ∨ j' ≠ j) : g_up I k j v k' j' = I k' j' := by
  have : ¬ (k' = k ∧ j' = j) := fun q => h.elim (fun z => z q.1) (fun z => z q.2)
  simp [g_up, this]
theorem g_up_same {α : Type} {I : Nat → Nat → α} {k j : Nat} {v : α} (h : I k j = v) : g_up I k j v = I := by
  funext a b; unfold g_up; split
  · rename_i q; rw [q.1, q.2, h]
  · rfl
theorem g_fset {ad : Nat → Nat} {a : Nat → Int32} {b : Nat → Int64} {fds : List Nat} {j : Nat} {v : Int32} (hf : fds[j]? = some 0) : (fds.mapIdx (fun j f => g_fv ad a b j f)).set j (.int v) = fds.mapIdx (fun i f => g_fv ad (upd a j v) b i f) := by
  apply List.ext_getElem?
  intro i
  by_cases hi : i = j
  · subst hi
    rw [List.getElem?_set_self (by rw [List.length_mapIdx]; exact (List.getElem?_eq_some_iff.mp hf).1)]
    simp [List.getElem?_mapIdx, hf, g_fv, upd]
  · rw [List.getElem?_set_ne (Ne.symm hi)]
    simp only [List.getElem?_mapIdx]
    cases hx : fds[i]? with
    | none => rfl
    | some f =>
      match f with
      | 0 => simp [g_fv, upd, hi]
      | 1 => rfl
      | 2 => rfl
      | n + 3 => rfl
theorem g_fsetL {ad : Nat → Nat} {a : Nat → Int32} {b : Nat → Int64} {fds : List Nat} {j : Nat} {v : Int64} (hf : fds[j]? = some 1) : (fds.mapIdx (fun j f => g_fv ad a b j f)).set j (.long v) = fds.mapIdx (fun i f => g_fv ad a (vp_updL b j v) i f) := by
  apply List.ext_getElem?
  intro i
  by_cases hi : i = j
  · subst hi
    rw [List.getElem?_set_self (by rw [List.length_mapIdx]; exact (List.getElem?_eq_some_iff.mp hf).1)]
    simp [List.getElem?_mapIdx, hf, g_fv, vp_updL]
  · rw [List.getElem?_set_ne (Ne.symm hi)]
    simp only [List.getElem?_mapIdx]
    cases hx : fds[i]? with
    | none => rfl
    | some f =>
      match f with
      | 0 => rfl
      | 1 => simp [g_fv, vp_updL, hi]
      | 2 => rfl
      | n + 3 => rfl
theorem g_fget {ad : Nat → Nat} {a : Nat → Int32} {b : Nat → Int64} {fds : List Nat} {j f : Nat} (hf : fds[j]? = some f) : (fds.mapIdx (fun j f => g_fv ad a b j f))[j]? = some (g_fv ad a b j f) := by
  simp [List.getElem?_mapIdx, hf]
/-- where a method's walk stands: the machine, its room, the start; the end that it is to come to; the names of the cells -/
abbrev gZ : Type := (Program × Launch × Env × Room × State × MethodId × Array Value × List Frame × Method × Code) × (Nat × Nat × (State → Prop)) × (List gS × gE) × (Nat → Prop) × Nat
abbrev zp (z : gZ) : Program := z.1.1
abbrev zl (z : gZ) : Launch := z.1.2.1
abbrev ze (z : gZ) : Env := z.1.2.2.1
abbrev zR (z : gZ) : Room := z.1.2.2.2.1
abbrev zs (z : gZ) : State := z.1.2.2.2.2.1
abbrev zm (z : gZ) : MethodId := z.1.2.2.2.2.2.1
abbrev za (z : gZ) : Array Value := z.1.2.2.2.2.2.2.1
abbrev zb (z : gZ) : List Frame := z.1.2.2.2.2.2.2.2.1
abbrev zh (z : gZ) : Method := z.1.2.2.2.2.2.2.2.2.1
abbrev zc (z : gZ) : Code := z.1.2.2.2.2.2.2.2.2.2
abbrev zk (z : gZ) : Nat := z.2.1.1
abbrev zn (z : gZ) : Nat := z.2.1.2.1
abbrev zQ (z : gZ) : State → Prop := z.2.1.2.2
abbrev zS (z : gZ) : List gS := z.2.2.1.1
abbrev zE (z : gZ) : gE := z.2.2.1.2
abbrev zA (z : gZ) : Nat → Prop := z.2.2.2.1
abbrev zL (z : gZ) : Nat := z.2.2.2.2
abbrev gW (z : gZ) (H : Heap) (locs : List Loc) (g : JFrame) : Prop := W (zp z) (zl z) (ze z) (zR z) (zs z) (zm z) (za z) (zb z) (zh z) (zc z) H locs (zk z) (zn z) (zQ z) g
/-- from here (the place in the code, the locals, the stack, the memory) the walk comes to its end -/
def G (z : gZ) (pc : Nat) (L : List (Nat × Value)) (st : List Value) (I : gM) (J : gN) : Prop :=
  ∀ (H : Heap) (locs : List Loc) (ls : Array Slot), va_P (zE z).1 vwCl (g_w (zS z) (zE z) I J) H → va_S (zA z) (zs z).heap H locs → lv_has ls (zL z) L → gW z H locs (F0 (zm z) pc ls st)
/-- what a method's walk stands on: the class that it is of, its code, its words, its room -/
abbrev Fx (z : gZ) (S : List gS) (E : gE) (own : String) (cc : ByteArray) (rm : Room) (nL : Nat) : Prop :=
  (zp z).tables.exec = Jvm.exec ∧ (zc z).code = cc ∧ (zc z).maxLocals = nL ∧ (zs z).vm.findClass own = some (zm z).cls ∧ (∀ w ∈ gw, w.before (za z) (zs z) = true) ∧
  va_K E.1 vwCl (g_ty E) (zs z) ∧ (∀ I J, va_D (zA z) (g_w S E I J)) ∧ (zk z ≤ rm.cells ∧ zn z ≤ rm.slots) ∧ zL z = nL ∧ zR z = rm ∧ zS z = S ∧ zE z = E
/-- a contract's start and end over the memory -/
abbrev gP (S : List gS) (E : gE) (I : gM) (J : gN) (av : List Value) : Array Value → State → Prop := va_Pc av (fun U => va_P E.1 vwCl (g_w S E I J) U.heap ∧ va_K E.1 vwCl (g_ty E) U)
def gQ (S : List gS) (E : gE) (A : Nat → Prop) (post : Option Value → gM → gN → Prop) : Array Value → State → Outcome → State → Prop := fun _ st oc t => (∃ (r : Option Value) (I' : gM) (J' : gN), oc = .returned r ∧ post r I' J' ∧ va_P E.1 vwCl (g_w S E I' J') t.heap) ∧ va_F A st t
