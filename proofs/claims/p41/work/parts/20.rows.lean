/-! the methods as functions over the memory: what they are made of -/
theorem ob {α β : Type} {o : Option α} {f : α → Option β} {x : β} (h : o.bind f = some x) : ∃ v, o = some v ∧ f v = some x := by
  cases o with
  | none => cases h
  | some v => exact ⟨v, rfl, h⟩
theorem oi {α : Type} {c : Prop} [Decidable c] {a b : Option α} {x : α} (h : (if c then a else b) = some x) : (c ∧ a = some x) ∨ (¬ c ∧ b = some x) := by
  by_cases hc : c
  · rw [if_pos hc] at h; exact Or.inl ⟨hc, h⟩
  · rw [if_neg hc] at h; exact Or.inr ⟨hc, h⟩
theorem oE1 {α β γ : Type} {f : α → Option γ} {g : β → Option γ} {a : α} {x : γ} (h : Sum.elim f g (.inl a) = some x) : f a = some x := h
theorem oE2 {α β γ : Type} {f : α → Option γ} {g : β → Option γ} {a : β} {x : γ} (h : Sum.elim f g (.inr a) = some x) : g a = some x := h
/-- a loop: a step tells the next state or what comes out -/
def itN {σ ρ : Type} (step : σ → Option (σ ⊕ ρ)) : Nat → σ → Option ρ
  | 0, _ => none
  | n + 1, s => (step s).bind (fun y => Sum.elim (fun s' => itN step n s') (fun r => some r) y)
theorem itN_up {σ ρ : Type} {step : σ → Option (σ ⊕ ρ)} : ∀ {n : Nat} {s : σ} {r : ρ}, itN step n s = some r → ∀ m, n ≤ m → itN step m s = some r
  | 0, _, _, h, _, _ => by cases h
  | n + 1, s, r, h, m, hm => by
    obtain ⟨m', rfl⟩ : ∃ m', m = m' + 1 := ⟨m - 1, by omega⟩
    obtain ⟨y, hy, h⟩ := ob h
    show (step s).bind _ = _
    rw [hy]
    cases y with
    | inl s' => exact itN_up h m' (by omega)
    | inr r' => exact h
theorem itN_eq {σ ρ : Type} {step : σ → Option (σ ⊕ ρ)} {n m : Nat} {s : σ} {r r' : ρ} (h : itN step n s = some r) (h' : itN step m s = some r') : r = r' := by
  rcases Nat.le_total n m with q | q
  · exact Option.some.inj ((itN_up h m q).symm.trans h')
  · exact Option.some.inj (h.symm.trans (itN_up h' n q))
noncomputable def itO {σ ρ : Type} (step : σ → Option (σ ⊕ ρ)) (s : σ) : Option ρ :=
  @dite _ (∃ n r, itN step n s = some r) (Classical.propDecidable _) (fun h => some h.choose_spec.choose) (fun _ => none)
theorem itO_some {σ ρ : Type} {step : σ → Option (σ ⊕ ρ)} {s : σ} {r : ρ} : itO step s = some r ↔ ∃ n, itN step n s = some r := by
  unfold itO
  by_cases h : ∃ n r, itN step n s = some r
  · rw [dif_pos h]
    have e := h.choose_spec.choose_spec
    constructor
    · intro q
      rw [← Option.some.inj q]
      exact ⟨_, e⟩
    · rintro ⟨n, q⟩
      exact congrArg some (itN_eq e q)
  · rw [dif_neg h]
    constructor
    · intro q; cases q
    · rintro ⟨n, q⟩; exact absurd ⟨n, r, q⟩ h
/-- what holds behind a loop that comes out at r holds at each state of it, if a step hands it back -/
theorem itO_ind {σ ρ : Type} {step : σ → Option (σ ⊕ ρ)} {P : σ → Prop} {r : ρ} (hs : ∀ s y, step s = some y → (∀ s', y = .inl s' → P s') → (∀ r', y = .inr r' → r' = r) → P s) : ∀ s, itO step s = some r → P s := by
  intro s h0
  obtain ⟨n, h⟩ := itO_some.mp h0
  clear h0
  induction n generalizing s with
  | zero => cases h
  | succ n ih =>
    obtain ⟨y, hy, h⟩ := ob h
    refine hs s y hy (fun s' e => ?_) (fun r' e => ?_)
    · subst e; exact ih s' h
    · subst e; exact Option.some.inj h
/-- one step of a loop -/
theorem itO_eq {σ ρ : Type} {step : σ → Option (σ ⊕ ρ)} (s : σ) : itO step s = (step s).bind (fun y => Sum.elim (fun s' => itO step s') (fun r => some r) y) := by
  apply Option.ext
  intro r
  constructor
  · intro h
    obtain ⟨n, h⟩ := itO_some.mp h
    cases n with
    | zero => cases h
    | succ n =>
      obtain ⟨y, hy, h⟩ := ob h
      rw [hy]
      cases y with
      | inl s' => exact itO_some.mpr ⟨n, h⟩
      | inr r' => exact h
  · intro h
    obtain ⟨y, hy, h⟩ := ob h
    cases y with
    | inl s' =>
      obtain ⟨n, h⟩ := itO_some.mp h
      refine itO_some.mpr ⟨n + 1, ?_⟩
      show (step s).bind _ = _
      rw [hy]; exact h
    | inr r' =>
      refine itO_some.mpr ⟨1, ?_⟩
      show (step s).bind _ = _
      rw [hy]; exact h
/-- a loop with an invariant and a number that falls -/
theorem itO_to {σ ρ : Type} {step : σ → Option (σ ⊕ ρ)} (P : σ → Prop) (Q : ρ → Prop) (μ : σ → Nat) (hs : ∀ s, P s → ∃ y, step s = some y ∧ (∀ s', y = .inl s' → P s' ∧ μ s' < μ s) ∧ (∀ r, y = .inr r → Q r)) : ∀ s, P s → ∃ r, itO step s = some r ∧ Q r := by
  intro s h
  generalize hn : μ s = n
  induction n using Nat.strongRecOn generalizing s with
  | _ n ih =>
    obtain ⟨y, hy, h1, h2⟩ := hs s h
    rw [itO_eq, hy]
    cases y with
    | inl s' =>
      obtain ⟨p, q⟩ := h1 s' rfl
      exact ih (μ s') (by omega) s' p rfl
    | inr r => exact ⟨r, rfl, h2 r rfl⟩
/-- one place of a row of n -/
def rI (n : Nat) (f : Nat → Int32) (i : Int32) : Option Int32 := if 0 ≤ i.toInt ∧ i.toInt < (n : Int) then some (f i.toInt.toNat) else none
def wI (I : gM) (k n : Nat) (i v : Int32) : Option gM := if 0 ≤ i.toInt ∧ i.toInt < (n : Int) then some (g_up I k i.toInt.toNat v) else none
def rA (n : Nat) (i : Int32) : Option Nat := if 0 ≤ i.toInt ∧ i.toInt < (n : Int) then some (54 + 2 * i.toInt.toNat) else none
def pU {α : Type} (I : Nat → Nat → α) (k j : Nat) (v : α) : Option (Nat → Nat → α) := some (g_up I k j v)
def dV (a b : Int32) : Option Int32 := if b = 0 then none else some (a / b)
def rM (a b : Int32) : Option Int32 := if b = 0 then none else some (a - a / b * b)
def lM (a b : Int64) : Option Int64 := if b = 0 then none else some (a - a / b * b)
def iR (a b : Int32) : Int32 := a - a / b * b
def iU (x y : Int32) : Int32 := (x.toUInt32 >>> (y.toUInt32 &&& Int32.toUInt32 31)).toInt32
def lU (x : Int64) (y : Int32) : Int64 := (x.toUInt64 >>> (y.toInt64.toUInt64 &&& Int64.toUInt64 63)).toInt64
def bO (v : Int32) : Option Int32 := if v = 0 ∨ v = 1 then some v else none
def mX (x y : Int32) : Int32 := if x < y then y else x
def mN (x y : Int32) : Int32 := if y < x then y else x
def blk (n : Nat) : Int32 := match n with
  | 0 => 6
  | 1 => 2
  | _ => 1
/-- n places of the cell k0 from sp on, laid into the cell k1 from dp on -/
def cpI (I : gM) (k0 n0 k1 n1 : Nat) (sp dp n : Int32) : Option gM := if 0 ≤ sp.toInt ∧ 0 ≤ dp.toInt ∧ 0 ≤ n.toInt ∧ sp.toInt + n.toInt ≤ (n0 : Int) ∧ dp.toInt + n.toInt ≤ (n1 : Int) then
    some (fun k j => if k = k1 then va_cpy (I k0) (I k1) sp.toInt.toNat dp.toInt.toNat n.toInt.toNat j else I k j) else none
theorem rI_some {n : Nat} {f : Nat → Int32} {i v : Int32} (h : rI n f i = some v) : 0 ≤ i.toInt ∧ i.toInt < (n : Int) ∧ f i.toInt.toNat = v := by
  unfold rI at h
  split at h
  · rename_i q; exact ⟨q.1, q.2, Option.some.inj h⟩
  · cases h
theorem wI_some {I I' : gM} {k n : Nat} {i v : Int32} (h : wI I k n i v = some I') : 0 ≤ i.toInt ∧ i.toInt < (n : Int) ∧ g_up I k i.toInt.toNat v = I' := by
  unfold wI at h
  split at h
  · rename_i q; exact ⟨q.1, q.2, Option.some.inj h⟩
  · cases h
theorem rA_some {n : Nat} {i : Int32} {k : Nat} (h : rA n i = some k) : ∃ j, i = nI j ∧ j < n ∧ 54 + 2 * j = k := by
  unfold rA at h
  split at h
  · rename_i q
    refine ⟨i.toInt.toNat, ?_, by omega, Option.some.inj h⟩
    rw [← iI_n, Int.toNat_of_nonneg q.1]
    exact iI_self i
  · cases h
theorem pU_some {α : Type} {I I' : Nat → Nat → α} {k j : Nat} {v : α} (h : pU I k j v = some I') : g_up I k j v = I' := Option.some.inj h
theorem dV_some {a b v : Int32} (h : dV a b = some v) : ¬ b = 0 ∧ a / b = v := by
  unfold dV at h
  split at h
  · cases h
  · rename_i q; exact ⟨q, Option.some.inj h⟩
theorem rM_some {a b v : Int32} (h : rM a b = some v) : ¬ b = 0 ∧ a - a / b * b = v := by
  unfold rM at h
  split at h
  · cases h
  · rename_i q; exact ⟨q, Option.some.inj h⟩
theorem lM_some {a b v : Int64} (h : lM a b = some v) : ¬ b = 0 ∧ a - a / b * b = v := by
  unfold lM at h
  split at h
  · cases h
  · rename_i q; exact ⟨q, Option.some.inj h⟩
theorem bO_some {a v : Int32} (h : bO a = some v) : narrow .boolean (.int a) = .int a ∧ a = v := by
  unfold bO at h
  split at h
  · rename_i q
    refine ⟨?_, Option.some.inj h⟩
    rcases q with rfl | rfl <;> rfl
  · cases h
theorem cpI_some {I I' : gM} {k0 n0 k1 n1 : Nat} {sp dp n : Int32} (h : cpI I k0 n0 k1 n1 sp dp n = some I') : 0 ≤ sp.toInt ∧ 0 ≤ dp.toInt ∧ 0 ≤ n.toInt ∧ sp.toInt + n.toInt ≤ (n0 : Int) ∧ dp.toInt + n.toInt ≤ (n1 : Int) ∧ (fun k j => if k = k1 then va_cpy (I k0) (I k1) sp.toInt.toNat dp.toInt.toNat n.toInt.toNat j else I k j) = I' := by
  unfold cpI at h
  split at h
  · rename_i q; exact ⟨q.1, q.2.1, q.2.2.1, q.2.2.2.1, q.2.2.2.2, Option.some.inj h⟩
  · cases h
theorem shl_c {x y c : Int32} (h : y &&& 31 = c) : x <<< (y &&& 31) = x <<< c := by rw [h]
theorem shr_c {x y c : Int32} (h : y &&& 31 = c) : x >>> (y &&& 31) = x >>> c := by rw [h]
theorem add_c {x : Int32} {n : Int} {c : Int32} (h : Int32.ofInt n = c) : x + Int32.ofInt n = x + c := by rw [h]
/-! the shapes of the objects of which there are several -/
def shX5 (k : Nat) : Prop := sh[k]? = some (.inl (5, [0, 0, 0, k + 1 + 3, k + 2 + 3, k + 3 + 3, k + 4 + 3])) ∧ sh[k + 1]? = some (.inr (0, 4, 0)) ∧ sh[k + 2]? = some (.inr (0, 4, 0)) ∧ sh[k + 3]? = some (.inr (0, 12, 0)) ∧ sh[k + 4]? = some (.inr (0, 48, 0))
def shX1 (k : Nat) : Prop := sh[k]? = some (.inl (1, [0, 0, 0, k + 1 + 3, k + 2 + 3, k + 3 + 3, k + 4 + 3, k + 5 + 3, k + 6 + 3, k + 7 + 3, k + 8 + 3, k + 9 + 3, k + 10 + 3])) ∧ sh[k + 1]? = some (.inr (0, 4, 0)) ∧ sh[k + 2]? = some (.inr (0, 4, 0)) ∧ sh[k + 3]? = some (.inr (0, 20736, 0)) ∧ sh[k + 4]? = some (.inr (0, 5, 0)) ∧ sh[k + 5]? = some (.inr (0, 48, 0)) ∧ sh[k + 6]? = some (.inr (0, 3, 0)) ∧ sh[k + 7]? = some (.inr (0, 16, 0)) ∧ sh[k + 8]? = some (.inr (0, 16, 0)) ∧ sh[k + 9]? = some (.inr (0, 16, 0)) ∧ sh[k + 10]? = some (.inr (0, 16, 0))
def shX2 (k : Nat) : Prop := sh[k]? = some (.inl (2, [k + 1 + 3, 0, 0])) ∧ sh[k + 1]? = some (.inr (0, 300, 0))
def shX4 (k : Nat) : Prop := sh[k]? = some (.inl (4, [0, k + 1 + 3])) ∧ sh[k + 1]? = some (.inr (0, 60, 0))
def shA (k n : Nat) : Prop := sh[k]? = some (.inr (0, n, 0)) ∧ n < 2 ^ 31
theorem shX5_3 : shX5 3 := ⟨s3, s4, s5, s6, s7⟩
theorem shX5_8 : shX5 8 := ⟨s8, s9, s10, s11, s12⟩
theorem shX5_13 : shX5 13 := ⟨s13, s14, s15, s16, s17⟩
theorem shX1_18 : shX1 18 := ⟨s18, s19, s20, s21, s22, s23, s24, s25, s26, s27, s28⟩
theorem shX1_29 : shX1 29 := ⟨s29, s30, s31, s32, s33, s34, s35, s36, s37, s38, s39⟩
theorem shX2_44 : shX2 44 := ⟨s44, s45⟩
theorem shX2_46 : shX2 46 := ⟨s46, s47⟩
theorem shX4_51 : shX4 51 := ⟨s51, s52⟩
theorem shX4_at {j k : Nat} (hj : j < 4) (h : 54 + 2 * j = k) : shX4 k := by
  subst h
  rcases (by omega : j = 0 ∨ j = 1 ∨ j = 2 ∨ j = 3) with rfl | rfl | rfl | rfl
  · exact ⟨s54, s55⟩
  · exact ⟨s56, s57⟩
  · exact ⟨s58, s59⟩
  · exact ⟨s60, s61⟩
theorem gRok_of {a b n : Nat} (h : a + 1 ≤ b) (hn : n ≤ 45) : gRok (gR a) n (gR b) = true := by
  simp only [gRok, gR, Bool.and_eq_true]
  exact ⟨⟨⟨Nat.ble_eq_true_of_le h, Nat.ble_eq_true_of_le (by omega)⟩, rfl⟩, rfl⟩
/-! the static row of Join, read off a JVM: it lies outside all that is written -/
def bX (A : Nat → Prop) (bk : Nat) (H : Heap) (U : State) : Prop := va_Z "LeapJoin$Join" "BLOCKS" "[I" (.ref bk) A U H ∧ va_X bk 4 blk U H ∧ bk < H.size ∧ ¬ A bk
theorem bX.same {A : Nat → Prop} {bk : Nat} {H : Heap} {u U : State} (hv : u.vm.Alike U.vm) (h : bX A bk H u) : bX A bk H U := ⟨va_Z.moved hv h.1, va_X.moved hv h.2.1, h.2.2⟩
theorem bX.kept {A : Nat → Prop} {bk : Nat} {H H1 : Heap} {U : State} (h : bX A bk H U) (hz : H.size ≤ H1.size) (hq : ∀ a : Nat, a < H.size → ¬ A a → H1[a]? = H[a]?) : bX A bk H1 U := ⟨h.1.kept hq, h.2.1.kept (hq bk h.2.2.1 h.2.2.2), Nat.lt_of_lt_of_le h.2.2.1 hz, h.2.2.2⟩
theorem bX.narrow {A B : Nat → Prop} {bk : Nat} {H : Heap} {U : State} (h : bX A bk H U) (hAB : ∀ q, B q → A q) : bX B bk H U := ⟨h.1.narrow hAB, h.2.1, h.2.2.1, fun q => h.2.2.2 (hAB _ q)⟩
abbrev bZ (z : gZ) (bk : Nat) : Prop := bX (zA z) bk (zs z).heap (zs z)
abbrev uP (S : List gS) (E : gE) (bk : Nat) (I : gM) (J : gN) (av : List Value) : Array Value → State → Prop := va_Pc av (fun U => va_P E.1 vwCl (g_w S E I J) U.heap ∧ va_K E.1 vwCl (g_ty E) U ∧ bX (gA S E) bk U.heap U)
def Cu (l : Launch) (S : List gS) (E : gE) (bk : Nat) (y : MethodName) (cc : ByteArray) (nL : Nat) (ret : Option FieldType) (rm : Room) (av : List Value) (I : gM) (J : gN) (post : Option Value → gM → gN → Prop) : Prop :=
  Met l y (gws y cc nL ret) rm (uP S E bk I J av) (gQ S E (gA S E) post) 0 0 (gA S E)
theorem Cu.of {l : Launch} {S : List gS} {E : gE} {bk : Nat} {y : MethodName} {cc : ByteArray} {nL : Nat} {ret : Option FieldType} {rm : Room} {av : List Value} {I : gM} {J : gN} {post : Option Value → gM → gN → Prop} (own : String) (hown : y.cls = own)
    (hdist : gDist S E) (hy : plainName y.cls = true) (hlen : (lg_sl av).length ≤ nL)
    (body : ∀ z, Fx z S E own cc rm nL → bZ z bk → Fe z S E ret post → zl z = l → G z 0 (lv_args 0 av) [] I J) : Cu l S E bk y cc nL ret rm av I J post := by
  refine Met.ofW (cc := cc) (maxL := nL) (ret := ret) hy rfl ?_
  intro p e s m args below meth c s₁ B hml hv
  obtain ⟨rfl, hP, hK, hB⟩ := hv
  have hts := atoms_spec (ws := gws y cc nL ret) B.pre
  have hl := lv_entry av (n := nL) hlen
  rw [lg_entry_eq]
  exact body ((p, l, e, (headSpec (gws y cc nL ret) rm).room, s, m, av.toArray, below, meth, c), (0, 0, MQ below (gQ S E (gA S E) post) av.toArray s 0 0 (gA S E)), (S, E), gA S E, nL)
    ⟨B.exec, B.bytes, hml, by rw [← hown]; exact findClass_of_methodNamed B.named, fun w h => hts w (List.mem_cons_of_mem _ h), hK, g_D hdist (fun k hk => ⟨k, hk, rfl⟩), ⟨Nat.zero_le _, Nat.zero_le _⟩, rfl, rfl, rfl, rfl⟩ hB ⟨B.returns, B.notSynchronized, rfl⟩ rfl s.heap [] _ hP va_S.rf hl
section UROWS
variable {z : gZ} {S : List gS} {E : gE} {bk : Nat} {own : String} {cc : ByteArray} {rm : Room} {nL : Nat} {pc : Nat} {L : List (Nat × Value)} {st : List Value} {I : gM} {J : gN}
theorem u_blind {av : List Value} : FrameBlind (uP S E bk I J av) := fun a U g mk q => by
  obtain ⟨q0, qP, qK, qB⟩ := q
  exact ⟨q0, qP, va_K.moved (u := U) (U := U.calling g mk a) (Vm.Alike.refl U.vm) qK, bX.same (u := U) (Vm.Alike.refl U.vm) qB⟩
/-- a call of an object's method -/
theorem u_callV0 (F : Fx z S E own cc rm nL) (B : bZ z bk) {y : MethodName} {c2 : ByteArray} {n2 n idx k ci N : Nat} {ret : Option FieldType} {r2 : Room} {As rest : List Value} {post : Option Value → gM → gN → Prop} {C : String} {T : u_T} {fds : List Nat}
    (hC : Cu (zl z) S E bk y c2 n2 ret r2 (.ref (E.2.1 k) :: As) I J post) (hm : gMv y c2 n2 ret C n) (hq : Cond.methodLink own idx y ∈ gw) (hR : gRok r2 n2 rm = true)
    (hs : S[k]? = some (.inl (ci, fds))) (hc : vwCl[ci]? = some (C, T, N)) (hn : As.length = n) (hst : st = As.reverse ++ .ref (E.2.1 k) :: rest) (hW : (rest.map fun v => v.category).sum ≤ 8) (hd : decode cc pc = .ok (.invokevirtual idx, 3))
    (K : ∀ (r : Option Value) (I' : gM) (J' : gN), post r I' J' → G z (pc + 3) L (r.toList ++ rest) I' J') : G z pc L st I J := by
  obtain ⟨hx, hb, hml, hown, hts, hK, hD, hk0, rfl, rfl, rfl, rfl⟩ := F
  obtain ⟨m1, m2, m3, m4, m5, m6, m7, m8⟩ := hm
  obtain ⟨r1, r2', r3, r4⟩ := gRok_le hR
  intro H locs ls hP hS hl
  have cw : CallW (zR z) (zs z) (za z) own C idx y c2 n2 ret (gws y c2 n2 ret) r2 0 0 n :=
    ⟨callB_of n hts (gw_good0 m4) rfl r3 r4 (by rw [m5]; exact hts _ m3) (hts _ hq) ⟨m6, m7, m8⟩ ⟨r1, r2'⟩, hts _ m1, hts _ m2⟩
  have hB : bX (gA (zS z) (zE z)) bk H (zs z) := (bX.kept B hS.1 hS.2.1).narrow (fun q h => g_AA hD q h)
  refine g_run (fun q h => g_AA hD q h) (va_runV (As := As) (rest := rest) ⟨hx, hb, hml, hown, hts⟩ hC cw ⟨u_blind, va_recv hK hP hc (g_get hs), fun U hU hW => ⟨rfl, by rw [hU]; exact hP, va_K.moved hW.alike hK, by rw [hU]; exact bX.same hW.alike hB⟩⟩ rfl hn hl.1 hst (g_room hW) hd ⟨hk0.1, hk0.2⟩) hS hl K
/-- a call of a static method -/
theorem u_callS0 (F : Fx z S E own cc rm nL) (B : bZ z bk) {y : MethodName} {c2 : ByteArray} {n2 n idx : Nat} {ret : Option FieldType} {r2 : Room} {As rest : List Value} {post : Option Value → gM → gN → Prop}
    (hC : Cu (zl z) S E bk y c2 n2 ret r2 As I J post) (hm : gMs y c2 n2 ret n) (hq : Cond.methodLink own idx y ∈ gw) (hR : gRok r2 n2 rm = true)
    (hn : As.length = n) (hst : st = As.reverse ++ rest) (hW : (rest.map fun v => v.category).sum ≤ 8) (hd : decode cc pc = .ok (.invokestatic idx, 3))
    (K : ∀ (r : Option Value) (I' : gM) (J' : gN), post r I' J' → G z (pc + 3) L (r.toList ++ rest) I' J') : G z pc L st I J := by
  obtain ⟨hx, hb, hml, hown, hts, hK, hD, hk0, rfl, rfl, rfl, rfl⟩ := F
  obtain ⟨m1, m3, m4, m6, m7, m8⟩ := hm
  obtain ⟨r1, r2', r3, r4⟩ := gRok_le hR
  intro H locs ls hP hS hl
  have hB : bX (gA (zS z) (zE z)) bk H (zs z) := (bX.kept B hS.1 hS.2.1).narrow (fun q h => g_AA hD q h)
  refine g_run (fun q h => g_AA hD q h) (va_runS (As := As) (rest := rest) ⟨hx, hb, hml, hown, hts⟩ hC ⟨callB_of n hts (gw_good0 m4) rfl r3 r4 (hts _ m3) (hts _ hq) ⟨m6, m7, m8⟩ ⟨r1, r2'⟩, hts _ m1⟩ ⟨u_blind, fun U hU hW => ⟨rfl, by rw [hU]; exact hP, va_K.moved hW.alike hK, by rw [hU]; exact bX.same hW.alike hB⟩⟩ rfl hn hl.1 hst (g_room hW) hd ⟨hk0.1, hk0.2⟩) hS hl K
theorem u_rI {α : Type} {y : α} (F : Fx z S E own cc rm nL) {k n : Nat} {i : Int32} {f : Int32 → Option α} (hs : S[k]? = some (.inr (0, n, 0))) (hn : n < 2 ^ 31) (hd : decode cc pc = .ok (.iaload, 1)) (h : (rI n (I k) i).bind f = some y) (K : ∀ v, f v = some y → G z (pc + 1) L (.int v :: st) I J) : G z pc L (.int i :: .ref (E.2.1 k) :: st) I J := by
  obtain ⟨v, e, h⟩ := ob h
  obtain ⟨e0, e1, e2⟩ := rI_some e
  exact g_ialdI F i.toInt hs (iI_self _) e0 e1 hn e2 hd (K v h)
theorem u_rB {α : Type} {y : α} (F : Fx z S E own cc rm nL) {k n : Nat} {i : Int32} {f : Int32 → Option α} (hs : S[k]? = some (.inr (1, n, 0))) (hn : n < 2 ^ 31) (hd : decode cc pc = .ok (.baload, 1)) (h : (rI n (I k) i).bind f = some y) (K : ∀ v, f v = some y → G z (pc + 1) L (.int v :: st) I J) : G z pc L (.int i :: .ref (E.2.1 k) :: st) I J := by
  obtain ⟨v, e, h⟩ := ob h
  obtain ⟨e0, e1, e2⟩ := rI_some e
  exact g_baldI F i.toInt hs (iI_self _) e0 e1 hn e2 hd (K v h)
theorem u_rZ {α : Type} {y : α} (F : Fx z S E own cc rm nL) {k n : Nat} {i : Int32} {f : Int32 → Option α} (hs : S[k]? = some (.inr (2, n, 0))) (hn : n < 2 ^ 31) (hd : decode cc pc = .ok (.baload, 1)) (h : (rI n (I k) i).bind f = some y) (K : ∀ v, f v = some y → G z (pc + 1) L (.int v :: st) I J) : G z pc L (.int i :: .ref (E.2.1 k) :: st) I J := by
  obtain ⟨v, e, h⟩ := ob h
  obtain ⟨e0, e1, e2⟩ := rI_some e
  exact g_zaldI F i.toInt hs (iI_self _) e0 e1 hn e2 hd (K v h)
theorem u_wI {α : Type} {y : α} (F : Fx z S E own cc rm nL) {k n : Nat} {i v : Int32} {f : gM → Option α} (hs : S[k]? = some (.inr (0, n, 0))) (hn : n < 2 ^ 31) (hd : decode cc pc = .ok (.iastore, 1)) (h : (wI I k n i v).bind f = some y) (K : ∀ I', f I' = some y → G z (pc + 1) L st I' J) : G z pc L (.int v :: .int i :: .ref (E.2.1 k) :: st) I J := by
  obtain ⟨I', e, h⟩ := ob h
  obtain ⟨e0, e1, e2⟩ := wI_some e
  have K' := K I' h
  rw [← e2] at K'
  exact g_iastI F i.toInt hs (iI_self _) e0 e1 hn rfl hd K'
theorem u_wB {α : Type} {y : α} (F : Fx z S E own cc rm nL) {k n : Nat} {i v : Int32} {f : gM → Option α} (hs : S[k]? = some (.inr (1, n, 0))) (hn : n < 2 ^ 31) (hd : decode cc pc = .ok (.bastore, 1)) (h : (wI I k n i (vp_nar .byte v)).bind f = some y) (K : ∀ I', f I' = some y → G z (pc + 1) L st I' J) : G z pc L (.int v :: .int i :: .ref (E.2.1 k) :: st) I J := by
  obtain ⟨I', e, h⟩ := ob h
  obtain ⟨e0, e1, e2⟩ := wI_some e
  have K' := K I' h
  rw [← e2] at K'
  exact g_bastI F i.toInt hs (iI_self _) e0 e1 hn rfl hd K'
theorem u_wZ {α : Type} {y : α} (F : Fx z S E own cc rm nL) {k n : Nat} {i v : Int32} {f : gM → Option α} (hs : S[k]? = some (.inr (2, n, 0))) (hn : n < 2 ^ 31) (hd : decode cc pc = .ok (.bastore, 1)) (h : (wI I k n i (vp_nar .boolean v)).bind f = some y) (K : ∀ I', f I' = some y → G z (pc + 1) L st I' J) : G z pc L (.int v :: .int i :: .ref (E.2.1 k) :: st) I J := by
  obtain ⟨I', e, h⟩ := ob h
  obtain ⟨e0, e1, e2⟩ := wI_some e
  have K' := K I' h
  rw [← e2] at K'
  exact g_zastI F i.toInt hs (iI_self _) e0 e1 hn rfl hd K'
theorem u_puti {α : Type} {y : α} (F : Fx z S E own cc rm nL) {k j ci idx N : Nat} {v : Int32} {f : gM → Option α} {fds : List Nat} {C : String} {T : u_T} (hs : S[k]? = some (.inl (ci, fds))) (hf : fds[j]? = some 0) (hc : vwCl[ci]? = some (C, T, N)) (hin : ∀ w ∈ u_ws C T N, w ∈ gw) (hj : j < N) (hq : Cond.fieldLink own idx (T j).1 (T j).2.1 (T j).2.2.1 ∈ gw) {ty : Nat → FieldType} (hty : ∀ k, k < N → parseFieldDescriptor (T k).2.2.1 = some (ty k)) (hnm : ∀ a, a < N → ∀ b, b < N → a ≠ b → (T a).2.1 ≠ (T b).2.1) (hfin : (T j).2.2.2 = false) (hn : narrow (ty j) (.int v) = .int v) (hfit : fits (ty j) (.int v) = true) (hd : decode cc pc = .ok (.putfield idx, 3)) (h : (pU I k j v).bind f = some y) (K : ∀ I', f I' = some y → G z (pc + 3) L st I' J) : G z pc L (.int v :: .ref (E.2.1 k) :: st) I J := by
  exact g_puti F hs hf hc hin hj hq hty hnm hfin hn hfit hd (K _ h)
theorem u_putl {α : Type} {y : α} (F : Fx z S E own cc rm nL) {k j ci idx N : Nat} {v : Int64} {f : gN → Option α} {fds : List Nat} {C : String} {T : u_T} (hs : S[k]? = some (.inl (ci, fds))) (hf : fds[j]? = some 1) (hc : vwCl[ci]? = some (C, T, N)) (hin : ∀ w ∈ u_ws C T N, w ∈ gw) (hj : j < N) (hq : Cond.fieldLink own idx (T j).1 (T j).2.1 (T j).2.2.1 ∈ gw) {ty : Nat → FieldType} (hty : ∀ k, k < N → parseFieldDescriptor (T k).2.2.1 = some (ty k)) (hnm : ∀ a, a < N → ∀ b, b < N → a ≠ b → (T a).2.1 ≠ (T b).2.1) (hfin : (T j).2.2.2 = false) (hn : narrow (ty j) (.long v) = .long v) (hfit : fits (ty j) (.long v) = true) (hd : decode cc pc = .ok (.putfield idx, 3)) (h : (pU J k j v).bind f = some y) (K : ∀ J', f J' = some y → G z (pc + 3) L st I J') : G z pc L (.long v :: .ref (E.2.1 k) :: st) I J := by
  exact g_putl F hs hf hc hin hj hq hty hnm hfin hn hfit hd (K _ h)
/-- the static row of Join, and a place of it -/
theorem u_blk (F : Fx z S E own cc rm nL) (B : bZ z bk) {idx : Nat} (hq : Cond.fieldLink own idx "LeapJoin$Join" "BLOCKS" "[I" ∈ gw) (hd : decode cc pc = .ok (.getstatic idx, 3)) (K : G z (pc + 3) L (.ref bk :: st) I J) : G z pc L st I J := by
  obtain ⟨hx, hb, hml, hown, hts, hK, hD, hk0, rfl, rfl, rfl, rfl⟩ := F
  intro H locs ls hP hS hl
  exact va_gets hx hb B.1 hS hown (hts _ hq) (fun _ h => h) hd (K H locs ls hP hS hl)
theorem u_blkld {α : Type} {y : α} (F : Fx z S E own cc rm nL) (B : bZ z bk) {i : Int32} {f : Int32 → Option α} (hd : decode cc pc = .ok (.iaload, 1)) (h : (rI 4 blk i).bind f = some y) (K : ∀ v, f v = some y → G z (pc + 1) L (.int v :: st) I J) : G z pc L (.int i :: .ref bk :: st) I J := by
  obtain ⟨hx, hb, hml, hown, hts, hK, hD, hk0, rfl, rfl, rfl, rfl⟩ := F
  intro H locs ls hP hS hl
  obtain ⟨v, e, h⟩ := ob h
  obtain ⟨e0, e1, e2⟩ := rI_some e
  exact va_sld hx hb B.2.1 B.2.2.1 B.2.2.2 hS (vp_in_iff.mpr ⟨e0, e1⟩) hd (by rw [show blk i.toNatClampNeg = v from e2]; exact K v h H locs ls hP hS hl)
theorem u_aald {α : Type} {y : α} (F : Fx z sh E own cc rm nL) {i : Int32} {f : Nat → Option α} (hd : decode cc pc = .ok (.aaload, 1)) (h : (rA 4 i).bind f = some y) (K : ∀ k, shX4 k → f k = some y → G z (pc + 1) L (.ref (E.2.1 k) :: st) I J) : G z pc L (.int i :: .ref (E.2.1 50) :: st) I J := by
  obtain ⟨k, e, h⟩ := ob h
  obtain ⟨j, a, b, c⟩ := rA_some e
  exact g_aald (nn := 436) (kk := k) F j s50 a b (by decide) b c hd (K k (shX4_at b c) h)
theorem u_idiv {α : Type} {y : α} (F : Fx z S E own cc rm nL) {a b : Int32} {f : Int32 → Option α} (hd : decode cc pc = .ok (.idiv, 1)) (h : (dV a b).bind f = some y) (K : ∀ v, f v = some y → G z (pc + 1) L (.int v :: st) I J) : G z pc L (.int b :: .int a :: st) I J := by
  obtain ⟨v, e, h⟩ := ob h
  obtain ⟨e0, e1⟩ := dV_some e
  exact g_idiv F hd e0 e1 (K v h)
theorem u_irem {α : Type} {y : α} (F : Fx z S E own cc rm nL) {a b : Int32} {f : Int32 → Option α} (hd : decode cc pc = .ok (.irem, 1)) (h : (rM a b).bind f = some y) (K : ∀ v, f v = some y → G z (pc + 1) L (.int v :: st) I J) : G z pc L (.int b :: .int a :: st) I J := by
  obtain ⟨v, e, h⟩ := ob h
  obtain ⟨e0, e1⟩ := rM_some e
  exact g_irem F hd e0 e1 (K v h)
theorem u_lrem {α : Type} {y : α} (F : Fx z S E own cc rm nL) {a b : Int64} {f : Int64 → Option α} (hd : decode cc pc = .ok (.lrem, 1)) (h : (lM a b).bind f = some y) (K : ∀ v, f v = some y → G z (pc + 1) L (.long v :: st) I J) : G z pc L (.long b :: .long a :: st) I J := by
  obtain ⟨v, e, h⟩ := ob h
  obtain ⟨e0, e1⟩ := lM_some e
  exact g_lrem F hd e0 e1 (K v h)
theorem u_if_eq {α : Type} {y : α} (F : Fx z S E own cc rm nL) {x : Int32} {a b : Option α} [Decidable (x = 0)] {off : Int} {tgt : Nat} (hd : decode cc pc = .ok (.ifCond .eq off, 3)) (ht : (pc : Int) + off = (tgt : Int)) (h : (if x = 0 then a else b) = some y) (kt : a = some y → G z tgt L st I J) (kf : b = some y → G z (pc + 3) L st I J) : G z pc L (.int x :: st) I J :=
  g_if_eq F hd ht (fun c => by rw [if_pos c] at h; exact kt h) (fun c => by rw [if_neg c] at h; exact kf h)
theorem u_icmp_eq {α : Type} {y : α} (F : Fx z S E own cc rm nL) {x yy : Int32} {a b : Option α} [Decidable (x = yy)] {off : Int} {tgt : Nat} (hd : decode cc pc = .ok (.if_icmp .eq off, 3)) (ht : (pc : Int) + off = (tgt : Int)) (h : (if x = yy then a else b) = some y) (kt : a = some y → G z tgt L st I J) (kf : b = some y → G z (pc + 3) L st I J) : G z pc L (.int yy :: .int x :: st) I J :=
  g_icmp_eq F hd ht (fun c => by rw [if_pos c] at h; exact kt h) (fun c => by rw [if_neg c] at h; exact kf h)
theorem u_if_ne {α : Type} {y : α} (F : Fx z S E own cc rm nL) {x : Int32} {a b : Option α} [Decidable (x = 0)] {off : Int} {tgt : Nat} (hd : decode cc pc = .ok (.ifCond .ne off, 3)) (ht : (pc : Int) + off = (tgt : Int)) (h : (if x = 0 then a else b) = some y) (kt : a = some y → G z (pc + 3) L st I J) (kf : b = some y → G z tgt L st I J) : G z pc L (.int x :: st) I J :=
  g_if_ne F hd ht (fun c => by rw [if_neg c] at h; exact kf h) (fun c => by rw [if_pos c] at h; exact kt h)
theorem u_icmp_ne {α : Type} {y : α} (F : Fx z S E own cc rm nL) {x yy : Int32} {a b : Option α} [Decidable (x = yy)] {off : Int} {tgt : Nat} (hd : decode cc pc = .ok (.if_icmp .ne off, 3)) (ht : (pc : Int) + off = (tgt : Int)) (h : (if x = yy then a else b) = some y) (kt : a = some y → G z (pc + 3) L st I J) (kf : b = some y → G z tgt L st I J) : G z pc L (.int yy :: .int x :: st) I J :=
  g_icmp_ne F hd ht (fun c => by rw [if_neg c] at h; exact kf h) (fun c => by rw [if_pos c] at h; exact kt h)
theorem u_if_lt {α : Type} {y : α} (F : Fx z S E own cc rm nL) {x : Int32} {a b : Option α} [Decidable (x < 0)] {off : Int} {tgt : Nat} (hd : decode cc pc = .ok (.ifCond .lt off, 3)) (ht : (pc : Int) + off = (tgt : Int)) (h : (if x < 0 then a else b) = some y) (kt : a = some y → G z tgt L st I J) (kf : b = some y → G z (pc + 3) L st I J) : G z pc L (.int x :: st) I J :=
  g_if_lt F hd ht (fun c => by rw [if_pos c] at h; exact kt h) (fun c => by rw [if_neg c] at h; exact kf h)
theorem u_icmp_lt {α : Type} {y : α} (F : Fx z S E own cc rm nL) {x yy : Int32} {a b : Option α} [Decidable (x < yy)] {off : Int} {tgt : Nat} (hd : decode cc pc = .ok (.if_icmp .lt off, 3)) (ht : (pc : Int) + off = (tgt : Int)) (h : (if x < yy then a else b) = some y) (kt : a = some y → G z tgt L st I J) (kf : b = some y → G z (pc + 3) L st I J) : G z pc L (.int yy :: .int x :: st) I J :=
  g_icmp_lt F hd ht (fun c => by rw [if_pos c] at h; exact kt h) (fun c => by rw [if_neg c] at h; exact kf h)
theorem u_if_ge {α : Type} {y : α} (F : Fx z S E own cc rm nL) {x : Int32} {a b : Option α} [Decidable (0 ≤ x)] {off : Int} {tgt : Nat} (hd : decode cc pc = .ok (.ifCond .ge off, 3)) (ht : (pc : Int) + off = (tgt : Int)) (h : (if 0 ≤ x then a else b) = some y) (kt : a = some y → G z tgt L st I J) (kf : b = some y → G z (pc + 3) L st I J) : G z pc L (.int x :: st) I J :=
  g_if_ge F hd ht (fun c => by rw [if_pos c] at h; exact kt h) (fun c => by rw [if_neg c] at h; exact kf h)
theorem u_icmp_ge {α : Type} {y : α} (F : Fx z S E own cc rm nL) {x yy : Int32} {a b : Option α} [Decidable (yy ≤ x)] {off : Int} {tgt : Nat} (hd : decode cc pc = .ok (.if_icmp .ge off, 3)) (ht : (pc : Int) + off = (tgt : Int)) (h : (if yy ≤ x then a else b) = some y) (kt : a = some y → G z tgt L st I J) (kf : b = some y → G z (pc + 3) L st I J) : G z pc L (.int yy :: .int x :: st) I J :=
  g_icmp_ge F hd ht (fun c => by rw [if_pos c] at h; exact kt h) (fun c => by rw [if_neg c] at h; exact kf h)
theorem u_if_gt {α : Type} {y : α} (F : Fx z S E own cc rm nL) {x : Int32} {a b : Option α} [Decidable (0 < x)] {off : Int} {tgt : Nat} (hd : decode cc pc = .ok (.ifCond .gt off, 3)) (ht : (pc : Int) + off = (tgt : Int)) (h : (if 0 < x then a else b) = some y) (kt : a = some y → G z tgt L st I J) (kf : b = some y → G z (pc + 3) L st I J) : G z pc L (.int x :: st) I J :=
  g_if_gt F hd ht (fun c => by rw [if_pos c] at h; exact kt h) (fun c => by rw [if_neg c] at h; exact kf h)
theorem u_icmp_gt {α : Type} {y : α} (F : Fx z S E own cc rm nL) {x yy : Int32} {a b : Option α} [Decidable (yy < x)] {off : Int} {tgt : Nat} (hd : decode cc pc = .ok (.if_icmp .gt off, 3)) (ht : (pc : Int) + off = (tgt : Int)) (h : (if yy < x then a else b) = some y) (kt : a = some y → G z tgt L st I J) (kf : b = some y → G z (pc + 3) L st I J) : G z pc L (.int yy :: .int x :: st) I J :=
  g_icmp_gt F hd ht (fun c => by rw [if_pos c] at h; exact kt h) (fun c => by rw [if_neg c] at h; exact kf h)
theorem u_if_le {α : Type} {y : α} (F : Fx z S E own cc rm nL) {x : Int32} {a b : Option α} [Decidable (x ≤ 0)] {off : Int} {tgt : Nat} (hd : decode cc pc = .ok (.ifCond .le off, 3)) (ht : (pc : Int) + off = (tgt : Int)) (h : (if x ≤ 0 then a else b) = some y) (kt : a = some y → G z tgt L st I J) (kf : b = some y → G z (pc + 3) L st I J) : G z pc L (.int x :: st) I J :=
  g_if_le F hd ht (fun c => by rw [if_pos c] at h; exact kt h) (fun c => by rw [if_neg c] at h; exact kf h)
theorem u_icmp_le {α : Type} {y : α} (F : Fx z S E own cc rm nL) {x yy : Int32} {a b : Option α} [Decidable (x ≤ yy)] {off : Int} {tgt : Nat} (hd : decode cc pc = .ok (.if_icmp .le off, 3)) (ht : (pc : Int) + off = (tgt : Int)) (h : (if x ≤ yy then a else b) = some y) (kt : a = some y → G z tgt L st I J) (kf : b = some y → G z (pc + 3) L st I J) : G z pc L (.int yy :: .int x :: st) I J :=
  g_icmp_le F hd ht (fun c => by rw [if_pos c] at h; exact kt h) (fun c => by rw [if_neg c] at h; exact kf h)
/-- a call of an object's method that is known as a function -/
theorem u_callV {α : Type} {y : α} {β : Type} (F : Fx z S E own cc rm nL) (B : bZ z bk) {y1 : MethodName} {c2 : ByteArray} {n2 n idx k ci N : Nat} {ret : Option FieldType} {r2 : Room} {As rest : List Value} {o : Option β} {f : β → Option α} {vr : β → Option Value} {Ir : β → gM} {Jr : β → gN} {sn : β → List Value} {C : String} {T : u_T} {fds : List Nat}
    (hC : ∀ r, o = some r → Cu (zl z) S E bk y1 c2 n2 ret r2 (.ref (E.2.1 k) :: As) I J (fun r1 I1 J1 => r1 = vr r ∧ I1 = Ir r ∧ J1 = Jr r)) (hm : gMv y1 c2 n2 ret C n) (hq : Cond.methodLink own idx y1 ∈ gw) (hR : gRok r2 n2 rm = true)
    (hs : S[k]? = some (.inl (ci, fds))) (hc : vwCl[ci]? = some (C, T, N)) (hn : As.length = n) (hst : st = As.reverse ++ .ref (E.2.1 k) :: rest) (hW : (rest.map fun v => v.category).sum ≤ 8) (hd : decode cc pc = .ok (.invokevirtual idx, 3)) (hsn : ∀ r, (vr r).toList ++ rest = sn r)
    (h : o.bind f = some y) (K : ∀ r, f r = some y → G z (pc + 3) L (sn r) (Ir r) (Jr r)) : G z pc L st I J := by
  obtain ⟨r, e, h⟩ := ob h
  exact u_callV0 F B (hC r e) hm hq hR hs hc hn hst hW hd (fun r1 I1 J1 q => by obtain ⟨q1, q2, q3⟩ := q; rw [q1, q2, q3, hsn r]; exact K r h)
theorem u_callS {α : Type} {y : α} {β : Type} (F : Fx z S E own cc rm nL) (B : bZ z bk) {y1 : MethodName} {c2 : ByteArray} {n2 n idx : Nat} {ret : Option FieldType} {r2 : Room} {As rest : List Value} {o : Option β} {f : β → Option α} {vr : β → Option Value} {Ir : β → gM} {Jr : β → gN} {sn : β → List Value}
    (hC : ∀ r, o = some r → Cu (zl z) S E bk y1 c2 n2 ret r2 As I J (fun r1 I1 J1 => r1 = vr r ∧ I1 = Ir r ∧ J1 = Jr r)) (hm : gMs y1 c2 n2 ret n) (hq : Cond.methodLink own idx y1 ∈ gw) (hR : gRok r2 n2 rm = true)
    (hn : As.length = n) (hst : st = As.reverse ++ rest) (hW : (rest.map fun v => v.category).sum ≤ 8) (hd : decode cc pc = .ok (.invokestatic idx, 3)) (hsn : ∀ r, (vr r).toList ++ rest = sn r)
    (h : o.bind f = some y) (K : ∀ r, f r = some y → G z (pc + 3) L (sn r) (Ir r) (Jr r)) : G z pc L st I J := by
  obtain ⟨r, e, h⟩ := ob h
  exact u_callS0 F B (hC r e) hm hq hR hn hst hW hd (fun r1 I1 J1 q => by obtain ⟨q1, q2, q3⟩ := q; rw [q1, q2, q3, hsn r]; exact K r h)
/-- System.arraycopy between two of the int rows -/
theorem u_copy0 (F : Fx z S E own cc rm nL) {k0 k1 n0 n1 idx : Nat} {sp dp n : Int32} {I' : gM} (hs0 : S[k0]? = some (.inr (0, n0, 0))) (hs1 : S[k1]? = some (.inr (0, n1, 0))) (e : cpI I k0 n0 k1 n1 sp dp n = some I') (hq : Cond.methodLink own idx arraycopyName ∈ gw) (h1q : Cond.native arraycopyName ∈ gw) (h2q : Cond.static arraycopyName ∈ gw) (h3q : Cond.initialized "java/lang/System" ∈ gw)
    (hf : 1 ≤ rm.frames) (hlo : (st.map fun v => v.category).sum + (nativeFrameWords "java/lang/System" "arraycopy" 5 + 11) ≤ rm.locals) (hd : decode cc pc = .ok (.invokestatic idx, 3)) (K : G z (pc + 3) L st I' J) : G z pc L (.int n :: .int dp :: .ref (E.2.1 k1) :: .int sp :: .ref (E.2.1 k0) :: st) I J := by
  obtain ⟨hx, hb, hml, hown, hts, hK, hD, hk0, rfl, rfl, rfl, rfl⟩ := F
  obtain ⟨e1, e2, e3, e4, e5, e6⟩ := cpI_some e
  have neg : ∀ {x : Int32}, 0 ≤ x.toInt → ¬ x < 0 := fun {x} h q => by
    have := Int32.lt_iff_toInt_lt.mp q
    simp at this; omega
  intro H locs ls hP hS hl
  refine va_copyi hx hb (hml.trans hl.1.symm) hown (hts _ hq) (hts _ h1q) (hts _ h2q) (hts _ h3q) hK hP (hD I J) hS k0 k1 0 0 (g_get hs0) (g_get hs1) rfl rfl rfl (neg e1) (neg e2) (neg e3) (by show sp.toInt.toNat + n.toInt.toNat ≤ _; omega) (by show dp.toInt.toNat + n.toInt.toNat ≤ _; omega) (fun _ _ => rfl) hf hlo hd (fun H1 locs1 hP1 hD1 hS1 => K H1 locs1 ls ?_ hS1 hl)
  have e7 : I' k1 = va_cpy (I k0) (I k1) sp.toInt.toNat dp.toInt.toNat n.toInt.toNat := by
    subst e6; funext j; simp
  rw [← g_set (I := I) (J' := J) hs1 (fun i h => by subst e6; funext j; simp [h]) (fun _ _ => rfl)]
  have e8 : g_el (zE z) (I' k1) (J k1) (.inr (0, n1, 0)) = .inl ((zE z).2.2 0, n1, .inl (va_cpy (I k0) (I k1) sp.toInt.toNat dp.toInt.toNat n.toInt.toNat)) := by
    show (Sum.inl ((zE z).2.2 0, n1, .inl (I' k1)) : va_E) = _
    rw [e7]
  rw [e8]
  exact hP1
theorem u_copy {α : Type} {y : α} (F : Fx z S E own cc rm nL) {k0 k1 n0 n1 idx : Nat} {sp dp n : Int32} {f : gM → Option α} (hs0 : S[k0]? = some (.inr (0, n0, 0))) (hs1 : S[k1]? = some (.inr (0, n1, 0))) (hq : Cond.methodLink own idx arraycopyName ∈ gw) (h1q : Cond.native arraycopyName ∈ gw) (h2q : Cond.static arraycopyName ∈ gw) (h3q : Cond.initialized "java/lang/System" ∈ gw)
    (hf : 1 ≤ rm.frames) (hlo : (st.map fun v => v.category).sum + (nativeFrameWords "java/lang/System" "arraycopy" 5 + 11) ≤ rm.locals) (hd : decode cc pc = .ok (.invokestatic idx, 3)) (h : (cpI I k0 n0 k1 n1 sp dp n).bind f = some y) (K : ∀ I', f I' = some y → G z (pc + 3) L st I' J) : G z pc L (.int n :: .int dp :: .ref (E.2.1 k1) :: .int sp :: .ref (E.2.1 k0) :: st) I J := by
  obtain ⟨I', e, h⟩ := ob h
  exact u_copy0 F hs0 hs1 e hq h1q h2q h3q hf hlo hd (K I' h)
end UROWS
