/-! no throw and an end: what a function over the memory keeps -/
def T {α : Type} (o : Option α) (Q : α → Prop) : Prop := ∃ r, o = some r ∧ Q r
theorem t_ret {α : Type} {v : α} {Q : α → Prop} (h : Q v) : T (some v) Q := ⟨v, rfl, h⟩
theorem t_bind {α β : Type} {o : Option α} {f : α → Option β} {P : α → Prop} {Q : β → Prop} (h : T o P) (K : ∀ r, P r → T (f r) Q) : T (o.bind f) Q := by
  obtain ⟨r, e, p⟩ := h
  rw [e]; exact K r p
theorem t_bindE {α β : Type} {o : Option α} {f : α → Option β} {P : α → Prop} {Q : β → Prop} (h : T o P) (K : ∀ r, o = some r → P r → T (f r) Q) : T (o.bind f) Q := by
  obtain ⟨r, e, p⟩ := h
  rw [e]; exact K r e p
theorem t_mono {α : Type} {o : Option α} {P Q : α → Prop} (h : T o P) (K : ∀ r, P r → Q r) : T o Q := by
  obtain ⟨r, e, p⟩ := h
  exact ⟨r, e, K r p⟩
theorem t_and {α : Type} {o : Option α} {P Q : α → Prop} (h : T o P) (K : ∀ r, o = some r → Q r) : T o (fun r => P r ∧ Q r) := by
  obtain ⟨r, e, p⟩ := h
  exact ⟨r, e, p, K r e⟩
theorem t_ite {α : Type} {c : Prop} [Decidable c] {a b : Option α} {Q : α → Prop} (ht : c → T a Q) (hf : ¬ c → T b Q) : T (if c then a else b) Q := by
  by_cases h : c
  · rw [if_pos h]; exact ht h
  · rw [if_neg h]; exact hf h
abbrev LQ {σ ρ : Type} (P : σ → Prop) (n : Nat) (μ : σ → Nat) (Q : ρ → Prop) : σ ⊕ ρ → Prop := Sum.elim (fun s' => P s' ∧ μ s' < n) Q
theorem t_it {σ ρ : Type} {step : σ → Option (σ ⊕ ρ)} (P : σ → Prop) (μ : σ → Nat) {Q : ρ → Prop} (hs : ∀ s, P s → T (step s) (LQ P (μ s) μ Q)) {s0 : σ} (h : P s0) : T (itO step s0) Q := by
  refine itO_to P Q μ (fun s p => ?_) s0 h
  obtain ⟨y, e, q⟩ := hs s p
  refine ⟨y, e, fun s' h => by subst h; exact q, fun r h => by subst h; exact q⟩
/-! whole numbers -/
theorem tA {a b : Int32} {x y : Int} (ha : a.toInt = x) (hb : b.toInt = y) (h1 : -2147483648 ≤ x + y) (h2 : x + y ≤ 2147483647) : (a + b).toInt = x + y := by
  rw [Int32.toInt_add, ha, hb]; exact Int.bmod_eq_of_le (by omega) (by omega)
theorem tS {a b : Int32} {x y : Int} (ha : a.toInt = x) (hb : b.toInt = y) (h1 : -2147483648 ≤ x - y) (h2 : x - y ≤ 2147483647) : (a - b).toInt = x - y := by
  rw [Int32.toInt_sub, ha, hb]; exact Int.bmod_eq_of_le (by omega) (by omega)
theorem tM {a b : Int32} {x y : Int} (ha : a.toInt = x) (hb : b.toInt = y) (h1 : -2147483648 ≤ x * y) (h2 : x * y ≤ 2147483647) : (a * b).toInt = x * y := by
  rw [Int32.toInt_mul, ha, hb]; exact Int.bmod_eq_of_le (by omega) (by omega)
theorem iLT {a b : Int32} {x y : Int} (ha : a.toInt = x) (hb : b.toInt = y) : a < b ↔ x < y := by rw [Int32.lt_iff_toInt_lt, ha, hb]
theorem iLE {a b : Int32} {x y : Int} (ha : a.toInt = x) (hb : b.toInt = y) : a ≤ b ↔ x ≤ y := by rw [Int32.le_iff_toInt_le, ha, hb]
theorem iEQ {a b : Int32} {x y : Int} (ha : a.toInt = x) (hb : b.toInt = y) : a = b ↔ x = y := by rw [← Int32.toInt_inj, ha, hb]
theorem tnI {n : Nat} (h : n < 2 ^ 31) : (nI n).toInt = (n : Int) := by
  rw [← iI_n]; exact iI_t (by omega) (by omega)
theorem tTop (v : Int32) : -2147483648 ≤ v.toInt ∧ v.toInt ≤ 2147483647 := ⟨Int32.le_toInt v, Int.le_of_lt_add_one (Int32.toInt_lt v)⟩
/-! the ranges that all cells keep -/
abbrev top : Int × Int := (-2147483648, 2147483647)
def rgNow (j : Nat) : Int × Int := if j = 1 then (0, 23) else if 2 ≤ j ∧ j ≤ 5 then (0, 12) else if 6 ≤ j ∧ j < 150 then (-1, 99) else if j = 150 then (0, 60) else top
def rg (k j : Nat) : Int × Int := match k with
  | 0 => (match j with | 14 => (0, 4) | 15 => (0, 1) | _ => top)
  | 1 => (match j with | 0 => (0, 400) | 2 => (0, 400) | _ => top)
  | 2 => (-128, 127)
  | 3 => (match j with | 0 => (0, 4) | _ => top)
  | 8 => (match j with | 0 => (0, 4) | _ => top)
  | 13 => (match j with | 0 => (0, 4) | _ => top)
  | 4 => (0, 3) | 9 => (0, 3) | 14 => (0, 3)
  | 5 => (0, 12) | 10 => (0, 12) | 15 => (0, 12)
  | 6 => (0, 3) | 11 => (0, 3) | 16 => (0, 3)
  | 18 => (match j with | 0 => (0, 20736) | 2 => (0, 4) | _ => top)
  | 29 => (match j with | 0 => (0, 20736) | 2 => (0, 4) | _ => top)
  | 20 => (0, 3) | 31 => (0, 3)
  | 26 => (0, 48) | 37 => (0, 48)
  | 27 => (0, 48) | 38 => (0, 48)
  | 28 => (0, 48) | 39 => (0, 48)
  | 44 => (match j with | 1 => (0, 99) | 2 => (0, 100) | _ => top)
  | 46 => (match j with | 1 => (0, 99) | 2 => (0, 100) | _ => top)
  | 48 => (match j with | 0 => (0, 40) | 2 => (0, 39) | _ => top)
  | 51 => (match j with | 0 => (0, 12) | _ => top)
  | 54 => (match j with | 0 => (0, 12) | _ => top)
  | 56 => (match j with | 0 => (0, 12) | _ => top)
  | 58 => (match j with | 0 => (0, 12) | _ => top)
  | 60 => (match j with | 0 => (0, 12) | _ => top)
  | 62 => (match j with | 2 => (0, 400) | 3 => (0, 400) | 4 => (-1, 400) | 9 => (0, 4) | 12 => (0, 4) | 17 => (0, 4) | 19 => (0, 4) | 26 => (0, 20736) | 29 => (0, 40) | 42 => (0, 1) | _ => top)
  | 63 => (-1, 255)
  | 64 => (0, 3) | 65 => (0, 3) | 66 => (0, 12) | 67 => (-1, 99)
  | 69 => (0, 12)
  | 70 => rgNow j
  | 72 => (0, 3) | 73 => (0, 3) | 74 => (0, 3)
  | 75 => (-1, 99) | 76 => (-1, 99) | 77 => (0, 12) | 78 => (0, 12) | 80 => (-1, 99)
  | 81 => rgNow (j % 331)
  | 83 => (0, 100) | 84 => (0, 100) | 85 => (0, 1)
  | 88 => rgNow j
  | 89 => rgNow j
  | _ => top
/-- the ranges hold, and the other object's cells (b: those from 62 on) are as in I0 -/
def MI (b : Bool) (I0 I : gM) : Prop := (∀ k j, (rg k j).1 ≤ (I k j).toInt ∧ (I k j).toInt ≤ (rg k j).2) ∧ ∀ k, Nat.ble 62 k = b → I k = I0 k
theorem MI.at {b : Bool} {I0 I : gM} (h : MI b I0 I) {k j : Nat} {lo hi : Int} (e : rg k j = (lo, hi)) : lo ≤ (I k j).toInt ∧ (I k j).toInt ≤ hi := by
  have q := h.1 k j
  rw [e] at q; exact q
theorem MI.up {b : Bool} {I0 I : gM} (h : MI b I0 I) {k j : Nat} {v : Int32} {lo hi : Int} (hk : Nat.ble 62 k = !b) (e : rg k j = (lo, hi)) (h1 : lo ≤ v.toInt) (h2 : v.toInt ≤ hi) : MI b I0 (g_up I k j v) := by
  refine ⟨fun k' j' => ?_, fun k' q => ?_⟩
  · by_cases c : k' = k ∧ j' = j
    · rw [c.1, c.2, g_up_self, e]; exact ⟨h1, h2⟩
    · rw [g_up_ne (by by_cases d : k' = k; exact Or.inr (fun z => c ⟨d, z⟩); exact Or.inl d)]; exact h.1 k' j'
  · rw [g_up_row (fun z => by subst z; rw [hk] at q; cases b <;> cases q)]; exact h.2 k' q
theorem t_rI {b : Bool} {I0 I : gM} {α : Type} {k n : Nat} {i : Int32} {f : Int32 → Option α} {Q : α → Prop} {x lo hi : Int} (h : MI b I0 I) (hr : ∀ j, j < n → rg k j = (lo, hi)) (hi' : i.toInt = x) (h0 : 0 ≤ x) (h1 : x < (n : Int)) (K : ∀ v, v = I k x.toNat → lo ≤ v.toInt ∧ v.toInt ≤ hi → T (f v) Q) : T ((rI n (I k) i).bind f) Q := by
  subst hi'
  rw [show rI n (I k) i = some (I k i.toInt.toNat) from if_pos ⟨h0, h1⟩]
  exact K _ rfl (h.at (hr _ (by omega)))
/-- a place whose range is its own -/
theorem t_rJ {b : Bool} {I0 I : gM} {α : Type} {k n : Nat} {i : Int32} {f : Int32 → Option α} {Q : α → Prop} {x lo hi : Int} (h : MI b I0 I) (hi' : i.toInt = x) (h0 : 0 ≤ x) (h1 : x < (n : Int)) (hr : rg k x.toNat = (lo, hi)) (K : ∀ v, v = I k x.toNat → lo ≤ v.toInt ∧ v.toInt ≤ hi → T (f v) Q) : T ((rI n (I k) i).bind f) Q := by
  subst hi'
  rw [show rI n (I k) i = some (I k i.toInt.toNat) from if_pos ⟨h0, h1⟩]
  exact K _ rfl (h.at hr)
theorem t_wI {b : Bool} {I0 I : gM} {α : Type} {k n : Nat} {i v : Int32} {f : gM → Option α} {Q : α → Prop} {x lo hi : Int} (h : MI b I0 I) (hk : Nat.ble 62 k = !b) (hr : ∀ j, j < n → rg k j = (lo, hi)) (hi' : i.toInt = x) (h0 : 0 ≤ x) (h1 : x < (n : Int)) (hv : lo ≤ v.toInt ∧ v.toInt ≤ hi) (K : ∀ I', I' = g_up I k x.toNat v → MI b I0 I' → T (f I') Q) : T ((wI I k n i v).bind f) Q := by
  subst hi'
  rw [show wI I k n i v = some (g_up I k i.toInt.toNat v) from if_pos ⟨h0, h1⟩]
  exact K _ rfl (h.up hk (hr _ (by omega)) hv.1 hv.2)
theorem t_wJ {b : Bool} {I0 I : gM} {α : Type} {k n : Nat} {i v : Int32} {f : gM → Option α} {Q : α → Prop} {x lo hi : Int} (h : MI b I0 I) (hk : Nat.ble 62 k = !b) (hi' : i.toInt = x) (h0 : 0 ≤ x) (h1 : x < (n : Int)) (hr : rg k x.toNat = (lo, hi)) (hv : lo ≤ v.toInt ∧ v.toInt ≤ hi) (K : ∀ I', I' = g_up I k x.toNat v → MI b I0 I' → T (f I') Q) : T ((wI I k n i v).bind f) Q := by
  subst hi'
  rw [show wI I k n i v = some (g_up I k i.toInt.toNat v) from if_pos ⟨h0, h1⟩]
  exact K _ rfl (h.up hk hr hv.1 hv.2)
theorem t_pU {b : Bool} {I0 I : gM} {α : Type} {k j : Nat} {v : Int32} {f : gM → Option α} {Q : α → Prop} {lo hi : Int} (h : MI b I0 I) (hk : Nat.ble 62 k = !b) (hr : rg k j = (lo, hi)) (hv : lo ≤ v.toInt ∧ v.toInt ≤ hi) (K : ∀ I', I' = g_up I k j v → MI b I0 I' → T (f I') Q) : T ((pU I k j v).bind f) Q :=
  K _ rfl (h.up hk hr hv.1 hv.2)
theorem t_cp {b : Bool} {I0 I : gM} {α : Type} {k0 n0 k1 n1 : Nat} {sp dp n : Int32} {f : gM → Option α} {Q : α → Prop} (h : MI b I0 I) (hk : Nat.ble 62 k1 = !b) (hr : ∀ i j, rg k0 i = rg k1 j) (hc : 0 ≤ sp.toInt ∧ 0 ≤ dp.toInt ∧ 0 ≤ n.toInt ∧ sp.toInt + n.toInt ≤ (n0 : Int) ∧ dp.toInt + n.toInt ≤ (n1 : Int))
    (K : ∀ I', I' = (fun k j => if k = k1 then va_cpy (I k0) (I k1) sp.toInt.toNat dp.toInt.toNat n.toInt.toNat j else I k j) → MI b I0 I' → T (f I') Q) : T ((cpI I k0 n0 k1 n1 sp dp n).bind f) Q := by
  rw [show cpI I k0 n0 k1 n1 sp dp n = some _ from if_pos hc]
  refine K _ rfl ⟨fun k' j' => ?_, fun k' q => ?_⟩
  · by_cases c : k' = k1
    · subst c
      dsimp only
      rw [if_pos rfl]
      unfold va_cpy
      split
      · rw [← hr (sp.toInt.toNat + (j' - dp.toInt.toNat)) j']; exact h.1 k0 _
      · exact h.1 k' j'
    · dsimp only
      rw [if_neg c]; exact h.1 k' j'
  · funext j'
    dsimp only
    rw [if_neg (fun z => by subst z; rw [hk] at q; cases b <;> cases q), h.2 k' q]
theorem t_rA {α : Type} {i : Int32} {f : Nat → Option α} {Q : α → Prop} {x : Int} (hi' : i.toInt = x) (h0 : 0 ≤ x) (h1 : x < 4) (K : ∀ k, k = 54 + 2 * x.toNat → T (f k) Q) : T ((rA 4 i).bind f) Q := by
  subst hi'
  rw [show rA 4 i = some (54 + 2 * i.toInt.toNat) from if_pos ⟨h0, h1⟩]
  exact K _ rfl
theorem t_bO {α : Type} {v : Int32} {f : Int32 → Option α} {Q : α → Prop} (h : 0 ≤ v.toInt ∧ v.toInt ≤ 1) (K : T (f v) Q) : T ((bO v).bind f) Q := by
  have : v = 0 ∨ v = 1 := by
    rcases (by omega : v.toInt = 0 ∨ v.toInt = 1) with q | q
    · exact Or.inl (Int32.toInt_inj.mp q)
    · exact Or.inr (Int32.toInt_inj.mp q)
  rw [show bO v = some v from if_pos this]
  exact K
theorem and_b (a : Int32) {c : Int32} (hc : c = 127 ∨ c = 1 ∨ c = 255 ∨ c = 31) : 0 ≤ (a &&& c).toInt ∧ (a &&& c).toInt ≤ c.toInt := by
  have h : (a &&& c).toInt = ((a.toUInt32 &&& c.toUInt32).toNat : Int) ∧ (a.toUInt32 &&& c.toUInt32).toNat ≤ c.toUInt32.toNat := by
    have h1 : (a.toUInt32 &&& c.toUInt32).toNat ≤ c.toUInt32.toNat := by rw [UInt32.toNat_and]; exact Nat.and_le_right
    refine ⟨?_, h1⟩
    have h2 : c.toUInt32.toNat ≤ 255 := by rcases hc with rfl | rfl | rfl | rfl <;> decide
    show ((a &&& c).toUInt32.toBitVec).toInt = _
    rw [BitVec.toInt_eq_toNat_of_lt]
    · rfl
    · have : (a &&& c).toUInt32.toBitVec.toNat = (a.toUInt32 &&& c.toUInt32).toNat := rfl
      omega
  have h3 : (c.toUInt32.toNat : Int) = c.toInt := by rcases hc with rfl | rfl | rfl | rfl <;> decide
  omega
/-! what is known of an object of which there are several -/
def kX5 (k : Nat) : Prop := 3 ≤ k ∧ k + 4 < 18 ∧ rg k 0 = (0, 4) ∧ rg k 1 = top ∧ rg k 2 = top ∧ (∀ j, rg (k + 1) j = (0, 3)) ∧ (∀ j, rg (k + 2) j = (0, 12)) ∧ (∀ j, rg (k + 3) j = (0, 3)) ∧ (∀ j, rg (k + 4) j = top)
def kX1 (k : Nat) : Prop := 18 ≤ k ∧ k + 10 < 40 ∧ rg k 0 = (0, 20736) ∧ rg k 1 = top ∧ rg k 2 = (0, 4) ∧ (∀ j, rg (k + 1) j = top) ∧ (∀ j, rg (k + 2) j = (0, 3)) ∧ (∀ j, rg (k + 3) j = top) ∧ (∀ j, rg (k + 4) j = top) ∧ (∀ j, rg (k + 5) j = top) ∧ (∀ j, rg (k + 6) j = top) ∧ (∀ j, rg (k + 7) j = top) ∧ (∀ j, rg (k + 8) j = (0, 48)) ∧ (∀ j, rg (k + 9) j = (0, 48)) ∧ (∀ j, rg (k + 10) j = (0, 48))
def kX2 (k : Nat) : Prop := 44 ≤ k ∧ k + 1 < 48 ∧ rg k 1 = (0, 99) ∧ rg k 2 = (0, 100) ∧ (∀ j, rg (k + 1) j = top)
def kX4 (k : Nat) : Prop := 51 ≤ k ∧ k + 1 < 62 ∧ rg k 0 = (0, 12) ∧ (∀ j, rg (k + 1) j = top)
theorem kX5_3 : kX5 3 := ⟨by decide, by decide, rfl, rfl, rfl, fun _ => rfl, fun _ => rfl, fun _ => rfl, fun _ => rfl⟩
theorem kX5_8 : kX5 8 := ⟨by decide, by decide, rfl, rfl, rfl, fun _ => rfl, fun _ => rfl, fun _ => rfl, fun _ => rfl⟩
theorem kX5_13 : kX5 13 := ⟨by decide, by decide, rfl, rfl, rfl, fun _ => rfl, fun _ => rfl, fun _ => rfl, fun _ => rfl⟩
theorem kX1_18 : kX1 18 := ⟨by decide, by decide, rfl, rfl, rfl, fun _ => rfl, fun _ => rfl, fun _ => rfl, fun _ => rfl, fun _ => rfl, fun _ => rfl, fun _ => rfl, fun _ => rfl, fun _ => rfl, fun _ => rfl⟩
theorem kX1_29 : kX1 29 := ⟨by decide, by decide, rfl, rfl, rfl, fun _ => rfl, fun _ => rfl, fun _ => rfl, fun _ => rfl, fun _ => rfl, fun _ => rfl, fun _ => rfl, fun _ => rfl, fun _ => rfl, fun _ => rfl⟩
theorem kX2_44 : kX2 44 := ⟨by decide, by decide, rfl, rfl, fun _ => rfl⟩
theorem kX2_46 : kX2 46 := ⟨by decide, by decide, rfl, rfl, fun _ => rfl⟩
theorem kX4_51 : kX4 51 := ⟨by decide, by decide, rfl, fun _ => rfl⟩
theorem kX4_at {k : Nat} {x : Int} (h0 : 0 ≤ x) (h1 : x < 4) (h : k = 54 + 2 * x.toNat) : kX4 k := by
  rcases (by omega : k = 54 ∨ k = 56 ∨ k = 58 ∨ k = 60) with rfl | rfl | rfl | rfl <;> exact ⟨by decide, by decide, rfl, fun _ => rfl⟩
theorem ble_lt {k : Nat} (h : k < 62) : Nat.ble 62 k = !true := by
  cases e : Nat.ble 62 k with
  | false => rfl
  | true => have := Nat.le_of_ble_eq_true e; omega
theorem tX {a b : Int32} {x y : Int} (ha : a.toInt = x) (hb : b.toInt = y) : (mX a b).toInt = max x y := by
  unfold mX
  by_cases h : a < b
  · rw [if_pos h, hb]; have := (iLT ha hb).mp h; omega
  · rw [if_neg h, ha]; have := mt (iLT ha hb).mpr h; omega
theorem tN {a b : Int32} {x y : Int} (ha : a.toInt = x) (hb : b.toInt = y) : (mN a b).toInt = min x y := by
  unfold mN
  by_cases h : b < a
  · rw [if_pos h, hb]; have := (iLT hb ha).mp h; omega
  · rw [if_neg h, ha]; have := mt (iLT hb ha).mpr h; omega
theorem tD {a b : Int32} {x y : Int} (ha : a.toInt = x) (hb : b.toInt = y) (h0 : 0 ≤ x) (h1 : 0 < y) : (a / b).toInt = x / y := by
  rw [Int32.toInt_div, ha, hb, Int.tdiv_eq_ediv_of_nonneg h0]
  have h2 : x / y ≤ x := Int.ediv_le_self y h0
  have h3 : 0 ≤ x / y := Int.ediv_nonneg h0 (by omega)
  have h4 := Int32.toInt_lt a
  exact Int.bmod_eq_of_le (by omega) (by omega)
theorem tR {a b : Int32} {x y : Int} (ha : a.toInt = x) (hb : b.toInt = y) (h0 : 0 ≤ x) (h1 : 0 < y) : (iR a b).toInt = x % y := by
  have hd := tD ha hb h0 h1
  have h2 : 0 ≤ x / y := Int.ediv_nonneg h0 (by omega)
  have h5 : y * (x / y) + x % y = x := Int.mul_ediv_add_emod x y
  have h6 : 0 ≤ x % y := Int.emod_nonneg x (by omega)
  have h7 : x / y * y = y * (x / y) := Int.mul_comm _ _
  have h8 : 0 ≤ y * (x / y) := Int.mul_nonneg (by omega) h2
  have h4 := Int32.toInt_lt a
  have hm := tM hd hb (by omega) (by omega)
  have hs := tS ha hm (by omega) (by omega)
  unfold iR
  rw [hs]; omega
theorem t_el {α β γ : Type} {f : α → Option γ} {g : β → Option γ} {a : α} {Q : γ → Prop} (h : T (f a) Q) : T (Sum.elim f g (.inl a)) Q := h
theorem t_er {α β γ : Type} {f : α → Option γ} {g : β → Option γ} {a : β} {Q : γ → Prop} (h : T (g a) Q) : T (Sum.elim f g (.inr a)) Q := h
/-- a row of ints filled -/
theorem t_fill {b : Bool} {I0 : gM} (k0 n0 : Nat) (v1 : Int32) (I : gM) {lo hi : Int} (hM : MI b I0 I) (hk : Nat.ble 62 k0 = !b) (hr : ∀ j, j < n0 → rg k0 j = (lo, hi)) (hn : n0 < 2 ^ 31) (hv : lo ≤ v1.toInt ∧ v1.toInt ≤ hi) : T (fJ7_fill_53178 k0 n0 v1 I) (fun r => MI b I0 r ∧ (∀ k, k ≠ k0 → r k = I k) ∧ ∀ j, j < n0 → r k0 j = v1) := by
  unfold fJ7_fill_53178 lJ7_fill_53178_5
  refine t_bind (t_it (P := fun s => 0 ≤ s.1.toInt ∧ s.1.toInt ≤ (n0 : Int) ∧ MI b I0 s.2 ∧ (∀ k, k ≠ k0 → s.2 k = I k) ∧ ∀ j : Nat, (j : Int) < s.1.toInt → s.2 k0 j = v1) (μ := fun s => (2147483648 - s.1.toInt).toNat) (Q := fun r => MI b I0 r ∧ (∀ k, k ≠ k0 → r k = I k) ∧ ∀ j, j < n0 → r k0 j = v1) (fun s p => ?_) ⟨by show 0 ≤ (0 : Int32).toInt; decide, Int.le_trans (Int.le_of_eq (by decide : (0 : Int32).toInt = 0)) (Int.natCast_nonneg _), hM, fun _ _ => rfl, fun j h => by have : (j : Int) < 0 := h; omega⟩) (fun r p => t_ret p)
  obtain ⟨p1, p2, p3, p4, p5⟩ := p
  refine t_ite (fun c => ?_) (fun c => ?_)
  · have c1 := (iLE (a := nI n0) (b := s.1) (tnI hn) rfl).mp c
    exact t_ret (show MI b I0 s.2 ∧ (∀ k, k ≠ k0 → s.2 k = I k) ∧ ∀ j, j < n0 → s.2 k0 j = v1 from ⟨p3, p4, fun j h => p5 j (by omega)⟩)
  · have c1 := mt (iLE (a := nI n0) (b := s.1) (tnI hn) rfl).mpr c
    refine t_wI p3 hk hr rfl p1 (by omega) hv (fun I' e hM' => ?_)
    have n1 : (s.1 + 1).toInt = s.1.toInt + 1 := tA rfl (by decide) (by omega) (by omega)
    refine t_ret (show _ ∧ _ from ⟨⟨by show 0 ≤ (s.1 + 1).toInt; omega, by show (s.1 + 1).toInt ≤ (n0 : Int); omega, hM', fun k h => ?_, fun j h => ?_⟩, by show (2147483648 - (s.1 + 1).toInt).toNat < (2147483648 - s.1.toInt).toNat; omega⟩)
    · show I' k = I k
      rw [e, g_up_row h]; exact p4 k h
    · show I' k0 j = v1
      have h : (j : Int) < (s.1 + 1).toInt := h
      rw [e]
      by_cases q : j = s.1.toInt.toNat
      · rw [q, g_up_self]
      · rw [g_up_ne (Or.inr q)]; exact p5 j (by omega)
theorem t_fill2 {b : Bool} {I0 : gM} (k0 n0 : Nat) (v1 v2 v3 : Int32) (I : gM) {lo hi x y : Int} (hM : MI b I0 I) (hk : Nat.ble 62 k0 = !b) (hr : ∀ j, j < n0 → rg k0 j = (lo, hi)) (hn : n0 < 2 ^ 31) (hv : lo ≤ v3.toInt ∧ v3.toInt ≤ hi) (h1 : v1.toInt = x) (h2 : v2.toInt = y) (h0 : 0 ≤ x) (hxy : x ≤ y) (hyn : y ≤ (n0 : Int)) : T (fJ7_fill_fda19 k0 n0 v1 v2 v3 I) (fun r => MI b I0 r ∧ (∀ k, k ≠ k0 → r k = I k) ∧ ∀ j : Nat, r k0 j = if x ≤ (j : Int) ∧ (j : Int) < y then v3 else I k0 j) := by
  unfold fJ7_fill_fda19 fJ7_rangeCheck_23922
  rw [if_pos ((iLE h1 h2).mpr hxy), if_pos ((iLE (by decide : (0 : Int32).toInt = 0) h1).mpr h0), if_pos ((iLE h2 (tnI hn)).mpr hyn)]
  show T ((lJ7_fill_fda19_10 k0 n0 v2 v3 (v1, I)).bind fun w3 => some w3) _
  unfold lJ7_fill_fda19_10
  refine t_bind (t_it (P := fun s => x ≤ s.1.toInt ∧ s.1.toInt ≤ y ∧ MI b I0 s.2 ∧ (∀ k, k ≠ k0 → s.2 k = I k) ∧ ∀ j : Nat, s.2 k0 j = if x ≤ (j : Int) ∧ (j : Int) < s.1.toInt then v3 else I k0 j) (μ := fun s => (2147483648 - s.1.toInt).toNat) (Q := fun r => MI b I0 r ∧ (∀ k, k ≠ k0 → r k = I k) ∧ ∀ j : Nat, r k0 j = if x ≤ (j : Int) ∧ (j : Int) < y then v3 else I k0 j) (fun s p => ?_) ⟨by show x ≤ v1.toInt; omega, by show v1.toInt ≤ y; omega, hM, fun _ _ => rfl, fun j => by show I k0 j = if x ≤ (j : Int) ∧ (j : Int) < v1.toInt then v3 else I k0 j; rw [if_neg (by omega)]⟩) (fun r p => t_ret p)
  obtain ⟨p1, p2, p3, p4, p5⟩ := p
  refine t_ite (fun c => ?_) (fun c => ?_)
  · have c1 := (iLE (a := v2) (b := s.1) h2 rfl).mp c
    have e : s.1.toInt = y := by omega
    exact t_ret (show MI b I0 s.2 ∧ (∀ k, k ≠ k0 → s.2 k = I k) ∧ ∀ j : Nat, s.2 k0 j = if x ≤ (j : Int) ∧ (j : Int) < y then v3 else I k0 j from ⟨p3, p4, fun j => by rw [p5 j, e]⟩)
  · have c1 := mt (iLE (a := v2) (b := s.1) h2 rfl).mpr c
    refine t_wI p3 hk hr rfl (by omega) (by omega) hv (fun I' e hM' => ?_)
    have n1 : (s.1 + 1).toInt = s.1.toInt + 1 := tA rfl (by decide) (by omega) (by omega)
    refine t_ret (show _ ∧ _ from ⟨⟨by show x ≤ (s.1 + 1).toInt; omega, by show (s.1 + 1).toInt ≤ y; omega, hM', fun k h => ?_, fun j => ?_⟩, by show (2147483648 - (s.1 + 1).toInt).toNat < (2147483648 - s.1.toInt).toNat; omega⟩)
    · show I' k = I k
      rw [e, g_up_row h]; exact p4 k h
    · show I' k0 j = if x ≤ (j : Int) ∧ (j : Int) < (s.1 + 1).toInt then v3 else I k0 j
      rw [e, n1]
      by_cases q : j = s.1.toInt.toNat
      · rw [q, g_up_self, if_pos (by omega)]
      · rw [g_up_ne (Or.inr q), p5 j]
        by_cases z : x ≤ (j : Int) ∧ (j : Int) < s.1.toInt
        · rw [if_pos z, if_pos (by omega)]
        · rw [if_neg z, if_neg (by omega)]
theorem t_blk {α : Type} {i : Int32} {f : Int32 → Option α} {Q : α → Prop} {x : Int} (hi' : i.toInt = x) (h0 : 0 ≤ x) (h1 : x < 4) (K : ∀ v, v = blk x.toNat → 1 ≤ v.toInt ∧ v.toInt ≤ 6 → T (f v) Q) : T ((rI 4 blk i).bind f) Q := by
  subst hi'
  rw [show rI 4 blk i = some (blk i.toInt.toNat) from if_pos ⟨h0, h1⟩]
  refine K _ rfl ?_
  rcases (by omega : i.toInt.toNat = 0 ∨ i.toInt.toNat = 1 ∨ i.toInt.toNat = 2 ∨ i.toInt.toNat = 3) with q | q | q | q <;> rw [q] <;> decide
theorem t_pJ {α : Type} {J : gN} {k j : Nat} {v : Int64} {f : gN → Option α} {Q : α → Prop} (K : ∀ J', T (f J') Q) : T ((pU J k j v).bind f) Q := K _
theorem t_dV {α : Type} {a b : Int32} {f : Int32 → Option α} {Q : α → Prop} {x y : Int} (ha : a.toInt = x) (hb : b.toInt = y) (h0 : 0 ≤ x) (h1 : 0 < y) (K : ∀ v, v.toInt = x / y → T (f v) Q) : T ((dV a b).bind f) Q := by
  have hn : ¬ b = 0 := fun h => by have := (iEQ hb (by decide : (0 : Int32).toInt = 0)).mp h; omega
  rw [show dV a b = some (a / b) from if_neg hn]
  exact K _ (tD ha hb h0 h1)
theorem t_rM {α : Type} {a b : Int32} {f : Int32 → Option α} {Q : α → Prop} {x y : Int} (ha : a.toInt = x) (hb : b.toInt = y) (h0 : 0 ≤ x) (h1 : 0 < y) (K : ∀ v, v.toInt = x % y → T (f v) Q) : T ((rM a b).bind f) Q := by
  have hn : ¬ b = 0 := fun h => by have := (iEQ hb (by decide : (0 : Int32).toInt = 0)).mp h; omega
  rw [show rM a b = some (iR a b) from if_neg hn]
  exact K _ (tR ha hb h0 h1)
theorem t_dV0 {α : Type} {a b : Int32} {f : Int32 → Option α} {Q : α → Prop} {y : Int} (hb : b.toInt = y) (h1 : 0 < y) (K : ∀ v, T (f v) Q) : T ((dV a b).bind f) Q := by
  have hn : ¬ b = 0 := fun h => by have := (iEQ hb (by decide : (0 : Int32).toInt = 0)).mp h; omega
  rw [show dV a b = some (a / b) from if_neg hn]
  exact K _
theorem t_rM0 {α : Type} {a b : Int32} {f : Int32 → Option α} {Q : α → Prop} {y : Int} (hb : b.toInt = y) (h1 : 0 < y) (K : ∀ v, T (f v) Q) : T ((rM a b).bind f) Q := by
  have hn : ¬ b = 0 := fun h => by have := (iEQ hb (by decide : (0 : Int32).toInt = 0)).mp h; omega
  rw [show rM a b = some (iR a b) from if_neg hn]
  exact K _
theorem vb_b (x : Int32) : (-128 : Int) ≤ (vp_nar .byte x).toInt ∧ (vp_nar .byte x).toInt ≤ 127 := by
  show (-128 : Int) ≤ (x.toInt8.toInt32).toInt ∧ (x.toInt8.toInt32).toInt ≤ 127
  rw [Int8.toInt_toInt32]
  have h1 := Int8.le_toInt x.toInt8
  have h2 := Int8.toInt_lt x.toInt8
  omega
theorem t_lM {α : Type} {a b : Int64} {f : Int64 → Option α} {Q : α → Prop} (h : ¬ b = 0) (K : ∀ v, v = a - a / b * b → T (f v) Q) : T ((lM a b).bind f) Q := by
  rw [show lM a b = some (a - a / b * b) from if_neg h]
  exact K _ rfl
theorem i64_ne {v : Int32} (h : ¬ v.toInt = 0) : ¬ v.toInt64 = 0 := fun q => h (by
  have e := congrArg Int64.toInt q
  rw [Int32.toInt_toInt64] at e
  exact e)
theorem tfX8_draw (v1 : Int32) (J : gN) : T (fX8_draw v1 J) (fun _ => True) := by
  unfold fX8_draw
  refine t_pJ (fun J1 => ?_)
  refine t_ite (fun c => ?_) (fun c => ?_)
  · exact t_ret trivial
  · have c1 := mt (iLE (a := v1) (b := (0 : Int32)) rfl (by decide : (0 : Int32).toInt = 0)).mpr c
    exact t_lM (i64_ne (by omega)) (fun u2 _ => t_ret trivial)
theorem rgMany {x : Int} (h1 : 2 ≤ x) (h2 : x ≤ 5) : rgNow x.toNat = (0, 12) := by
  unfold rgNow
  rw [if_neg (by omega), if_pos (by omega)]
theorem rgRow {x : Int} (h1 : 6 ≤ x) (h2 : x ≤ 149) : rgNow x.toNat = (-1, 99) := by
  unfold rgNow
  rw [if_neg (by omega), if_neg (by omega), if_pos (by omega)]
theorem rgLog {x : Int} (h1 : 151 ≤ x) : rgNow x.toNat = top := by
  unfold rgNow
  rw [if_neg (by omega), if_neg (by omega), if_neg (by omega), if_neg (by omega)]
