theorem it_l {σ ρ : Type} {step : σ → Option (σ ⊕ ρ)} {s s' : σ} (h : step s = some (.inl s')) : itO step s = itO step s' := by rw [itO_eq, h]; rfl
theorem it_r {σ ρ : Type} {step : σ → Option (σ ⊕ ρ)} {s : σ} {r : ρ} (h : step s = some (.inr r)) : itO step s = some r := by rw [itO_eq, h]; rfl
/-! rows as numbers: seven bits for each column, the first one the highest -/
theorem fa_or (a b : Nat) : nI a ||| nI b = nI (a ||| b) := by
  apply Int32.toBitVec_inj.1
  show BitVec.ofNat 32 a ||| BitVec.ofNat 32 b = BitVec.ofNat 32 (a ||| b)
  apply BitVec.eq_of_getLsbD_eq
  intro i hi
  simp [hi]
theorem fa_or_sum {a k : Nat} (b : Nat) (h : a < 2 ^ k) : nI (2 ^ k * b) ||| nI a = nI (2 ^ k * b + a) := by rw [fa_or, Nat.two_pow_add_eq_or_of_lt h]
def pk3 (x y z : Nat) : Nat := 16384 * x + (128 * y + z)
def dgt (c k : Nat) : Nat := if c = 0 then k / 16384 else if c = 1 then k / 128 % 128 else k % 128
theorem dgt_0 (k : Nat) : dgt 0 k = k / 16384 := rfl
theorem dgt_1 (k : Nat) : dgt 1 k = k / 128 % 128 := rfl
theorem dgt_2 (k : Nat) : dgt 2 k = k % 128 := rfl
theorem dgt_pk {x y z : Nat} (hy : y < 128) (hz : z < 128) : dgt 0 (pk3 x y z) = x ∧ dgt 1 (pk3 x y z) = y ∧ dgt 2 (pk3 x y z) = z := by
  rw [dgt_0, dgt_1, dgt_2]
  unfold pk3
  omega
theorem pk_dgt (k : Nat) : pk3 (dgt 0 k) (dgt 1 k) (dgt 2 k) = k := by
  rw [dgt_0, dgt_1, dgt_2]
  unfold pk3
  omega
/-- a row of a table of wd letters -/
def kOK (wd k : Nat) : Prop := dgt 0 k ≤ 99 ∧ (1 < wd → dgt 1 k ≤ 99) ∧ (wd ≤ 1 → dgt 1 k = 0) ∧ (2 < wd → dgt 2 k ≤ 99) ∧ (wd ≤ 2 → dgt 2 k = 0)
theorem kOK.lt {wd k : Nat} (h : kOK wd k) : k < 2097152 := by
  have := h.1
  rw [dgt_0] at this
  omega
theorem kOK.d {wd k c : Nat} (h : kOK wd k) : dgt c k ≤ 127 := by
  have := h.lt
  unfold dgt
  split
  · omega
  · split <;> omega
/-- the number behind an int, nought if it is less -/
def kn (x : Int32) : Nat := x.toInt.toNat
theorem mX_nn (x : Int32) : mX x 0 = nI (kn x) := by
  unfold mX kn
  by_cases h : x < 0
  · have := (iLT (a := x) (b := 0) rfl (by decide : (0 : Int32).toInt = 0)).mp h
    rw [if_pos h, Int.toNat_of_nonpos (by omega)]; rfl
  · have := mt (iLT (a := x) (b := 0) rfl (by decide : (0 : Int32).toInt = 0)).mpr h
    rw [if_neg h]; exact nI_self (by omega)
def kyz (x y z : Int32) : Nat := pk3 (kn x) (kn y) (kn z)
theorem n_pk {a b c : Nat} (ha : a < 128) (hb : b < 128) (hc : c < 128) : ((nI a <<< 14) ||| (nI b <<< 7)) ||| nI c = nI (pk3 a b c) := by
  rw [pk_shlN 14 14 (by decide) (by omega), pk_shlN 7 7 (by decide) (by omega), show a * 2 ^ 14 = 2 ^ 14 * a by omega, fa_or_sum (k := 14) a (by omega), show 2 ^ 14 * a + b * 2 ^ 7 = 2 ^ 7 * (2 ^ 7 * a + b) by omega, fa_or_sum (k := 7) _ (by omega)]
  congr 1
  unfold pk3
  omega
theorem n_packed {x y z : Int32} (hx : kn x < 128) (hy : kn y < 128) (hz : kn z < 128) : fX5_packed x y z = some (nI (kyz x y z)) := by
  unfold fX5_packed
  rw [mX_nn, mX_nn, mX_nn, n_pk hx hy hz]; rfl
theorem nn_99 {x : Int32} (h : 0 ≤ x.toInt ∧ x.toInt ≤ 99) : kn x ≤ 99 ∧ x = nI (kn x) := ⟨by unfold kn; omega, nI_self h.1⟩
theorem nn_m1 : kn (-1) = 0 := by decide
theorem colOK.kn9 {k w : Nat} {y : Int32} (h : colOK k w y) : (k < w → kn y ≤ 99 ∧ y = nI (kn y)) ∧ (w ≤ k → kn y = 0 ∧ y = -1) :=
  ⟨fun c => nn_99 (h.1 c), fun c => by rw [h.2 c]; exact ⟨nn_m1, rfl⟩⟩
theorem row_k {wd : Nat} {x y z : Int32} (h : rowOK wd x y z) : kOK wd (kyz x y z) ∧ (kn x < 128 ∧ kn y < 128 ∧ kn z < 128) ∧ dgt 0 (kyz x y z) = kn x ∧ dgt 1 (kyz x y z) = kn y ∧ dgt 2 (kyz x y z) = kn z := by
  obtain ⟨h1, h2, h3⟩ := h
  have a := nn_99 h1
  have b := h2.kn9
  have c := h3.kn9
  have b' : kn y ≤ 99 := by
    rcases Nat.lt_or_ge 1 wd with q | q
    · exact (b.1 q).1
    · rw [(b.2 q).1]; decide
  have c' : kn z ≤ 99 := by
    rcases Nat.lt_or_ge 2 wd with q | q
    · exact (c.1 q).1
    · rw [(c.2 q).1]; decide
  obtain ⟨d0, d1, d2⟩ := dgt_pk (x := kn x) (y := kn y) (z := kn z) (by omega) (by omega)
  refine ⟨⟨?_, fun q => ?_, fun q => ?_, fun q => ?_, fun q => ?_⟩, ⟨by omega, by omega, by omega⟩, d0, d1, d2⟩
  · show dgt 0 (pk3 _ _ _) ≤ 99
    rw [d0]; exact a.1
  · show dgt 1 (pk3 _ _ _) ≤ 99
    rw [d1]; exact b'
  · show dgt 1 (pk3 _ _ _) = 0
    rw [d1]; exact (b.2 q).1
  · show dgt 2 (pk3 _ _ _) ≤ 99
    rw [d2]; exact c'
  · show dgt 2 (pk3 _ _ _) = 0
    rw [d2]; exact (c.2 q).1
/-! lists of rows, rising -/
def insA : Nat → Nat → List Nat → List Nat
  | 0, k, l => k :: l
  | i + 1, k, a :: l => a :: insA i k l
  | _ + 1, k, [] => [k]
def delA : Nat → List Nat → List Nat
  | 0, _ :: l => l
  | i + 1, a :: l => a :: delA i l
  | _, [] => []
theorem insA_len {k : Nat} : ∀ {i : Nat} {l : List Nat}, (insA i k l).length = l.length + 1
  | 0, l => rfl
  | i + 1, a :: l => by
    show (insA i k l).length + 1 = l.length + 1 + 1
    rw [insA_len]
  | i + 1, [] => rfl
theorem delA_len : ∀ {i : Nat} {l : List Nat}, i < l.length → (delA i l).length = l.length - 1
  | 0, _ :: l, _ => rfl
  | i + 1, a :: l, h => by
    have h : i + 1 < l.length + 1 := h
    show (delA i l).length + 1 = l.length + 1 - 1
    rw [delA_len (by omega)]; omega
  | 0, [], h => absurd h (Nat.not_lt_zero _)
  | i + 1, [], h => absurd h (Nat.not_lt_zero _)
theorem insA_get {k : Nat} : ∀ {i : Nat} {l : List Nat} (j : Nat), i ≤ l.length → (insA i k l).getD j 0 = if j < i then l.getD j 0 else if j = i then k else l.getD (j - 1) 0
  | 0, l, 0, _ => rfl
  | 0, l, j + 1, _ => rfl
  | i + 1, [], j, h => absurd h (Nat.not_succ_le_zero _)
  | i + 1, a :: l, 0, _ => rfl
  | i + 1, a :: l, j + 1, h => by
    have h : i + 1 ≤ l.length + 1 := h
    show (insA i k l).getD j 0 = _
    rw [insA_get j (by omega)]
    by_cases c1 : j < i
    · rw [if_pos c1, if_pos (by omega)]; rfl
    · rw [if_neg c1, if_neg (show ¬ j + 1 < i + 1 by omega)]
      by_cases c2 : j = i
      · rw [if_pos c2, if_pos (show j + 1 = i + 1 by omega)]
      · rw [if_neg c2, if_neg (show ¬ j + 1 = i + 1 by omega)]
        obtain ⟨j', rfl⟩ : ∃ j', j = j' + 1 := ⟨j - 1, by omega⟩
        rfl
theorem delA_get : ∀ {i : Nat} {l : List Nat} (j : Nat), i < l.length → (delA i l).getD j 0 = if j < i then l.getD j 0 else l.getD (j + 1) 0
  | 0, [], j, h => absurd h (Nat.not_lt_zero _)
  | i + 1, [], j, h => absurd h (Nat.not_lt_zero _)
  | 0, _ :: l, j, _ => rfl
  | i + 1, a :: l, 0, _ => rfl
  | i + 1, a :: l, j + 1, h => by
    have h : i + 1 < l.length + 1 := h
    show (delA i l).getD j 0 = _
    rw [delA_get j (by omega)]
    by_cases c1 : j < i
    · rw [if_pos c1, if_pos (by omega)]; rfl
    · rw [if_neg c1, if_neg (by omega)]; rfl
theorem del_ins {k : Nat} : ∀ {i : Nat} {l : List Nat}, i ≤ l.length → delA i (insA i k l) = l
  | 0, l, _ => rfl
  | i + 1, [], h => absurd h (Nat.not_succ_le_zero _)
  | i + 1, a :: l, h => congrArg (a :: ·) (del_ins (Nat.le_of_succ_le_succ h))
theorem ins_del : ∀ {i : Nat} {l : List Nat}, i < l.length → insA i (l.getD i 0) (delA i l) = l
  | 0, [], h => absurd h (Nat.not_lt_zero _)
  | i + 1, [], h => absurd h (Nat.not_lt_zero _)
  | 0, _ :: l, _ => rfl
  | i + 1, a :: l, h => congrArg (a :: ·) (ins_del (Nat.lt_of_succ_lt_succ h))
def srt (l : List Nat) : Prop := ∀ i j, i < j → j < l.length → l.getD i 0 < l.getD j 0
/-- i rows stand ahead of k -/
def posK (k : Nat) (l : List Nat) (i : Nat) : Prop := i ≤ l.length ∧ (∀ j, j < i → l.getD j 0 < k) ∧ ∀ j, i ≤ j → j < l.length → k ≤ l.getD j 0
theorem posK.eq {k : Nat} {l : List Nat} {i j : Nat} (h : posK k l i) (h' : posK k l j) : i = j := by
  obtain ⟨a1, a2, a3⟩ := h
  obtain ⟨b1, b2, b3⟩ := h'
  rcases Nat.lt_trichotomy i j with q | q | q
  · have := b2 i q
    have := a3 i (Nat.le_refl _) (by omega)
    omega
  · exact q
  · have := a2 j q
    have := b3 j (Nat.le_refl _) (by omega)
    omega
/-- of a list that rises: a place with no less from there on -/
theorem posK.of {k : Nat} {l : List Nat} {i : Nat} (hs : srt l) (h1 : i ≤ l.length) (h2 : ∀ j, j < i → l.getD j 0 < k) (h3 : i < l.length → k ≤ l.getD i 0) : posK k l i := by
  refine ⟨h1, h2, fun j a b => ?_⟩
  have q := h3 (by omega)
  rcases Nat.lt_or_ge i j with c | c
  · have := hs i j c b
    omega
  · rw [show j = i by omega]; exact q
theorem posK.at {k : Nat} {l : List Nat} {i : Nat} (hs : srt l) (hi : i < l.length) (e : l.getD i 0 = k) : posK k l i :=
  posK.of hs (by omega) (fun j hj => by have := hs j i hj hi; omega) (fun _ => by omega)
theorem srt_ins {k : Nat} {l : List Nat} {i : Nat} (hs : srt l) (h : posK k l i) (hn : ¬ (i < l.length ∧ l.getD i 0 = k)) : srt (insA i k l) := by
  obtain ⟨h1, h2, h3⟩ := h
  have h4 : ∀ j, i ≤ j → j < l.length → k < l.getD j 0 := by
    intro j a b
    have := h3 j a b
    rcases Nat.lt_or_ge k (l.getD j 0) with c | c
    · exact c
    · exfalso
      rcases Nat.lt_or_ge i j with d | d
      · have := hs i j d b
        have := h3 i (Nat.le_refl _) (by omega)
        omega
      · have : j = i := by omega
        subst this
        exact hn ⟨b, by omega⟩
  intro a b hab hb
  rw [insA_len] at hb
  rw [insA_get a h1, insA_get b h1]
  by_cases c1 : b < i
  · rw [if_pos (by omega), if_pos c1]; exact hs a b hab (by omega)
  · rw [if_neg c1]
    by_cases c2 : b = i
    · rw [if_pos c2, if_pos (by omega)]; exact h2 a (by omega)
    · rw [if_neg c2]
      by_cases d1 : a < i
      · rw [if_pos d1]
        have := h2 a d1
        have := h4 (b - 1) (by omega) (by omega)
        omega
      · rw [if_neg d1]
        by_cases d2 : a = i
        · rw [if_pos d2]; exact h4 (b - 1) (by omega) (by omega)
        · rw [if_neg d2]; exact hs (a - 1) (b - 1) (by omega) (by omega)
theorem srt_del {l : List Nat} {i : Nat} (hs : srt l) (hi : i < l.length) : srt (delA i l) := by
  intro a b hab hb
  rw [delA_len hi] at hb
  rw [delA_get a hi, delA_get b hi]
  by_cases c1 : b < i
  · rw [if_pos (by omega), if_pos c1]; exact hs a b hab (by omega)
  · rw [if_neg c1]
    by_cases c2 : a < i
    · rw [if_pos c2]; exact hs a (b + 1) (by omega) (by omega)
    · rw [if_neg c2]; exact hs (a + 1) (b + 1) (by omega) (by omega)
theorem getD_mem {l : List Nat} {i : Nat} (h : i < l.length) : l.getD i 0 ∈ l := by
  rw [List.getD_eq_getElem?_getD, List.getElem?_eq_getElem h]; exact List.getElem_mem h
theorem insA_all {P : Nat → Prop} {k i : Nat} {l : List Nat} (hk : P k) (h : ∀ j, j < l.length → P (l.getD j 0)) (hi : i ≤ l.length) : ∀ j, j < (insA i k l).length → P ((insA i k l).getD j 0) := by
  intro j hj
  rw [insA_len] at hj
  rw [insA_get j hi]
  by_cases c1 : j < i
  · rw [if_pos c1]; exact h j (by omega)
  · rw [if_neg c1]
    by_cases c2 : j = i
    · rw [if_pos c2]; exact hk
    · rw [if_neg c2]; exact h (j - 1) (by omega)
theorem delA_all {P : Nat → Prop} {i : Nat} {l : List Nat} (h : ∀ j, j < l.length → P (l.getD j 0)) (hi : i < l.length) : ∀ j, j < (delA i l).length → P ((delA i l).getD j 0) := by
  intro j hj
  rw [delA_len hi] at hj
  rw [delA_get j hi]
  by_cases c1 : j < i
  · rw [if_pos c1]; exact h j (by omega)
  · rw [if_neg c1]; exact h (j + 1) (by omega)
