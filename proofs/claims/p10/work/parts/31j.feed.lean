/-! feed: the signs of five words, class and reference -/
/-- a word's four signs -/
def bw (v : Int32) : List Int32 := [(v >>> ((24 : Int32) &&& 31)) &&& 255, (v >>> ((16 : Int32) &&& 31)) &&& 255, (v >>> ((8 : Int32) &&& 31)) &&& 255, (v >>> ((0 : Int32) &&& 31)) &&& 255]
def nz (l : List Int32) : List Int32 := l.filter (fun b => decide (b ≠ 0))
theorem nz_app {a b : List Int32} : nz (a ++ b) = nz a ++ nz b := List.filter_append _ _
theorem nz_0 {b : Int32} (h : b = 0) : nz [b] = [] := by subst h; rfl
theorem nz_1 {b : Int32} (h : ¬ b = 0) : nz [b] = [b] := by unfold nz; rw [List.filter_cons, if_pos (by simpa using h)]; rfl
theorem nz_take {l : List Int32} {k : Nat} (h : k < l.length) : nz (l.take (k + 1)) = nz (l.take k) ++ nz [l.getD k 0] := by
  rw [← nz_app]
  congr 1
  rw [List.take_succ, List.getD_eq_getElem?_getD, List.getElem?_eq_getElem h]; rfl
def by5 (v1 v2 v3 v4 v5 : Int32) : List Int32 := bw v1 ++ (bw v2 ++ (bw v3 ++ (bw v4 ++ bw v5)))
theorem by5_len {v1 v2 v3 v4 v5 : Int32} : (by5 v1 v2 v3 v4 v5).length = 20 := rfl
theorem n_byteOf (v1 v2 v3 v4 v5 : Int32) {k : Nat} (h : k < 20) : fX9_byteOf v1 v2 v3 v4 v5 (nI k) = some ((by5 v1 v2 v3 v4 v5).getD k 0) := by
  unfold fX9_byteOf bX9_byteOf_45
  rcases (show k = 0 ∨ k = 1 ∨ k = 2 ∨ k = 3 ∨ k = 4 ∨ k = 5 ∨ k = 6 ∨ k = 7 ∨ k = 8 ∨ k = 9 ∨ k = 10 ∨ k = 11 ∨ k = 12 ∨ k = 13 ∨ k = 14 ∨ k = 15 ∨ k = 16 ∨ k = 17 ∨ k = 18 ∨ k = 19 by omega) with rfl | rfl | rfl | rfl | rfl | rfl | rfl | rfl | rfl | rfl | rfl | rfl | rfl | rfl | rfl | rfl | rfl | rfl | rfl | rfl
  · rw [if_neg (by decide), show (((24 : Int32) - ((8 : Int32) * (iR (nI 0) 4))) &&& 31) = (24 : Int32) &&& 31 by decide +kernel]; rfl
  · rw [if_neg (by decide), show (((24 : Int32) - ((8 : Int32) * (iR (nI 1) 4))) &&& 31) = (16 : Int32) &&& 31 by decide +kernel]; rfl
  · rw [if_neg (by decide), show (((24 : Int32) - ((8 : Int32) * (iR (nI 2) 4))) &&& 31) = (8 : Int32) &&& 31 by decide +kernel]; rfl
  · rw [if_neg (by decide), show (((24 : Int32) - ((8 : Int32) * (iR (nI 3) 4))) &&& 31) = (0 : Int32) &&& 31 by decide +kernel]; rfl
  · rw [if_pos (by decide), if_neg (by decide), show (((24 : Int32) - ((8 : Int32) * (iR (nI 4) 4))) &&& 31) = (24 : Int32) &&& 31 by decide +kernel]; rfl
  · rw [if_pos (by decide), if_neg (by decide), show (((24 : Int32) - ((8 : Int32) * (iR (nI 5) 4))) &&& 31) = (16 : Int32) &&& 31 by decide +kernel]; rfl
  · rw [if_pos (by decide), if_neg (by decide), show (((24 : Int32) - ((8 : Int32) * (iR (nI 6) 4))) &&& 31) = (8 : Int32) &&& 31 by decide +kernel]; rfl
  · rw [if_pos (by decide), if_neg (by decide), show (((24 : Int32) - ((8 : Int32) * (iR (nI 7) 4))) &&& 31) = (0 : Int32) &&& 31 by decide +kernel]; rfl
  · rw [if_pos (by decide), if_pos (by decide), if_neg (by decide), show (((24 : Int32) - ((8 : Int32) * (iR (nI 8) 4))) &&& 31) = (24 : Int32) &&& 31 by decide +kernel]; rfl
  · rw [if_pos (by decide), if_pos (by decide), if_neg (by decide), show (((24 : Int32) - ((8 : Int32) * (iR (nI 9) 4))) &&& 31) = (16 : Int32) &&& 31 by decide +kernel]; rfl
  · rw [if_pos (by decide), if_pos (by decide), if_neg (by decide), show (((24 : Int32) - ((8 : Int32) * (iR (nI 10) 4))) &&& 31) = (8 : Int32) &&& 31 by decide +kernel]; rfl
  · rw [if_pos (by decide), if_pos (by decide), if_neg (by decide), show (((24 : Int32) - ((8 : Int32) * (iR (nI 11) 4))) &&& 31) = (0 : Int32) &&& 31 by decide +kernel]; rfl
  · rw [if_pos (by decide), if_pos (by decide), if_pos (by decide), if_neg (by decide), show (((24 : Int32) - ((8 : Int32) * (iR (nI 12) 4))) &&& 31) = (24 : Int32) &&& 31 by decide +kernel]; rfl
  · rw [if_pos (by decide), if_pos (by decide), if_pos (by decide), if_neg (by decide), show (((24 : Int32) - ((8 : Int32) * (iR (nI 13) 4))) &&& 31) = (16 : Int32) &&& 31 by decide +kernel]; rfl
  · rw [if_pos (by decide), if_pos (by decide), if_pos (by decide), if_neg (by decide), show (((24 : Int32) - ((8 : Int32) * (iR (nI 14) 4))) &&& 31) = (8 : Int32) &&& 31 by decide +kernel]; rfl
  · rw [if_pos (by decide), if_pos (by decide), if_pos (by decide), if_neg (by decide), show (((24 : Int32) - ((8 : Int32) * (iR (nI 15) 4))) &&& 31) = (0 : Int32) &&& 31 by decide +kernel]; rfl
  · rw [if_pos (by decide), if_pos (by decide), if_pos (by decide), if_pos (by decide), show (((24 : Int32) - ((8 : Int32) * (iR (nI 16) 4))) &&& 31) = (24 : Int32) &&& 31 by decide +kernel]; rfl
  · rw [if_pos (by decide), if_pos (by decide), if_pos (by decide), if_pos (by decide), show (((24 : Int32) - ((8 : Int32) * (iR (nI 17) 4))) &&& 31) = (16 : Int32) &&& 31 by decide +kernel]; rfl
  · rw [if_pos (by decide), if_pos (by decide), if_pos (by decide), if_pos (by decide), show (((24 : Int32) - ((8 : Int32) * (iR (nI 18) 4))) &&& 31) = (8 : Int32) &&& 31 by decide +kernel]; rfl
  · rw [if_pos (by decide), if_pos (by decide), if_pos (by decide), if_pos (by decide), show (((24 : Int32) - ((8 : Int32) * (iR (nI 19) 4))) &&& 31) = (0 : Int32) &&& 31 by decide +kernel]; rfl
/-- signs written behind the n first ones -/
def wt (w : Nat → Int32) (n : Nat) (l : List Int32) : Nat → Int32 := fun a => if n ≤ a ∧ a < n + l.length then l.getD (a - n) 0 else w a
theorem wt_nil {w : Nat → Int32} {n a : Nat} : wt w n [] a = w a := by unfold wt; rw [if_neg (by simp only [List.length_nil]; omega)]
theorem wt_snoc {w : Nat → Int32} {n a : Nat} {l : List Int32} {b : Int32} : wt w n (l ++ [b]) a = if a = n + l.length then b else wt w n l a := by
  unfold wt
  rw [show (l ++ [b]).length = l.length + 1 by rw [List.length_append]; rfl]
  by_cases d : a = n + l.length
  · rw [if_pos d, if_pos (by omega), d, Nat.add_sub_cancel_left, List.getD_eq_getElem?_getD, List.getElem?_append_right (Nat.le_refl _), Nat.sub_self]; rfl
  · rw [if_neg d]
    by_cases d2 : n ≤ a ∧ a < n + l.length
    · rw [if_pos d2, if_pos (by omega), List.getD_eq_getElem?_getD, List.getD_eq_getElem?_getD, List.getElem?_append_left (by omega)]
    · rw [if_neg d2, if_neg (by omega)]
/-- the memory with signs behind the tape: length at (o, x), signs in y -/
def fe (o x y : Nat) (I : gM) (n : Nat) (l : List Int32) : gM := fun k j => if k = o ∧ j = x then nI (n + l.length) else if k = y then wt (I y) n l j else I k j
theorem fe_nil {o x y : Nat} {I : gM} {n : Nat} (e : I o x = nI n) : fe o x y I n [] = I := by
  funext k j
  unfold fe
  by_cases c : k = o ∧ j = x
  · rw [if_pos c, c.1, c.2, e]; rfl
  · rw [if_neg c]
    by_cases d : k = y
    · rw [if_pos d, wt_nil, d]
    · rw [if_neg d]
theorem fe_len {o x y : Nat} {I : gM} {n : Nat} {l : List Int32} : fe o x y I n l o x = nI (n + l.length) := by unfold fe; rw [if_pos ⟨rfl, rfl⟩]
theorem fe_snoc {o x y : Nat} (hy : y ≠ o) {I : gM} {n : Nat} {l : List Int32} {b : Int32} : g_up (g_up (fe o x y I n l) y (n + l.length) b) o x (nI (n + l.length + 1)) = fe o x y I n (l ++ [b]) := by
  funext k j
  by_cases c : k = o ∧ j = x
  · rw [c.1, c.2, g_up_self, fe_len, List.length_append]; rfl
  · rw [g_up_ne (by omega)]
    by_cases d : k = y
    · subst d
      rw [gu_in]
      unfold fe
      rw [if_neg c, if_neg c, if_pos rfl, if_pos rfl, wt_snoc]
    · rw [g_up_row d]
      unfold fe
      rw [if_neg c, if_neg c, if_neg d, if_neg d]
theorem n_feed9 (v1 v2 v3 v4 v5 : Int32) {I : gM} {n : Nat} (hn : n ≤ 400) (e : I 62 2 = nI n) : fX9_feed v1 v2 v3 v4 v5 I = some (if n + (nz (by5 v1 v2 v3 v4 v5)).length ≤ 400 then (nI (n + (nz (by5 v1 v2 v3 v4 v5)).length), fe 62 2 63 I n (nz (by5 v1 v2 v3 v4 v5))) else (-1, I)) := by
  generalize hL : by5 v1 v2 v3 v4 v5 = L
  have l20 : L.length = 20 := by rw [← hL]; rfl
  have hb : ∀ k, k < 20 → fX9_byteOf v1 v2 v3 v4 v5 (nI k) = some (L.getD k 0) := fun k hk => by rw [← hL]; exact n_byteOf v1 v2 v3 v4 v5 hk
  have tl : L.take 20 = L := List.take_of_length_le (by omega)
  have s20 : ∀ k, (nz (L.take k)).length ≤ k := fun k => Nat.le_trans (List.length_filter_le _ _) (List.length_take_le _ _)
  have key : T (lX9_feed_6 v1 v2 v3 v4 v5 (nI 0, nI 0)) (fun r => r = nI (nz L).length) := by
    unfold lX9_feed_6
    refine t_it (P := fun s => ∃ k, k ≤ 20 ∧ s.2 = nI k ∧ s.1 = nI (nz (L.take k)).length) (μ := fun s => 30 - s.2.toInt.toNat) (fun s p => ?_) ⟨0, by omega, rfl, rfl⟩
    obtain ⟨s1, s2⟩ := s
    obtain ⟨k, hk, e2, e1⟩ := p
    dsimp only at e1 e2
    subst e1; subst e2
    dsimp only
    refine t_ite (fun c => ?_) (fun c => ?_)
    · have c := (nI_leI (a := 20) (b := k) (by omega) (by omega)).mp c
      have : k = 20 := by omega
      subst this
      rw [tl]
      exact t_ret rfl
    · have c := mt (nI_leI (a := 20) (b := k) (by omega) (by omega)).mpr c
      have ht := nz_take (l := L) (k := k) (by omega)
      have := s20 k
      refine t_be (hb k (by omega)) ?_
      have mu : 30 - (nI (k + 1)).toInt.toNat < 30 - (nI k).toInt.toNat := by rw [nIt (by omega), nIt (by omega)]; omega
      refine t_ite (fun z => ?_) (fun z => ?_)
      · unfold bX9_feed_35
        rw [nI_1]
        rw [nz_0 z, List.append_nil] at ht
        refine t_nx ?_ mu
        refine ⟨k + 1, by omega, rfl, ?_⟩
        dsimp only
        rw [ht, L0, nI_add, Nat.add_zero]
      · unfold bX9_feed_35
        rw [nI_1, nI_1]
        rw [nz_1 z] at ht
        refine t_nx ?_ mu
        refine ⟨k + 1, by omega, rfl, ?_⟩
        dsimp only
        rw [ht, List.length_append]; rfl
  have key2 : n + (nz L).length ≤ 400 → T (lX9_feed_62 v1 v2 v3 v4 v5 (nI 0, I)) (fun r => r = fe 62 2 63 I n (nz L)) := by
    intro h400
    have sl : ∀ k, (nz (L.take k)).length ≤ (nz L).length := fun k => by
      have q : nz L = nz (L.take k) ++ nz (L.drop k) := by rw [← nz_app, List.take_append_drop]
      rw [q, List.length_append]; omega
    unfold lX9_feed_62
    refine t_it (P := fun s => ∃ k, k ≤ 20 ∧ s.1 = nI k ∧ s.2 = fe 62 2 63 I n (nz (L.take k))) (μ := fun s => 30 - s.1.toInt.toNat) (fun s p => ?_) ⟨0, by omega, rfl, (fe_nil e).symm⟩
    obtain ⟨s1, s2⟩ := s
    obtain ⟨k, hk, e1, e2⟩ := p
    dsimp only at e1 e2
    subst e1; subst e2
    dsimp only
    refine t_ite (fun c => ?_) (fun c => ?_)
    · have c := (nI_leI (a := 20) (b := k) (by omega) (by omega)).mp c
      have : k = 20 := by omega
      subst this
      rw [tl]
      exact t_ret rfl
    · have c := mt (nI_leI (a := 20) (b := k) (by omega) (by omega)).mpr c
      have ht := nz_take (l := L) (k := k) (by omega)
      refine t_be (hb k (by omega)) ?_
      have mu : 30 - (nI (k + 1)).toInt.toNat < 30 - (nI k).toInt.toNat := by rw [nIt (by omega), nIt (by omega)]; omega
      refine t_ite (fun z => ?_) (fun z => ?_)
      · unfold bX9_feed_109
        rw [nI_1]
        rw [nz_0 z, List.append_nil] at ht
        refine t_nx ?_ mu
        exact ⟨k + 1, by omega, rfl, by dsimp only; rw [ht]⟩
      · rw [nz_1 z] at ht
        have q1 := sl (k + 1)
        rw [ht, List.length_append] at q1
        have q2 : [L.getD k 0].length = 1 := rfl
        have e0 : fe 62 2 63 I n (nz (L.take k)) 62 2 = nI (n + (nz (L.take k)).length) := fe_len
        refine t_be ((congrArg (fun i => wI (fe 62 2 63 I n (nz (L.take k))) 63 400 i (L.getD k 0)) e0).trans (wI_n (by omega) (by omega))) ?_
        refine t_be pU_n ?_
        rw [g_up_row (by decide), e0, nI_1, fe_snoc (by decide)]
        unfold bX9_feed_109
        rw [nI_1]
        refine t_nx ?_ mu
        exact ⟨k + 1, by omega, rfl, by dsimp only; rw [ht]⟩
  unfold fX9_feed
  obtain ⟨w, ew, rfl⟩ := key
  rw [show ((0 : Int32), (0 : Int32)) = (nI 0, nI 0) from rfl, ew, obs, e, nI_add]
  have := s20 20
  rw [tl] at this
  by_cases c : n + (nz L).length ≤ 400
  · rw [L400, if_pos ((nI_leI (by omega) (by omega)).mpr c), if_pos c]
    obtain ⟨r, er, rfl⟩ := key2 c
    rw [show ((0 : Int32), I) = (nI 0, I) from rfl, er, obs, fe_len]
  · rw [L400, if_neg (mt (nI_leI (by omega) (by omega)).mp c), if_neg c]
