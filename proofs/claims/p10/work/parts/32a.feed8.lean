/-! feed of the class -/
def bc (b : Int32) : Int32 := vp_nar .byte b.toInt8.toInt32
theorem c_in1 {v σ : Int32} {m : Nat} (h : ¬ σ < 0) : lX6_bytesIn_5 v (nI m, σ) = lX6_bytesIn_5 v (nI (m + (nz [(v >>> (σ &&& 31)) &&& 255]).length), σ + (-8)) := by
  conv => lhs; unfold lX6_bytesIn_5
  rw [itO_eq]; dsimp only
  rw [if_neg h]
  by_cases c : (v >>> (σ &&& 31)) &&& 255 = 0
  · rw [if_pos c, nz_0 c]
    unfold bX6_bytesIn_22
    rw [obs]; rfl
  · rw [if_neg c, nz_1 c, nI_1]
    unfold bX6_bytesIn_22
    rw [obs]; rfl
theorem c_bytesIn (v : Int32) : fX6_bytesIn v = some (nI (nz (bw v)).length) := by
  unfold fX6_bytesIn
  rw [show ((0 : Int32), (24 : Int32)) = (nI 0, 24) from rfl, c_in1 (by decide), show (24 : Int32) + (-8) = 16 by decide, c_in1 (by decide), show (16 : Int32) + (-8) = 8 by decide, c_in1 (by decide), show (8 : Int32) + (-8) = 0 by decide, c_in1 (by decide), show (0 : Int32) + (-8) = -8 by decide]
  unfold lX6_bytesIn_5
  rw [itO_eq]; dsimp only
  rw [if_pos (by decide), obs]
  show some (nI _) = some (nI _)
  congr 2
  have e : bw v = [(v >>> ((24 : Int32) &&& 31)) &&& 255] ++ ([(v >>> ((16 : Int32) &&& 31)) &&& 255] ++ ([(v >>> ((8 : Int32) &&& 31)) &&& 255] ++ [(v >>> ((0 : Int32) &&& 31)) &&& 255])) := rfl
  rw [e, nz_app, nz_app, nz_app, List.length_append, List.length_append, List.length_append]
  omega
theorem c_ap1 {I : gM} {v σ : Int32} {n : Nat} {l : List Int32} (h : ¬ σ < 0) (h4 : n + l.length + (nz [(v >>> (σ &&& 31)) &&& 255]).length ≤ 400) :
    lX6_append_3 v (σ, fe 1 0 2 I n (l.map bc)) = lX6_append_3 v (σ + (-8), fe 1 0 2 I n ((l ++ nz [(v >>> (σ &&& 31)) &&& 255]).map bc)) := by
  conv => lhs; unfold lX6_append_3
  rw [itO_eq]; dsimp only
  rw [if_neg h]
  have lm : (l.map bc).length = l.length := List.length_map _
  by_cases c : (v >>> (σ &&& 31)) &&& 255 = 0
  · rw [if_pos c, nz_0 c, List.append_nil]
    unfold bX6_append_50
    rw [obs]; rfl
  · rw [nz_1 c] at h4 ⊢
    have h5 : n + l.length + 1 ≤ 400 := h4
    have e0 : fe 1 0 2 I n (l.map bc) 1 0 = nI (n + (l.map bc).length) := fe_len
    rw [if_neg c, if_neg (show ¬ (400 : Int32) ≤ fe 1 0 2 I n (l.map bc) 1 0 by rw [e0, L400, lm]; exact mt (nI_leI (by omega) (by omega)).mp (by omega)), e0, wI_n (by rw [lm]; omega) (by omega), obs, pU_n, obs, g_up_row (show 1 ≠ 2 by decide), e0, nI_1, fe_snoc (by decide)]
    unfold bX6_append_50
    rw [obs, List.map_append]; rfl
theorem c_append {I : gM} {v : Int32} {n : Nat} {l : List Int32} (h : n + l.length + (nz (bw v)).length ≤ 400) : fX6_append v (fe 1 0 2 I n (l.map bc)) = some (fe 1 0 2 I n ((l ++ nz (bw v)).map bc)) := by
  have e : bw v = [(v >>> ((24 : Int32) &&& 31)) &&& 255] ++ ([(v >>> ((16 : Int32) &&& 31)) &&& 255] ++ ([(v >>> ((8 : Int32) &&& 31)) &&& 255] ++ [(v >>> ((0 : Int32) &&& 31)) &&& 255])) := rfl
  rw [e, nz_app, nz_app, nz_app, List.length_append, List.length_append, List.length_append] at h
  unfold fX6_append
  rw [c_ap1 (by decide) (by omega), show (24 : Int32) + (-8) = 16 by decide, c_ap1 (by decide) (by rw [List.length_append]; omega), show (16 : Int32) + (-8) = 8 by decide, c_ap1 (by decide) (by rw [List.length_append, List.length_append]; omega), show (8 : Int32) + (-8) = 0 by decide, c_ap1 (by decide) (by rw [List.length_append, List.length_append, List.length_append]; omega), show (0 : Int32) + (-8) = -8 by decide]
  unfold lX6_append_3
  rw [itO_eq]; dsimp only
  rw [if_pos (by decide), obs]
  show some _ = some _
  congr 2
  rw [e, nz_app, nz_app, nz_app, List.append_assoc, List.append_assoc, List.append_assoc]
theorem n_feed8 (v1 v2 v3 v4 v5 : Int32) {I : gM} {n : Nat} (hn : n ≤ 400) (e : I 1 0 = nI n) : fX8_feed v1 v2 v3 v4 v5 I = some (if n + (nz (by5 v1 v2 v3 v4 v5)).length ≤ 400 then (nI (n + (nz (by5 v1 v2 v3 v4 v5)).length), fe 1 0 2 I n ((nz (by5 v1 v2 v3 v4 v5)).map bc)) else (-1, I)) := by
  have el : nz (by5 v1 v2 v3 v4 v5) = nz (bw v1) ++ (nz (bw v2) ++ (nz (bw v3) ++ (nz (bw v4) ++ nz (bw v5)))) := by
    unfold by5; rw [nz_app, nz_app, nz_app, nz_app]
  have l4 : ∀ v, (nz (bw v)).length ≤ 4 := fun v => List.length_filter_le _ _
  have q1 := l4 v1
  have q2 := l4 v2
  have q3 := l4 v3
  have q4 := l4 v4
  have q5 := l4 v5
  unfold fX8_feed
  rw [c_bytesIn, obs, c_bytesIn, obs, c_bytesIn, obs, c_bytesIn, obs, c_bytesIn, obs, e, nI_add, nI_add, nI_add, nI_add, nI_add, el, List.length_append, List.length_append, List.length_append, List.length_append]
  by_cases c : n + ((nz (bw v1)).length + ((nz (bw v2)).length + ((nz (bw v3)).length + ((nz (bw v4)).length + (nz (bw v5)).length)))) ≤ 400
  · rw [L400, if_pos ((nI_leI (by omega) (by omega)).mpr (by omega)), if_pos c]
    have e0 : I = fe 1 0 2 I n (([] : List Int32).map bc) := (fe_nil e).symm
    conv => lhs; rw [e0]
    rw [c_append (by simp only [List.length_nil]; omega), obs, List.nil_append, c_append (by omega), obs, c_append (by rw [List.length_append]; omega), obs, c_append (by rw [List.length_append, List.length_append]; omega), obs, c_append (by rw [List.length_append, List.length_append, List.length_append]; omega), obs, fe_len, List.length_map, List.append_assoc, List.append_assoc, List.append_assoc, List.length_append, List.length_append, List.length_append, List.length_append]
  · rw [L400, if_neg (mt (nI_leI (by omega) (by omega)).mp (by omega)), if_neg c]
/-- the two tapes hold the same signs -/
def TPR (I : gM) : Prop := ∃ n, n ≤ 400 ∧ I 1 0 = nI n ∧ I 62 2 = nI n ∧ ∀ j, j < n → I 2 j = bc (I 63 j) ∧ 1 ≤ (I 63 j).toInt ∧ (I 63 j).toInt ≤ 255
theorem bw_rg {v b : Int32} (h : b ∈ nz (bw v)) : 1 ≤ b.toInt ∧ b.toInt ≤ 255 := by
  obtain ⟨h1, h2⟩ := List.mem_filter.mp h
  have h2 : b ≠ 0 := by simpa using h2
  have q : 0 ≤ b.toInt ∧ b.toInt ≤ 255 := by
    have g : ∀ a : Int32, 0 ≤ (a &&& 255).toInt ∧ (a &&& 255).toInt ≤ 255 := fun a => and_b a (Or.inr (Or.inr (Or.inl rfl)))
    rcases List.mem_cons.mp h1 with rfl | h1
    · exact g _
    rcases List.mem_cons.mp h1 with rfl | h1
    · exact g _
    rcases List.mem_cons.mp h1 with rfl | h1
    · exact g _
    rcases List.mem_cons.mp h1 with rfl | h1
    · exact g _
    · cases h1
  have : b.toInt ≠ 0 := fun e => h2 ((iEQ rfl (by decide : (0 : Int32).toInt = 0)).mpr e)
  omega
theorem by5_rg {v1 v2 v3 v4 v5 b : Int32} (h : b ∈ nz (by5 v1 v2 v3 v4 v5)) : 1 ≤ b.toInt ∧ b.toInt ≤ 255 := by
  unfold by5 at h
  rw [nz_app, nz_app, nz_app, nz_app] at h
  rcases List.mem_append.mp h with h | h
  · exact bw_rg h
  rcases List.mem_append.mp h with h | h
  · exact bw_rg h
  rcases List.mem_append.mp h with h | h
  · exact bw_rg h
  rcases List.mem_append.mp h with h | h
  · exact bw_rg h
  · exact bw_rg h
theorem fe_k {o x y : Nat} {I : gM} {n : Nat} {l : List Int32} {k : Nat} (h1 : k ≠ o) (h2 : k ≠ y) : fe o x y I n l k = I k := by
  funext j
  unfold fe
  rw [if_neg (fun z => h1 z.1), if_neg h2]
theorem fe_j {o x y : Nat} (hy : y ≠ o) {I : gM} {n : Nat} {l : List Int32} {j : Nat} (h : j ≠ x) : fe o x y I n l o j = I o j := by
  unfold fe
  rw [if_neg (fun z => h z.2), if_neg (fun z => hy z.symm)]
theorem fe_y {o x y : Nat} (hy : y ≠ o) {I : gM} {n : Nat} {l : List Int32} : fe o x y I n l y = wt (I y) n l := by
  funext j
  unfold fe
  rw [if_neg (fun z => hy z.1), if_pos rfl]
/-- both are fed: the answers are the same, and the tapes stay the same -/
theorem feed_both (v1 v2 v3 v4 v5 : Int32) {I : gM} (hR : TPR I) : ∃ v A B, fX8_feed v1 v2 v3 v4 v5 I = some (v, A) ∧ fX9_feed v1 v2 v3 v4 v5 A = some (v, B) ∧ TPR B ∧ (∀ q, q ≠ 1 → q ≠ 2 → q ≠ 62 → q ≠ 63 → B q = I q) ∧ (∀ j, j ≠ 0 → B 1 j = I 1 j) ∧ ∀ j, j ≠ 2 → B 62 j = I 62 j := by
  obtain ⟨n, hn, e1, e2, h⟩ := hR
  have a1 := n_feed8 v1 v2 v3 v4 v5 hn e1
  by_cases c : n + (nz (by5 v1 v2 v3 v4 v5)).length ≤ 400
  · rw [if_pos c] at a1
    have a2 := n_feed9 v1 v2 v3 v4 v5 (I := fe 1 0 2 I n ((nz (by5 v1 v2 v3 v4 v5)).map bc)) hn (by rw [fe_k (by decide) (by decide)]; exact e2)
    rw [if_pos c] at a2
    refine ⟨_, _, _, a1, a2, ⟨n + (nz (by5 v1 v2 v3 v4 v5)).length, c, ?_, fe_len, fun j hj => ?_⟩, fun q q1 q2 q3 q4 => ?_, fun j hj => ?_, fun j hj => ?_⟩
    · rw [fe_k (by decide) (by decide), fe_len, List.length_map]
    · rw [fe_k (show 2 ≠ 62 by decide) (by decide), fe_y (show 2 ≠ 1 by decide), fe_y (show 63 ≠ 62 by decide), fe_k (show 63 ≠ 1 by decide) (by decide)]
      unfold wt
      rw [List.length_map]
      by_cases d : n ≤ j ∧ j < n + (nz (by5 v1 v2 v3 v4 v5)).length
      · have d2 : j - n < (nz (by5 v1 v2 v3 v4 v5)).length := by omega
        rw [if_pos d, if_pos d, List.getD_eq_getElem?_getD, List.getD_eq_getElem?_getD, List.getElem?_map, List.getElem?_eq_getElem d2]
        exact ⟨rfl, by5_rg (List.getElem_mem d2)⟩
      · rw [if_neg d, if_neg d]
        exact h j (by omega)
    · rw [fe_k q3 q4, fe_k q1 q2]
    · rw [fe_k (by decide) (by decide), fe_j (by decide) hj]
    · rw [fe_j (by decide) hj, fe_k (by decide) (by decide)]
  · rw [if_neg c] at a1
    have a2 := n_feed9 v1 v2 v3 v4 v5 hn e2
    rw [if_neg c] at a2
    exact ⟨_, _, _, a1, a2, ⟨n, hn, e1, e2, h⟩, fun _ _ _ _ _ => rfl, fun _ _ => rfl, fun _ _ => rfl⟩
