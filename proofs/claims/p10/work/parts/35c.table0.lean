theorem t_T8 {I0 I : gM} (hM : MI true I0 I) (v1 v2 : Int32) : T (fT8 v1 v2 I) (fun _ => True) := by
  unfold fT8
  have q0 := hM.at (k := 3) (j := 0) (lo := 0) (hi := 4) rfl
  refine t_bindE (tfX5_isTable 3 v1 I kX5_3 hM) (fun r e p => ?_)
  refine t_ite (fun c => t_ret trivial) (fun c => ?_)
  have c' := mt (iEQ (a := r) (b := (0 : Int32)) rfl (by decide : (0 : Int32).toInt = 0)).mpr c
  have pv := p.2.resolve_left c'
  refine t_ite (fun _ => t_ret trivial) (fun c2 => ?_)
  refine t_ite (fun c3 => ?_) (fun _ => t_ret trivial)
  refine t_ite (fun _ => ?_) (fun _ => ?_)
  · rw [nI_self (x := v1) (by omega)]
    exact t_be (rI_n (by omega) (by omega)) (t_ret trivial)
  refine t_ite (fun _ => ?_) (fun _ => ?_)
  · exact t_bind (tfX5_lettersOf 3 v1 I kX5_3 hM (by omega)) (fun _ _ => t_ret trivial)
  refine t_ite (fun _ => ?_) (fun _ => ?_)
  · rw [nI_self (x := v1) (by omega)]
    exact t_be (rI_n (by omega) (by omega)) (t_ret trivial)
  · exact t_bind (tfX5_isUsed 3 v1 I kX5_3 hM) (fun _ _ => t_ite (fun _ => t_ret trivial) (fun _ => t_ret trivial))
theorem both_table {I : gM} (h : Inv0 I) (v1 v2 : Int32) : ∃ y b, fT8 v1 v2 I = some y ∧ fX9_table v1 v2 I = some b ∧ Inv0 b.2 := by
  obtain ⟨y, e1, _⟩ := t_T8 h.1 v1 v2
  obtain ⟨b, e2, hMb⟩ := tfX9_table v1 v2 I h.1.re
  have f9 := xfX9_table _ _ _ e2
  have hAb : A9 b.2 := h.2.1.same (f9 62 17 (Or.inr (by decide))) (f9 62 29 (Or.inr (by decide))) (f9 62 42 (Or.inr (by decide))) (fun k hk => funext fun j => f9 k j (Or.inl (by omega)))
  exact ⟨y, b, e1, e2, h.id8 hMb hAb (f9 62 2 (Or.inr (by decide))) (f9 62 12 (Or.inr (by decide))) (fun j => f9 63 j (Or.inl (by decide)))⟩
theorem rgNow_0 (j : Nat) : (rgNow j).1 ≤ 0 ∧ 0 ≤ (rgNow j).2 := by
  unfold rgNow
  repeat' split
  all_goals exact ⟨by decide, by decide⟩
theorem rg_0 (k j : Nat) : (rg k j).1 ≤ 0 ∧ 0 ≤ (rg k j).2 := by
  unfold rg
  split <;> first | exact rgNow_0 _ | exact ⟨by decide, by decide⟩ | (split <;> exact ⟨by decide, by decide⟩)
theorem mi_g0 : MI true g0 g0 := ⟨fun k j => rg_0 k j, fun _ _ => rfl⟩
theorem a9_g0 : A9 g0 := ⟨fun t ht => absurd ht (Nat.not_lt_zero t), fun a ha => absurd ha (Nat.not_lt_zero a), fun h => absurd rfl h⟩
theorem inv0_g0 : Inv0 g0 := ⟨mi_g0, a9_g0, ⟨0, by decide, rfl, rfl, fun j hj => absurd hj (Nat.not_lt_zero j)⟩, rfl⟩
