/-! the calls over the common state, the log's rows apart -/
def InvA2 (I : gM) : Prop := InvA 2 I
theorem invA_g0 (C : Nat) : InvA C g0 := by
  have z : ∀ {P : Prop} {a : Nat}, a < 0 → P := fun h => absurd h (Nat.not_lt_zero _)
  have hW : WF (([], 0, 0) : aT) := ⟨by decide, by decide, fun h => z h, by decide, fun t ht => z ht⟩
  refine ⟨mi_g0, a9_g0, ⟨0, by decide, rfl, rfl, fun j hj => z hj⟩, ⟨rfl, fun s _ hs => z hs⟩, fun _ => ([], 0, 0), 0, 0, ⟨by decide, by decide, rfl, rfl, rfl⟩, fun _ _ => hW, ⟨⟨rfl, rfl, rfl, fun t ht => z ht⟩, ⟨rfl, rfl, rfl, fun t ht => z ht⟩, 0, 0, by decide, by decide, by decide, rfl, rfl, rfl, fun i hi => z (show i < 0 from hi)⟩, fun a ha => z ha, ⟨rfl, fun h => absurd rfl h⟩, fun _ _ => rfl⟩
theorem invA2_g0 : InvA2 g0 := invA_g0 2
theorem al2_put {I : gM} (h : InvA2 I) (v1 v2 v3 v4 : Int32) : ∃ a b, fX8_put v1 v2 v3 v4 I = some a ∧ fX9_put v1 v2 v3 v4 a.2 = some b ∧ InvA2 b.2 ∧ a.1 = b.1 := all_put h (by omega) (fun q => absurd q (by omega)) v1 v2 v3 v4
theorem al2_take {I : gM} (h : InvA2 I) (v1 v2 v3 v4 : Int32) : ∃ a b, fX8_take v1 v2 v3 v4 I = some a ∧ fX9_take v1 v2 v3 v4 a.2 = some b ∧ InvA2 b.2 ∧ a.1 = b.1 := all_take h (by omega) (fun q => absurd q (by omega)) v1 v2 v3 v4
theorem al2_use {I : gM} (h : InvA2 I) (v1 : Int32) : ∃ a b, fX8_use v1 I = some a ∧ fX9_use v1 a.2 = some b ∧ InvA2 b.2 ∧ a.1 = b.1 := all_use h (by omega) (fun q => absurd q (by omega)) v1
theorem al2_order {I : gM} (h : InvA2 I) (v1 : Int32) : ∃ a b, fX8_order v1 I = some a ∧ fX9_order v1 a.2 = some b ∧ InvA2 b.2 ∧ a.1 = b.1 := all_order h (by omega) (fun q => absurd q (by omega)) v1
theorem al2_undo {I : gM} (h : InvA2 I) : ∃ a b, fX8_undo I = some a ∧ fX9_undo a.2 = some b ∧ InvA2 b.2 ∧ a.1 = b.1 := all_undo h (by omega) 
theorem al2_image {I : gM} (h : InvA2 I) : ∃ a b, fX8_image I = some a ∧ fX9_image a.2 = some b ∧ InvA2 b.2 := all_image h (by omega) 
theorem al2_back {I : gM} (h : InvA2 I) : ∃ a b, fX8_back I = some a ∧ fX9_back a.2 = some b ∧ InvA2 b.2 := all_back h (by omega) 
theorem al2_text {I : gM} (h : InvA2 I) (v : Int32) : ∃ a b, fX8_text v I = some a ∧ fX9_text v a.2 = some b ∧ InvA2 b.2 ∧ a.1 = b.1 := all_text h (by omega) v
theorem al2_perform {I : gM} (h : InvA2 I) (v : Int32) : ∃ a b, fX8_perform v I = some a ∧ fX9_perform v a.2 = some b ∧ InvA2 b.2 ∧ a.1 = b.1 := all_perform h (by omega) (fun q => absurd q (by omega)) v
theorem al2_ways {I : gM} (h : InvA2 I) (v1 : Int32) (v2 : Int64) (J : gN) : ∃ a b, fX8_ways v1 v2 I J = some a ∧ fX9_ways v1 v2 a.2.1 a.2.2 = some b ∧ InvA2 b.2.1 := all_ways h (by omega) (fun q => absurd q (by omega)) v1 v2 J
theorem al2_rule {I : gM} (h : InvA2 I) (v : Int32) : ∃ a b, fX8_rule v I = some a ∧ fX9_rule v I = some b ∧ InvA2 I ∧ a = b := all_rule h v
theorem al2_plain {I : gM} (h : InvA2 I) : ∃ a b, fX8_plain I = some a ∧ fX9_plain I = some b ∧ InvA2 I ∧ a = b := all_plain h 
theorem al2_status {I : gM} (h : InvA2 I) (v : Int32) : ∃ a b, fX8_status v I = some a ∧ fX9_status v I = some b ∧ InvA2 I ∧ a = b := all_status h v
theorem al2_count {I : gM} (h : InvA2 I) (v : Int32) : ∃ a b, fX8_count v I = some a ∧ fX9_count v I = some b ∧ InvA2 I ∧ a = b := all_count h v
theorem al2_cell {I : gM} (h : InvA2 I) (v1 v2 v3 : Int32) : ∃ a b, fX8_cell v1 v2 v3 I = some a ∧ fX9_cell v1 v2 v3 I = some b ∧ InvA2 I ∧ a = b := all_cell h v1 v2 v3
theorem al2_step {I : gM} (h : InvA2 I) (v1 v2 v3 : Int32) : ∃ a b, fX8_step v1 v2 v3 I = some a ∧ fX9_step v1 v2 v3 I = some b ∧ InvA2 I ∧ a = b := all_step h v1 v2 v3
theorem al2_tableE {I : gM} (h : InvA2 I) (v1 v2 : Int32) : ∃ y b, fT8 v1 v2 I = some y ∧ fX9_table v1 v2 I = some b ∧ InvA2 b.2 ∧ b.2 62 0 = jr y ∧ ∀ v, y = some v → b.1 = v := all_table h (by omega) v1 v2
theorem al2_table {I : gM} (h : InvA2 I) (v1 v2 : Int32) : ∃ y b, fT8 v1 v2 I = some y ∧ fX9_table v1 v2 I = some b ∧ InvA2 b.2 := by
  obtain ⟨y, b, e1, e2, h2, _⟩ := al2_tableE h v1 v2
  exact ⟨y, b, e1, e2, h2⟩
theorem al2_feed {I : gM} (h : InvA2 I) (v1 v2 v3 v4 v5 : Int32) : ∃ a b, fX8_feed v1 v2 v3 v4 v5 I = some a ∧ fX9_feed v1 v2 v3 v4 v5 a.2 = some b ∧ InvA2 b.2 ∧ a.1 = b.1 := all_feed h (by omega) v1 v2 v3 v4 v5
theorem al2_end {I : gM} (h : InvA2 I) (v : Int32) : ∃ a b, fX8_end v I = some a ∧ fX9_end v a.2 = some b ∧ InvA2 b.2 ∧ a.1 = b.1 := all_end h (by omega) v
theorem al2_fault {I : gM} (h : InvA2 I) (v1 : Int32) : ∃ a b, fX8_fault v1 I = some a ∧ fX9_fault v1 a.2 = some b ∧ InvA2 b.2 := all_fault h (by omega) v1
theorem al2_rows {I : gM} (h : InvA2 I) : ∃ a b, fX8_rows I = some a ∧ fX9_rows I = some b ∧ InvA2 b.2 := all_rows h (by omega) 
theorem al2_row {I : gM} (h : InvA2 I) (v1 : Int32) (v2 : Int32) : ∃ a b, fX8_row v1 v2 I = some a ∧ fX9_row v1 v2 I = some b ∧ InvA2 b.2 := all_row h (by omega) v1 v2
theorem al2_leaps {I : gM} (h : InvA2 I) : ∃ a b, fX8_leaps I = some a ∧ fX9_leaps_ I = some b ∧ InvA2 b.2 := all_leaps h (by omega) 
theorem al2_beginnings {I : gM} (h : InvA2 I) (v1 : Int32) : ∃ a b, fX8_beginnings v1 I = some a ∧ fX9_beginnings v1 I = some b ∧ InvA2 b.2 := all_beginnings h (by omega) v1
theorem al2_best {I : gM} (h : InvA2 I) (v1 : Int32) : ∃ a b, fX8_best v1 I = some a ∧ fX9_best v1 a.2 = some b ∧ InvA2 b.2 := all_best h (by omega) v1
theorem al2_given {I : gM} (h : InvA2 I) (v1 : Int32) : ∃ a b, fX8_given v1 I = some a ∧ fX9_given v1 I = some b ∧ InvA2 b.2 := all_given h (by omega) v1
theorem al2_without {I : gM} (h : InvA2 I) (v1 : Int32) : ∃ a b, fX8_without v1 I = some a ∧ fX9_without v1 a.2 = some b ∧ InvA2 b.2 := all_without h (by omega) v1
theorem al2_projected {I : gM} (h : InvA2 I) (v1 : Int32) : ∃ a b, fX8_projected v1 I = some a ∧ fX9_projected v1 a.2 = some b ∧ InvA2 b.2 := all_projected h (by omega) v1
theorem al2_times {I : gM} (h : InvA2 I) (v1 : Int32) (v2 : Int32) : ∃ a b, fX8_times v1 v2 I = some a ∧ fX9_times v1 v2 a.2 = some b ∧ InvA2 b.2 := all_times h (by omega) v1 v2
theorem al2_distinct {I : gM} (h : InvA2 I) (v1 : Int32) (v2 : Int32) : ∃ a b, fX8_distinct v1 v2 I = some a ∧ fX9_distinct v1 v2 a.2 = some b ∧ InvA2 b.2 := all_distinct h (by omega) v1 v2
theorem al2_tells {I : gM} (h : InvA2 I) (v1 : Int32) (v2 : Int32) : ∃ a b, fX8_tells v1 v2 I = some a ∧ fX9_tells v1 v2 a.2 = some b ∧ InvA2 b.2 := all_tells h (by omega) v1 v2
theorem al2_behind {I : gM} (h : InvA2 I) (v1 : Int32) (v2 : Int32) (v3 : Int32) (v4 : Int32) : ∃ a b, fX8_behind v1 v2 v3 v4 I = some a ∧ fX9_behind v1 v2 v3 v4 I = some b ∧ InvA2 b.2 := all_behind h (by omega) v1 v2 v3 v4
theorem al2_has {I : gM} (h : InvA2 I) (v1 : Int32) (v2 : Int32) (v3 : Int32) (v4 : Int32) : ∃ a b, fX8_has v1 v2 v3 v4 I = some a ∧ fX9_has_ v1 v2 v3 v4 I = some b ∧ InvA2 b.2 := all_has h (by omega) v1 v2 v3 v4
theorem al2_mean {I : gM} (h : InvA2 I) (v1 : Int32) : ∃ a b, fX8_mean v1 I = some a ∧ fX9_mean v1 I = some b ∧ InvA2 b.2 := all_mean h (by omega) v1
theorem al2_meanAs {I : gM} (h : InvA2 I) (v1 : Int32) (v2 : Int32) : ∃ a b, fX8_meanAs v1 v2 I = some a ∧ fX9_meanAs v1 v2 I = some b ∧ InvA2 b.2 := all_meanAs h (by omega) v1 v2
theorem al2_spread {I : gM} (h : InvA2 I) (v1 : Int32) : ∃ a b, fX8_spread v1 I = some a ∧ fX9_spread v1 I = some b ∧ InvA2 b.2 := all_spread h (by omega) v1
theorem al2_skew {I : gM} (h : InvA2 I) (v1 : Int32) : ∃ a b, fX8_skew v1 I = some a ∧ fX9_skew v1 a.2 = some b ∧ InvA2 b.2 := all_skew h (by omega) v1
theorem al2_log {I : gM} (h : InvA2 I) (v1 : Int32) (v2 : Int32) : ∃ a b, fX8_log v1 v2 I = some a ∧ fX9_log v1 v2 I = some b ∧ InvA2 I := all_log h (by omega) v1 v2
theorem al2_would {I : gM} (h : InvA2 I) (v1 : Int32) (v2 : Int32) (v3 : Int32) (v4 : Int32) (v5 : Int32) : ∃ a b, fX8_would v1 v2 v3 v4 v5 I = some a ∧ fX9_would v1 v2 v3 v4 v5 a.2 = some b ∧ InvA2 b.2 := all_would h (by omega) v1 v2 v3 v4 v5
theorem al2_run {I : gM} (h : InvA2 I) (v1 : Int32) (v2 : Int32) : ∃ a b, fX8_run v1 v2 I = some a ∧ fX9_run v1 v2 a.2 = some b ∧ InvA2 b.2 := all_run h (by omega) v1 v2
theorem al2_most {I : gM} (h : InvA2 I) (v1 : Int32) : ∃ a b, fX8_most v1 I = some a ∧ fX9_most v1 a.2 = some b ∧ InvA2 b.2 := all_most h (by omega) v1
