/-! the calls over the whole common state -/
theorem invB_g0 : InvB g0 := ⟨invA_g0 3, ⟨rfl, rfl, fun z => absurd rfl z⟩, fun z => absurd rfl z⟩
theorem alb_put {I : gM} (h : InvB I) (v1 v2 v3 v4 : Int32) : ∃ a b, fX8_put v1 v2 v3 v4 I = some a ∧ fX9_put v1 v2 v3 v4 a.2 = some b ∧ InvB b.2 ∧ a.1 = b.1 := jb_put h v1 v2 v3 v4
theorem alb_take {I : gM} (h : InvB I) (v1 v2 v3 v4 : Int32) : ∃ a b, fX8_take v1 v2 v3 v4 I = some a ∧ fX9_take v1 v2 v3 v4 a.2 = some b ∧ InvB b.2 ∧ a.1 = b.1 := jb_take h v1 v2 v3 v4
theorem alb_use {I : gM} (h : InvB I) (v1 : Int32) : ∃ a b, fX8_use v1 I = some a ∧ fX9_use v1 a.2 = some b ∧ InvB b.2 ∧ a.1 = b.1 := jb_use h v1
theorem alb_order {I : gM} (h : InvB I) (v1 : Int32) : ∃ a b, fX8_order v1 I = some a ∧ fX9_order v1 a.2 = some b ∧ InvB b.2 ∧ a.1 = b.1 := jb_order h v1
theorem alb_undo {I : gM} (h : InvB I) : ∃ a b, fX8_undo I = some a ∧ fX9_undo a.2 = some b ∧ InvB b.2 ∧ a.1 = b.1 := jb_undo h 
theorem alb_image {I : gM} (h : InvB I) : ∃ a b, fX8_image I = some a ∧ fX9_image a.2 = some b ∧ InvB b.2 ∧ a.1 = b.1 := by
  obtain ⟨a, b, e1, e2, h2⟩ := jb_image h 
  exact ⟨a, b, e1, e2, h2, eq_image h e1 e2 h2⟩
theorem alb_back {I : gM} (h : InvB I) : ∃ a b, fX8_back I = some a ∧ fX9_back a.2 = some b ∧ InvB b.2 ∧ a.1 = b.1 := by
  obtain ⟨a, b, e1, e2, h2⟩ := jb_back h 
  exact ⟨a, b, e1, e2, h2, eq_back h e1 e2 h2⟩
theorem alb_text {I : gM} (h : InvB I) (v : Int32) : ∃ a b, fX8_text v I = some a ∧ fX9_text v a.2 = some b ∧ InvB b.2 ∧ a.1 = b.1 := jb_text h v
theorem alb_perform {I : gM} (h : InvB I) (v : Int32) : ∃ a b, fX8_perform v I = some a ∧ fX9_perform v a.2 = some b ∧ InvB b.2 ∧ a.1 = b.1 := jb_perform h v
theorem alb_ways {I : gM} (h : InvB I) (v1 : Int32) (v2 : Int64) (J : gN) : ∃ a b, fX8_ways v1 v2 I J = some a ∧ fX9_ways v1 v2 a.2.1 a.2.2 = some b ∧ InvB b.2.1 ∧ a.1 = b.1 := by
  obtain ⟨a, b, e1, e2, h2⟩ := jb_ways h v1 v2 J
  exact ⟨a, b, e1, e2, h2, eq_ways h e1 e2 h2⟩
theorem alb_rule {I : gM} (h : InvB I) (v : Int32) : ∃ a b, fX8_rule v I = some a ∧ fX9_rule v I = some b ∧ InvB I ∧ a = b := jb_rule h v
theorem alb_plain {I : gM} (h : InvB I) : ∃ a b, fX8_plain I = some a ∧ fX9_plain I = some b ∧ InvB I ∧ a = b := jb_plain h 
theorem alb_status {I : gM} (h : InvB I) (v : Int32) : ∃ a b, fX8_status v I = some a ∧ fX9_status v I = some b ∧ InvB I ∧ a = b := jb_status h v
theorem alb_count {I : gM} (h : InvB I) (v : Int32) : ∃ a b, fX8_count v I = some a ∧ fX9_count v I = some b ∧ InvB I ∧ a = b := jb_count h v
theorem alb_cell {I : gM} (h : InvB I) (v1 v2 v3 : Int32) : ∃ a b, fX8_cell v1 v2 v3 I = some a ∧ fX9_cell v1 v2 v3 I = some b ∧ InvB I ∧ a = b := jb_cell h v1 v2 v3
theorem alb_step {I : gM} (h : InvB I) (v1 v2 v3 : Int32) : ∃ a b, fX8_step v1 v2 v3 I = some a ∧ fX9_step v1 v2 v3 I = some b ∧ InvB I ∧ a = b := jb_step h v1 v2 v3
theorem alb_tableE {I : gM} (h : InvB I) (v1 v2 : Int32) : ∃ y b, fT8 v1 v2 I = some y ∧ fX9_table v1 v2 I = some b ∧ InvB b.2 ∧ b.2 62 0 = jr y ∧ ∀ v, y = some v → b.1 = v := jb_table h v1 v2
theorem alb_table {I : gM} (h : InvB I) (v1 v2 : Int32) : ∃ y b, fT8 v1 v2 I = some y ∧ fX9_table v1 v2 I = some b ∧ InvB b.2 := by
  obtain ⟨y, b, e1, e2, h2, _⟩ := jb_table h v1 v2
  exact ⟨y, b, e1, e2, h2⟩
theorem alb_feed {I : gM} (h : InvB I) (v1 v2 v3 v4 v5 : Int32) : ∃ a b, fX8_feed v1 v2 v3 v4 v5 I = some a ∧ fX9_feed v1 v2 v3 v4 v5 a.2 = some b ∧ InvB b.2 ∧ a.1 = b.1 := jb_feed h v1 v2 v3 v4 v5
theorem alb_end {I : gM} (h : InvB I) (v : Int32) : ∃ a b, fX8_end v I = some a ∧ fX9_end v a.2 = some b ∧ InvB b.2 ∧ a.1 = b.1 := jb_end h v
theorem alb_fault {I : gM} (h : InvB I) (v1 : Int32) : ∃ a b, fX8_fault v1 I = some a ∧ fX9_fault v1 a.2 = some b ∧ InvB b.2 := jb_fault h v1
theorem alb_rows {I : gM} (h : InvB I) : ∃ a b, fX8_rows I = some a ∧ fX9_rows I = some b ∧ InvB b.2 ∧ a = b.1 := by
  obtain ⟨a, b, e1, e2, h2⟩ := jb_rows h 
  exact ⟨a, b, e1, e2, h2, eq_rows h e1 e2⟩
theorem alb_row {I : gM} (h : InvB I) (v1 : Int32) (v2 : Int32) : ∃ a b, fX8_row v1 v2 I = some a ∧ fX9_row v1 v2 I = some b ∧ InvB b.2 ∧ a = b.1 := by
  obtain ⟨a, b, e1, e2, h2⟩ := jb_row h v1 v2
  exact ⟨a, b, e1, e2, h2, eq_row h e1 e2⟩
theorem alb_leaps {I : gM} (h : InvB I) : ∃ a b, fX8_leaps I = some a ∧ fX9_leaps_ I = some b ∧ InvB b.2 ∧ a = b.1 := by
  obtain ⟨a, b, e1, e2, h2⟩ := jb_leaps h 
  exact ⟨a, b, e1, e2, h2, eq_leaps h e1 e2⟩
theorem alb_beginnings {I : gM} (h : InvB I) (v1 : Int32) : ∃ a b, fX8_beginnings v1 I = some a ∧ fX9_beginnings v1 I = some b ∧ InvB b.2 ∧ a = b.1 := by
  obtain ⟨a, b, e1, e2, h2⟩ := jb_beginnings h v1
  exact ⟨a, b, e1, e2, h2, eq_beginnings h e1 e2⟩
theorem alb_best {I : gM} (h : InvB I) (v1 : Int32) : ∃ a b, fX8_best v1 I = some a ∧ fX9_best v1 a.2 = some b ∧ InvB b.2 ∧ a.1 = b.1 := by
  obtain ⟨a, b, e1, e2, h2⟩ := jb_best h v1
  exact ⟨a, b, e1, e2, h2, eq_best h e1 e2⟩
theorem alb_given {I : gM} (h : InvB I) (v1 : Int32) : ∃ a b, fX8_given v1 I = some a ∧ fX9_given v1 I = some b ∧ InvB b.2 ∧ a = b.1 := by
  obtain ⟨a, b, e1, e2, h2⟩ := jb_given h v1
  exact ⟨a, b, e1, e2, h2, eq_given h e1 e2⟩
theorem alb_without {I : gM} (h : InvB I) (v1 : Int32) : ∃ a b, fX8_without v1 I = some a ∧ fX9_without v1 a.2 = some b ∧ InvB b.2 ∧ a.1 = b.1 := by
  obtain ⟨a, b, e1, e2, h2⟩ := jb_without h v1
  exact ⟨a, b, e1, e2, h2, eq_without h e1 e2⟩
theorem alb_projected {I : gM} (h : InvB I) (v1 : Int32) : ∃ a b, fX8_projected v1 I = some a ∧ fX9_projected v1 a.2 = some b ∧ InvB b.2 ∧ a.1 = b.1 := by
  obtain ⟨a, b, e1, e2, h2⟩ := jb_projected h v1
  exact ⟨a, b, e1, e2, h2, eq_projected h e1 e2⟩
theorem alb_times {I : gM} (h : InvB I) (v1 : Int32) (v2 : Int32) : ∃ a b, fX8_times v1 v2 I = some a ∧ fX9_times v1 v2 a.2 = some b ∧ InvB b.2 ∧ a.1 = b.1 := by
  obtain ⟨a, b, e1, e2, h2⟩ := jb_times h v1 v2
  exact ⟨a, b, e1, e2, h2, eq_times h e1 e2⟩
theorem alb_distinct {I : gM} (h : InvB I) (v1 : Int32) (v2 : Int32) : ∃ a b, fX8_distinct v1 v2 I = some a ∧ fX9_distinct v1 v2 a.2 = some b ∧ InvB b.2 ∧ a.1 = b.1 := by
  obtain ⟨a, b, e1, e2, h2⟩ := jb_distinct h v1 v2
  exact ⟨a, b, e1, e2, h2, eq_distinct h e1 e2⟩
theorem alb_tells {I : gM} (h : InvB I) (v1 : Int32) (v2 : Int32) : ∃ a b, fX8_tells v1 v2 I = some a ∧ fX9_tells v1 v2 a.2 = some b ∧ InvB b.2 ∧ a.1 = b.1 := by
  obtain ⟨a, b, e1, e2, h2⟩ := jb_tells h v1 v2
  exact ⟨a, b, e1, e2, h2, eq_tells h e1 e2⟩
theorem alb_behind {I : gM} (h : InvB I) (v1 : Int32) (v2 : Int32) (v3 : Int32) (v4 : Int32) : ∃ a b, fX8_behind v1 v2 v3 v4 I = some a ∧ fX9_behind v1 v2 v3 v4 I = some b ∧ InvB b.2 ∧ a = b.1 := by
  obtain ⟨a, b, e1, e2, h2⟩ := jb_behind h v1 v2 v3 v4
  exact ⟨a, b, e1, e2, h2, eq_behind h e1 e2⟩
theorem alb_has {I : gM} (h : InvB I) (v1 : Int32) (v2 : Int32) (v3 : Int32) (v4 : Int32) : ∃ a b, fX8_has v1 v2 v3 v4 I = some a ∧ fX9_has_ v1 v2 v3 v4 I = some b ∧ InvB b.2 ∧ a = b.1 := by
  obtain ⟨a, b, e1, e2, h2⟩ := jb_has h v1 v2 v3 v4
  exact ⟨a, b, e1, e2, h2, eq_has h e1 e2⟩
theorem alb_mean {I : gM} (h : InvB I) (v1 : Int32) : ∃ a b, fX8_mean v1 I = some a ∧ fX9_mean v1 I = some b ∧ InvB b.2 ∧ a = b.1 := by
  obtain ⟨a, b, e1, e2, h2⟩ := jb_mean h v1
  exact ⟨a, b, e1, e2, h2, eq_mean h e1 e2⟩
theorem alb_meanAs {I : gM} (h : InvB I) (v1 : Int32) (v2 : Int32) : ∃ a b, fX8_meanAs v1 v2 I = some a ∧ fX9_meanAs v1 v2 I = some b ∧ InvB b.2 ∧ a = b.1 := by
  obtain ⟨a, b, e1, e2, h2⟩ := jb_meanAs h v1 v2
  exact ⟨a, b, e1, e2, h2, eq_meanAs h e1 e2⟩
theorem alb_spread {I : gM} (h : InvB I) (v1 : Int32) : ∃ a b, fX8_spread v1 I = some a ∧ fX9_spread v1 I = some b ∧ InvB b.2 ∧ a = b.1 := by
  obtain ⟨a, b, e1, e2, h2⟩ := jb_spread h v1
  exact ⟨a, b, e1, e2, h2, eq_spread h e1 e2⟩
theorem alb_skew {I : gM} (h : InvB I) (v1 : Int32) : ∃ a b, fX8_skew v1 I = some a ∧ fX9_skew v1 a.2 = some b ∧ InvB b.2 ∧ a.1 = b.1 := by
  obtain ⟨a, b, e1, e2, h2⟩ := jb_skew h v1
  exact ⟨a, b, e1, e2, h2, eq_skew h e1 e2⟩
theorem alb_log {I : gM} (h : InvB I) (v1 : Int32) (v2 : Int32) : ∃ a b, fX8_log v1 v2 I = some a ∧ fX9_log v1 v2 I = some b ∧ InvB I ∧ a = b := by
  obtain ⟨a, b, e1, e2, h2⟩ := jb_log h v1 v2
  exact ⟨a, b, e1, e2, h2, eq_log h e1 e2⟩
theorem alb_would {I : gM} (h : InvB I) (v1 : Int32) (v2 : Int32) (v3 : Int32) (v4 : Int32) (v5 : Int32) : ∃ a b, fX8_would v1 v2 v3 v4 v5 I = some a ∧ fX9_would v1 v2 v3 v4 v5 a.2 = some b ∧ InvB b.2 ∧ a.1 = b.1 := by
  obtain ⟨a, b, e1, e2, h2⟩ := jb_would h v1 v2 v3 v4 v5
  exact ⟨a, b, e1, e2, h2, eq_would h e1 e2⟩
theorem alb_run {I : gM} (h : InvB I) (v1 : Int32) (v2 : Int32) : ∃ a b, fX8_run v1 v2 I = some a ∧ fX9_run v1 v2 a.2 = some b ∧ InvB b.2 ∧ a.1 = b.1 := by
  obtain ⟨a, b, e1, e2, h2⟩ := jb_run h v1 v2
  exact ⟨a, b, e1, e2, h2, eq_run h e1 e2⟩
theorem alb_most {I : gM} (h : InvB I) (v1 : Int32) : ∃ a b, fX8_most v1 I = some a ∧ fX9_most v1 a.2 = some b ∧ InvB b.2 ∧ a.1 = b.1 := by
  obtain ⟨a, b, e1, e2, h2⟩ := jb_most h v1
  exact ⟨a, b, e1, e2, h2, eq_most h e1 e2⟩
