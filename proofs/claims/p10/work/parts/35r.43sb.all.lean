/-! a join of the class holds all that fits its tables, in order -/
/-- numbers for the letters: each table used has a row of them -/
def SolA (A : aT) (g : Nat → Nat) : Prop := ∀ t, t < 4 → A.2.1.testBit t = true → ∃ i, i < (aK A t).length ∧ ∀ c, c < (aL A t).length → g ((aL A t).getD c 0) = dgt c ((aK A t).getD i 0)
def RWS (A : aT) (ls : List Nat) (M : gM) (k J : Nat) : Prop := OK8 k M J ∧ (∀ j, j < J → SolA A (fun l => rdg M k j l)) ∧ (∀ g, SolA A g → ∃ j, j < J ∧ ∀ e, e < ls.length → rdg M k j (ls.getD e 0) = g (ls.getD e 0)) ∧ ∀ i j, i < j → j < J → LX M k ls i j
def lets (A : aT) (ls : List Nat) : Prop := ∀ l, l < 4 → ((asA A).testBit l = true ↔ ∃ e, e < ls.length ∧ ls.getD e 0 = l)
theorem ix_col {A : aT} {t c : Nat} (w : wfT A t) (hc : c < (aL A t).length) : ix ((aL A t).getD c 0) (aL A t) = c := by
  have le : ix ((aL A t).getD c 0) (aL A t) ≤ c := by
    rcases Nat.lt_or_ge c (ix ((aL A t).getD c 0) (aL A t)) with z | z
    · exact absurd rfl (ix_ne z hc)
    · exact z
  rcases Nat.lt_or_ge (ix ((aL A t).getD c 0) (aL A t)) c with z | z
  · exact absurd (ix_get (show ix ((aL A t).getD c 0) (aL A t) < (aL A t).length by omega)) (w.2.2.1 _ _ z hc)
  · omega
theorem inB_col {A : aT} {ls : List Nat} {t c e : Nat} (w : wfT A t) (hu : A.2.1.testBit t = true) (hc : c < (aL A t).length) (he : ls.getD e 0 = (aL A t).getD c 0) : inB A ls t e = true ∧ cI A ls t e = c := by
  have : cI A ls t e = c := by
    unfold cI
    rw [he]; exact ix_col w hc
  exact ⟨inB_and.mpr ⟨hu, by rw [this]; exact hc⟩, this⟩
theorem sq_sol {A : aT} {ls : List Nat} {qs : Nat → List Nat} (hW : WF A) (hQ : QS A ls qs) (hl : lets A ls) {g : Nat → Nat} : SQf A ls qs (fun e => g (ls.getD e 0)) ↔ SolA A g := by
  have hn4 := hW.1
  constructor
  · intro h t ht hu
    obtain ⟨j, j1, j2⟩ := h t ht hu
    obtain ⟨i, i1, i2⟩ := (hQ t ht hu).2.2.2.1 j j1
    have w := hW.2.2.2.2 t (used_t hW hu)
    refine ⟨i, i1, fun c hc => ?_⟩
    obtain ⟨e, e1, e2⟩ := (hl _ (w.2.1 c hc)).mp (asA_of (used_t hW hu) hu hc)
    obtain ⟨b1, b2⟩ := inB_col w hu hc e2
    have a1 := j2 e e1 b1
    have a2 := i2 e e1 b1
    unfold uq at a1
    rw [a2] at a1
    unfold vA at a1
    rw [b2] at a1
    dsimp only at a1
    rw [← e2]; exact a1.symm
  · intro h t ht hu
    obtain ⟨i, i1, i2⟩ := h t ht hu
    obtain ⟨j, j1, j2⟩ := (hQ t ht hu).2.2.2.2 i i1
    refine ⟨j, j1, fun e he hb => ?_⟩
    unfold uq
    rw [j2 e he hb]
    unfold vA
    have b := (inB_and.mp hb).2
    have := i2 _ b
    unfold cI at b this ⊢
    rw [ix_get b] at this
    exact this.symm
theorem so_find {M r9 : gM} {k k1 : Nat} {A : aT} {ls : List Nat} (hk : k1 + 4 < k) (hW : WF A) (h0 : 0 < A.1.length) (hs : okS ls) (hl : lets A ls) (hC : CT M k1 A) (hS : Sc M k ls) (hz : M (k + 4) 0 = 0) : ∃ r10 M' J, fX1_open k k1 M = some r10 ∧ fX1_search 6 k (nI 0) r10 = some M' ∧ RWS A ls M' k J := by
  have hn4 := hW.1
  have h4 := hs.1
  obtain ⟨qs, r10, e10, SX0, QS0, RG0, z0, z1, zm, f10, f10'⟩ := c_open hk hW hs hC hS
  have hp : r10 (k + 4) 0 = 0 := by rw [f10 (k + 4) (by omega) (by omega) (by omega) (by omega) (by omega) (by omega) (by omega)]; exact hz
  have P0 : PR r10 k ls 0 (fun _ => 0) := ⟨0, by decide, hp, fun e he => absurd he (Nat.not_lt_zero e), fun l hl _ => by unfold d4; rw [Nat.zero_div]⟩
  have hcov : ∀ t, t < 4 → A.2.1.testBit t = true → ∃ e, e < ls.length ∧ inB A ls t e = true := fun t ht hu => by
    have w := hW.2.2.2.2 t (used_t hW hu)
    have w1 := w.1
    obtain ⟨e, e1, e2⟩ := (hl _ (w.2.1 0 (by omega))).mp (asA_of (used_t hW hu) hu (show 0 < _ by omega))
    exact ⟨e, e1, (inB_col w hu (by omega) e2).1⟩
  have hD : ∀ d, d < ls.length → ∃ t, t < 4 ∧ inB A ls t d = true := fun d hd => by
    have b := (hl _ (hs.2.1 d hd)).mpr ⟨d, hd, rfl⟩
    obtain ⟨t, t1, t2⟩ := orUp_at.mp b
    split at t2
    · rename_i hu
      obtain ⟨c, c1, c2⟩ := orUp_at.mp t2
      rw [Nat.testBit_two_pow] at c2
      have c2 := of_decide_eq_true c2
      exact ⟨t, by omega, (inB_col (hW.2.2.2.2 t t1) hu c1 c2.symm).1⟩
    · rw [Nat.zero_testBit] at t2; exact absurd t2 (by decide)
  have lpos : 0 < ls.length := by
    have hu := hW.2.2.1 h0
    have ⟨t, tb⟩ : ∃ t, A.2.1.testBit t = true := by
      rcases Classical.em (∃ t, A.2.1.testBit t = true) with q | q
      · exact q
      · exfalso
        have : A.2.1 = 0 := Nat.eq_of_testBit_eq (fun i => by
          rw [Nat.zero_testBit]
          cases h : A.2.1.testBit i with
          | true => exact absurd ⟨i, h⟩ q
          | false => rfl)
        omega
    have := used_t hW tb
    obtain ⟨e, e1, _⟩ := hcov t (by omega) tb
    omega
  have pw : 12 ^ (ls.length - 0) ≤ 20736 := Nat.le_trans (Nat.pow_le_pow_right (n := 12) (by decide) (show ls.length - 0 ≤ 4 by omega)) (by decide)
  obtain ⟨M', J, h1, _, h3, _, _, _, n1, n2, n3⟩ := so_go hW hs QS0 hcov hD (ls.length - 1) 0 (by omega) 6 (by omega) r10 0 (fun _ => 0) (fun _ => 0) (fun t => (qs t).length) SX0 (RG0 _) P0 ⟨z0, by omega, fun j hj => absurd hj (Nat.not_lt_zero j)⟩ (fun t ht hu ⟨e, he, _⟩ => absurd he (Nat.not_lt_zero e)) (by omega)
  refine ⟨r10, M', J, e10, h1, h3, fun j hj => (sq_sol hW QS0 hl).mp (n1 j (Nat.zero_le _) hj).1, fun g hg => ?_, fun i j hi hj => n3 i j (Nat.zero_le _) hi hj⟩
  obtain ⟨j, _, j2, j3⟩ := n2 (fun e => g (ls.getD e 0)) ((sq_sol hW QS0 hl).mpr hg) (fun e he => absurd he (Nat.not_lt_zero e))
  exact ⟨j, j2, j3⟩
theorem lets_fl4 {A : aT} (hW : WF A) {o : Nat} (ho : o < 24) : lets A (fl4 o (asA A)) := fun l hl => by
  constructor
  · intro h
    obtain ⟨e, _, e2, e3⟩ := fl4_at o ho _ (asA_lt hW) l hl h
    exact ⟨e, e2, e3⟩
  · rintro ⟨e, e1, rfl⟩
    have := (okS_fl4 ho (asA_lt hW)).1
    exact (fl4_mem o ho _ (asA_lt hW) e (by omega) e1).2
theorem so_by {M M' : gM} {k k1 o : Nat} {A : aT} (hk : k1 + 4 < k) (hW : WF A) (h0 : 0 < A.1.length) (hC : CT M k1 A) (hz : M (k + 4) 0 = 0) (ho : o < 24) (e : fX1_findBy k k1 (nI o) M = some M') : ∃ J, RWS A (fl4 o (asA A)) M' k J := by
  unfold fX1_findBy at e
  rw [c_asked hW hC, obs, pU_n, obs] at e
  obtain ⟨r9, e9, S9, f9, f9'⟩ := c_seq (k := k) (M := g_up M k 2 0) ho (asA_lt hW) g_up_self
  have g9 : ∀ q, q ≠ k → q ≠ k + 2 → r9 q = M q := fun q h1 h2 => by rw [f9 q h1 h2, g_up_row h1]
  have hC9 : CT r9 k1 A := hC.cong (fun j _ => by rw [g9 k1 (by omega) (by omega)]) (g9 _ (by omega) (by omega)) (g9 _ (by omega) (by omega)) (g9 _ (by omega) (by omega)) (g9 _ (by omega) (by omega))
  obtain ⟨r10, M2, J, h1, h2, h3⟩ := so_find (r9 := r9) hk hW h0 (okS_fl4 ho (asA_lt hW)) (lets_fl4 hW ho) hC9 S9 (by rw [g9 (k + 4) (by omega) (by omega)]; exact hz)
  rw [e9, obs, h1, obs, show (0 : Int32) = nI 0 from rfl, h2, obs] at e
  obtain rfl := Option.some.inj e
  exact ⟨J, h3⟩
/-- the letters asked for ahead of the others -/
def ldL (am v : Nat) : List Nat := lup (am &&& v) 4 ++ lup (am &&& (15 ^^^ v)) 4
theorem ld_and : ∀ am, am < 16 → ∀ v, v < 16 → nI am &&& nI v = nI (am &&& v) ∧ nI am &&& (nI v ^^^ (-1)) = nI (am &&& (15 ^^^ v)) := by decide +kernel
theorem ld_lt : ∀ am, am < 16 → ∀ v, v < 16 → am &&& v < 16 ∧ am &&& (15 ^^^ v) < 16 ∧ (lup (am &&& v) 4).length + (lup (am &&& (15 ^^^ v)) 4).length ≤ 4 := by decide +kernel
theorem ld_ok1 : ∀ am, am < 16 → ∀ v, v < 16 → (ldL am v).length ≤ 4 := by decide +kernel
theorem ld_ok2 : ∀ am, am < 16 → ∀ v, v < 16 → ∀ e, e < 4 → (e < (ldL am v).length → (ldL am v).getD e 0 < 4 ∧ am.testBit ((ldL am v).getD e 0) = true) := by decide +kernel
theorem ld_ok5 : ∀ am, am < 16 → ∀ v, v < 16 → ∀ e, e < 4 → (e < (ldL am v).length → (e < (lup (am &&& v) 4).length ↔ v.testBit ((ldL am v).getD e 0) = true)) := by decide +kernel
theorem ld_ok3 : ∀ am, am < 16 → ∀ v, v < 16 → ∀ l, l < 4 → (am.testBit l = true → ∃ e, e < 4 ∧ (e < (ldL am v).length ∧ (ldL am v).getD e 0 = l)) := by decide +kernel
theorem ld_ok40 : ∀ am, am < 16 → ∀ v, v < 16 → ∀ p, p < 16 → (p % 4 < (ldL am v).length ∧ p / 4 < p % 4 → ¬ (ldL am v).getD (p / 4) 0 = (ldL am v).getD (p % 4) 0) := by decide +kernel
theorem ld_ok4 {am v d e : Nat} (ha : am < 16) (hv : v < 16) (hd : d < (ldL am v).length) (he : e < (ldL am v).length) (hne : d ≠ e) : (ldL am v).getD d 0 ≠ (ldL am v).getD e 0 := by
  have h1 := ld_ok1 am ha v hv
  rcases (by omega : d < e ∨ e < d) with z | z
  · have := ld_ok40 am ha v hv (4 * d + e) (by omega)
    rw [show (4 * d + e) % 4 = e by omega, show (4 * d + e) / 4 = d by omega] at this
    exact this ⟨he, z⟩
  · have := ld_ok40 am ha v hv (4 * e + d) (by omega)
    rw [show (4 * e + d) % 4 = d by omega, show (4 * e + d) / 4 = e by omega] at this
    exact fun y => this ⟨hd, z⟩ y.symm
theorem ld_ok {am v : Nat} (ha : am < 16) (hv : v < 16) : (ldL am v).length ≤ 4 ∧ (∀ e, e < (ldL am v).length → (ldL am v).getD e 0 < 4 ∧ am.testBit ((ldL am v).getD e 0) = true ∧ (e < (lup (am &&& v) 4).length ↔ v.testBit ((ldL am v).getD e 0) = true)) ∧ (∀ l, l < 4 → am.testBit l = true → ∃ e, e < (ldL am v).length ∧ (ldL am v).getD e 0 = l) ∧ ∀ d e, d < (ldL am v).length → e < (ldL am v).length → d ≠ e → (ldL am v).getD d 0 ≠ (ldL am v).getD e 0 := by
  have h1 := ld_ok1 am ha v hv
  refine ⟨h1, fun e he => ?_, fun l hl hb => ?_, fun d e hd he hne => ld_ok4 ha hv hd he hne⟩
  · obtain ⟨a, b⟩ := ld_ok2 am ha v hv e (by omega) he
    exact ⟨a, b, ld_ok5 am ha v hv e (by omega) he⟩
  · obtain ⟨e, _, e2, e3⟩ := ld_ok3 am ha v hv l hl hb
    exact ⟨e, e2, e3⟩
theorem okS_ld {am v : Nat} (ha : am < 16) (hv : v < 16) : okS (ldL am v) := by
  obtain ⟨h1, h2, _, h4⟩ := ld_ok ha hv
  exact ⟨h1, fun e he => (h2 e he).1, fun d e hd he hne => h4 d e hd he hne⟩
theorem lets_ld {A : aT} (hW : WF A) {v : Nat} (hv : v < 16) : lets A (ldL (asA A) v) := fun l hl => by
  obtain ⟨h1, h2, h3, _⟩ := ld_ok (asA_lt hW) hv
  constructor
  · intro h
    exact h3 l hl h
  · rintro ⟨e, e1, rfl⟩
    exact (h2 e e1).2.1
theorem so_lead {M M' : gM} {k k1 v : Nat} {A : aT} (hk : k1 + 4 < k) (hW : WF A) (h0 : 0 < A.1.length) (hC : CT M k1 A) (hz : M (k + 4) 0 = 0) (hv : v < 16) (e : fX1_findLeading k k1 (nI v) M = some M') : ∃ J, RWS A (ldL (asA A) v) M' k J := by
  obtain ⟨a1, a2⟩ := ld_and _ (asA_lt hW) v hv
  obtain ⟨b1, b2, b3⟩ := ld_lt _ (asA_lt hW) v hv
  unfold fX1_findLeading at e
  rw [c_asked hW hC, obs, pU_n, obs, a1, a2] at e
  obtain ⟨r3, e3, S3, f3, f3'⟩ := c_addLetters (k := k) (M := g_up M k 2 0) (ls := []) b1 (by show 0 + _ ≤ 4; omega) ⟨g_up_self, fun e he => absurd he (Nat.not_lt_zero e)⟩
  rw [List.nil_append] at S3
  obtain ⟨r4, e4, S4, f4, f4'⟩ := c_addLetters (k := k) (M := r3) b2 b3 S3
  have g9 : ∀ q, q ≠ k → q ≠ k + 2 → r4 q = M q := fun q h1 h2 => by rw [f4 q h1 h2, f3 q h1 h2, g_up_row h1]
  have hC9 : CT r4 k1 A := hC.cong (fun j _ => by rw [g9 k1 (by omega) (by omega)]) (g9 _ (by omega) (by omega)) (g9 _ (by omega) (by omega)) (g9 _ (by omega) (by omega)) (g9 _ (by omega) (by omega))
  obtain ⟨r10, M2, J, h1, h2, h3⟩ := so_find (r9 := r4) hk hW h0 (okS_ld (asA_lt hW) hv) (lets_ld hW hv) hC9 S4 (by rw [g9 (k + 4) (by omega) (by omega)]; exact hz)
  rw [e3, obs, e4, obs, h1, obs, show (0 : Int32) = nI 0 from rfl, h2, obs] at e
  obtain rfl := Option.some.inj e
  exact ⟨J, h3⟩
