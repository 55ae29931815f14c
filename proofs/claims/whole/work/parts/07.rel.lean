/-! One state of an hotel; the class's cells and the reference's hold it. -/
abbrev q_St : Type := (Nat × Nat) × (Nat → Nat) × (Nat → Nat → Nat) × (Nat → Nat → Bool)
abbrev q_Rd : Type := Nat × (Nat → Nat) × (Nat → Nat) × (Nat → Bool)
abbrev q_Sh : Type := (Nat → Bool) × (Nat → Nat) × (Nat → Nat) × (Nat → Nat → Int32)
abbrev q_T : Type := (Int32 × Int32 × Int32) × q_St × q_Rd × q_Sh
/-- bits of a set -/
def q_bits : Nat → (Nat → Bool) → Nat
  | 0, _ => 0
  | n + 1, f => q_bits n f + (if f n = true then 2 ^ n else 0)
def q_CS (m : z_M) (h : Nat) (S : q_St) : Prop := m h 2 = nI S.1.1 ∧ m h 3 = nI S.1.2 ∧ (∀ s, s < S.1.1 → m (h + 1) s = nI (S.2.1 s)) ∧ (∀ k, k < S.1.2 → (∀ f, f < 5 → m (h + 3 + k) f = nI (S.2.2.1 f k)) ∧ z_b (m (h + 3 + k) 5) = q_b (S.2.2.2 0 k) ∧ z_b (m (h + 3 + k) 6) = q_b (S.2.2.2 1 k))
def q_MS (m : z_M) (S : q_St) : Prop := m 59 5 = nI S.1.1 ∧ m 59 6 = nI S.1.2 ∧ (∀ s, s < S.1.1 → m 63 s = nI (S.2.1 s)) ∧ (∀ k, k < S.1.2 → ∀ f, f < 5 → m (64 + f) k = nI (S.2.2.1 f k)) ∧ m 59 8 = nI (q_bits S.1.2 (S.2.2.2 0)) ∧ m 59 9 = nI (q_bits S.1.2 (S.2.2.2 1))
def q_C0 (m : z_M) (F : Int32 × Int32 × Int32) : Prop := m 0 10 = F.1 ∧ m 0 9 = F.2.1 ∧ m 2 4 = F.2.2
def q_M0 (m : z_M) (F : Int32 × Int32 × Int32) : Prop := m 59 0 = F.1 ∧ m 59 1 = F.2.1 ∧ m 59 7 = F.2.2
def q_CR (m : z_M) (Q : q_Rd) : Prop := m 40 3 = nI Q.1 ∧ ∀ r, r < Q.1 → m 41 r = nI (Q.2.1 r) ∧ m 42 r = nI (Q.2.2.1 r) ∧ z_b (m 43 r) = q_b (Q.2.2.2 r)
def q_MR (m : z_M) (Q : q_Rd) : Prop := m 59 33 = nI Q.1 ∧ ∀ r, r < Q.1 → m 77 r = nI (Q.2.1 r) ∧ m 78 r = nI (Q.2.2.1 r) ∧ m 79 r = q_b (Q.2.2.2 r)
def q_CP (m : z_M) (Y : q_Sh) : Prop := ∀ k, k < 4 → z_b (m (51 + 2 * k) 1) = q_b (Y.1 k) ∧ m (51 + 2 * k) 2 = nI (Y.2.1 k) ∧ m (51 + 2 * k) 3 = nI (Y.2.2.1 k) ∧ ∀ i, i < 60 → m (52 + 2 * k) i = Y.2.2.2 k i
def q_MP (m : z_M) (Y : q_Sh) : Prop := ∀ k, k < 4 → m 60 k = (if Y.1 k = true then nI (Y.2.1 k) else -9) ∧ m 61 k = nI (Y.2.2.1 k) ∧ ∀ i, i < 60 → m 62 (60 * k + i) = Y.2.2.2 k i
def q_C (m : z_M) (T : q_T) : Prop := q_C0 m T.1 ∧ q_CS m 2 T.2.1 ∧ q_CR m T.2.2.1 ∧ q_CP m T.2.2.2
def q_M (m : z_M) (T : q_T) : Prop := q_M0 m T.1 ∧ q_MS m T.2.1 ∧ q_MR m T.2.2.1 ∧ q_MP m T.2.2.2
def q_okS (S : q_St) : Prop := S.1.1 ≤ 5 ∧ S.1.2 ≤ 6 ∧ (0 < S.1.2 → 0 < S.1.1) ∧ (∀ s, s < S.1.1 → 1 ≤ S.2.1 s ∧ S.2.1 s ≤ 9) ∧ ∀ k, k < S.1.2 → S.2.2.1 0 k ≤ 2 ∧ (1 ≤ S.2.2.1 1 k ∧ S.2.2.1 1 k ≤ 9) ∧ (1 ≤ S.2.2.1 2 k ∧ S.2.2.1 2 k ≤ 9) ∧ S.2.2.1 3 k ≤ 5 ∧ S.2.2.1 4 k ≤ 40 ∧ (S.2.2.2 0 k = false → S.2.2.1 4 k < S.2.2.1 2 k)
def q_okR (S : q_St) (Q : q_Rd) : Prop := Q.1 ≤ 8 ∧ ∀ r, r < Q.1 → Q.2.1 r < S.1.1 ∧ Q.2.2.1 r < S.1.2
def q_okP (Y : q_Sh) : Prop := ∀ k, k < 4 → Y.2.1 k ≤ 2 ∧ Y.2.2.1 k ≤ 60
def q_ok (T : q_T) : Prop := q_okS T.2.1 ∧ q_okR T.2.1 T.2.2.1 ∧ q_okP T.2.2.2
/-! only these cells count -/
theorem q_C_congr {m m' : z_M} {T : q_T} (h : q_C m T) (hq : ∀ a, a < 59 → m' a = m a) (hng : T.2.1.1.2 ≤ 6) : q_C m' T := by
  obtain ⟨⟨a1, a2, a3⟩, ⟨b1, b2, b3, b4⟩, ⟨c1, c2⟩, d⟩ := h
  refine ⟨⟨by rw [hq 0 (by omega)]; exact a1, by rw [hq 0 (by omega)]; exact a2, by rw [hq 2 (by omega)]; exact a3⟩, ⟨by rw [hq 2 (by omega)]; exact b1, by rw [hq 2 (by omega)]; exact b2, fun s hs => by rw [hq (2 + 1) (by omega)]; exact b3 s hs, fun k hk => ?_⟩, ⟨by rw [hq 40 (by omega)]; exact c1, fun r hr => ?_⟩, fun k hk => ?_⟩
  · rw [hq (2 + 3 + k) (by omega)]
    exact b4 k hk
  · rw [hq 41 (by omega), hq 42 (by omega), hq 43 (by omega)]
    exact c2 r hr
  · rw [hq (51 + 2 * k) (by omega), hq (52 + 2 * k) (by omega)]
    exact d k hk
theorem q_M_congr {m m' : z_M} {T : q_T} (h : q_M m T) (hq : ∀ a, 59 ≤ a → m' a = m a) : q_M m' T := by
  obtain ⟨⟨a1, a2, a3⟩, ⟨b1, b2, b3, b4, b5, b6⟩, ⟨c1, c2⟩, d⟩ := h
  have e := hq 59 (by omega)
  refine ⟨⟨by rw [e]; exact a1, by rw [e]; exact a2, by rw [e]; exact a3⟩, ⟨by rw [e]; exact b1, by rw [e]; exact b2, fun s hs => by rw [hq 63 (by omega)]; exact b3 s hs, fun k hk f hf => by rw [hq (64 + f) (by omega)]; exact b4 k hk f hf, by rw [e]; exact b5, by rw [e]; exact b6⟩, ⟨by rw [e]; exact c1, fun r hr => ?_⟩, fun k hk => ?_⟩
  · rw [hq 77 (by omega), hq 78 (by omega), hq 79 (by omega)]
    exact c2 r hr
  · rw [hq 60 (by omega), hq 61 (by omega), hq 62 (by omega)]
    exact d k hk
/-! an operation on each side -/
def q_cop (j : Nat) (as : List Value) (T : q_T) (r : Int32) (l : Int64) (T' : q_T) : Prop := ∀ (d : Nat) (m : z_M), q_C m T → ∃ m1 : z_M, z_go z_SH z_P (d + 20) j (.ref 0 :: as) m = some (r, l, m1) ∧ q_C m1 T' ∧ ∀ a, 59 ≤ a → m1 a = m a
def q_mop (j : Nat) (as : List Value) (T : q_T) (r : Int32) (l : Int64) (T' : q_T) : Prop := ∀ (d : Nat) (m : z_M), q_M m T → ∃ m1 : z_M, z_go z_SH z_P (d + 20) j (.ref 59 :: as) m = some (r, l, m1) ∧ q_M m1 T' ∧ ∀ a, a < 59 → m1 a = m a
/-- both sides answer alike and go to one state -/
def q_pr (jx jm : Nat) (as : List Value) : Prop := ∀ T : q_T, q_ok T → ∃ (r : Int32) (l : Int64) (T' : q_T), q_cop jx as T r l T' ∧ q_mop jm as T r l T' ∧ q_ok T'
def q_Rel (m : z_M) : Prop := ∃ T : q_T, q_C m T ∧ q_M m T ∧ q_ok T
theorem q_pr_run {jx jm : Nat} {as : List Value} (h : q_pr jx jm as) {m : z_M} (hR : q_Rel m) (d : Nat) : ∃ (r : Int32) (l : Int64) (m1 m2 : z_M), z_go z_SH z_P (d + 20) jx (.ref 0 :: as) m = some (r, l, m1) ∧ z_go z_SH z_P (d + 20) jm (.ref 59 :: as) m1 = some (r, l, m2) ∧ q_Rel m2 := by
  obtain ⟨T, hC, hM, hok⟩ := hR
  obtain ⟨r, l, T', h1, h2, hok'⟩ := h T hok
  obtain ⟨m1, e1, c1, f1⟩ := h1 d m hC
  obtain ⟨m2, e2, c2, f2⟩ := h2 d m1 (q_M_congr hM f1)
  exact ⟨r, l, m1, m2, e1, e2, T', q_C_congr c1 f2 hok'.1.2.1, c2, hok'⟩
/-- nothing changed -/
theorem q_cop_same {j : Nat} {as : List Value} {T : q_T} {r : Int32} {l : Int64} (h : ∀ (d : Nat) (m : z_M), q_C m T → z_go z_SH z_P (d + 20) j (.ref 0 :: as) m = some (r, l, m)) : q_cop j as T r l T := fun d m hC => ⟨m, h d m hC, hC, fun _ _ => rfl⟩
theorem q_mop_same {j : Nat} {as : List Value} {T : q_T} {r : Int32} {l : Int64} (h : ∀ (d : Nat) (m : z_M), q_M m T → z_go z_SH z_P (d + 20) j (.ref 59 :: as) m = some (r, l, m)) : q_mop j as T r l T := fun d m hC => ⟨m, h d m hC, hC, fun _ _ => rfl⟩
/-! what the small calls answer -/
theorem k_isGuest {m : z_M} {n : Nat} (d : Nat) (x : Int32) (h : m 2 3 = nI n) (hn : n ≤ 6) : z_go z_SH z_P (d + 1) 97 [.ref 0, .int x] m = some (q_b (q_v n x), 0, m) := by
  rw [c_X9_isGuest, h, q_v_if (by omega)]
  unfold q_b
  split <;> rfl
theorem k_isSign {m : z_M} {n : Nat} (d : Nat) (x : Int32) (h : m 2 2 = nI n) (hn : n ≤ 5) : z_go z_SH z_P (d + 1) 96 [.ref 0, .int x] m = some (q_b (q_v n x), 0, m) := by
  rw [c_X9_isSign, h, q_v_if (by omega)]
  unfold q_b
  split <;> rfl
theorem k_misGuest {m : z_M} {n : Nat} (d : Nat) (x : Int32) (h : m 59 6 = nI n) (hn : n ≤ 6) : z_go z_SH z_P (d + 1) 113 [.ref 59, .int x] m = some (q_b (q_v n x), 0, m) := by
  rw [c_X10_isGuest, h, q_v_if (by omega)]
  unfold q_b
  split <;> rfl
theorem k_misSign {m : z_M} {n : Nat} (d : Nat) (x : Int32) (h : m 59 5 = nI n) (hn : n ≤ 5) : z_go z_SH z_P (d + 1) 112 [.ref 59, .int x] m = some (q_b (q_v n x), 0, m) := by
  rw [c_X10_isSignOf, h, q_v_if (by omega)]
  unfold q_b
  split <;> rfl
def q_w (a b x : Int32) : Bool := decide (a ≤ x) && decide (x ≤ b)
theorem q_w_if {α : Type} (a b x : Int32) (u v : α) : (if x < a then u else if b < x then u else v) = if q_w a b x = true then v else u := by
  unfold q_w
  by_cases c1 : x < a
  · rw [if_pos c1]
    simp [Int32.not_le.mpr c1]
  · rw [if_neg c1]
    by_cases c2 : b < x
    · rw [if_pos c2]
      simp [Int32.not_le.mpr c2]
    · rw [if_neg c2]
      simp [Int32.not_lt.mp c1, Int32.not_lt.mp c2]
theorem k_within (d : Nat) (x a b : Int32) (m : z_M) : z_go z_SH z_P (d + 1) 94 [.int x, .int a, .int b] m = some (q_b (q_w a b x), 0, m) := by
  rw [c_X9_within, q_w_if]
  unfold q_b
  split <;> rfl
theorem k_mwithin (d : Nat) (x a b : Int32) (m : z_M) : z_go z_SH z_P (d + 1) 108 [.int x, .int a, .int b] m = some (q_b (q_w a b x), 0, m) := by
  rw [c_X10_within, q_w_if]
  unfold q_b
  split <;> rfl
theorem k_isSheet (d : Nat) (x : Int32) (m : z_M) : z_go z_SH z_P (d + 2) 95 [.int x] m = some (q_b (q_w 0 3 x), 0, m) := by
  rw [c_X9_isSheet, k_within]
  simp only [Option.bind_some, q_bb, z_g_t]
theorem k_misSheet (d : Nat) (x : Int32) (m : z_M) : z_go z_SH z_P (d + 2) 109 [.int x] m = some (q_b (q_w 0 3 x), 0, m) := by
  rw [c_X10_isSheet, k_mwithin]
  simp only [Option.bind_some, q_bb, z_g_t]
theorem k_misSort (d : Nat) (x : Int32) (m : z_M) : z_go z_SH z_P (d + 2) 110 [.int x] m = some (q_b (q_w 0 2 x), 0, m) := by
  rw [c_X10_isSort, k_mwithin]
  simp only [Option.bind_some, q_bb, z_g_t]
theorem k_misTable (d : Nat) (x : Int32) (m : z_M) : z_go z_SH z_P (d + 2) 114 [.int x] m = some (q_b (q_w 0 5 x), 0, m) := by
  rw [c_X10_isTable, k_mwithin]
  simp only [Option.bind_some, q_bb, z_g_t]
theorem q_w_nI {a b : Nat} {x : Int32} (h : q_w (nI a) (nI b) x = true) (ha : a < 2147483648) (hb : b < 2147483648) : ∃ v, a ≤ v ∧ v ≤ b ∧ x = nI v := by
  simp only [q_w, Bool.and_eq_true, decide_eq_true_eq, Int32.le_iff_toInt_le] at h
  rw [nI_toInt (by omega), nI_toInt (by omega)] at h
  exact ⟨x.toInt.toNat, by omega, by omega, z_nI_of (by omega) (by omega)⟩
