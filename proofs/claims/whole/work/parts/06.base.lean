/-! Facts of the shape and of small numbers. -/
theorem q_in {n N : Nat} (h : n < N) (hN : N < 2147483648) : z_in N (nI n) = true := z_in_iff.mpr (vp_in_nI h hN)
theorem q_cl {n : Nat} (h : n < 2147483648) : (nI n).toNatClampNeg = n := nI_clamp h
theorem q_g {h n k : Nat} (hh : z_isH h) (hn : n < 6) (hk : k < 5) : z_okp z_SH (h + 3 + n) 1 k 0 = true := by
  have h1 : ∀ n, n < 6 → ∀ k, k < 5 → z_okp z_SH (2 + 3 + n) 1 k 0 = true ∧ z_okp z_SH (11 + 3 + n) 1 k 0 = true ∧ z_okp z_SH (21 + 3 + n) 1 k 0 = true ∧ z_okp z_SH (31 + 3 + n) 1 k 0 = true := by decide +kernel
  obtain ⟨a, b, c, d⟩ := h1 n hn k hk
  rcases hh with rfl | rfl | rfl | rfl <;> assumption
theorem q_gb {h n k : Nat} (hh : z_isH h) (hn : n < 6) (h5 : 5 ≤ k) (hk : k < 7) : z_okp z_SH (h + 3 + n) 1 k 1 = true := by
  have h1 : ∀ n, n < 6 → ∀ k, k < 7 → 5 ≤ k → z_okp z_SH (2 + 3 + n) 1 k 1 = true ∧ z_okp z_SH (11 + 3 + n) 1 k 1 = true ∧ z_okp z_SH (21 + 3 + n) 1 k 1 = true ∧ z_okp z_SH (31 + 3 + n) 1 k 1 = true := by decide +kernel
  obtain ⟨a, b, c, d⟩ := h1 n hn k hk h5
  rcases hh with rfl | rfl | rfl | rfl <;> assumption
theorem q_gc {h n : Nat} (hh : z_isH h) (hn : n < 6) : z_okc z_SH (h + 3 + n) 1 = true := by
  have h1 : ∀ n, n < 6 → z_okc z_SH (2 + 3 + n) 1 = true ∧ z_okc z_SH (11 + 3 + n) 1 = true ∧ z_okc z_SH (21 + 3 + n) 1 = true ∧ z_okc z_SH (31 + 3 + n) 1 = true := by decide +kernel
  obtain ⟨a, b, c, d⟩ := h1 n hn
  rcases hh with rfl | rfl | rfl | rfl <;> assumption
theorem q_g5 {n k : Nat} (hn : n < 6) (hk : k < 5) : z_okp z_SH (5 + n) 1 k 0 = true := q_g (h := 2) (Or.inl rfl) hn hk
theorem q_g5b {n k : Nat} (hn : n < 6) (h5 : 5 ≤ k) (hk : k < 7) : z_okp z_SH (5 + n) 1 k 1 = true := q_gb (h := 2) (Or.inl rfl) hn h5 hk
theorem q_g5c {n : Nat} (hn : n < 6) : z_okc z_SH (5 + n) 1 = true := q_gc (h := 2) (Or.inl rfl) hn
theorem q_g14 {n k : Nat} (hn : n < 6) (hk : k < 5) : z_okp z_SH (14 + n) 1 k 0 = true := q_g (h := 11) (Or.inr (Or.inl rfl)) hn hk
theorem q_g24 {n k : Nat} (hn : n < 6) (hk : k < 5) : z_okp z_SH (24 + n) 1 k 0 = true := q_g (h := 21) (Or.inr (Or.inr (Or.inl rfl))) hn hk
theorem q_g24c {n : Nat} (hn : n < 6) : z_okc z_SH (24 + n) 1 = true := q_gc (h := 21) (Or.inr (Or.inr (Or.inl rfl))) hn
theorem q_g34 {n k : Nat} (hn : n < 6) (hk : k < 5) : z_okp z_SH (34 + n) 1 k 0 = true := q_g (h := 31) (Or.inr (Or.inr (Or.inr rfl))) hn hk
theorem q_g34b {n k : Nat} (hn : n < 6) (h5 : 5 ≤ k) (hk : k < 7) : z_okp z_SH (34 + n) 1 k 1 = true := q_gb (h := 31) (Or.inr (Or.inr (Or.inr rfl))) hn h5 hk
theorem q_s {k : Nat} (hk : k < 4) : z_okc z_SH (51 + 2 * k) 4 = true ∧ z_okp z_SH (51 + 2 * k) 4 1 1 = true ∧ z_okp z_SH (51 + 2 * k) 4 2 0 = true ∧ z_okp z_SH (51 + 2 * k) 4 3 0 = true ∧ z_ref z_SH (51 + 2 * k) 4 0 = some (52 + 2 * k) ∧ z_isS (51 + 2 * k) := by
  have h1 : ∀ k, k < 4 → z_okc z_SH (51 + 2 * k) 4 = true ∧ z_okp z_SH (51 + 2 * k) 4 1 1 = true ∧ z_okp z_SH (51 + 2 * k) 4 2 0 = true ∧ z_okp z_SH (51 + 2 * k) 4 3 0 = true ∧ z_ref z_SH (51 + 2 * k) 4 0 = some (52 + 2 * k) := by decide +kernel
  obtain ⟨a, b, c, d, e⟩ := h1 k hk
  exact ⟨a, b, c, d, e, by unfold z_isS; omega⟩
theorem q_sa {k i : Nat} (hk : k < 4) (hi : i < 60) : z_ina z_SH (52 + 2 * k) 0 (nI i) = true := by
  have h1 : z_SH[52 + 2 * k]? = some (.inr (.inl (0, 60))) := by
    rcases (show k = 0 ∨ k = 1 ∨ k = 2 ∨ k = 3 by omega) with rfl | rfl | rfl | rfl <;> rfl
  unfold z_ina
  rw [h1]
  exact q_in hi (by decide)
/-! reading behind a write -/
theorem q_uq (m : z_M) (a k : Nat) (v : Int32) : z_up m a k v a k = v := by simp [z_up_at]
theorem q_ua {m : z_M} {a k a' k' : Nat} {v : Int32} (h : a' ≠ a) : z_up m a k v a' k' = m a' k' := by simp [z_up_at, h]
theorem q_uk {m : z_M} {a k a' k' : Nat} {v : Int32} (h : k' ≠ k) : z_up m a k v a' k' = m a' k' := by simp [z_up_at, h]
def q_v (n : Nat) (x : Int32) : Bool := decide (0 ≤ x.toInt) && decide (x.toInt < n)
def q_b (b : Bool) : Int32 := if b = true then 1 else 0
theorem q_v_nI {n k : Nat} (hk : k < 2147483648) : q_v n (nI k) = decide (k < n) := by
  unfold q_v
  rw [nI_toInt (by omega)]
  simp
theorem q_v_t {n : Nat} {x : Int32} (h : q_v n x = true) (hn : n < 2147483648) : ∃ k, k < n ∧ x = nI k := by
  simp only [q_v, Bool.and_eq_true, decide_eq_true_eq] at h
  exact ⟨x.toInt.toNat, by omega, z_nI_of (by omega) (by omega)⟩
theorem q_v_if {α : Type} {n : Nat} {x : Int32} (hn : n < 2147483648) (a b : α) : (if x < 0 then a else if nI n ≤ x then a else b) = if q_v n x = true then b else a := by
  unfold q_v
  have h1 : (x < 0) ↔ x.toInt < 0 := by rw [Int32.lt_iff_toInt_lt]; exact Iff.rfl
  have h2 : (nI n ≤ x) ↔ (n : Int) ≤ x.toInt := by rw [Int32.le_iff_toInt_le, nI_toInt (by omega)]
  by_cases c1 : x.toInt < 0
  · rw [if_pos (h1.mpr c1)]
    simp [show ¬ 0 ≤ x.toInt by omega]
  · rw [if_neg (fun q => c1 (h1.mp q))]
    by_cases c2 : (n : Int) ≤ x.toInt
    · rw [if_pos (h2.mpr c2)]
      simp [show ¬ x.toInt < n by omega]
    · rw [if_neg (fun q => c2 (h2.mp q))]
      simp [show 0 ≤ x.toInt by omega, show x.toInt < n by omega]
theorem q_b0 (b : Bool) : (q_b b = 0) ↔ b = false := by cases b <;> decide
theorem q_bb (b : Bool) : z_isb (q_b b) = true := by cases b <;> decide
