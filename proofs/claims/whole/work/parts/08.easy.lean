theorem q_if {α : Type} (b : Bool) (x y : α) : (if q_b b = 0 then x else y) = (if b = true then y else x) := by cases b <;> simp [q_b]
theorem q_C.ns {m : z_M} {T : q_T} (h : q_C m T) : m 2 2 = nI T.2.1.1.1 := h.2.1.1
theorem q_C.ng {m : z_M} {T : q_T} (h : q_C m T) : m 2 3 = nI T.2.1.1.2 := h.2.1.2.1
theorem q_C.hi {m : z_M} {T : q_T} (h : q_C m T) {s : Nat} (hs : s < T.2.1.1.1) : m 3 s = nI (T.2.1.2.1 s) := h.2.1.2.2.1 s hs
theorem q_C.gd {m : z_M} {T : q_T} (h : q_C m T) {k f : Nat} (hk : k < T.2.1.1.2) (hf : f < 5) : m (5 + k) f = nI (T.2.1.2.2.1 f k) := (h.2.1.2.2.2 k hk).1 f hf
theorem q_C.kn {m : z_M} {T : q_T} (h : q_C m T) {k : Nat} (hk : k < T.2.1.1.2) : z_b (m (5 + k) 5) = q_b (T.2.1.2.2.2 0 k) := (h.2.1.2.2.2 k hk).2.1
theorem q_C.sk {m : z_M} {T : q_T} (h : q_C m T) {k : Nat} (hk : k < T.2.1.1.2) : z_b (m (5 + k) 6) = q_b (T.2.1.2.2.2 1 k) := (h.2.1.2.2.2 k hk).2.2
theorem q_M.ns {m : z_M} {T : q_T} (h : q_M m T) : m 59 5 = nI T.2.1.1.1 := h.2.1.1
theorem q_M.ng {m : z_M} {T : q_T} (h : q_M m T) : m 59 6 = nI T.2.1.1.2 := h.2.1.2.1
theorem q_M.hi {m : z_M} {T : q_T} (h : q_M m T) {s : Nat} (hs : s < T.2.1.1.1) : m 63 s = nI (T.2.1.2.1 s) := h.2.1.2.2.1 s hs
theorem q_M.gd {m : z_M} {T : q_T} (h : q_M m T) {k f : Nat} (hk : k < T.2.1.1.2) (hf : f < 5) : m (64 + f) k = nI (T.2.1.2.2.1 f k) := h.2.1.2.2.2.1 k hk f hf
theorem q_M.kn {m : z_M} {T : q_T} (h : q_M m T) : m 59 8 = nI (q_bits T.2.1.1.2 (T.2.1.2.2.2 0)) := h.2.1.2.2.2.2.1
theorem q_M.sk {m : z_M} {T : q_T} (h : q_M m T) : m 59 9 = nI (q_bits T.2.1.1.2 (T.2.1.2.2.2 1)) := h.2.1.2.2.2.2.2
/-! 31 trace, 32 fault -/
theorem p_trace : q_pr 91 173 [] := by
  intro T hok
  refine ⟨T.1.2.1, 0, T, q_cop_same (fun d m hC => ?_), q_mop_same (fun d m hM => ?_), hok⟩
  · rw [c_X9_trace, hC.1.2.1]
  · rw [c_X10_trace, hM.1.2.1]
theorem p_fault : q_pr 92 174 [] := by
  intro T hok
  refine ⟨T.1.1, 0, T, q_cop_same (fun d m hC => ?_), q_mop_same (fun d m hM => ?_), hok⟩
  · rw [c_X9_fault, hC.1.1]
  · rw [c_X10_fault, hM.1.1]
/-! 4 hint -/
theorem p_hint (x : Int32) : q_pr 64 126 [.int x] := by
  intro T hok
  have h5 := hok.1.1
  refine ⟨if q_v T.2.1.1.1 x = true then nI (T.2.1.2.1 x.toNatClampNeg) else -1, 0, T, q_cop_same (fun d m hC => ?_), q_mop_same (fun d m hM => ?_), hok⟩
  · rw [c_X9_hint, k_isSign _ _ hC.ns h5]
    simp only [Option.bind_some, q_if]
    by_cases hv : q_v T.2.1.1.1 x = true
    · rw [if_pos hv, if_pos hv]
      obtain ⟨s, hs, rfl⟩ := q_v_t hv (by omega)
      rw [q_in (show s < 5 by omega) (by decide), z_g_t, q_cl (by omega), hC.hi hs]
    · rw [if_neg hv, if_neg hv]
  · rw [c_X10_hint, k_misSign _ _ hM.ns h5]
    simp only [Option.bind_some, q_if]
    by_cases hv : q_v T.2.1.1.1 x = true
    · rw [if_pos hv, if_pos hv]
      obtain ⟨s, hs, rfl⟩ := q_v_t hv (by omega)
      rw [q_in (show s < 5 by omega) (by decide), z_g_t, q_cl (by omega), hM.hi hs]
    · rw [if_neg hv, if_neg hv]
/-! bits -/
theorem q_bits_lt : ∀ (n : Nat) (f : Nat → Bool), q_bits n f < 2 ^ n
  | 0, _ => by simp [q_bits]
  | n + 1, f => by
    have := q_bits_lt n f
    simp only [q_bits, Nat.pow_succ]
    split <;> omega
theorem q_bits_test : ∀ (n : Nat) (f : Nat → Bool) (k : Nat), k < n → (q_bits n f).testBit k = f k
  | 0, _, _, h => by omega
  | n + 1, f, k, h => by
    simp only [q_bits]
    have hl := q_bits_lt n f
    by_cases hk : k = n
    · subst hk
      cases hf : f k with
      | true =>
        rw [if_pos rfl, Nat.add_comm, Nat.testBit_two_pow_add_eq]
        rw [Nat.testBit_lt_two_pow hl]
        rfl
      | false =>
        simp only [Bool.false_eq_true, if_false, Nat.add_zero]
        exact Nat.testBit_lt_two_pow hl
    · have hkn : k < n := by omega
      cases hf : f n with
      | true =>
        rw [if_pos rfl, Nat.add_comm, Nat.testBit_two_pow_add_gt hkn]
        exact q_bits_test n f k hkn
      | false =>
        simp only [Bool.false_eq_true, if_false, Nat.add_zero]
        exact q_bits_test n f k hkn
theorem q_bits_lt64 {n : Nat} (hn : n ≤ 6) (f : Nat → Bool) : q_bits n f < 64 := Nat.lt_of_lt_of_le (q_bits_lt n f) (Nat.pow_le_pow_right (by decide) hn)
theorem q_bit_of : ∀ b, b < 64 → ∀ k, k < 6 → (nI b >>> (nI k &&& 31)) &&& (1 : Int32) = q_b (b.testBit k) := by decide +kernel
theorem q_bit {n k : Nat} (hn : n ≤ 6) (hk : k < n) (f : Nat → Bool) : (nI (q_bits n f) >>> (nI k &&& 31)) &&& (1 : Int32) = q_b (f k) := by
  rw [q_bit_of _ (q_bits_lt64 hn f) k (by omega), q_bits_test n f k hk]
theorem k_misOf {n k : Nat} (d : Nat) (hn : n ≤ 6) (hk : k < n) (f : Nat → Bool) (m : z_M) : z_go z_SH z_P (d + 1) 115 [.int (nI (q_bits n f)), .int (nI k)] m = some (q_b (f k), 0, m) := by
  rw [c_X10_isOf, q_bit hn hk f]
  cases f k <;> simp [q_b]
/-! 3 ofGuest -/
theorem p_ofGuest (x y : Int32) : q_pr 63 125 [.int x, .int y] := by
  intro T hok
  have h6 := hok.1.2.1
  refine ⟨if q_v T.2.1.1.2 x = true then (if y = nI 0 then nI (T.2.1.2.2.1 0 x.toNatClampNeg) else if y = nI 1 then nI (T.2.1.2.2.1 1 x.toNatClampNeg) else if y = nI 2 then nI (T.2.1.2.2.1 2 x.toNatClampNeg) else if y = nI 3 then nI (T.2.1.2.2.1 3 x.toNatClampNeg) else if y = nI 4 then nI (T.2.1.2.2.1 4 x.toNatClampNeg) else if y = nI 5 then q_b (T.2.1.2.2.2 0 x.toNatClampNeg) else if y = nI 6 then q_b (T.2.1.2.2.2 1 x.toNatClampNeg) else -2) else -1, 0, T, q_cop_same (fun d m hC => ?_), q_mop_same (fun d m hM => ?_), hok⟩
  · rw [c_X9_ofGuest, k_isGuest _ _ hC.ng h6]
    simp only [Option.bind_some, q_if]
    by_cases hv : q_v T.2.1.1.2 x = true
    · rw [if_pos hv, if_pos hv]
      obtain ⟨k, hk, rfl⟩ := q_v_t hv (by omega)
      have hk6 : k < 6 := by omega
      rw [q_in hk6 (by decide), z_g_t, q_cl (by omega)]
      simp only [q_g5 hk6 (show 0 < 5 by decide), q_g5 hk6 (show 1 < 5 by decide), q_g5 hk6 (show 2 < 5 by decide), q_g5 hk6 (show 3 < 5 by decide), q_g5 hk6 (show 4 < 5 by decide), q_g5b hk6 (show 5 ≤ 5 by decide) (show 5 < 7 by decide), q_g5b hk6 (show 5 ≤ 6 by decide) (show 6 < 7 by decide), z_g_t, hC.gd hk (show 0 < 5 by decide), hC.gd hk (show 1 < 5 by decide), hC.gd hk (show 2 < 5 by decide), hC.gd hk (show 3 < 5 by decide), hC.gd hk (show 4 < 5 by decide), hC.kn hk, hC.sk hk, q_if]
      (repeat' split) <;> simp_all [q_b]
    · rw [if_neg hv, if_neg hv]
  · rw [c_X10_ofGuest, k_misGuest _ _ hM.ng h6]
    simp only [Option.bind_some, q_if]
    by_cases hv : q_v T.2.1.1.2 x = true
    · rw [if_pos hv, if_pos hv]
      obtain ⟨k, hk, rfl⟩ := q_v_t hv (by omega)
      have hk6 : k < 6 := by omega
      have e0 := hM.gd hk (show 0 < 5 by decide)
      have e1 := hM.gd hk (show 1 < 5 by decide)
      have e2 := hM.gd hk (show 2 < 5 by decide)
      have e3 := hM.gd hk (show 3 < 5 by decide)
      have e4 := hM.gd hk (show 4 < 5 by decide)
      simp only [Nat.reduceAdd] at e0 e1 e2 e3 e4
      simp only [q_in hk6 (show 6 < 2147483648 by decide), z_g_t, q_cl (show k < 2147483648 by omega), e0, e1, e2, e3, e4, hM.kn, hM.sk, q_bit h6 hk]
      (repeat' split) <;> rfl
    · rw [if_neg hv, if_neg hv]
