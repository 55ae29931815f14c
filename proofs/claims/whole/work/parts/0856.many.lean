/-! 33 many -/
theorem k_knowing {h : Nat} (hh : z_isH h) {S : q_St} (h6 : S.1.2 ≤ 6) (C : Nat → List Value → z_M → Option z_R) {m : z_M} (hC : q_CS m h S) : ∀ (j F i : Nat), i + j = S.1.2 → z_lp z_SH 0 (fun _ => 0) C me_X2_knowing (F + j + 1) 4 [some (.ref h), some (.int (nI (q_bits i (S.2.2.2 0)))), some (.int (nI i))] [] m = some (nI (q_bits S.1.2 (S.2.2.2 0)), 0, m) := by
  intro j
  induction j with
  | zero =>
    intro F i hi
    rw [e_X2_knowing_4 _ _ _ _ hh, hC.2.1, q_nI_le (by omega) (by omega), if_pos (by omega), show i = S.1.2 by omega]
  | succ j ih =>
    intro F i hi
    have hk : i < S.1.2 := by omega
    have hk6 : i < 6 := by omega
    have e1 := ih F (i + 1) (by omega)
    rw [show F + (j + 1) + 1 = (F + j + 1) + 1 by omega, e_X2_knowing_4 _ _ _ _ hh, hC.2.1, q_nI_le (by omega) (by omega), if_neg (by omega), q_in hk6 (by decide), z_g_t, q_cl (by omega), q_gb hh hk6 (by decide) (by decide), z_g_t, hC.kn hk, q_if, nI_1, Int32.or_zero, q_or_of _ (q_bits_lt64 (by omega) _) i hk6, Nat.testBit_lt_two_pow (q_bits_lt i _), if_neg (show ¬ (false = true) by decide)]
    by_cases hn : S.2.2.2 0 i = true
    · rw [if_pos hn]
      simp only [q_bits, hn, if_true] at e1
      exact e1
    · rw [if_neg hn]
      simp only [q_bits, hn, if_false, Nat.add_zero] at e1
      exact e1
theorem k_shocked {h : Nat} (hh : z_isH h) {S : q_St} (h6 : S.1.2 ≤ 6) (C : Nat → List Value → z_M → Option z_R) {m : z_M} (hC : q_CS m h S) : ∀ (j F i : Nat), i + j = S.1.2 → z_lp z_SH 0 (fun _ => 0) C me_X2_shockedOnes (F + j + 1) 4 [some (.ref h), some (.int (nI (q_bits i (S.2.2.2 1)))), some (.int (nI i))] [] m = some (nI (q_bits S.1.2 (S.2.2.2 1)), 0, m) := by
  intro j
  induction j with
  | zero =>
    intro F i hi
    rw [e_X2_shockedOnes_4 _ _ _ _ hh, hC.2.1, q_nI_le (by omega) (by omega), if_pos (by omega), show i = S.1.2 by omega]
  | succ j ih =>
    intro F i hi
    have hk : i < S.1.2 := by omega
    have hk6 : i < 6 := by omega
    have e1 := ih F (i + 1) (by omega)
    rw [show F + (j + 1) + 1 = (F + j + 1) + 1 by omega, e_X2_shockedOnes_4 _ _ _ _ hh, hC.2.1, q_nI_le (by omega) (by omega), if_neg (by omega), q_in hk6 (by decide), z_g_t, q_cl (by omega), q_gb hh hk6 (by decide) (by decide), z_g_t, hC.sk hk, q_if, nI_1, Int32.or_zero, q_or_of _ (q_bits_lt64 (by omega) _) i hk6, Nat.testBit_lt_two_pow (q_bits_lt i _), if_neg (show ¬ (false = true) by decide)]
    by_cases hn : S.2.2.2 1 i = true
    · rw [if_pos hn]
      simp only [q_bits, hn, if_true] at e1
      exact e1
    · rw [if_neg hn]
      simp only [q_bits, hn, if_false, Nat.add_zero] at e1
      exact e1
theorem k_knowing0 {h : Nat} (hh : z_isH h) {S : q_St} (h6 : S.1.2 ≤ 6) (d : Nat) {m : z_M} (hC : q_CS m h S) : z_go z_SH z_P (d + 1) 26 [.ref h] m = some (nI (q_bits S.1.2 (S.2.2.2 0)), 0, m) := by
  have := k_knowing hh h6 (z_go z_SH z_P d) hC S.1.2 (199999 - S.1.2 - 1) 0 (Nat.zero_add _)
  rw [show 199999 - S.1.2 - 1 + S.1.2 + 1 = 199999 by omega] at this
  rw [c_X2_knowing d hh]
  exact this
theorem k_shocked0 {h : Nat} (hh : z_isH h) {S : q_St} (h6 : S.1.2 ≤ 6) (d : Nat) {m : z_M} (hC : q_CS m h S) : z_go z_SH z_P (d + 1) 27 [.ref h] m = some (nI (q_bits S.1.2 (S.2.2.2 1)), 0, m) := by
  have := k_shocked hh h6 (z_go z_SH z_P d) hC S.1.2 (199999 - S.1.2 - 1) 0 (Nat.zero_add _)
  rw [show 199999 - S.1.2 - 1 + S.1.2 + 1 = 199999 by omega] at this
  rw [c_X2_shockedOnes d hh]
  exact this
def q_pc (b : Nat) : Nat := b % 2 + b / 2 % 2 + b / 4 % 2 + b / 8 % 2 + b / 16 % 2 + b / 32 % 2
def q_bcf (x1 : Int32) : Int32 := (((((((x1 - (((x1.toUInt32 >>> ((1 : Int32).toUInt32 &&& Int32.toUInt32 31)).toInt32) &&& (1431655765 : Int32))) &&& (858993459 : Int32)) + ((((x1 - (((x1.toUInt32 >>> ((1 : Int32).toUInt32 &&& Int32.toUInt32 31)).toInt32) &&& (1431655765 : Int32))).toUInt32 >>> ((2 : Int32).toUInt32 &&& Int32.toUInt32 31)).toInt32) &&& (858993459 : Int32))) + (((((x1 - (((x1.toUInt32 >>> ((1 : Int32).toUInt32 &&& Int32.toUInt32 31)).toInt32) &&& (1431655765 : Int32))) &&& (858993459 : Int32)) + ((((x1 - (((x1.toUInt32 >>> ((1 : Int32).toUInt32 &&& Int32.toUInt32 31)).toInt32) &&& (1431655765 : Int32))).toUInt32 >>> ((2 : Int32).toUInt32 &&& Int32.toUInt32 31)).toInt32) &&& (858993459 : Int32))).toUInt32 >>> ((4 : Int32).toUInt32 &&& Int32.toUInt32 31)).toInt32)) &&& (252645135 : Int32)) + (((((((x1 - (((x1.toUInt32 >>> ((1 : Int32).toUInt32 &&& Int32.toUInt32 31)).toInt32) &&& (1431655765 : Int32))) &&& (858993459 : Int32)) + ((((x1 - (((x1.toUInt32 >>> ((1 : Int32).toUInt32 &&& Int32.toUInt32 31)).toInt32) &&& (1431655765 : Int32))).toUInt32 >>> ((2 : Int32).toUInt32 &&& Int32.toUInt32 31)).toInt32) &&& (858993459 : Int32))) + (((((x1 - (((x1.toUInt32 >>> ((1 : Int32).toUInt32 &&& Int32.toUInt32 31)).toInt32) &&& (1431655765 : Int32))) &&& (858993459 : Int32)) + ((((x1 - (((x1.toUInt32 >>> ((1 : Int32).toUInt32 &&& Int32.toUInt32 31)).toInt32) &&& (1431655765 : Int32))).toUInt32 >>> ((2 : Int32).toUInt32 &&& Int32.toUInt32 31)).toInt32) &&& (858993459 : Int32))).toUInt32 >>> ((4 : Int32).toUInt32 &&& Int32.toUInt32 31)).toInt32)) &&& (252645135 : Int32)).toUInt32 >>> ((8 : Int32).toUInt32 &&& Int32.toUInt32 31)).toInt32)) + ((((((((x1 - (((x1.toUInt32 >>> ((1 : Int32).toUInt32 &&& Int32.toUInt32 31)).toInt32) &&& (1431655765 : Int32))) &&& (858993459 : Int32)) + ((((x1 - (((x1.toUInt32 >>> ((1 : Int32).toUInt32 &&& Int32.toUInt32 31)).toInt32) &&& (1431655765 : Int32))).toUInt32 >>> ((2 : Int32).toUInt32 &&& Int32.toUInt32 31)).toInt32) &&& (858993459 : Int32))) + (((((x1 - (((x1.toUInt32 >>> ((1 : Int32).toUInt32 &&& Int32.toUInt32 31)).toInt32) &&& (1431655765 : Int32))) &&& (858993459 : Int32)) + ((((x1 - (((x1.toUInt32 >>> ((1 : Int32).toUInt32 &&& Int32.toUInt32 31)).toInt32) &&& (1431655765 : Int32))).toUInt32 >>> ((2 : Int32).toUInt32 &&& Int32.toUInt32 31)).toInt32) &&& (858993459 : Int32))).toUInt32 >>> ((4 : Int32).toUInt32 &&& Int32.toUInt32 31)).toInt32)) &&& (252645135 : Int32)) + (((((((x1 - (((x1.toUInt32 >>> ((1 : Int32).toUInt32 &&& Int32.toUInt32 31)).toInt32) &&& (1431655765 : Int32))) &&& (858993459 : Int32)) + ((((x1 - (((x1.toUInt32 >>> ((1 : Int32).toUInt32 &&& Int32.toUInt32 31)).toInt32) &&& (1431655765 : Int32))).toUInt32 >>> ((2 : Int32).toUInt32 &&& Int32.toUInt32 31)).toInt32) &&& (858993459 : Int32))) + (((((x1 - (((x1.toUInt32 >>> ((1 : Int32).toUInt32 &&& Int32.toUInt32 31)).toInt32) &&& (1431655765 : Int32))) &&& (858993459 : Int32)) + ((((x1 - (((x1.toUInt32 >>> ((1 : Int32).toUInt32 &&& Int32.toUInt32 31)).toInt32) &&& (1431655765 : Int32))).toUInt32 >>> ((2 : Int32).toUInt32 &&& Int32.toUInt32 31)).toInt32) &&& (858993459 : Int32))).toUInt32 >>> ((4 : Int32).toUInt32 &&& Int32.toUInt32 31)).toInt32)) &&& (252645135 : Int32)).toUInt32 >>> ((8 : Int32).toUInt32 &&& Int32.toUInt32 31)).toInt32)).toUInt32 >>> ((16 : Int32).toUInt32 &&& Int32.toUInt32 31)).toInt32)) &&& (63 : Int32)
theorem q_bcf_of : ∀ b, b < 64 → q_bcf (nI b) = nI (q_pc b) := by decide +kernel
theorem k_bitc {b : Nat} (hb : b < 64) (d : Nat) (m : z_M) : z_go z_SH z_P (d + 1) 178 [.int (nI b)] m = some (nI (q_pc b), 0, m) := by
  rw [c_Integer_bitCount, ← q_bcf_of b hb]
  rfl
theorem q_pc_h : ∀ b, b < 64 → q_pc b = b % 2 + q_pc (b / 2) := by decide +kernel
theorem q_sz1 : ∀ b, b < 64 → nI b &&& (1 : Int32) = nI (b % 2) ∧ nI b >>> (1 &&& 31 : Int32) = nI (b / 2) := by decide +kernel
theorem k_msz (C : Nat → List Value → z_M → Option z_R) (m : z_M) : ∀ (t F b y : Nat), b < 2 ^ t → t ≤ 6 → z_lp z_SH 0 (fun _ => 0) C me_X10_size (F + t + 1) 4 [none, some (.int (nI y)), some (.int (nI b))] [] m = some (nI (y + q_pc b), 0, m) := by
  intro t
  induction t with
  | zero =>
    intro F b y hb ht
    obtain rfl : b = 0 := by
      simp at hb
      exact hb
    rw [e_X10_size_4]
    rfl
  | succ t ih =>
    intro F b y hb ht
    have h64 : b < 64 := Nat.lt_of_lt_of_le hb (Nat.pow_le_pow_right (by decide) ht)
    by_cases h0 : b = 0
    · subst h0
      rw [e_X10_size_4]
      rfl
    · rw [show F + (t + 1) + 1 = (F + t + 1) + 1 by omega, e_X10_size_4, show (0 : Int32) = nI 0 from rfl, q_nI_le (by omega) (by decide), if_neg (by omega), (q_sz1 b h64).1, (q_sz1 b h64).2, nI_add, q_pc_h b h64, ← Nat.add_assoc]
      rw [Nat.pow_succ] at hb
      exact ih F (b / 2) (y + b % 2) (by omega) (by omega)
theorem k_msize {b : Nat} (hb : b < 64) (d : Nat) (m : z_M) : z_go z_SH z_P (d + 1) 116 [.int (nI b)] m = some (nI (q_pc b), 0, m) := by
  have := k_msz (z_go z_SH z_P d) m 6 199992 b 0 hb (by decide)
  rw [Nat.zero_add] at this
  rw [c_X10_size]
  exact this
theorem q_pc_un_of : ∀ n, n < 7 → ∀ b, b < 64 → q_pc (q_bits n (fun j => b.testBit j)) + q_un n (fun j => b.testBit j) = n := by decide +kernel
theorem q_pc_un {n : Nat} (hn : n ≤ 6) (f : Nat → Bool) : q_pc (q_bits n f) + q_un n f = n := by
  have e := q_pc_un_of n (by omega) (q_bits n f) (q_bits_lt64 hn f)
  rw [← q_bits_ext n f (fun j => (q_bits n f).testBit j) (fun j hj => (q_bits_test n f j hj).symm), ← q_un_ext n f (fun j => (q_bits n f).testBit j) (fun j hj => (q_bits_test n f j hj).symm)] at e
  exact e
theorem p_many (x : Int32) : q_pr 93 175 [.int x] := by
  intro T hok
  have h6 := hok.1.2.1
  refine ⟨if x = nI 0 then nI T.2.1.1.2 else if x = nI 1 then nI T.2.1.1.1 else if x = nI 2 then T.1.2.2 else if x = nI 3 then nI (q_pc (q_bits T.2.1.1.2 (T.2.1.2.2.2 0))) else if x = nI 4 then nI T.2.2.1.1 else -2, 0, T, q_cop_same (fun d m hC => ?_), q_mop_same (fun d m hM => ?_), hok⟩
  · rw [c_X9_many, k_knowing0 (Or.inl rfl) h6 (d + 18) hC.2.1]
    simp only [Option.bind_some]
    rw [k_bitc (q_bits_lt64 h6 _)]
    simp only [Option.bind_some]
    rw [hC.ng, hC.ns, hC.1.2.2, hC.2.2.1.1]
    by_cases c0 : x = nI 0
    · rw [if_pos c0, if_pos c0]
    rw [if_neg c0, if_neg c0]
    by_cases c1 : x = nI 1
    · rw [if_pos c1, if_pos c1]
    rw [if_neg c1, if_neg c1]
    by_cases c2 : x = nI 2
    · rw [if_pos c2, if_pos c2]
    rw [if_neg c2, if_neg c2]
    by_cases c3 : x = nI 3
    · rw [if_pos c3, if_pos c3]
    rw [if_neg c3, if_neg c3]
    by_cases c4 : x = nI 4
    · rw [if_pos c4, if_pos c4]
    rw [if_neg c4, if_neg c4]
  · rw [c_X10_many, hM.kn, k_msize (q_bits_lt64 h6 _)]
    simp only [Option.bind_some]
    rw [hM.ng, hM.ns, hM.1.2.2, hM.2.2.1.1]
    by_cases c0 : x = nI 0
    · rw [if_pos c0, if_pos c0]
    rw [if_neg c0, if_neg c0]
    by_cases c1 : x = nI 1
    · rw [if_pos c1, if_pos c1]
    rw [if_neg c1, if_neg c1]
    by_cases c2 : x = nI 2
    · rw [if_pos c2, if_pos c2]
    rw [if_neg c2, if_neg c2]
    by_cases c3 : x = nI 3
    · rw [if_pos c3, if_pos c3]
    rw [if_neg c3, if_neg c3]
    by_cases c4 : x = nI 4
    · rw [if_pos c4, if_pos c4]
    rw [if_neg c4, if_neg c4]
