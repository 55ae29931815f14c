/-! 11 leave -/
theorem k_become {g x : Nat} (hg : ∀ k, k < 5 → z_okp z_SH g 1 k 0 = true) (hgb : z_okp z_SH g 1 5 1 = true ∧ z_okp z_SH g 1 6 1 = true) (hx : ∀ k, k < 5 → z_okp z_SH x 1 k 0 = true) (hxb : z_okp z_SH x 1 5 1 = true ∧ z_okp z_SH x 1 6 1 = true) (hne : g ≠ x) (d : Nat) (m : z_M) : ∃ m1, z_go z_SH z_P (d + 1) 10 [.ref g, .ref x] m = some (0, 0, m1) ∧ (∀ f, f < 5 → m1 g f = m x f) ∧ z_b (m1 g 5) = z_b (m x 5) ∧ z_b (m1 g 6) = z_b (m x 6) ∧ ∀ a, a ≠ g → m1 a = m a := by
  have hzb : ∀ v : Int32, z_isb (z_b v) = true := by
    intro v
    unfold z_b
    split <;> decide
  have hbb : ∀ v : Int32, z_b (z_b v) = z_b v := by
    intro v
    unfold z_b
    by_cases h : v = 0
    · simp [h]
    · simp [h]
  have hx' : x ≠ g := fun h => hne h.symm
  rw [c_X1_become]
  simp only [hg 0 (by decide), hg 1 (by decide), hg 2 (by decide), hg 3 (by decide), hg 4 (by decide), hx 0 (by decide), hx 1 (by decide), hx 2 (by decide), hx 3 (by decide), hx 4 (by decide), hgb.1, hgb.2, hxb.1, hxb.2, hzb, Bool.and_self, z_g_t, z_up_ne hx']
  refine ⟨_, rfl, fun f hf => ?_, ?_, ?_, fun a ha => ?_⟩
  · rcases (show f = 0 ∨ f = 1 ∨ f = 2 ∨ f = 3 ∨ f = 4 by omega) with rfl | rfl | rfl | rfl | rfl
    all_goals simp (disch := omega) only [q_uk, q_uq]
  · simp (disch := omega) only [q_uk, q_uq, hbb]
  · simp (disch := omega) only [q_uk, q_uq, hbb]
  · simp only [z_up_ne ha]
def q_sh (S : q_St) (k i : Nat) : q_St := (S.1, S.2.1, (fun f j => if k ≤ j ∧ j < i then S.2.2.1 f (j + 1) else S.2.2.1 f j), fun b j => if k ≤ j ∧ j < i then S.2.2.2 b (j + 1) else S.2.2.2 b j)
def q_lv (S : q_St) (k : Nat) : q_St := ((S.1.1, S.1.2 - 1), S.2.1, (fun f j => if j < k then S.2.2.1 f j else S.2.2.1 f (j + 1)), fun b j => if j < k then S.2.2.2 b j else S.2.2.2 b (j + 1))
theorem k_out {h : Nat} (hh : z_isH h) {S : q_St} (h6 : S.1.2 ≤ 6) {k : Nat} (d : Nat) : ∀ (n F i : Nat) (m : z_M), k ≤ i → i + n + 1 = S.1.2 → q_CS m h (q_sh S k i) → ∃ m1, z_lp z_SH 0 (fun _ => 0) (z_go z_SH z_P (d + 1)) me_X2_checkOut (F + n + 1) 2 [some (.ref h), none, some (.int (nI i))] [] m = some (0, 0, m1) ∧ q_CS m1 h (q_lv S k) ∧ (∀ a, (a < h ∨ (h < a ∧ a < h + 3) ∨ h + 9 ≤ a) → m1 a = m a) ∧ m1 h 4 = m h 4 := by
  intro n
  induction n with
  | zero =>
    intro F i m hk hi hC
    refine ⟨z_up m h 3 (nI (S.1.2 - 1)), ?_, ⟨?_, ?_, fun s hs => ?_, fun j hj => ?_⟩, fun a ha => z_up_ne (by omega), q_uk (by decide)⟩
    · rw [e_X2_checkOut_2 _ _ _ _ hh, hC.2.1, show (q_sh S k i).1.2 = S.1.2 from rfl, q_pred (by omega), q_nI_le (by omega) (by omega), if_pos (by omega)]
    · rw [q_uk (by decide)]
      exact hC.1
    · rw [q_uq]
      rfl
    · rw [q_ua (by omega)]
      exact hC.2.2.1 s hs
    · have hj : j < S.1.2 - 1 := hj
      rw [z_up_ne (by omega)]
      obtain ⟨a, b, c⟩ := hC.2.2.2 j (show j < S.1.2 by omega)
      have hq : (k ≤ j ∧ j < i) ↔ ¬ j < k := by omega
      simp only [q_sh, hq] at a b c
      by_cases hjk : j < k
      · simp only [hjk, not_true, if_false] at a b c
        simpa [q_lv, hjk] using ⟨a, b, c⟩
      · simp only [hjk, not_false_eq_true, if_true] at a b c
        simpa [q_lv, hjk] using ⟨a, b, c⟩
  | succ n ih =>
    intro F i m hk hi hC
    have hi6 : i < 6 := by omega
    have hi7 : i + 1 < 6 := by omega
    obtain ⟨m1, e1, g1, g2, g3, f1⟩ := k_become (g := h + 3 + i) (x := h + 3 + (i + 1)) (fun q hq => q_g hh hi6 hq) ⟨q_gb hh hi6 (by decide) (by decide), q_gb hh hi6 (by decide) (by decide)⟩ (fun q hq => q_g hh hi7 hq) ⟨q_gb hh hi7 (by decide) (by decide), q_gb hh hi7 (by decide) (by decide)⟩ (by omega) d m
    have hC1 : q_CS m1 h (q_sh S k (i + 1)) := by
      refine ⟨by rw [f1 h (by omega)]; exact hC.1, by rw [f1 h (by omega)]; exact hC.2.1, fun s hs => by rw [f1 (h + 1) (by omega)]; exact hC.2.2.1 s hs, fun j hj => ?_⟩
      have hj : j < S.1.2 := hj
      by_cases hq : j = i
      · subst hq
        obtain ⟨a, b, c⟩ := hC.2.2.2 (j + 1) (show j + 1 < S.1.2 by omega)
        simp only [q_sh, show ¬ (k ≤ j + 1 ∧ j + 1 < j) by omega, if_false] at a b c
        refine ⟨fun f hf => ?_, ?_, ?_⟩
        · rw [g1 f hf, a f hf]
          simp [q_sh, hk]
        · rw [g2, b]
          simp [q_sh, hk]
        · rw [g3, c]
          simp [q_sh, hk]
      · rw [f1 (h + 3 + j) (by omega)]
        obtain ⟨a, b, c⟩ := hC.2.2.2 j hj
        have hq : (k ≤ j ∧ j < i + 1) ↔ (k ≤ j ∧ j < i) := by omega
        simp only [q_sh, hq]
        exact ⟨a, b, c⟩
    obtain ⟨m2, e2, c2, f2, g4⟩ := ih F (i + 1) m1 (by omega) (by omega) hC1
    refine ⟨m2, ?_, c2, fun a ha => (f2 a ha).trans (f1 a (by omega)), by rw [g4, f1 h (by omega)]⟩
    rw [show F + (n + 1) + 1 = (F + n + 1) + 1 by omega, e_X2_checkOut_2 _ _ _ _ hh, hC.2.1, show (q_sh S k i).1.2 = S.1.2 from rfl, q_pred (by omega), q_nI_le (by omega) (by omega), if_neg (by omega), nI_1, q_in hi6 (by decide), z_g_t, q_in hi7 (by decide), z_g_t, q_cl (by omega), q_cl (by omega), q_gc hh hi6, z_g_t, e1]
    exact e2
theorem q_wo_of : ∀ n, n < 7 → ∀ k, k < n → ∀ b, b < 64 → (nI (q_bits n (fun j => b.testBit j)) &&& (((1 : Int32) <<< (nI k &&& 31)) - (1 : Int32))) ||| ((nI (q_bits n (fun j => b.testBit j)) >>> (1 &&& 31)) &&& ((((1 : Int32) <<< (nI k &&& 31)) - (1 : Int32)) ^^^ ((-1) : Int32))) = nI (q_bits (n - 1) (fun j => if j < k then b.testBit j else b.testBit (j + 1))) := by decide +kernel
theorem q_wo {n k : Nat} (hn : n ≤ 6) (hk : k < n) (f : Nat → Bool) : (nI (q_bits n f) &&& (((1 : Int32) <<< (nI k &&& 31)) - (1 : Int32))) ||| ((nI (q_bits n f) >>> (1 &&& 31)) &&& ((((1 : Int32) <<< (nI k &&& 31)) - (1 : Int32)) ^^^ ((-1) : Int32))) = nI (q_bits (n - 1) (fun j => if j < k then f j else f (j + 1))) := by
  have e := q_wo_of n (by omega) k hk (q_bits n f) (q_bits_lt64 hn f)
  rw [← q_bits_ext n f (fun j => (q_bits n f).testBit j) (fun j hj => (q_bits_test n f j hj).symm)] at e
  rw [e]
  refine congrArg nI (q_bits_ext _ _ _ (fun j hj => ?_))
  by_cases hjk : j < k
  · simp only [hjk, if_true]
    exact q_bits_test n f j (by omega)
  · simp only [hjk, if_false]
    exact q_bits_test n f (j + 1) (by omega)
theorem k_mout {S : q_St} (h6 : S.1.2 ≤ 6) {k : Nat} (hk : k < S.1.2) (C : Nat → List Value → z_M → Option z_R) : ∀ (n F i : Nat) (m : z_M), k ≤ i → i + n + 1 = S.1.2 → m 59 6 = nI (S.1.2 - 1) → (∀ j, j < S.1.2 → ∀ f, f < 5 → m (64 + f) j = nI ((q_sh S k i).2.2.1 f j)) → ∃ m1, z_lp z_SH 0 (fun _ => 0) C me_X10_leave (F + n + 1) 33 [some (.ref 59), some (.int (nI k)), some (.int (nI i))] [] m = z_lp z_SH 0 (fun _ => 0) C me_X10_leave (F + 1) 33 [some (.ref 59), some (.int (nI k)), some (.int (nI (S.1.2 - 1)))] [] m1 ∧ (∀ j, j < S.1.2 - 1 → ∀ f, f < 5 → m1 (64 + f) j = nI ((q_lv S k).2.2.1 f j)) ∧ ∀ a, (a < 64 ∨ 69 ≤ a) → m1 a = m a := by
  intro n
  induction n with
  | zero =>
    intro F i m hki hi h59 hM
    refine ⟨m, ?_, fun j hj f hf => ?_, fun _ _ => rfl⟩
    · rw [show i = S.1.2 - 1 by omega]
    · rw [hM j (by omega) f hf]
      refine congrArg nI ?_
      by_cases hjk : j < k
      · simp [q_sh, q_lv, hjk, show ¬ (k ≤ j) by omega]
      · simp [q_sh, q_lv, hjk, show k ≤ j by omega, show j < i by omega]
  | succ n ih =>
    intro F i m hki hi h59 hM
    have hi6 : i < 6 := by omega
    have hi7 : i + 1 < 6 := by omega
    rw [show F + (n + 1) + 1 = (F + n + 1) + 1 by omega, e_X10_leave_33, h59, q_nI_le (by omega) (by omega), if_neg (by omega), nI_1, q_in hi6 (by decide), q_in hi7 (by decide)]
    simp only [z_g_t]
    rw [q_cl (by omega), q_cl (by omega)]
    simp (disch := omega) only [q_ua]
    obtain ⟨m1, e1, c1, f1⟩ := ih F (i + 1) (z_up (z_up (z_up (z_up (z_up m 64 i (m 64 (i + 1))) 65 i (m 65 (i + 1))) 66 i (m 66 (i + 1))) 67 i (m 67 (i + 1))) 68 i (m 68 (i + 1))) (by omega) (by omega) (by simp (disch := omega) only [q_ua]; exact h59) (by
      intro j hj f hf
      by_cases hq : j = i
      · subst hq
        have e2 : (q_sh S k (j + 1)).2.2.1 f j = S.2.2.1 f (j + 1) := by simp [q_sh, hki]
        have e3 : (q_sh S k j).2.2.1 f (j + 1) = S.2.2.1 f (j + 1) := by simp [q_sh, show ¬ (j + 1 < j) by omega]
        have e4 := hM (j + 1) (by omega) f hf
        rw [e2, ← e3, ← e4]
        rcases (show f = 0 ∨ f = 1 ∨ f = 2 ∨ f = 3 ∨ f = 4 by omega) with rfl | rfl | rfl | rfl | rfl
        all_goals simp (disch := omega) only [q_ua, q_uq]
      · have e2 : (q_sh S k (i + 1)).2.2.1 f j = (q_sh S k i).2.2.1 f j := by
          have hq : (k ≤ j ∧ j < i + 1) ↔ (k ≤ j ∧ j < i) := by omega
          simp only [q_sh, hq]
        rw [e2, ← hM j hj f hf]
        simp (disch := omega) only [q_uk])
    exact ⟨m1, e1, c1, fun a ha => (f1 a ha).trans (by simp (disch := omega) only [z_up_ne])⟩
def q_setLv (T : q_T) (k : Nat) : q_T := (T.1, q_lv T.2.1 k, (0, T.2.2.1.2), T.2.2.2)
theorem p_leave (x : Int32) : q_pr 71 138 [.int x] := by
  intro T hok
  have h6 := hok.1.2.1
  by_cases hv : q_v T.2.1.1.2 x = true
  · obtain ⟨k, hk, rfl⟩ := q_v_t hv (by omega)
    by_cases h1 : T.2.1.1.2 = 1
    · refine ⟨-3, 0, T, q_cop_same (fun d m hC => ?_), q_mop_same (fun d m hM => ?_), hok⟩
      · rw [c_X9_leave, k_isGuest _ _ hC.ng h6]
        simp only [Option.bind_some, q_if]
        rw [if_pos hv, hC.ng, show (1 : Int32) = nI 1 from rfl, q_nI_if (by omega) (by decide), if_pos h1]
      · rw [c_X10_leave, k_misGuest _ _ hM.ng h6]
        simp only [Option.bind_some, q_if]
        rw [if_pos hv, hM.ng, show (1 : Int32) = nI 1 from rfl, q_nI_if (by omega) (by decide), if_pos h1]
    · refine ⟨nI (T.2.1.1.2 - 1), 0, q_setLv T k, fun d m hC => ?_, fun d m hM => ?_, ?_⟩
      · have hC0 : q_CS m 2 (q_sh T.2.1 k k) := by
          have e : q_sh T.2.1 k k = T.2.1 := by
            unfold q_sh
            simp [show ∀ j, ¬ (k ≤ j ∧ j < k) from fun j => by omega]
          rw [e]
          exact hC.2.1
        obtain ⟨m1, e1, c1, f1, g1⟩ := k_out (h := 2) (Or.inl rfl) h6 (d + 17) (T.2.1.1.2 - 1 - k) (199999 - (T.2.1.1.2 - 1 - k) - 1) k m (Nat.le_refl _) (by omega) hC0
        rw [show 199999 - (T.2.1.1.2 - 1 - k) - 1 + (T.2.1.1.2 - 1 - k) + 1 = 199999 by omega] at e1
        have h6' : (q_lv T.2.1 k).1.2 ≤ 6 := by show T.2.1.1.2 - 1 ≤ 6; omega
        refine ⟨z_up m1 40 3 0, ?_, ⟨⟨?_, ?_, ?_⟩, c1.of h6' (fun a h1 h2 => z_up_ne (by omega)), ⟨q_uq _ _ _ _, fun r hr => absurd hr (Nat.not_lt_zero r)⟩, hC.2.2.2.of (fun a h1 h2 => ?_)⟩, fun a ha => ?_⟩
        · rw [c_X9_leave, k_isGuest _ _ hC.ng h6]
          simp only [Option.bind_some, q_if]
          rw [if_pos hv, hC.ng, show (1 : Int32) = nI 1 from rfl, q_nI_if (by omega) (by decide), if_neg h1, c_X2_checkOut (d + 18) (Or.inl rfl), e1]
          simp only [Option.bind_some]
          rw [q_ua (by decide), c1.2.1]
          rfl
        · rw [q_ua (by decide), f1 0 (by omega)]
          exact hC.1.1
        · rw [q_ua (by decide), f1 0 (by omega)]
          exact hC.1.2.1
        · rw [q_ua (by decide), g1]
          exact hC.1.2.2
        · rw [z_up_ne (by omega), f1 a (by omega)]
        · rw [z_up_ne (by omega), f1 a (by omega)]
      · obtain ⟨m1, e1, c1, f1⟩ := k_mout h6 hk (z_go z_SH z_P (d + 19)) (T.2.1.1.2 - 1 - k) (199999 - (T.2.1.1.2 - 1 - k) - 1) k (z_up m 59 6 (nI (T.2.1.1.2 - 1))) (Nat.le_refl _) (by omega) (q_uq _ _ _ _) (fun j hj f hf => by
          rw [q_ua (by omega), hM.gd hj hf]
          simp [q_sh, show ∀ j, ¬ (k ≤ j ∧ j < k) from fun j => by omega])
        rw [show 199999 - (T.2.1.1.2 - 1 - k) - 1 + (T.2.1.1.2 - 1 - k) + 1 = 199999 by omega] at e1
        have e8 : m1 59 8 = nI (q_bits T.2.1.1.2 (T.2.1.2.2.2 0)) := by
          rw [f1 59 (by omega), q_uk (by decide)]
          exact hM.kn
        have e9 : m1 59 9 = nI (q_bits T.2.1.1.2 (T.2.1.2.2.2 1)) := by
          rw [f1 59 (by omega), q_uk (by decide)]
          exact hM.sk
        have e6 : m1 59 6 = nI (T.2.1.1.2 - 1) := by rw [f1 59 (by omega), q_uq]
        refine ⟨z_up (z_up (z_up m1 59 8 (nI (q_bits (T.2.1.1.2 - 1) ((q_lv T.2.1 k).2.2.2 0)))) 59 9 (nI (q_bits (T.2.1.1.2 - 1) ((q_lv T.2.1 k).2.2.2 1)))) 59 33 0, ?_, ⟨⟨?_, ?_, ?_⟩, ⟨?_, ?_, fun s hs => ?_, fun j hj f hf => ?_, ?_, ?_⟩, ⟨q_uq _ _ _ _, fun r hr => absurd hr (Nat.not_lt_zero r)⟩, hM.2.2.2.of (fun a h1 h2 => ?_)⟩, fun a ha => ?_⟩
        · rw [c_X10_leave, k_misGuest _ _ hM.ng h6]
          simp only [Option.bind_some, q_if]
          rw [if_pos hv, hM.ng, show (1 : Int32) = nI 1 from rfl, q_nI_if (by omega) (by decide), if_neg h1, pk_sub (by omega)]
          refine Eq.trans e1 ?_
          rw [e_X10_leave_33, e6, q_nI_le (by omega) (by omega), if_pos (by omega), e8, c_X10_without, q_wo h6 hk]
          simp only [Option.bind_some]
          rw [q_uk (by decide), e9, c_X10_without, q_wo h6 hk]
          simp only [Option.bind_some]
          rw [q_uk (by decide), q_uk (by decide), q_uk (by decide), e6]
          rfl
        · simp (disch := omega) only [q_uk]
          rw [f1 59 (by omega), q_uk (by decide)]
          exact hM.1.1
        · simp (disch := omega) only [q_uk]
          rw [f1 59 (by omega), q_uk (by decide)]
          exact hM.1.2.1
        · simp (disch := omega) only [q_uk]
          rw [f1 59 (by omega), q_uk (by decide)]
          exact hM.1.2.2
        · simp (disch := omega) only [q_uk]
          rw [f1 59 (by omega), q_uk (by decide)]
          exact hM.ns
        · simp (disch := omega) only [q_uk]
          exact e6
        · simp (disch := omega) only [q_ua]
          rw [f1 63 (by omega), q_ua (by decide)]
          exact hM.hi hs
        · simp (disch := omega) only [q_ua]
          exact c1 j hj f hf
        · simp (disch := omega) only [q_uk, q_uq]
          rfl
        · simp (disch := omega) only [q_uk, q_uq]
          rfl
        · simp (disch := omega) only [z_up_ne]
          rw [f1 a (by omega), z_up_ne (by omega)]
        · simp (disch := omega) only [z_up_ne]
          rw [f1 a (by omega), z_up_ne (by omega)]
      · obtain ⟨o1, o2, o3, o4, o5⟩ := hok.1
        refine ⟨⟨o1, by show T.2.1.1.2 - 1 ≤ 6; omega, fun _ => o3 (by omega), o4, fun j hj => ?_⟩, ⟨Nat.zero_le _, fun r hr => absurd hr (Nat.not_lt_zero r)⟩, hok.2.2⟩
        have hj : j < T.2.1.1.2 - 1 := hj
        by_cases hjk : j < k
        · have := o5 j (by omega)
          simpa [q_setLv, q_lv, hjk] using this
        · have := o5 (j + 1) (by omega)
          simpa [q_setLv, q_lv, hjk] using this
  · refine ⟨-1, 0, T, q_cop_same (fun d m hC => ?_), q_mop_same (fun d m hM => ?_), hok⟩
    · rw [c_X9_leave, k_isGuest _ _ hC.ng h6]
      simp only [Option.bind_some, q_if]
      rw [if_neg hv]
    · rw [c_X10_leave, k_misGuest _ _ hM.ng h6]
      simp only [Option.bind_some, q_if]
      rw [if_neg hv]
