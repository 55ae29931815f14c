theorem q_lt0 (x : Int32) : (x < 0) ↔ x.toInt < 0 := by
  rw [Int32.lt_iff_toInt_lt]
  exact Iff.rfl
theorem q_ltn {n : Nat} (hn : n < 2147483648) (x : Int32) : (nI n < x) ↔ (n : Int) < x.toInt := by
  rw [Int32.lt_iff_toInt_lt, nI_toInt (by omega)]
theorem q_sub_to {n : Nat} (hn : n ≤ 60) {x : Int32} (h0 : 0 ≤ x.toInt) (h1 : x.toInt ≤ n) : (nI n - x).toInt = (n : Int) - x.toInt := by
  have hk : x = nI x.toInt.toNat := z_nI_of (by omega) (by omega)
  have h2 : x.toInt.toNat ≤ 60 := by omega
  generalize x.toInt.toNat = k at hk h2
  subst hk
  rw [pk_sub_toInt (by omega) (by omega), nI_toInt (by omega)]
def q_fc (n : Nat) (x y : Int32) : Bool := decide (0 ≤ x.toInt ∧ x.toInt ≤ n ∧ 0 ≤ y.toInt ∧ y.toInt ≤ n - x.toInt)
theorem k_fcells {T : q_T} {m : z_M} (hC : q_C m T) (hok : q_okP T.2.2.2) {k : Nat} (hk : k < 4) (d : Nat) (x y : Int32) : z_go z_SH z_P (d + 1) 36 [.ref (51 + 2 * k), .int x, .int y] m = some (if q_fc (T.2.2.2.2.2.1 k) x y = true then 0 else 3, 0, m) := by
  obtain ⟨p1, p2, p3, p4⟩ := hC.2.2.2 k hk
  have hl := (hok k hk).2
  rw [c_X4_faultOfCells d (q_s hk).2.2.2.2.2, p3]
  generalize T.2.2.2.2.2.1 k = n at hl ⊢
  by_cases c1 : x.toInt < 0
  · rw [if_pos ((q_lt0 x).mpr c1), if_neg (fun q => by have := of_decide_eq_true q; omega)]
  rw [if_neg (fun q => c1 ((q_lt0 x).mp q))]
  by_cases c2 : (n : Int) < x.toInt
  · rw [if_pos ((q_ltn (by omega) x).mpr c2), if_neg (fun q => by have := of_decide_eq_true q; omega)]
  rw [if_neg (fun q => c2 ((q_ltn (by omega) x).mp q))]
  by_cases c3 : y.toInt < 0
  · rw [if_pos ((q_lt0 y).mpr c3), if_neg (fun q => by have := of_decide_eq_true q; omega)]
  rw [if_neg (fun q => c3 ((q_lt0 y).mp q))]
  have e : (nI n - x < y) ↔ (n : Int) - x.toInt < y.toInt := by
    rw [Int32.lt_iff_toInt_lt, q_sub_to hl (by omega) (by omega)]
  by_cases c4 : (n : Int) - x.toInt < y.toInt
  · rw [if_pos (e.mpr c4), if_neg (fun q => by have := of_decide_eq_true q; omega)]
  rw [if_neg (fun q => c4 (e.mp q)), if_pos (show q_fc n x y = true from decide_eq_true ⟨by omega, by omega, by omega, by omega⟩)]
def q_cpT (T : q_T) (k i o j n : Nat) : q_T := (T.1, T.2.1, T.2.2.1, (T.2.2.2.1, T.2.2.2.2.1, T.2.2.2.2.2.1, (fun q p => if q = o then (if j ≤ p ∧ p < j + n then T.2.2.2.2.2.2 k (i + (p - j)) else T.2.2.2.2.2.2 o p) else T.2.2.2.2.2.2 q p)))
theorem q_fc_t {n : Nat} {x y : Int32} (hn : n ≤ 60) (h : q_fc n x y = true) : ∃ i c, x = nI i ∧ y = nI c ∧ i + c ≤ n := by
  simp only [q_fc, decide_eq_true_eq] at h
  obtain ⟨h1, h2, h3, h4⟩ := h
  exact ⟨x.toInt.toNat, y.toInt.toNat, z_nI_of (by omega) (by omega), z_nI_of (by omega) (by omega), by omega⟩
/-- the reference's loop, upwards or downwards -/
theorem k_mcopy (d : Nat) {k i o j n : Nat} (hk : k < 4) (ho : o < 4) (hi : i + n ≤ 60) (hj : j + n ≤ 60) (m0 : z_M) (b : Bool) (hb : (b = false → j ≤ i) ∧ (b = true → i < j)) : ∀ (t F q : Nat) (m : z_M), q + t = n → (∀ p, m 62 p = if (b = false ∧ 60 * o + j ≤ p ∧ p < 60 * o + j + q) ∨ (b = true ∧ 60 * o + j + n ≤ p + q ∧ p < 60 * o + j + n) then m0 62 (60 * k + i + (p - (60 * o + j))) else m0 62 p) → (∀ a, a ≠ 62 → m a = m0 a) → ∃ m1, z_lp z_SH 0 (fun _ => 0) (z_go z_SH z_P d) me_X10_copy (F + t + 1) 166 [some (.ref 59), some (.int (nI k)), some (.int (nI i)), some (.int (nI o)), some (.int (nI j)), some (.int (nI n)), none, some (.int (q_b b)), some (.int (nI q)), none] [] m = some (nI n, 0, m1) ∧ (∀ p, m1 62 p = if 60 * o + j ≤ p ∧ p < 60 * o + j + n then m0 62 (60 * k + i + (p - (60 * o + j))) else m0 62 p) ∧ ∀ a, a ≠ 62 → m1 a = m0 a := by
  intro t
  induction t with
  | zero =>
    intro F q m hq hm hf
    refine ⟨m, ?_, fun p => ?_, hf⟩
    · rw [e_X10_copy_166, q_nI_le (by omega) (by omega), if_pos (by omega)]
    · rw [hm p]
      cases b with
      | false =>
        by_cases c : 60 * o + j ≤ p ∧ p < 60 * o + j + n
        · rw [if_pos c, if_pos (Or.inl ⟨rfl, by omega, by omega⟩)]
        · rw [if_neg c, if_neg (by simp; omega)]
      | true =>
        by_cases c : 60 * o + j ≤ p ∧ p < 60 * o + j + n
        · rw [if_pos c, if_pos (Or.inr ⟨rfl, by omega, by omega⟩)]
        · rw [if_neg c, if_neg (by simp; omega)]
  | succ t ih =>
    intro F q m hq hm hf
    rw [show F + (t + 1) + 1 = (F + t + 1) + 1 by omega, e_X10_copy_166, q_nI_le (by omega) (by omega), if_neg (by omega), q_if, q_ix, q_ix, nI_add, nI_add, nI_1, show (1 : Int32) = nI 1 from rfl, pk_sub (show 1 ≤ n by omega), pk_sub (show q ≤ n - 1 by omega), nI_add, nI_add]
    cases b with
    | false =>
      have hb := hb.1 rfl
      rw [if_neg (by decide), q_in (show 60 * k + i + q < 240 by omega) (by decide), z_g_t, q_in (show 60 * o + j + q < 240 by omega) (by decide), z_g_t, q_cl (by omega), q_cl (by omega)]
      refine ih F (q + 1) _ (by omega) (fun p => ?_) (fun a ha => (z_up_ne ha).trans (hf a ha))
      by_cases hp : p = 60 * o + j + q
      · subst hp
        rw [q_uq, hm, if_neg (by simp; omega), if_pos (Or.inl ⟨rfl, by omega, by omega⟩)]
        congr 1
        omega
      · rw [q_uk hp, hm p]
        by_cases c : 60 * o + j ≤ p ∧ p < 60 * o + j + q
        · rw [if_pos (Or.inl ⟨rfl, by omega, by omega⟩), if_pos (Or.inl ⟨rfl, by omega, by omega⟩)]
        · rw [if_neg (by simp; omega), if_neg (by simp; omega)]
    | true =>
      have hb := hb.2 rfl
      rw [if_pos rfl, q_in (show 60 * k + i + (n - 1 - q) < 240 by omega) (by decide), z_g_t, q_in (show 60 * o + j + (n - 1 - q) < 240 by omega) (by decide), z_g_t, q_cl (by omega), q_cl (by omega)]
      refine ih F (q + 1) _ (by omega) (fun p => ?_) (fun a ha => (z_up_ne ha).trans (hf a ha))
      by_cases hp : p = 60 * o + j + (n - 1 - q)
      · subst hp
        rw [q_uq, hm, if_neg (by simp; omega), if_pos (Or.inr ⟨rfl, by omega, by omega⟩)]
        congr 1
        omega
      · rw [q_uk hp, hm p]
        by_cases c : 60 * o + j + n ≤ p + q ∧ p < 60 * o + j + n
        · rw [if_pos (Or.inr ⟨rfl, by omega, by omega⟩), if_pos (Or.inr ⟨rfl, by omega, by omega⟩)]
        · rw [if_neg (by simp; omega), if_neg (by simp; omega)]
theorem q_cp_ok {k o i j n : Nat} (hk : k < 4) (ho : o < 4) (hi : i + n ≤ 60) (hj : j + n ≤ 60) : z_copy z_SH (52 + 2 * k) (52 + 2 * o) (nI i) (nI j) (nI n) = true := by
  have h1 : ∀ k, k < 4 → z_SH[52 + 2 * k]? = some (.inr (.inl (0, 60))) := by
    intro k hk
    rcases (show k = 0 ∨ k = 1 ∨ k = 2 ∨ k = 3 by omega) with rfl | rfl | rfl | rfl <;> rfl
  unfold z_copy
  rw [h1 k hk, h1 o ho]
  simp only [q_cl (show i < 2147483648 by omega), q_cl (show j < 2147483648 by omega), q_cl (show n < 2147483648 by omega), Bool.and_eq_true, decide_eq_true_eq]
  exact ⟨⟨⟨⟨nI_pos (by omega), nI_pos (by omega)⟩, nI_pos (by omega)⟩, Nat.ble_eq.mpr hi⟩, Nat.ble_eq.mpr hj⟩
