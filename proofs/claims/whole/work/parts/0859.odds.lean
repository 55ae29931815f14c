/-! 22 odds -/
def q_bo (S : q_St) (k : Nat) : Nat → Nat
  | 0 => 0
  | n + 1 => q_bo S k n + (if S.2.2.1 1 k < q_wt S n k then 0 else 1)
theorem q_bo_le (S : q_St) (k : Nat) : ∀ n, q_bo S k n ≤ n
  | 0 => Nat.le_refl _
  | n + 1 => by
    have := q_bo_le S k n
    simp only [q_bo]
    split <;> omega
theorem q_rem : ∀ a, a < 6 → ∀ b, b < 6 → b ≠ 0 → nI a - nI a / nI b * nI b = nI (a % b) := by decide +kernel
theorem k_gcd (C : Nat → List Value → z_M → Option z_R) (m : z_M) : ∀ (t F a b y : Nat), a < 6 → b < 6 → b ≤ t → y + t ≤ 39 → z_lp z_SH 0 (fun _ => 0) C me_X9_commonDivisor (F + t + 1) 7 [none, none, some (.int (nI a)), some (.int (nI b)), some (.int (nI y)), none] [] m = some (nI (Nat.gcd b a), 0, m) := by
  intro t
  induction t with
  | zero =>
    intro F a b y ha hb ht hy
    obtain rfl : b = 0 := by omega
    rw [e_X9_commonDivisor_7, show (40 : Int32) = nI 40 from rfl, q_nI_le (by decide) (by omega), if_neg (by omega), Nat.gcd_zero_left]
    rfl
  | succ t ih =>
    intro F a b y ha hb ht hy
    rw [show F + (t + 1) + 1 = (F + t + 1) + 1 by omega, e_X9_commonDivisor_7, show (40 : Int32) = nI 40 from rfl, q_nI_le (by decide) (by omega), if_neg (by omega)]
    by_cases h0 : b = 0
    · subst h0
      rw [Nat.gcd_zero_left]
      rfl
    · have hne : ¬ nI b = (0 : Int32) := by
        rw [show (0 : Int32) = nI 0 from rfl]
        exact fun q => h0 ((nI_eq (by omega) (by decide)).mp q)
      have hm := Nat.mod_lt a (show 0 < b by omega)
      rw [show (if nI b ≤ (0 : Int32) then some (nI a, (0 : Int64), m) else z_g (decide (¬ nI b = (0 : Int32))) (z_lp z_SH 0 (fun _ => 0) C me_X9_commonDivisor (F + t + 1) 7 [none, none, some (.int (nI b)), some (.int (nI a - nI a / nI b * nI b)), some (.int (nI y + 1)), none] [] m)) = z_g (decide (¬ nI b = (0 : Int32))) (z_lp z_SH 0 (fun _ => 0) C me_X9_commonDivisor (F + t + 1) 7 [none, none, some (.int (nI b)), some (.int (nI a - nI a / nI b * nI b)), some (.int (nI y + 1)), none] [] m) from if_neg (fun q => h0 (by have := (nI_leI (a := b) (b := 0) (by omega) (by decide)).mp q; omega)), decide_eq_true hne, z_g_t, q_rem a ha b hb h0, nI_1, Nat.gcd_rec]
      exact ih F b (a % b) (y + 1) hb (by omega) (by omega) (by omega)
theorem k_gcd0 {a b : Nat} (ha : a < 6) (hb : b < 6) (d : Nat) (m : z_M) : z_go z_SH z_P (d + 1) 100 [.int (nI a), .int (nI b)] m = some (nI (Nat.gcd b a), 0, m) := by
  have := k_gcd (z_go z_SH z_P d) m 6 199992 a b 0 ha hb (by omega) (by decide)
  rw [c_X9_commonDivisor]
  exact this
abbrev q_L (n : Nat) : Int64 := (nI n).toInt64
theorem q_L0 : ∀ b, b < 6 → ((lg_cmp (q_L b) 0 = 0) ↔ b = 0) ∧ ((q_L b = 0) ↔ b = 0) := by decide +kernel
theorem q_Lrem : ∀ a, a < 6 → ∀ b, b < 6 → b ≠ 0 → q_L a - q_L a / q_L b * q_L b = q_L (a % b) := by decide +kernel
theorem q_Ldiv : ∀ a, a < 6 → ∀ b, b < 6 → b ≠ 0 → (nI a / nI b).toInt64 = q_L a / q_L b := by decide +kernel
theorem k_mgcd (C : Nat → List Value → z_M → Option z_R) (m : z_M) {u d0 : Nat} {w : Int32} : ∀ (t F a b : Nat), a < 6 → b < 6 → b ≤ t → 0 < a + b → z_lp z_SH 0 (fun _ => 0) C me_X10_inLeastTerms (F + t + 1) 6 [some (.long (q_L u)), none, some (.long (q_L d0)), none, some (.int w), some (.long (q_L a)), none, some (.long (q_L b)), none, none, none] [] m = some (0, if w = 0 then q_L u / q_L (Nat.gcd b a) else q_L d0 / q_L (Nat.gcd b a), m) := by
  intro t
  induction t with
  | zero =>
    intro F a b ha hb ht hab
    obtain rfl : b = 0 := by omega
    have hne : ¬ q_L a = 0 := fun q => by have := (q_L0 a ha).2.mp q; omega
    rw [e_X10_inLeastTerms_6, if_pos ((q_L0 0 (by decide)).1.mpr rfl), decide_eq_true hne, z_g_t, z_g_t, Nat.gcd_zero_left]
    split <;> rfl
  | succ t ih =>
    intro F a b ha hb ht hab
    rw [show F + (t + 1) + 1 = (F + t + 1) + 1 by omega, e_X10_inLeastTerms_6]
    by_cases h0 : b = 0
    · subst h0
      have hne : ¬ q_L a = 0 := fun q => by have := (q_L0 a ha).2.mp q; omega
      rw [if_pos ((q_L0 0 (by decide)).1.mpr rfl), decide_eq_true hne, z_g_t, z_g_t, Nat.gcd_zero_left]
      split <;> rfl
    · have hm := Nat.mod_lt a (show 0 < b by omega)
      have hne : ¬ q_L b = 0 := fun q => h0 ((q_L0 b hb).2.mp q)
      rw [if_neg (fun q => h0 ((q_L0 b hb).1.mp q)), decide_eq_true hne, z_g_t, q_Lrem a ha b hb h0, Nat.gcd_rec]
      exact ih F b (a % b) hb (by omega) (by omega) (by omega)
theorem k_mgcd0 {u d0 : Nat} (w : Int32) (ha : u < 6) (hb : d0 < 6) (h0 : 0 < d0) (d : Nat) (m : z_M) : z_go z_SH z_P (d + 1) 162 [.long (q_L u), .long (q_L d0), .int w] m = some (0, if w = 0 then q_L u / q_L (Nat.gcd d0 u) else q_L d0 / q_L (Nat.gcd d0 u), m) := by
  have := k_mgcd (z_go z_SH z_P d) m (u := u) (d0 := d0) (w := w) 6 199992 u d0 ha hb (by omega) (by omega)
  rw [c_X10_inLeastTerms]
  exact this
theorem k_odds {S : q_St} (hok : q_okS S) {k : Nat} (hk : k < S.1.2) (w : Int32) {m : z_M} (hC : q_CS m 2 S) (d : Nat) : ∀ (n F i : Nat), i + n = S.1.1 → z_lp z_SH 0 (fun _ => 0) (z_go z_SH z_P (d + 2)) me_X9_odds (F + n + 1) 26 [some (.ref 0), some (.int (nI k)), some (.int w), some (.int (nI (q_bo S k i))), some (.int (nI i))] [] m = some (0, if w = 0 then q_L (q_bo S k S.1.1) / q_L (Nat.gcd S.1.1 (q_bo S k S.1.1)) else q_L S.1.1 / q_L (Nat.gcd S.1.1 (q_bo S k S.1.1)), m) := by
  have h5 := hok.1
  have h6 := hok.2.1
  have h0 := hok.2.2.1 (by omega)
  have hle := q_bo_le S k S.1.1
  intro n
  induction n with
  | zero =>
    intro F i hi
    obtain rfl : i = S.1.1 := by omega
    have hg0 : 0 < Nat.gcd S.1.1 (q_bo S k S.1.1) := Nat.gcd_pos_of_pos_left _ h0
    have hg5 : Nat.gcd S.1.1 (q_bo S k S.1.1) ≤ S.1.1 := Nat.gcd_le_left _ h0
    rw [e_X9_odds_26, hC.1, q_nI_le (by omega) (by omega), if_pos (Nat.le_refl _), k_gcd0 (by omega) (by omega)]
    simp only [Option.bind_some]
    have hne : ¬ nI (Nat.gcd (q_bo S k S.1.1) S.1.1) = (0 : Int32) := by
      rw [show (0 : Int32) = nI 0 from rfl, Nat.gcd_comm]
      exact fun q => by have := (nI_eq (by omega) (by decide)).mp q; omega
    rw [if_neg hne, decide_eq_true hne, z_g_t, z_g_t, hC.1, Nat.gcd_comm, q_Ldiv _ (by omega) _ (by omega) (by omega), q_Ldiv _ (by omega) _ (by omega) (by omega)]
    by_cases hw : w = 0
    · rw [if_pos hw, if_pos hw]
    · rw [if_neg hw, if_neg hw]
  | succ n ih =>
    intro F i hi
    have e1 := ih F (i + 1) (by omega)
    rw [show F + (n + 1) + 1 = (F + n + 1) + 1 by omega, e_X9_odds_26, hC.1, q_nI_le (by omega) (by omega), if_neg (by omega), k_shocks (Or.inl rfl) hC hok (by omega) hk]
    simp only [Option.bind_some]
    rw [q_if, nI_1, nI_1, Int32.add_zero]
    by_cases hq : S.2.2.1 1 k < q_wt S i k
    · rw [if_pos (decide_eq_true hq)]
      simp only [q_bo, hq, if_true, Nat.add_zero] at e1
      exact e1
    · rw [if_neg (by simpa using hq)]
      simp only [q_bo, hq, if_false] at e1
      exact e1
theorem k_modds {S : q_St} (hok : q_okS S) {k : Nat} (hk : k < S.1.2) (w : Int32) {m : z_M} (hM : q_MS m S) (d : Nat) : ∀ (n F i : Nat), i + n = S.1.1 → z_lp z_SH 0 (fun _ => 0) (z_go z_SH z_P (d + 1)) me_X10_odds (F + n + 1) 26 [some (.ref 59), some (.int (nI k)), some (.int w), some (.int (nI (q_bo S k i))), some (.int (nI i))] [] m = some (0, if w = 0 then q_L (q_bo S k S.1.1) / q_L (Nat.gcd S.1.1 (q_bo S k S.1.1)) else q_L S.1.1 / q_L (Nat.gcd S.1.1 (q_bo S k S.1.1)), m) := by
  have h5 := hok.1
  have h6 := hok.2.1
  have h0 := hok.2.2.1 (by omega)
  have hle := q_bo_le S k S.1.1
  intro n
  induction n with
  | zero =>
    intro F i hi
    obtain rfl : i = S.1.1 := by omega
    rw [e_X10_odds_26, hM.1, q_nI_le (by omega) (by omega), if_pos (Nat.le_refl _), k_mgcd0 w (by omega) (by omega) h0]
    rfl
  | succ n ih =>
    intro F i hi
    have e1 := ih F (i + 1) (by omega)
    have hwt := q_wt_le hok (show i < S.1.1 by omega) k
    have hb := hok.k1 hk
    rw [show F + (n + 1) + 1 = (F + n + 1) + 1 by omega, e_X10_odds_26, hM.1, q_nI_le (by omega) (by omega), if_neg (by omega), k_mweigh hM hok (by omega) hk]
    simp only [Option.bind_some]
    rw [q_in (show k < 6 by omega) (by decide), z_g_t, q_cl (by omega), hM.g1 hk, q_nI_le (by omega) (by omega), nI_1, nI_1, Int32.add_zero]
    by_cases hq : S.2.2.1 1 k < q_wt S i k
    · rw [if_neg (by omega)]
      simp only [q_bo, hq, if_true, Nat.add_zero] at e1
      exact e1
    · rw [if_pos (by omega)]
      simp only [q_bo, hq, if_false] at e1
      exact e1
theorem p_odds (x y : Int32) : q_pr 82 163 [.int x, .int y] := by
  intro T hok
  have h6 := hok.1.2.1
  have h5 := hok.1.1
  by_cases hv : q_v T.2.1.1.2 x = true
  · by_cases hw : q_w 0 1 y = true
    · obtain ⟨k, hk, rfl⟩ := q_v_t hv (by omega)
      refine ⟨0, if y = 0 then q_L (q_bo T.2.1 k T.2.1.1.1) / q_L (Nat.gcd T.2.1.1.1 (q_bo T.2.1 k T.2.1.1.1)) else q_L T.2.1.1.1 / q_L (Nat.gcd T.2.1.1.1 (q_bo T.2.1 k T.2.1.1.1)), T, q_cop_same (fun d m hC => ?_), q_mop_same (fun d m hM => ?_), hok⟩
      · rw [c_X9_odds, k_isGuest _ _ hC.ng h6]
        simp only [Option.bind_some, q_if]
        rw [if_pos hv, k_within]
        simp only [Option.bind_some, q_if]
        rw [if_pos hw]
        have := k_odds hok.1 hk y hC.2.1 (d + 17) T.2.1.1.1 (199999 - T.2.1.1.1 - 1) 0 (Nat.zero_add _)
        rw [show 199999 - T.2.1.1.1 - 1 + T.2.1.1.1 + 1 = 199999 by omega, show d + 17 + 2 = d + 19 from rfl] at this
        exact this
      · rw [c_X10_odds, k_misGuest _ _ hM.ng h6]
        simp only [Option.bind_some, q_if]
        rw [if_pos hv, k_mwithin]
        simp only [Option.bind_some, q_if]
        rw [if_pos hw]
        have := k_modds hok.1 hk y hM.2.1 (d + 18) T.2.1.1.1 (199999 - T.2.1.1.1 - 1) 0 (Nat.zero_add _)
        rw [show 199999 - T.2.1.1.1 - 1 + T.2.1.1.1 + 1 = 199999 by omega, show d + 18 + 1 = d + 19 from rfl] at this
        exact this
    · refine ⟨0, z_lost, T, q_cop_same (fun d m hC => ?_), q_mop_same (fun d m hM => ?_), hok⟩
      · rw [c_X9_odds, k_isGuest _ _ hC.ng h6]
        simp only [Option.bind_some, q_if]
        rw [if_pos hv, k_within]
        simp only [Option.bind_some, q_if]
        rw [if_neg hw]
      · rw [c_X10_odds, k_misGuest _ _ hM.ng h6]
        simp only [Option.bind_some, q_if]
        rw [if_pos hv, k_mwithin]
        simp only [Option.bind_some, q_if]
        rw [if_neg hw]
  · refine ⟨0, z_lost, T, q_cop_same (fun d m hC => ?_), q_mop_same (fun d m hM => ?_), hok⟩
    · rw [c_X9_odds, k_isGuest _ _ hC.ng h6]
      simp only [Option.bind_some, q_if]
      rw [if_neg hv]
    · rw [c_X10_odds, k_misGuest _ _ hM.ng h6]
      simp only [Option.bind_some, q_if]
      rw [if_neg hv]
