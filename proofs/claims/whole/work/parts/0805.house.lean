/-! What a sign weighs; shocks; soft -/
def q_wt (S : q_St) (s k : Nat) : Nat := if S.2.2.1 0 k = 0 then S.2.1 s else if S.2.2.1 0 k = 1 then S.2.1 s - 1 else S.2.1 s / 2
theorem q_wt_le {S : q_St} (hok : q_okS S) {s : Nat} (hs : s < S.1.1) (k : Nat) : q_wt S s k ≤ 9 := by
  have := hok.2.2.2.1 s hs
  unfold q_wt
  split
  · omega
  · split <;> omega
theorem q_okS.k0 {S : q_St} (hok : q_okS S) {k : Nat} (hk : k < S.1.2) : S.2.2.1 0 k ≤ 2 := (hok.2.2.2.2 k hk).1
theorem q_okS.k1 {S : q_St} (hok : q_okS S) {k : Nat} (hk : k < S.1.2) : 1 ≤ S.2.2.1 1 k ∧ S.2.2.1 1 k ≤ 9 := (hok.2.2.2.2 k hk).2.1
theorem q_okS.k2 {S : q_St} (hok : q_okS S) {k : Nat} (hk : k < S.1.2) : 1 ≤ S.2.2.1 2 k ∧ S.2.2.1 2 k ≤ 9 := (hok.2.2.2.2 k hk).2.2.1
theorem q_okS.k3 {S : q_St} (hok : q_okS S) {k : Nat} (hk : k < S.1.2) : S.2.2.1 3 k ≤ 5 := (hok.2.2.2.2 k hk).2.2.2.1
theorem q_okS.k4 {S : q_St} (hok : q_okS S) {k : Nat} (hk : k < S.1.2) : S.2.2.1 4 k ≤ 40 := (hok.2.2.2.2 k hk).2.2.2.2.1
theorem q_nI_if {α : Type} {a b : Nat} (ha : a < 2147483648) (hb : b < 2147483648) (x y : α) : (if nI a = nI b then x else y) = if a = b then x else y := by
  by_cases h : a = b
  · rw [if_pos h, if_pos (by rw [h])]
  · rw [if_neg h, if_neg (fun q => h ((nI_eq (by omega) (by omega)).mp q))]
theorem q_nI_le {α : Type} {a b : Nat} (ha : a < 2147483648) (hb : b < 2147483648) (x y : α) : (if nI a ≤ nI b then x else y) = if a ≤ b then x else y := by
  by_cases h : a ≤ b
  · rw [if_pos h, if_pos ((nI_leI (by omega) (by omega)).mpr h)]
  · rw [if_neg h, if_neg (fun q => h ((nI_leI (by omega) (by omega)).mp q))]
theorem q_nI_lt {α : Type} {a b : Nat} (ha : a < 2147483648) (hb : b < 2147483648) (x y : α) : (if nI a < nI b then x else y) = if a < b then x else y := by
  by_cases h : a < b
  · rw [if_pos h, if_pos ((nI_ltI (by omega) (by omega)).mpr h)]
  · rw [if_neg h, if_neg (fun q => h ((nI_ltI (by omega) (by omega)).mp q))]
theorem q_half {a : Nat} (h : a < 2147483648) : nI a / 2 = nI (a / 2) := by
  have := pk_div (a := a) (d := 2) (by omega) (by decide) (by decide)
  exact this
theorem q_pred {a : Nat} (h : 1 ≤ a) : nI a - 1 = nI (a - 1) := by
  obtain ⟨b, rfl⟩ : ∃ b, a = b + 1 := ⟨a - 1, by omega⟩
  rw [nI_pred]
  rfl
theorem q_dec2 : decide (¬ (2 : Int32) = 0) = true := by decide
theorem k_weight {h : Nat} (hh : z_isH h) {m : z_M} {S : q_St} (hC : q_CS m h S) (hok : q_okS S) {s k : Nat} (hs : s < S.1.1) (hk : k < S.1.2) (d : Nat) : z_go z_SH z_P (d + 1) 15 [.ref h, .int (nI s), .int (nI k)] m = some (nI (q_wt S s k), 0, m) := by
  have h5 := hok.1
  have h6 := hok.2.1
  have hk6 : k < 6 := by omega
  have hs5 : s < 5 := by omega
  have h9 := hok.2.2.2.1 s hs
  have h2 := hok.k0 hk
  rw [c_X2_weight d hh, q_in hk6 (by decide), z_g_t, q_cl (by omega), q_g hh hk6 (by decide), z_g_t, (hC.2.2.2 k hk).1 0 (by decide), q_in hs5 (by decide), z_g_t, z_g_t, z_g_t, q_cl (by omega), hC.2.2.1 s hs, q_dec2, z_g_t, q_nI_if (by omega) (by decide), q_nI_if (by omega) (by decide), q_pred h9.1, q_half (by omega)]
  unfold q_wt
  split
  · rfl
  · split <;> rfl
theorem k_shocks {h : Nat} (hh : z_isH h) {m : z_M} {S : q_St} (hC : q_CS m h S) (hok : q_okS S) {s k : Nat} (hs : s < S.1.1) (hk : k < S.1.2) (d : Nat) : z_go z_SH z_P (d + 2) 16 [.ref h, .int (nI s), .int (nI k)] m = some (q_b (decide (S.2.2.1 1 k < q_wt S s k)), 0, m) := by
  have h6 := hok.2.1
  have hk6 : k < 6 := by omega
  have hb := hok.k1 hk
  have hw := q_wt_le hok hs k
  rw [c_X2_shocks (d + 1) hh, k_weight hh hC hok hs hk]
  simp only [Option.bind_some]
  rw [q_in hk6 (by decide), z_g_t, q_cl (by omega), q_g hh hk6 (by decide), z_g_t, (hC.2.2.2 k hk).1 1 (by decide), q_nI_le (by omega) (by omega)]
  unfold q_b
  by_cases hq : q_wt S s k ≤ S.2.2.1 1 k
  · rw [if_pos hq, if_neg (by simp; omega)]
  · rw [if_neg hq, if_pos (by simp; omega)]
def q_soft (S : q_St) (s k : Nat) : Bool := decide (0 < q_wt S s k) && decide (q_wt S s k ≤ S.2.2.1 1 k)
theorem k_isSoft {h : Nat} (hh : z_isH h) {m : z_M} {S : q_St} (hC : q_CS m h S) (hok : q_okS S) {s k : Nat} (hs : s < S.1.1) (hk : k < S.1.2) (d : Nat) : z_go z_SH z_P (d + 3) 17 [.ref h, .int (nI s), .int (nI k)] m = some (q_b (q_soft S s k), 0, m) := by
  have hw := q_wt_le hok hs k
  have hb := hok.k1 hk
  rw [c_X2_isSoft (d + 2) hh, k_weight hh hC hok hs hk]
  simp only [Option.bind_some]
  rw [k_shocks hh hC hok hs hk]
  simp only [Option.bind_some, q_if]
  rw [show (0 : Int32) = nI 0 from rfl, q_nI_le (by omega) (by decide)]
  unfold q_soft q_b
  by_cases h0 : q_wt S s k ≤ 0
  · rw [if_pos h0, if_neg (by simp; omega)]
    rfl
  · rw [if_neg h0]
    by_cases h1 : S.2.2.1 1 k < q_wt S s k
    · rw [if_pos (by simp [h1]), if_neg (by simp; omega)]
      rfl
    · rw [if_neg (by simp [h1]), if_pos (by simp; omega)]
theorem k_lack {h : Nat} (hh : z_isH h) {m : z_M} {S : q_St} (hC : q_CS m h S) (hok : q_okS S) {k : Nat} (hk : k < S.1.2) (d : Nat) : z_go z_SH z_P (d + 1) 18 [.ref h, .int (nI k)] m = some (nI (S.2.2.1 2 k) - nI (S.2.2.1 4 k), 0, m) := by
  have h6 := hok.2.1
  have hk6 : k < 6 := by omega
  rw [c_X2_lack d hh, q_in hk6 (by decide), z_g_t, q_cl (by omega), q_g hh hk6 (by decide), z_g_t, z_g_t, q_g hh hk6 (by decide), z_g_t, (hC.2.2.2 k hk).1 2 (by decide), (hC.2.2.2 k hk).1 4 (by decide)]
theorem k_mweigh {m : z_M} {S : q_St} (hM : q_MS m S) (hok : q_okS S) {s k : Nat} (hs : s < S.1.1) (hk : k < S.1.2) (d : Nat) : z_go z_SH z_P (d + 1) 124 [.ref 59, .int (nI s), .int (nI k)] m = some (nI (q_wt S s k), 0, m) := by
  have h5 := hok.1
  have h6 := hok.2.1
  have hk6 : k < 6 := by omega
  have hs5 : s < 5 := by omega
  have h9 := hok.2.2.2.1 s hs
  have h2 := hok.k0 hk
  have e0 : m 64 k = nI (S.2.2.1 0 k) := hM.2.2.2.1 k hk 0 (by decide)
  rw [c_X10_weighsOf, q_in hk6 (by decide), z_g_t, z_g_t, q_cl (by omega), e0, q_in hs5 (by decide), z_g_t, z_g_t, z_g_t, q_cl (by omega), hM.2.2.1 s hs, q_dec2, z_g_t, show (0 : Int32) = nI 0 from rfl, show (1 : Int32) = nI 1 from rfl, q_nI_if (by omega) (by decide), q_nI_if (by omega) (by decide), show nI 1 = (1 : Int32) from rfl, q_pred h9.1, q_half (by omega)]
  unfold q_wt
  split
  · rfl
  · split <;> rfl
/-! 6 weighs -/
theorem p_weighs (x y : Int32) : q_pr 66 128 [.int x, .int y] := by
  intro T hok
  have h5 := hok.1.1
  have h6 := hok.1.2.1
  refine ⟨if q_v T.2.1.1.1 x = true then (if q_v T.2.1.1.2 y = true then nI (q_wt T.2.1 x.toNatClampNeg y.toNatClampNeg) else -1) else -1, 0, T, q_cop_same (fun d m hC => ?_), q_mop_same (fun d m hM => ?_), hok⟩
  · rw [c_X9_weighs, k_isSign _ _ hC.ns h5]
    simp only [Option.bind_some, q_if]
    by_cases hv : q_v T.2.1.1.1 x = true
    · rw [if_pos hv, if_pos hv, k_isGuest _ _ hC.ng h6]
      simp only [Option.bind_some, q_if]
      by_cases hw : q_v T.2.1.1.2 y = true
      · rw [if_pos hw, if_pos hw]
        obtain ⟨s, hs, rfl⟩ := q_v_t hv (by omega)
        obtain ⟨k, hk, rfl⟩ := q_v_t hw (by omega)
        rw [k_weight (Or.inl rfl) hC.2.1 hok.1 hs hk, q_cl (by omega), q_cl (by omega)]
        rfl
      · rw [if_neg hw, if_neg hw]
    · rw [if_neg hv, if_neg hv]
  · rw [c_X10_weighs, k_misSign _ _ hM.ns h5]
    simp only [Option.bind_some, q_if]
    by_cases hv : q_v T.2.1.1.1 x = true
    · rw [if_pos hv, if_pos hv, k_misGuest _ _ hM.ng h6]
      simp only [Option.bind_some, q_if]
      by_cases hw : q_v T.2.1.1.2 y = true
      · rw [if_pos hw, if_pos hw]
        obtain ⟨s, hs, rfl⟩ := q_v_t hv (by omega)
        obtain ⟨k, hk, rfl⟩ := q_v_t hw (by omega)
        rw [k_mweigh hM.2.1 hok.1 hs hk, q_cl (by omega), q_cl (by omega)]
        rfl
      · rw [if_neg hw, if_neg hw]
    · rw [if_neg hv, if_neg hv]
