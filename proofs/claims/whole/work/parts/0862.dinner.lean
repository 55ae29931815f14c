/-! what is against a row of cells: 2 hotel, 12 dinner -/
theorem q_le0 (x : Int32) : (0 ≤ x) ↔ 0 ≤ x.toInt := by
  rw [Int32.le_iff_toInt_le]
  exact Iff.rfl
def q_ag (T : q_T) (k : Nat) (ln x y : Int32) : Int32 := if T.2.2.2.1 k = true then (if nI (T.2.2.2.2.1 k) = ln then (if 0 ≤ y then (if q_fc (T.2.2.2.2.2.1 k) x y = true then 0 else 3) else 4) else 2) else 1
theorem k_against {T : q_T} {m : z_M} (hM : q_M m T) (hok : q_okP T.2.2.2) {k : Nat} (hk : k < 4) {ln : Int32} (x y : Int32) (d : Nat) : z_go z_SH z_P (d + 1) 111 [.ref 59, .int (nI k), .int ln, .int x, .int y] m = some (q_ag T k ln x y, 0, m) := by
  obtain ⟨p1, p2, -⟩ := hM.2.2.2 k hk
  obtain ⟨hl2, hl60⟩ := hok k hk
  unfold q_ag
  rw [c_X10_against, q_in hk (by decide)]
  simp only [z_g_t]
  rw [q_cl (by omega), p1, p2]
  by_cases h : T.2.2.2.1 k = true
  · simp only [h, if_true]
    rw [if_neg (q_n9 _ hl2), if_neg (q_n9 _ hl2)]
    by_cases e : nI (T.2.2.2.2.1 k) = ln
    · rw [if_pos e, if_pos e]
      by_cases e1 : (0 : Int32) ≤ y
      · rw [if_pos e1, if_pos e1]
        rw [q_le0] at e1
        by_cases c1 : x.toInt < 0
        · rw [if_pos ((q_lt0 x).mpr c1), if_neg (fun q => by have := of_decide_eq_true q; omega)]
        rw [if_neg (fun q => c1 ((q_lt0 x).mp q))]
        by_cases c2 : (T.2.2.2.2.2.1 k : Int) < x.toInt
        · rw [if_pos ((q_ltn (by omega) x).mpr c2), if_neg (fun q => by have := of_decide_eq_true q; omega)]
        rw [if_neg (fun q => c2 ((q_ltn (by omega) x).mp q))]
        have e : (y ≤ nI (T.2.2.2.2.2.1 k) - x) ↔ y.toInt ≤ (T.2.2.2.2.2.1 k : Int) - x.toInt := by
          rw [Int32.le_iff_toInt_le, q_sub_to hl60 (by omega) (by omega)]
        by_cases c4 : y.toInt ≤ (T.2.2.2.2.2.1 k : Int) - x.toInt
        · rw [if_pos (e.mpr c4), if_pos (show q_fc (T.2.2.2.2.2.1 k) x y = true from decide_eq_true ⟨by omega, by omega, by omega, by omega⟩)]
        · rw [if_neg (fun q => c4 (e.mp q)), if_neg (fun q => by have := of_decide_eq_true q; omega)]
      · rw [if_neg e1, if_neg e1]
    · rw [if_neg e, if_neg e]
  · simp [h]
/-! 12 dinner: what refuses a pair -/
def q_rp (ng : Nat) (w a : Int32) : Int32 := if a = 10 then (if q_w 0 9 w = true then 0 else -2) else (if q_w 0 4 a = true ∨ q_w 20 25 a = true then (if q_v ng w = true then 0 else -1) else -2)
def q_rf (ng : Nat) (W A : Nat → Int32) : Nat → Nat → Int32
  | 0, _ => 0
  | n + 1, p => if q_rp ng (W p) (A p) = 0 then q_rf ng W A n (p + 1) else q_rp ng (W p) (A p)
theorem q_rf_0 {ng : Nat} {W A : Nat → Int32} : ∀ n p, q_rf ng W A n p = 0 → ∀ q, p ≤ q → q < p + n → q_rp ng (W q) (A q) = 0
  | 0, p, h, q, h1, h2 => by omega
  | n + 1, p, h, q, h1, h2 => by
    simp only [q_rf] at h
    by_cases hc : q_rp ng (W p) (A p) = 0
    · rw [if_pos hc] at h
      by_cases hq : q = p
      · subst hq
        exact hc
      · exact q_rf_0 n (p + 1) h q (by omega) (by omega)
    · rw [if_neg hc] at h
      exact absurd h hc
theorem q_rp_0 {ng : Nat} (hg : ng ≤ 6) {w a : Int32} (h : q_rp ng w a = 0) : (a = 10 ∧ ∃ v, v ≤ 9 ∧ w = nI v) ∨ (∃ t k, t ≤ 5 ∧ k < ng ∧ a = nI (20 + t) ∧ w = nI k) ∨ (∃ s k, s ≤ 4 ∧ k < ng ∧ a = nI s ∧ w = nI k) := by
  unfold q_rp at h
  by_cases h1 : a = 10
  · rw [if_pos h1] at h
    by_cases h2 : q_w 0 9 w = true
    · obtain ⟨v, -, hv, rfl⟩ := q_w_lit (a := 0) (b := 9) rfl rfl h2 (by decide) (by decide)
      exact Or.inl ⟨h1, v, hv, rfl⟩
    · rw [if_neg h2] at h
      exact absurd h (by decide)
  · rw [if_neg h1] at h
    by_cases h2 : q_w 0 4 a = true ∨ q_w 20 25 a = true
    · rw [if_pos h2] at h
      by_cases h3 : q_v ng w = true
      · obtain ⟨k, hk, rfl⟩ := q_v_t h3 (by omega)
        rcases h2 with h2 | h2
        · obtain ⟨s, -, hs, rfl⟩ := q_w_lit (a := 0) (b := 4) rfl rfl h2 (by decide) (by decide)
          exact Or.inr (Or.inr ⟨s, k, hs, hk, rfl, rfl⟩)
        · obtain ⟨t, ht0, ht, rfl⟩ := q_w_lit (a := 20) (b := 25) rfl rfl h2 (by decide) (by decide)
          exact Or.inr (Or.inl ⟨t - 20, k, by omega, hk, by rw [show 20 + (t - 20) = t by omega], rfl⟩)
      · rw [if_neg h3] at h
        exact absurd h (by decide)
    · rw [if_neg h2] at h
      exact absurd h (by decide)
theorem q_rp_lt {α : Type} {n : Nat} {w : Int32} (hn : n ≤ 6) (x y : α) : (if w < 0 then y else if w < nI n then x else y) = if q_v n w = true then x else y := by
  rw [← q_v_if (by omega)]
  by_cases h : w < 0
  · rw [if_pos h, if_pos h]
  · rw [if_neg h, if_neg h]
    by_cases h2 : w < nI n
    · rw [if_pos h2, if_neg (Int32.not_le.mpr h2)]
    · rw [if_neg h2, if_pos (Int32.not_lt.mp h2)]
theorem k_isb_q (b : Bool) : z_isb (q_b b) = true := q_bb b
theorem k_refusal {k i n ng : Nat} (hk : k < 4) (hin : i + 2 * n ≤ 60) (hg : ng ≤ 6) {W A : Nat → Int32} {m : z_M} (hc : ∀ p, p < n → m (52 + 2 * k) (i + 2 * p) = W p ∧ m (52 + 2 * k) (i + 2 * p + 1) = A p) (d : Nat) : ∀ (r F p : Nat), p + r = n → z_lp z_SH 0 (fun _ => 0) (z_go z_SH z_P (d + 2)) me_X0_refusal (F + r + 1) 3 [none, some (.int (nI ng)), some (.ref (51 + 2 * k)), some (.int (nI i)), some (.int (nI n)), some (.int (nI p)), none, none] [] m = some (q_rf ng W A r p, 0, m) := by
  intro r
  induction r with
  | zero =>
    intro F p hp
    rw [e_X0_refusal_3, q_nI_le (by omega) (by omega), if_pos (by omega)]
    rfl
  | succ r ih =>
    intro F p hp
    obtain ⟨c1, c2⟩ := hc p (by omega)
    have ix : nI i + 2 * nI p = nI (i + 2 * p) := by rw [show (2 : Int32) = nI 2 from rfl, pk_mul, nI_add]
    rw [show F + (r + 1) + 1 = (F + r + 1) + 1 by omega, e_X0_refusal_3, q_nI_le (by omega) (by omega), if_neg (by omega), (q_s hk).2.2.2.2.1]
    simp only [Option.bind_some]
    rw [ix, nI_1, q_sa hk (by omega), z_g_t, q_sa hk (by omega), z_g_t, q_cl (by omega), q_cl (by omega), c1, c2, k_within]
    simp only [Option.bind_some]
    rw [q_if, c_X0_isSignAct, k_within]
    simp only [Option.bind_some]
    rw [q_bb, z_g_t]
    simp only [Option.bind_some]
    rw [q_if, c_X0_isSeatAct, k_within]
    simp only [Option.bind_some]
    rw [q_bb, z_g_t]
    simp only [Option.bind_some]
    rw [q_if, nI_1, ih F (p + 1) (by omega)]
    rw [q_rp_lt hg]
    simp only [q_rf, q_rp]
    by_cases a1 : A p = 10
    · simp only [a1, if_true]
      by_cases a2 : q_w 0 9 (W p) = true
      · simp [a2]
      · simp [a2]
    · simp only [a1, if_false]
      by_cases a2 : q_w 0 4 (A p) = true
      · simp only [a2, if_true, true_or]
        by_cases a3 : q_v ng (W p) = true
        · simp [a3]
        · simp [a3]
      · by_cases a4 : q_w 20 25 (A p) = true
        · simp only [a2, a4, if_true, or_true]
          by_cases a3 : q_v ng (W p) = true
          · simp [a3]
          · simp [a3]
        · simp [a2, a4]
theorem k_mrefp {m : z_M} {ng : Nat} (hg : ng ≤ 6) (h6 : m 59 6 = nI ng) (w a : Int32) (d : Nat) : z_go z_SH z_P (d + 2) 143 [.ref 59, .int w, .int a] m = some (q_rp ng w a, 0, m) := by
  have e31 : ∀ t : Int32, z_lp z_SH 0 (fun _ => 0) (z_go z_SH z_P (d + 1)) me_X10_refusesPair 199999 31 [some (.ref 59), some (.int w), some (.int a), none] [.int t] m = if t = 0 then some (-2, 0, m) else if a = 10 then some (if q_w 0 9 w = true then 0 else -2, 0, m) else some (if q_v ng w = true then 0 else -1, 0, m) := by
    intro t
    rw [show (199999 : Nat) = 199998 + 1 from rfl, e_X10_refusesPair_31, k_mwithin, k_misGuest _ _ h6 hg]
    simp only [Option.bind_some]
    rw [q_if, q_if]
    by_cases ht : t = 0
    · rw [if_pos ht, if_pos ht]
    rw [if_neg ht, if_neg ht]
    by_cases ha : a = 10
    · rw [if_pos ha, if_pos ha, if_pos ha]
      by_cases hw : q_w 0 9 w = true
      · rw [if_pos hw, if_pos hw]
      · rw [if_neg hw, if_neg hw]
    · rw [if_neg ha, if_neg ha, if_neg ha]
      by_cases hw : q_v ng w = true
      · rw [if_pos hw, if_pos hw]
      · rw [if_neg hw, if_neg hw]
  rw [c_X10_refusesPair, k_mwithin]
  simp only [Option.bind_some]
  rw [k_mwithin]
  simp only [Option.bind_some]
  rw [q_if, q_if, e31 1, e31 0, if_neg (show ¬ (1 : Int32) = 0 by decide), if_pos rfl]
  unfold q_rp
  by_cases a1 : a = 10
  · simp only [a1, if_true]
    have h1 : q_w 0 4 (10 : Int32) = false := by decide
    simp [h1]
  · simp only [a1, if_false]
    by_cases a2 : q_w 0 4 a = true
    · simp only [a2, if_true, true_or]
    · by_cases a4 : q_w 20 25 a = true
      · simp only [a2, a4, if_true, or_true]
        simp
      · simp [a2, a4]
/-! playing it -/
def q_step (S : q_St) (dn bt w a : Int32) : Option (q_St × Int32 × Int32) := if a = 10 then some (q_slp S w.toNatClampNeg S.1.2, dn, bt) else if q_w 20 25 a = true then some (q_sG S 3 w.toNatClampNeg (a.toNatClampNeg - 20), dn, bt) else if q_v S.1.1 a = true ∧ S.2.2.2 0 w.toNatClampNeg = false then some ((q_gv S a.toNatClampNeg w.toNatClampNeg).2, (if (q_gv S a.toNatClampNeg w.toNatClampNeg).1 ≤ 0 then dn else dn + (q_gv S a.toNatClampNeg w.toNatClampNeg).1), (if (q_gv S a.toNatClampNeg w.toNatClampNeg).1 ≤ 0 then bt else bt + ((q_gv S a.toNatClampNeg w.toNatClampNeg).1 - 1))) else none
theorem q_step_n (S : q_St) (dn bt : Int32) {v : Nat} (hv : v ≤ 9) : q_step S dn bt (nI v) 10 = some (q_slp S v S.1.2, dn, bt) := by
  unfold q_step
  rw [if_pos rfl, q_cl (by omega)]
theorem q_act1 : ∀ t, t < 6 → ¬ nI (20 + t) = (10 : Int32) ∧ q_w 20 25 (nI (20 + t)) = true ∧ q_w 0 4 (nI (20 + t)) = false := by decide +kernel
theorem q_act2 : ∀ s, s < 5 → ¬ nI s = (10 : Int32) ∧ q_w 20 25 (nI s) = false ∧ nI s < (20 : Int32) := by decide +kernel
theorem q_step_t (S : q_St) (dn bt : Int32) {t k : Nat} (ht : t ≤ 5) (hk : k < 6) : q_step S dn bt (nI k) (nI (20 + t)) = some (q_sG S 3 k t, dn, bt) := by
  unfold q_step
  rw [if_neg (q_act1 t (by omega)).1, if_pos (q_act1 t (by omega)).2.1, q_cl (by omega), q_cl (by omega), show 20 + t - 20 = t by omega]
theorem q_step_g (S : q_St) (dn bt : Int32) {s k : Nat} (hs : s ≤ 4) (hk : k < 6) : q_step S dn bt (nI k) (nI s) = if s < S.1.1 ∧ S.2.2.2 0 k = false then some ((q_gv S s k).2, (if (q_gv S s k).1 ≤ 0 then dn else dn + (q_gv S s k).1), (if (q_gv S s k).1 ≤ 0 then bt else bt + ((q_gv S s k).1 - 1))) else none := by
  unfold q_step
  rw [if_neg (q_act2 s (by omega)).1, if_neg (by rw [(q_act2 s (by omega)).2.1]; decide), q_cl (by omega), q_cl (by omega), q_v_nI (by omega)]
  simp only [decide_eq_true_eq]
def q_play (W A : Nat → Int32) : Nat → Nat → q_St → Int32 → Int32 → Option Nat × q_St × Int32 × Int32
  | 0, _, S, dn, bt => (none, S, dn, bt)
  | n + 1, p, S, dn, bt => match q_step S dn bt (W p) (A p) with
    | none => (some p, S, dn, bt)
    | some R => q_play W A n (p + 1) R.1 R.2.1 R.2.2
theorem q_play_n {W A : Nat → Int32} {n p : Nat} {S : q_St} {dn bt : Int32} (h : q_step S dn bt (W p) (A p) = none) : q_play W A (n + 1) p S dn bt = (some p, S, dn, bt) := by simp only [q_play, h]
theorem q_play_s {W A : Nat → Int32} {n p : Nat} {S : q_St} {dn bt : Int32} {R : q_St × Int32 × Int32} (h : q_step S dn bt (W p) (A p) = some R) : q_play W A (n + 1) p S dn bt = q_play W A n (p + 1) R.1 R.2.1 R.2.2 := by simp only [q_play, h]
theorem q_sG3_ok {S : q_St} (h : q_okS S) {k v : Nat} (h9 : v ≤ 5) : q_okS (q_sG S 3 k v) := by
  obtain ⟨a, b, c, d, e⟩ := h
  refine ⟨a, b, c, d, fun j hj => ?_⟩
  obtain ⟨e0, e1, e2, e3, e4, e5⟩ := e j hj
  refine ⟨by simpa [q_sG] using e0, by simpa [q_sG] using e1, by simpa [q_sG] using e2, ?_, by simpa [q_sG] using e4, by simpa [q_sG] using e5⟩
  by_cases hq : j = k
  · simp [q_sG, hq]
    omega
  · simpa [q_sG, hq] using e3
