theorem k_mkeep0 (d : Nat) {ng : Nat} (hg : ng ≤ 6) {m : z_M} (h6 : m 59 6 = nI ng) : ∃ m1, z_go z_SH z_P (d + 1) 139 [.ref 59] m = some (0, 0, m1) ∧ (∀ k, k < ng → m1 71 k = m 67 k ∧ m1 72 k = m 68 k) ∧ m1 59 23 = m 59 8 ∧ m1 59 24 = m 59 9 ∧ True ∧ (∀ a, a ≠ 59 → a ≠ 71 → a ≠ 72 → m1 a = m a) ∧ ∀ k, k ≠ 23 → k ≠ 24 → m1 59 k = m 59 k := by
  obtain ⟨m1, e1, g1, -, f1⟩ := k_mkeep (z_go z_SH z_P d) hg ng (199999 - ng - 1) 0 (z_up (z_up m 59 23 (m 59 8)) 59 24 (m 59 9)) (Nat.zero_add _) (by rw [q_uk (by decide), q_uk (by decide)]; exact h6)
  rw [show 199999 - ng - 1 + ng + 1 = 199999 by omega] at e1
  refine ⟨m1, ?_, fun k hk => ?_, ?_, ?_, trivial, fun a h1 h2 h3 => ?_, fun k h1 h2 => ?_⟩
  · rw [c_X10_keep, q_uk (by decide)]
    exact e1
  · obtain ⟨a, b⟩ := g1 k (Nat.zero_le _) hk
    exact ⟨by rw [a, q_ua (by decide), q_ua (by decide)], by rw [b, q_ua (by decide), q_ua (by decide)]⟩
  · rw [f1 59 (by decide) (by decide), q_uk (by decide), q_uq]
  · rw [f1 59 (by decide) (by decide), q_uq]
  · rw [f1 a h2 h3, z_up_ne h1, z_up_ne h1]
  · rw [f1 59 (by decide) (by decide), q_uk h2, q_uk h1]
theorem k_mput0 (d : Nat) {ng : Nat} (hg : ng ≤ 6) {m : z_M} (h6 : m 59 6 = nI ng) : ∃ m1, z_go z_SH z_P (d + 1) 140 [.ref 59] m = some (0, 0, m1) ∧ (∀ k, k < ng → m1 67 k = m 71 k ∧ m1 68 k = m 72 k) ∧ m1 59 8 = m 59 23 ∧ m1 59 9 = m 59 24 ∧ True ∧ (∀ a, a ≠ 59 → a ≠ 67 → a ≠ 68 → m1 a = m a) ∧ ∀ k, k ≠ 8 → k ≠ 9 → m1 59 k = m 59 k := by
  obtain ⟨m1, e1, g1, -, f1⟩ := k_mput (z_go z_SH z_P d) hg ng (199999 - ng - 1) 0 (z_up (z_up m 59 8 (m 59 23)) 59 9 (m 59 24)) (Nat.zero_add _) (by rw [q_uk (by decide), q_uk (by decide)]; exact h6)
  rw [show 199999 - ng - 1 + ng + 1 = 199999 by omega] at e1
  refine ⟨m1, ?_, fun k hk => ?_, ?_, ?_, trivial, fun a h1 h2 h3 => ?_, fun k h1 h2 => ?_⟩
  · rw [c_X10_putBack, q_uk (by decide)]
    exact e1
  · obtain ⟨a, b⟩ := g1 k (Nat.zero_le _) hk
    exact ⟨by rw [a, q_ua (by decide), q_ua (by decide)], by rw [b, q_ua (by decide), q_ua (by decide)]⟩
  · rw [f1 59 (by decide) (by decide), q_uk (by decide), q_uq]
  · rw [f1 59 (by decide) (by decide), q_uq]
  · rw [f1 a h2 h3, z_up_ne h1, z_up_ne h1]
  · rw [f1 59 (by decide) (by decide), q_uk h2, q_uk h1]
theorem k_mref {b n ng : Nat} (hb : b + 2 * n ≤ 240) (hn : n ≤ 30) (hg : ng ≤ 6) {W A : Nat → Int32} {m : z_M} (h6 : m 59 6 = nI ng) (hc : ∀ p, p < n → m 62 (b + 2 * p) = W p ∧ m 62 (b + 2 * p + 1) = A p) (x : Int32) (d : Nat) : ∀ (r F p : Nat), p + r = n → ∃ F', z_lp z_SH 0 (fun _ => 0) (z_go z_SH z_P (d + 2)) me_X10_dinner (F + r + 1) 103 [some (.ref 59), none, none, none, some (.int (nI n)), some (.int x), none, some (.int (nI b)), some (.int (nI p)), none] [] m = if q_rf ng W A r p = 0 then z_lp z_SH 0 (fun _ => 0) (z_go z_SH z_P (d + 2)) me_X10_dinner (F' + 1) 103 [some (.ref 59), none, none, none, some (.int (nI n)), some (.int x), none, some (.int (nI b)), some (.int (nI n)), none] [] m else some (q_rf ng W A r p, 0, m) := by
  intro r
  induction r with
  | zero =>
    intro F p hp
    refine ⟨F, ?_⟩
    rw [if_pos (show q_rf ng W A 0 p = 0 from rfl), show p = n by omega, Nat.add_zero]
  | succ r ih =>
    intro F p hp
    obtain ⟨c1, c2⟩ := hc p (by omega)
    have ix : nI b + 2 * nI p = nI (b + 2 * p) := by rw [show (2 : Int32) = nI 2 from rfl, pk_mul, nI_add]
    obtain ⟨F', e⟩ := ih F (p + 1) (by omega)
    refine ⟨F', ?_⟩
    rw [show F + (r + 1) + 1 = (F + r + 1) + 1 by omega, e_X10_dinner_103, q_nI_le (by omega) (by omega), if_neg (by omega), ix, nI_1, nI_1, q_in (show b + 2 * p < 240 by omega) (by decide), z_g_t, q_in (show b + 2 * p + 1 < 240 by omega) (by decide), z_g_t, q_cl (by omega), q_cl (by omega), c1, c2, k_mrefp hg h6]
    simp only [Option.bind_some]
    by_cases hq : q_rp ng (W p) (A p) = 0
    · rw [if_pos hq, e]
      simp only [q_rf, hq, if_true]
    · rw [if_neg hq]
      simp only [q_rf, hq, if_false]
theorem p_dinner (x y z w u : Int32) : q_pr 72 144 [.int x, .int y, .int z, .int w, .int u] := by
  intro T hok
  have h6 := hok.1.2.1
  have h5 := hok.1.1
  have c0 : ∀ m : z_M, q_C m T → q_C (z_up m 0 10 0) (q_setFt T 0) := fun m hC => q_setFt_C hC h6 0
  have m0 : ∀ m : z_M, q_M m T → q_M (z_up m 59 0 0) (q_setFt T 0) := fun m hM => q_setFt_M hM 0
  by_cases b1 : q_w 0 3 x = true
  case neg =>
    refine q_same0 hok (-1) (fun d m hC => ?_) (fun d m hM => ?_)
    · rw [c_X9_dinner, k_isSheet]
      simp only [Option.bind_some, q_if]
      rw [if_neg b1]
    · rw [c_X10_dinner, k_misSheet]
      simp only [Option.bind_some, q_if]
      rw [if_neg b1]
  by_cases b2 : q_w 0 2 y = true
  case neg =>
    refine q_same0 hok (-2) (fun d m hC => ?_) (fun d m hM => ?_)
    · rw [c_X9_dinner, k_isSheet]
      simp only [Option.bind_some, q_if]
      rw [if_pos b1, k_within]
      simp only [Option.bind_some, q_if]
      rw [if_neg b2]
    · rw [c_X10_dinner, k_misSheet]
      simp only [Option.bind_some, q_if]
      rw [if_pos b1, k_misSort]
      simp only [Option.bind_some, q_if]
      rw [if_neg b2]
  by_cases b3 : q_w 0 20 w = true
  case neg =>
    refine q_same0 hok (-2) (fun d m hC => ?_) (fun d m hM => ?_)
    · rw [c_X9_dinner, k_isSheet]
      simp only [Option.bind_some, q_if]
      rw [if_pos b1, k_within]
      simp only [Option.bind_some, q_if]
      rw [if_pos b2, k_within]
      simp only [Option.bind_some, q_if]
      rw [if_neg b3]
    · rw [c_X10_dinner, k_misSheet]
      simp only [Option.bind_some, q_if]
      rw [if_pos b1, k_misSort]
      simp only [Option.bind_some, q_if]
      rw [if_pos b2, k_mwithin]
      simp only [Option.bind_some, q_if]
      rw [if_neg b3]
  by_cases b4 : q_w 0 4 u = true ∨ q_w 10 15 u = true
  case neg =>
    refine q_same0 hok (-2) (fun d m hC => ?_) (fun d m hM => ?_)
    · rw [c_X9_dinner, k_isSheet]
      simp only [Option.bind_some, q_if]
      rw [if_pos b1, k_within]
      simp only [Option.bind_some, q_if]
      rw [if_pos b2, k_within]
      simp only [Option.bind_some, q_if]
      rw [if_pos b3, k_isDQ]
      simp only [Option.bind_some, q_if]
      rw [if_neg (by simpa using b4)]
    · rw [c_X10_dinner, k_misSheet]
      simp only [Option.bind_some, q_if]
      rw [if_pos b1, k_misSort]
      simp only [Option.bind_some, q_if]
      rw [if_pos b2, k_mwithin]
      simp only [Option.bind_some, q_if]
      rw [if_pos b3, k_mwithin]
      simp only [Option.bind_some, q_if]
      rw [k_mwithin]
      simp only [Option.bind_some, q_if]
      rw [if_neg (fun q => b4 (Or.inl q)), if_neg (fun q => b4 (Or.inr q))]
  obtain ⟨k, -, hk3, rfl⟩ := q_w_lit (a := 0) (b := 3) rfl rfl b1 (by decide) (by decide)
  obtain ⟨n, -, hn20, rfl⟩ := q_w_lit (a := 0) (b := 20) rfl rfl b3 (by decide) (by decide)
  have hk : k < 4 := by omega
  have h2n : (2 : Int32) * nI n = nI (2 * n) := by rw [show (2 : Int32) = nI 2 from rfl, pk_mul]
  have h2n0 : (0 : Int32) ≤ nI (2 * n) := (nI_leI (a := 0) (b := 2 * n) (by decide) (by omega)).mpr (Nat.zero_le _)
  have cpre : ∀ (d : Nat) (m : z_M), q_C m T → z_go z_SH z_P (d + 20) 72 [.ref 0, .int (nI k), .int y, .int z, .int (nI n), .int u] m = if q_ag T k y z (nI (2 * n)) = 0 then (if 0 < T.2.1.1.2 then Option.bind (z_go z_SH z_P (d + 19) 1 [.ref 30, .int (nI T.2.1.1.2), .ref (51 + 2 * k), .int z, .int (nI n)] (z_up m 0 10 0)) (fun r8 => if r8.1 = 0 then (Option.bind (z_go z_SH z_P (d + 19) 2 [.ref 30, .ref 2, .ref (51 + 2 * k), .int z, .int (nI n)] r8.2.2) (fun r9 => Option.bind (z_go z_SH z_P (d + 19) 4 [.ref 30, .int u] r9.2.2) (fun r10 => some (r10.1, 0, r10.2.2)))) else (some (r8.1, 0, r8.2.2))) else some (-3, 0, z_up m 0 10 0)) else some (-10 - q_ag T k y z (nI (2 * n)), 0, z_up (z_up m 0 10 0) 0 10 (q_ag T k y z (nI (2 * n)))) := by
    intro d m hC
    have hc := c0 m hC
    rw [c_X9_dinner, k_isSheet]
    simp only [Option.bind_some, q_if]
    rw [if_pos b1, k_within]
    simp only [Option.bind_some, q_if]
    rw [if_pos b2, k_within]
    simp only [Option.bind_some, q_if]
    rw [if_pos b3, k_isDQ]
    simp only [Option.bind_some, q_if]
    rw [if_pos (by simpa using b4), q_in hk (by decide), z_g_t, q_cl (by omega), (q_s hk).1, z_g_t, k_faultAs hc hok.2.2 hk]
    simp only [Option.bind_some, z_g_t]
    rw [h2n, k_fcells hc hok.2.2 hk]
    simp only [Option.bind_some]
    rw [k_stands (Or.inl rfl) hc.ng h6]
    simp only [Option.bind_some, q_if, decide_eq_true_eq]
    rw [hc.ng, c_X9_failed, c_X9_failed]
    simp only [Option.bind_some]
    unfold q_ag
    rw [if_pos h2n0]
    by_cases e1 : T.2.2.2.1 k = true
    · rw [if_pos (show (q_setFt T 0).2.2.2.1 k = true from e1), if_pos e1]
      by_cases e2 : nI (T.2.2.2.2.1 k) = y
      · rw [if_pos (show nI ((q_setFt T 0).2.2.2.2.1 k) = y from e2), if_pos e2, if_pos rfl]
        by_cases e3 : q_fc (T.2.2.2.2.2.1 k) z (nI (2 * n)) = true
        · rw [if_pos (show q_fc ((q_setFt T 0).2.2.2.2.2.1 k) z (nI (2 * n)) = true from e3), if_pos e3, if_pos rfl, if_pos rfl]
          rfl
        · rw [if_neg (show ¬ q_fc ((q_setFt T 0).2.2.2.2.2.1 k) z (nI (2 * n)) = true from e3), if_neg e3, if_neg (show ¬ ((3 : Int32) = 0) by decide), if_neg (show ¬ ((3 : Int32) = 0) by decide)]
      · rw [if_neg (show ¬ nI ((q_setFt T 0).2.2.2.2.1 k) = y from e2), if_neg e2, if_neg (show ¬ ((2 : Int32) = 0) by decide), if_neg (show ¬ ((2 : Int32) = 0) by decide), if_neg (show ¬ ((2 : Int32) = 0) by decide)]
    · rw [if_neg (show ¬ (q_setFt T 0).2.2.2.1 k = true from e1), if_neg e1, if_neg (show ¬ ((1 : Int32) = 0) by decide), if_neg (show ¬ ((1 : Int32) = 0) by decide), if_neg (show ¬ ((1 : Int32) = 0) by decide)]
  have mpre : ∀ (d : Nat) (m : z_M), q_M m T → z_go z_SH z_P (d + 20) 144 [.ref 59, .int (nI k), .int y, .int z, .int (nI n), .int u] m = if q_ag T k y z (nI (2 * n)) = 0 then (if 0 < T.2.1.1.2 then z_lp z_SH 0 (fun _ => 0) (z_go z_SH z_P (d + 19)) me_X10_dinner 199999 103 [some (.ref 59), none, none, none, some (.int (nI n)), some (.int u), none, some (.int ((60 * nI k) + z)), some (.int 0), none] [] (z_up m 59 0 0) else some (-3, 0, z_up m 59 0 0)) else some (-10 - q_ag T k y z (nI (2 * n)), 0, z_up (z_up m 59 0 0) 59 0 (q_ag T k y z (nI (2 * n)))) := by
    intro d m hM
    have hc := m0 m hM
    have hag : q_ag (q_setFt T 0) k y z (nI (2 * n)) = q_ag T k y z (nI (2 * n)) := rfl
    have hng : z_up m 59 0 0 59 6 = nI T.2.1.1.2 := hc.ng
    rw [c_X10_dinner, k_misSheet]
    simp only [Option.bind_some, q_if]
    rw [if_pos b1, k_misSort]
    simp only [Option.bind_some, q_if]
    rw [if_pos b2, k_mwithin]
    simp only [Option.bind_some, q_if]
    rw [if_pos b3, k_mwithin]
    simp only [Option.bind_some, q_if]
    rw [k_mwithin]
    simp only [Option.bind_some, q_if]
    rw [h2n, k_against hc hok.2.2 hk, hag]
    simp only [Option.bind_some]
    rw [hng, show (if nI T.2.1.1.2 = (0 : Int32) then some ((-3 : Int32), (0 : Int64), z_up m 59 0 0) else z_lp z_SH 0 (fun _ => 0) (z_go z_SH z_P (d + 19)) me_X10_dinner 199999 103 [some (.ref 59), none, none, none, some (.int (nI n)), some (.int u), none, some (.int ((60 * nI k) + z)), some (.int 0), none] [] (z_up m 59 0 0)) = if 0 < T.2.1.1.2 then z_lp z_SH 0 (fun _ => 0) (z_go z_SH z_P (d + 19)) me_X10_dinner 199999 103 [some (.ref 59), none, none, none, some (.int (nI n)), some (.int u), none, some (.int ((60 * nI k) + z)), some (.int 0), none] [] (z_up m 59 0 0) else some (-3, 0, z_up m 59 0 0) from by
      by_cases hz : 0 < T.2.1.1.2
      · rw [if_pos hz, if_neg (fun q => by have := (nI_eq (a := T.2.1.1.2) (b := 0) (by omega) (by decide)).mp q; omega)]
      · rw [if_neg hz, if_pos (by rw [show T.2.1.1.2 = 0 by omega]; rfl)], c_X10_fails]
    simp only [Option.bind_some]
    by_cases e1 : q_w 0 4 u = true
    · rw [if_pos e1]
    · rw [if_neg e1, if_pos (b4.resolve_left e1)]
  by_cases hag : q_ag T k y z (nI (2 * n)) = 0
  case neg =>
    refine q_fail hok (q_ag T k y z (nI (2 * n))) (fun d m hC => ?_) (fun d m hM => ?_)
    · rw [cpre d m hC, if_neg hag]
    · rw [mpre d m hM, if_neg hag]
  by_cases hz : 0 < T.2.1.1.2
  case neg =>
    refine q_same0 hok (-3) (fun d m hC => ?_) (fun d m hM => ?_)
    · rw [cpre d m hC, if_pos hag, if_neg hz]
    · rw [mpre d m hM, if_pos hag, if_neg hz]
  have hl60 := (hok.2.2 k hk).2
  have hfc : q_fc (T.2.2.2.2.2.1 k) z (nI (2 * n)) = true := by
    unfold q_ag at hag
    by_cases e1 : T.2.2.2.1 k = true
    · rw [if_pos e1] at hag
      by_cases e2 : nI (T.2.2.2.2.1 k) = y
      · rw [if_pos e2, if_pos h2n0] at hag
        by_cases e3 : q_fc (T.2.2.2.2.2.1 k) z (nI (2 * n)) = true
        · exact e3
        · rw [if_neg e3] at hag
          exact absurd hag (by decide)
      · rw [if_neg e2] at hag
        exact absurd hag (by decide)
    · rw [if_neg e1] at hag
      exact absurd hag (by decide)
  obtain ⟨i, c, rfl, hc2, hic⟩ := q_fc_t hl60 hfc
  have hic : i + 2 * n ≤ 60 := by
    have h1 : (nI (2 * n)).toInt = (nI c).toInt := by rw [hc2]
    rw [nI_toInt (by omega), nI_toInt (by omega)] at h1
    omega
  clear hc2
  have hcw : ∀ m : z_M, q_C m T → ∀ p, p < n → m (52 + 2 * k) (i + 2 * p) = T.2.2.2.2.2.2 k (i + 2 * p) ∧ m (52 + 2 * k) (i + 2 * p + 1) = T.2.2.2.2.2.2 k (i + 2 * p + 1) := fun m hC p hp => ⟨(hC.2.2.2 k hk).2.2.2 _ (by omega), (hC.2.2.2 k hk).2.2.2 _ (by omega)⟩
  have hmw : ∀ m : z_M, q_M m T → ∀ p, p < n → m 62 (60 * k + i + 2 * p) = T.2.2.2.2.2.2 k (i + 2 * p) ∧ m 62 (60 * k + i + 2 * p + 1) = T.2.2.2.2.2.2 k (i + 2 * p + 1) := fun m hM p hp => ⟨by rw [Nat.add_assoc (60 * k)]; exact (hM.2.2.2 k hk).2.2 _ (by omega), by rw [Nat.add_assoc (60 * k), Nat.add_assoc (60 * k)]; exact (hM.2.2.2 k hk).2.2 _ (by omega)⟩
  generalize hW : (fun p => T.2.2.2.2.2.2 k (i + 2 * p)) = W
  generalize hA : (fun p => T.2.2.2.2.2.2 k (i + 2 * p + 1)) = A
  have hcw : ∀ m : z_M, q_C m T → ∀ p, p < n → m (52 + 2 * k) (i + 2 * p) = W p ∧ m (52 + 2 * k) (i + 2 * p + 1) = A p := by
    rw [← hW, ← hA]
    exact hcw
  have hmw : ∀ m : z_M, q_M m T → ∀ p, p < n → m 62 (60 * k + i + 2 * p) = W p ∧ m 62 (60 * k + i + 2 * p + 1) = A p := by
    rw [← hW, ← hA]
    exact hmw
  have kref : ∀ (d : Nat) (m : z_M), q_C m T → z_go z_SH z_P (d + 19) 1 [.ref 30, .int (nI T.2.1.1.2), .ref (51 + 2 * k), .int (nI i), .int (nI n)] (z_up m 0 10 0) = some (q_rf T.2.1.1.2 W A n 0, 0, z_up m 0 10 0) := by
    intro d m hC
    have := k_refusal (k := k) (i := i) (n := n) (ng := T.2.1.1.2) hk hic h6 (W := W) (A := A) (m := z_up m 0 10 0) (fun p hp => by rw [z_up_ne (by omega)]; exact hcw m hC p hp) (d + 16) n (199999 - n - 1) 0 (Nat.zero_add _)
    rw [show 199999 - n - 1 + n + 1 = 199999 by omega, show d + 16 + 2 = d + 18 from rfl] at this
    rw [c_X0_refusal]
    exact this
  have mref : ∀ (d : Nat) (m : z_M), q_M m T → ∃ F', z_lp z_SH 0 (fun _ => 0) (z_go z_SH z_P (d + 19)) me_X10_dinner 199999 103 [some (.ref 59), none, none, none, some (.int (nI n)), some (.int u), none, some (.int ((60 * nI k) + nI i)), some (.int 0), none] [] (z_up m 59 0 0) = if q_rf T.2.1.1.2 W A n 0 = 0 then z_lp z_SH 0 (fun _ => 0) (z_go z_SH z_P (d + 19)) me_X10_dinner (F' + 1) 103 [some (.ref 59), none, none, none, some (.int (nI n)), some (.int u), none, some (.int (nI (60 * k + i))), some (.int (nI n)), none] [] (z_up m 59 0 0) else some (q_rf T.2.1.1.2 W A n 0, 0, z_up m 59 0 0) := by
    intro d m hM
    obtain ⟨F', e⟩ := k_mref (b := 60 * k + i) (n := n) (ng := T.2.1.1.2) (by omega) (by omega) h6 (W := W) (A := A) (m := z_up m 59 0 0) (m0 m hM).ng (fun p hp => by rw [z_up_ne (by decide)]; exact hmw m hM p hp) u (d + 17) n (199999 - n - 1) 0 (Nat.zero_add _)
    rw [show 199999 - n - 1 + n + 1 = 199999 by omega, show d + 17 + 2 = d + 19 from rfl] at e
    refine ⟨F', ?_⟩
    rw [q_ix]
    exact e
  by_cases hrf : q_rf T.2.1.1.2 W A n 0 = 0
  case neg =>
    refine q_same0 hok (q_rf T.2.1.1.2 W A n 0) (fun d m hC => ?_) (fun d m hM => ?_)
    · rw [cpre d m hC, if_pos hag, if_pos hz, kref d m hC]
      simp only [Option.bind_some]
      rw [if_neg hrf]
    · obtain ⟨F', e⟩ := mref d m hM
      rw [mpre d m hM, if_pos hag, if_pos hz, e, if_neg hrf]
  have hgood : ∀ p, p < n → q_rp T.2.1.1.2 (W p) (A p) = 0 := fun p hp => q_rf_0 n 0 hrf p (Nat.zero_le _) (by omega)
  obtain ⟨ok1, ok2, ok3⟩ := q_play_ok hgood n 0 T.2.1 0 0 (Nat.zero_add _) hok.1 rfl
  have hng' : (q_play W A n 0 T.2.1 0 0).2.1.1.2 ≤ 6 := by rw [ok2]; exact h6
  refine ⟨q_an (q_play W A n 0 T.2.1 0 0) u, 0, q_setFt T 0, fun d m hC => ?_, fun d m hM => ?_, hok⟩
  · have hc := c0 m hC
    obtain ⟨m1, e1, c1, -, f1⟩ := k_hbec (h := 31) (o := 2) (Or.inr (Or.inr (Or.inr rfl))) (Or.inl rfl) (Or.inr (by decide)) h5 h6 (d + 16) hc.2.1
    have hc3 : q_CS (z_up (z_up (z_up m1 30 1 (-9)) 30 2 0) 30 3 0) 31 T.2.1 := c1.of h6 (fun a h1 h2 => by rw [z_up_ne (by omega), z_up_ne (by omega), z_up_ne (by omega)])
    obtain ⟨m2, e2, p1, p2, p3, p4, f2⟩ := k_play hk hic h6 hgood (d + 13) n (199999 - n - 2) 0 T.2.1 0 0 (z_up (z_up (z_up m1 30 1 (-9)) 30 2 0) 30 3 0) (Nat.zero_add _) hc3 hok.1 rfl (fun p hp => by rw [z_up_ne (by omega), z_up_ne (by omega), z_up_ne (by omega), f1 (52 + 2 * k) (by omega), z_up_ne (by omega)]; exact hcw m hC p hp) (by rw [q_uk (by decide), q_uk (by decide), q_uq]) (by rw [q_uk (by decide), q_uq]) (by rw [q_uq])
    rw [show 199999 - n - 2 + n + 2 = 199999 by omega, show d + 13 + 5 = d + 18 from rfl] at e2
    have ff : ∀ a, (a < 30 ∨ 40 ≤ a) → m2 a = z_up m 0 10 0 a := fun a ha => by rw [f2 a ha, z_up_ne (by omega), z_up_ne (by omega), z_up_ne (by omega), f1 a (by omega)]
    refine ⟨m2, ?_, hc.of h6 (fun a ha => ff a (by omega)) (fun a h1 h2 => ff a (by omega)) (fun a h1 h2 => ff a (by omega)), fun a ha => (ff a (by omega)).trans (z_up_ne (by omega))⟩
    rw [cpre d m hC, if_pos hag, if_pos hz, kref d m hC]
    simp only [Option.bind_some]
    rw [if_pos hrf, c_X0_play, e1]
    simp only [Option.bind_some]
    have e2 : z_lp z_SH 0 (fun _ => 0) (z_go z_SH z_P (d + 18)) me_X0_play 199999 27 [some (.ref 30), none, some (.ref (51 + 2 * k)), some (.int (nI i)), some (.int (nI n)), some (.int 0), none, none] [] (z_up (z_up (z_up m1 30 1 (-9)) 30 2 0) 30 3 0) = some (0, 0, m2) := e2
    rw [e2]
    simp only [Option.bind_some]
    rw [k_answer hng' u p1 p2 p3 p4]
    rfl
  · have hc := m0 m hM
    obtain ⟨F', eF⟩ := mref d m hM
    obtain ⟨mk, ek, k1, k2, k3, k4, fk, gk⟩ := k_mkeep0 (d + 18) h6 (show z_up m 59 0 0 59 6 = nI T.2.1.1.2 from hc.ng)
    have hS1 : q_MS (z_up (z_up mk 59 25 0) 59 26 0) T.2.1 := hc.2.1.of (by rw [q_uk (by decide), q_uk (by decide), gk 5 (by decide) (by decide)]) (by rw [q_uk (by decide), q_uk (by decide), gk 6 (by decide) (by decide)]) (by rw [q_uk (by decide), q_uk (by decide), gk 8 (by decide) (by decide)]) (by rw [q_uk (by decide), q_uk (by decide), gk 9 (by decide) (by decide)]) (fun a h1 h2 => by rw [z_up_ne (by omega), z_up_ne (by omega), fk a (by omega) (by omega) (by omega)])
    obtain ⟨mg, eg, g1, g2, g3, fg, gg⟩ := k_mgo (b := 60 * k + i) (n := n) (by omega) (by omega) hgood (d + 13) n (199999 - n - 1) 0 T.2.1 0 0 (z_up (z_up mk 59 25 0) 59 26 0) (Nat.zero_add _) hS1 hok.1 rfl (fun p hp => by rw [z_up_ne (by decide), z_up_ne (by decide), fk 62 (by decide) (by decide) (by decide), z_up_ne (by decide)]; exact hmw m hM p hp) (by rw [q_uk (by decide), q_uq]) (by rw [q_uq])
    rw [show 199999 - n - 1 + n + 1 = 199999 by omega, show d + 13 + 5 = d + 18 from rfl] at eg
    obtain ⟨v, et, ht⟩ := k_mtell hng' u b4 g1 g2 g3 (d + 17)
    have hg6 : mg 59 6 = nI T.2.1.1.2 := by
      rw [gg 6 (by decide) (by decide) (by decide) (by decide), q_uk (by decide), q_uk (by decide), gk 6 (by decide) (by decide)]
      exact hc.ng
    obtain ⟨mp, ep, p1, p2, p3, p4, fp, gp⟩ := k_mput0 (d + 18) h6 hg6
    have ffa : ∀ a, a ≠ 59 → a ≠ 67 → a ≠ 68 → a ≠ 71 → a ≠ 72 → mp a = z_up m 59 0 0 a := fun a h1 h2 h3 h4 h5 => by rw [fp a h1 h2 h3, fg a h2 h3 h1, z_up_ne h1, z_up_ne h1, fk a h1 h4 h5]
    have ffk : ∀ j, j ≠ 8 → j ≠ 9 → j ≠ 23 → j ≠ 24 → j ≠ 25 → j ≠ 26 → mp 59 j = z_up m 59 0 0 59 j := fun j h1 h2 h3 h4 h5 h6 => by rw [gp j h1 h2, gg j h1 h2 h5 h6, q_uk h6, q_uk h5, gk j h3 h4]
    refine ⟨mp, ?_, ⟨hc.1.of (ffk 0 (by decide) (by decide) (by decide) (by decide) (by decide) (by decide)) (ffk 1 (by decide) (by decide) (by decide) (by decide) (by decide) (by decide)) (ffk 7 (by decide) (by decide) (by decide) (by decide) (by decide) (by decide)), ⟨?_, ?_, fun s hs => ?_, fun j hj f hf => ?_, ?_, ?_⟩, hc.2.2.1.of (ffk 33 (by decide) (by decide) (by decide) (by decide) (by decide) (by decide)) (fun a h1 h2 => ffa a (by omega) (by omega) (by omega) (by omega) (by omega)), hc.2.2.2.of (fun a h1 h2 => ffa a (by omega) (by omega) (by omega) (by omega) (by omega))⟩, fun a ha => (ffa a (by omega) (by omega) (by omega) (by omega) (by omega)).trans (z_up_ne (by omega))⟩
    · rw [mpre d m hM, if_pos hag, if_pos hz, eF, if_pos hrf, e_X10_dinner_103, q_nI_le (by omega) (by omega), if_pos (Nat.le_refl _), ek]
      simp only [Option.bind_some]
      rw [c_X10_goDinner]
      have eg : z_lp z_SH 0 (fun _ => 0) (z_go z_SH z_P (d + 18)) me_X10_goDinner 199999 12 [some (.ref 59), some (.int (nI (60 * k + i))), some (.int (nI n)), some (.int 0)] [] (z_up (z_up mk 59 25 0) 59 26 0) = some ((q_play W A n 0 T.2.1 0 0).1.elim (-9) nI, 0, mg) := eg
      rw [eg]
      simp only [Option.bind_some]
      rw [et]
      simp only [Option.bind_some]
      rw [ep]
      simp only [Option.bind_some]
      rw [← ht]
      by_cases e1 : u = 1
      · rw [if_pos e1, if_pos e1]
      · rw [if_neg e1, if_neg e1]
        by_cases e2 : (q_play W A n 0 T.2.1 0 0).1.elim (-9) nI = (-9 : Int32)
        · rw [if_pos e2, if_pos e2]
        · rw [if_neg e2, if_neg e2]
    · rw [ffk 5 (by decide) (by decide) (by decide) (by decide) (by decide) (by decide)]
      exact hc.ns
    · rw [ffk 6 (by decide) (by decide) (by decide) (by decide) (by decide) (by decide)]
      exact hc.ng
    · rw [ffa 63 (by decide) (by decide) (by decide) (by decide) (by decide)]
      exact hc.hi hs
    · rcases (show f = 3 ∨ f = 4 ∨ (64 + f ≠ 67 ∧ 64 + f ≠ 68) by omega) with rfl | rfl | ⟨h1, h2⟩
      · show mp 67 j = _
        rw [(p1 j hj).1, fg 71 (by decide) (by decide) (by decide), z_up_ne (by decide), z_up_ne (by decide), (k1 j hj).1]
        exact hc.gd hj (show 3 < 5 by decide)
      · show mp 68 j = _
        rw [(p1 j hj).2, fg 72 (by decide) (by decide) (by decide), z_up_ne (by decide), z_up_ne (by decide), (k1 j hj).2]
        exact hc.gd hj (show 4 < 5 by decide)
      · rw [ffa (64 + f) (by omega) h1 h2 (by omega) (by omega)]
        exact hc.gd hj hf
    · rw [p2, gg 23 (by decide) (by decide) (by decide) (by decide), q_uk (by decide), q_uk (by decide), k2]
      exact hc.kn
    · rw [p3, gg 24 (by decide) (by decide) (by decide) (by decide), q_uk (by decide), q_uk (by decide), k3]
      exact hc.sk
