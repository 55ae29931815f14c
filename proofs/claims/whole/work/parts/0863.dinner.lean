theorem q_play_ok {W A : Nat → Int32} {n : Nat} {ng : Nat} (hg : ∀ p, p < n → q_rp ng (W p) (A p) = 0) : ∀ (r p : Nat) (S : q_St) (dn bt : Int32), p + r = n → q_okS S → S.1.2 = ng → q_okS (q_play W A r p S dn bt).2.1 ∧ (q_play W A r p S dn bt).2.1.1 = S.1 ∧ (∀ q, (q_play W A r p S dn bt).1 = some q → q < n) := by
  intro r
  induction r with
  | zero =>
    intro p S dn bt hp hok hng
    exact ⟨hok, rfl, fun q hq => by simp [q_play] at hq⟩
  | succ r ih =>
    intro p S dn bt hp hok hng
    have h6 := hok.2.1
    have hstop : q_step S dn bt (W p) (A p) = none → q_okS (q_play W A (r + 1) p S dn bt).2.1 ∧ (q_play W A (r + 1) p S dn bt).2.1.1 = S.1 ∧ (∀ q, (q_play W A (r + 1) p S dn bt).1 = some q → q < n) := by
      intro h
      rw [q_play_n h]
      exact ⟨hok, rfl, fun q hq => by injection hq with hq; omega⟩
    rcases q_rp_0 (by omega) (hg p (by omega)) with ⟨h1, v, hv, h2⟩ | ⟨t, k, ht, hk, h1, h2⟩ | ⟨s, k, hs, hk, h1, h2⟩
    · have e := q_step_n S dn bt hv
      rw [← h1, ← h2] at e
      rw [q_play_s e]
      exact ih (p + 1) _ dn bt (by omega) (q_slp_ok hok _ _) hng
    · have e := q_step_t S dn bt ht (show k < 6 by omega)
      rw [← h1, ← h2] at e
      rw [q_play_s e]
      exact ih (p + 1) _ dn bt (by omega) (q_sG3_ok hok ht) hng
    · have e := q_step_g S dn bt hs (show k < 6 by omega)
      rw [← h1, ← h2] at e
      by_cases hc : s < S.1.1 ∧ S.2.2.2 0 k = false
      · rw [if_pos hc] at e
        rw [q_play_s e]
        have hn := q_gv_ng S s k
        obtain ⟨i1, i2, i3⟩ := ih (p + 1) (q_gv S s k).2 (if (q_gv S s k).1 ≤ 0 then dn else dn + (q_gv S s k).1) (if (q_gv S s k).1 ≤ 0 then bt else bt + ((q_gv S s k).1 - 1)) (by omega) (q_gv_ok hok hc.1 (by omega) hc.2) (by rw [hn]; exact hng)
        exact ⟨i1, i2.trans hn, i3⟩
      · rw [if_neg hc] at e
        exact hstop e
theorem k_play {k i n ng : Nat} (hk : k < 4) (hin : i + 2 * n ≤ 60) (hg6 : ng ≤ 6) {W A : Nat → Int32} (hg : ∀ p, p < n → q_rp ng (W p) (A p) = 0) (d : Nat) : ∀ (r F p : Nat) (S : q_St) (dn bt : Int32) (m : z_M), p + r = n → q_CS m 31 S → q_okS S → S.1.2 = ng → (∀ p, p < n → m (52 + 2 * k) (i + 2 * p) = W p ∧ m (52 + 2 * k) (i + 2 * p + 1) = A p) → m 30 1 = -9 → m 30 2 = dn → m 30 3 = bt → ∃ m1, z_lp z_SH 0 (fun _ => 0) (z_go z_SH z_P (d + 5)) me_X0_play (F + r + 2) 27 [some (.ref 30), none, some (.ref (51 + 2 * k)), some (.int (nI i)), some (.int (nI n)), some (.int (nI p)), none, none] [] m = some (0, 0, m1) ∧ q_CS m1 31 (q_play W A r p S dn bt).2.1 ∧ m1 30 1 = (q_play W A r p S dn bt).1.elim (-9) nI ∧ m1 30 2 = (q_play W A r p S dn bt).2.2.1 ∧ m1 30 3 = (q_play W A r p S dn bt).2.2.2 ∧ ∀ a, (a < 30 ∨ 40 ≤ a) → m1 a = m a := by
  intro r
  induction r with
  | zero =>
    intro F p S dn bt m hp hC hok hng hc h1 h2 h3
    refine ⟨m, ?_, hC, h1, h2, h3, fun _ _ => rfl⟩
    rw [show F + 0 + 2 = (F + 1) + 1 by omega, e_X0_play_27, q_nI_le (by omega) (by omega), if_pos (by omega)]
  | succ r ih =>
    intro F p S dn bt m hp hC hok hng hc h1 h2 h3
    have h5 := hok.1
    obtain ⟨c1, c2⟩ := hc p (by omega)
    have ix : nI i + 2 * nI p = nI (i + 2 * p) := by rw [show (2 : Int32) = nI 2 from rfl, pk_mul, nI_add]
    have hz : z_isH 31 := Or.inr (Or.inr (Or.inr rfl))
    rw [show F + (r + 1) + 2 = (F + r + 2) + 1 by omega, e_X0_play_27, q_nI_le (by omega) (by omega), if_neg (by omega), h1, if_pos rfl, (q_s hk).2.2.2.2.1]
    simp only [Option.bind_some]
    rw [ix, nI_1, q_sa hk (by omega), z_g_t, q_sa hk (by omega), z_g_t, q_cl (by omega), q_cl (by omega), c1, c2, nI_1]
    have hstop : q_step S dn bt (W p) (A p) = none → ∃ m1, z_lp z_SH 0 (fun _ => 0) (z_go z_SH z_P (d + 5)) me_X0_play (F + r + 2) 27 [some (.ref 30), none, some (.ref (51 + 2 * k)), some (.int (nI i)), some (.int (nI n)), some (.int (nI (p + 1))), none, none] [] (z_up m 30 1 (nI p)) = some (0, 0, m1) ∧ q_CS m1 31 (q_play W A (r + 1) p S dn bt).2.1 ∧ m1 30 1 = (q_play W A (r + 1) p S dn bt).1.elim (-9) nI ∧ m1 30 2 = (q_play W A (r + 1) p S dn bt).2.2.1 ∧ m1 30 3 = (q_play W A (r + 1) p S dn bt).2.2.2 ∧ ∀ a, (a < 30 ∨ 40 ≤ a) → m1 a = m a := by
      intro h
      have hne : ¬ nI p = (-9 : Int32) := by
        have : ∀ v, v < 40 → nI v ≠ (-9 : Int32) := by decide +kernel
        exact this p (by omega)
      rw [q_play_n h]
      refine ⟨z_up m 30 1 (nI p), ?_, hC.of (by omega) (fun a h1 h2 => z_up_ne (by omega)), by rw [q_uq]; rfl, by rw [q_uk (by decide)]; exact h2, by rw [q_uk (by decide)]; exact h3, fun a ha => z_up_ne (by omega)⟩
      rw [show F + r + 2 = (F + r + 1) + 1 by omega, e_X0_play_27, q_nI_le (by omega) (by omega), q_uq]
      by_cases hq : n ≤ p + 1
      · rw [if_pos hq]
      · rw [if_neg hq, if_neg hne]
    rcases q_rp_0 hg6 (hg p (by omega)) with ⟨a1, v, hv, a2⟩ | ⟨t, g, ht, hgg, a1, a2⟩ | ⟨s, g, hs, hgg, a1, a2⟩
    · have e := q_step_n S dn bt hv
      rw [← a1, ← a2] at e
      rw [a1, a2, if_pos rfl]
      obtain ⟨m0, e0, c0, f0, -⟩ := k_sleep0 hz hok (show v ≤ 30 by omega) (d + 4) hC
      rw [e0]
      simp only [Option.bind_some]
      rw [q_play_s e]
      obtain ⟨m1, e1, b1, b2, b3, b4, f1⟩ := ih F (p + 1) (q_slp S v S.1.2) dn bt m0 (by omega) c0 (q_slp_ok hok _ _) hng (fun q hq => by rw [f0 (52 + 2 * k) (by omega)]; exact hc q hq) (by rw [f0 30 (by omega)]; exact h1) (by rw [f0 30 (by omega)]; exact h2) (by rw [f0 30 (by omega)]; exact h3)
      exact ⟨m1, e1, b1, b2, b3, b4, fun a ha => (f1 a ha).trans (f0 a (by omega))⟩
    · have e := q_step_t S dn bt ht (show g < 6 by omega)
      rw [← a1, ← a2] at e
      have hg6' : g < 6 := by omega
      rw [a1, a2, if_neg (q_act1 t (by omega)).1, c_X0_isSeatAct, k_within]
      simp only [Option.bind_some]
      rw [q_bb, z_g_t]
      simp only [Option.bind_some]
      rw [q_if, if_pos (q_act1 t (by omega)).2.1, q_in hg6' (by decide), z_g_t, q_cl (by omega), q_g34 hg6' (by decide), z_g_t, show (20 : Int32) = nI 20 from rfl, pk_sub (by omega), show 20 + t - 20 = t by omega]
      rw [q_play_s e]
      have c0 : q_CS (z_up m (34 + g) 3 (nI t)) 31 (q_sG S 3 g t) := q_sG_C hC (f := 3) (k := g) t (by decide)
      obtain ⟨m1, e1, b1, b2, b3, b4, f1⟩ := ih F (p + 1) (q_sG S 3 g t) dn bt (z_up m (34 + g) 3 (nI t)) (by omega) c0 (q_sG3_ok hok ht) hng (fun q hq => by rw [z_up_ne (by omega)]; exact hc q hq) (by rw [q_ua (by omega)]; exact h1) (by rw [q_ua (by omega)]; exact h2) (by rw [q_ua (by omega)]; exact h3)
      exact ⟨m1, e1, b1, b2, b3, b4, fun a ha => (f1 a ha).trans (z_up_ne (by omega))⟩
    · have e := q_step_g S dn bt hs (show g < 6 by omega)
      rw [← a1, ← a2] at e
      have hg6' : g < 6 := by omega
      have hgS : g < S.1.2 := by omega
      rw [a1, a2, if_neg (q_act2 s (by omega)).1, c_X0_isSeatAct, k_within]
      simp only [Option.bind_some]
      rw [q_bb, z_g_t]
      simp only [Option.bind_some]
      have e31 : m 31 2 = nI S.1.1 := hC.1
      have ekn : z_b (m (34 + g) 5) = q_b (S.2.2.2 0 g) := hC.kn hgS
      rw [q_if, if_neg (by rw [(q_act2 s (by omega)).2.1]; decide), e31, q_nI_le (by omega) (by omega), q_in hg6' (by decide), z_g_t, q_cl (by omega), q_g34b hg6' (by decide) (by decide), z_g_t, ekn, q_if]
      by_cases hc1 : S.1.1 ≤ s
      · rw [if_neg (fun q => by have := q.1; omega)] at e
        rw [if_pos hc1]
        exact hstop e
      rw [if_neg hc1]
      by_cases hc2 : S.2.2.2 0 g = true
      · rw [if_neg (fun q => by rw [q.2] at hc2; cases hc2)] at e
        rw [if_pos hc2]
        exact hstop e
      rw [if_neg hc2]
      have hc3 : S.2.2.2 0 g = false := by simpa using hc2
      rw [if_pos ⟨by omega, hc3⟩] at e
      obtain ⟨m0, e0, c0, f0⟩ := k_offer hz d hC hok (show s < S.1.1 by omega) hgS hc3
      have hn := q_gv_ng S s g
      rw [c_X0_serve, e0]
      simp only [Option.bind_some]
      rw [q_play_s e]
      by_cases hr : (q_gv S s g).1 ≤ 0
      · rw [if_pos hr]
        simp only [Option.bind_some, if_pos hr]
        obtain ⟨m1, e1, b1, b2, b3, b4, f1⟩ := ih F (p + 1) (q_gv S s g).2 dn bt m0 (by omega) c0 (q_gv_ok hok (by omega) hgS hc3) (by rw [hn]; exact hng) (fun q hq => by rw [f0 (52 + 2 * k) (by omega)]; exact hc q hq) (by rw [f0 30 (by omega)]; exact h1) (by rw [f0 30 (by omega)]; exact h2) (by rw [f0 30 (by omega)]; exact h3)
        exact ⟨m1, e1, b1, b2, b3, b4, fun a ha => (f1 a ha).trans (f0 a (by omega))⟩
      · rw [if_neg hr]
        simp only [Option.bind_some, if_neg hr]
        have g2 : m0 30 2 = dn := by rw [f0 30 (by omega)]; exact h2
        have g3 : m0 30 3 = bt := by rw [f0 30 (by omega)]; exact h3
        rw [q_uk (by decide), g2, g3]
        have hng' : (q_gv S s g).2.1.2 ≤ 6 := by rw [hn]; omega
        obtain ⟨m1, e1, b1, b2, b3, b4, f1⟩ := ih F (p + 1) (q_gv S s g).2 (dn + (q_gv S s g).1) (bt + ((q_gv S s g).1 - 1)) (z_up (z_up m0 30 2 (dn + (q_gv S s g).1)) 30 3 (bt + ((q_gv S s g).1 - 1))) (by omega) (c0.of hng' (fun a h1 h2 => by rw [z_up_ne (by omega), z_up_ne (by omega)])) (q_gv_ok hok (by omega) hgS hc3) (by rw [hn]; exact hng) (fun q hq => by rw [z_up_ne (by omega), z_up_ne (by omega), f0 (52 + 2 * k) (by omega)]; exact hc q hq) (by rw [q_uk (by decide), q_uk (by decide), f0 30 (by omega)]; exact h1) (by rw [q_uk (by decide), q_uq]) (by rw [q_uq])
        exact ⟨m1, e1, b1, b2, b3, b4, fun a ha => by rw [f1 a ha, z_up_ne (by omega), z_up_ne (by omega), f0 a (by omega)]⟩
/-! the reference -/
theorem k_mwait {S : q_St} (hok : q_okS S) {n : Nat} (hn : n ≤ 30) (d : Nat) : ∀ (j F t : Nat) (m : z_M), t + j = n → q_MS m (q_slp S t S.1.2) → ∃ m1, z_lp z_SH 0 (fun _ => 0) (z_go z_SH z_P (d + 2)) me_X10_does (F + j + 1) 8 [some (.ref 59), some (.int (nI n)), none, some (.int (nI t))] [] m = some (1, 0, m1) ∧ q_MS m1 (q_slp S n S.1.2) ∧ ∀ a, a ≠ 68 → m1 a = m a := by
  intro j
  induction j with
  | zero =>
    intro F t m ht hM
    refine ⟨m, ?_, ?_, fun _ _ => rfl⟩
    · rw [e_X10_does_8, q_nI_le (by omega) (by omega), if_pos (by omega)]
    · rw [show n = t by omega]
      exact hM
  | succ j ih =>
    intro F t m ht hM
    obtain ⟨m1, e1, c1, f1⟩ := k_mnight0 (q_slp_ok hok t S.1.2) d hM
    have c1 : q_MS m1 (q_slp S (t + 1) S.1.2) := by
      rw [← q_slp_s]
      exact c1
    obtain ⟨m2, e2, c2, f2⟩ := ih F (t + 1) m1 (by omega) c1
    refine ⟨m2, ?_, c2, fun a ha => (f2 a ha).trans (f1 a ha)⟩
    rw [show F + (j + 1) + 1 = (F + j + 1) + 1 by omega, e_X10_does_8, q_nI_le (by omega) (by omega), if_neg (by omega), e1]
    simp only [Option.bind_some]
    rw [nI_1]
    exact e2
theorem q_le1 {r : Int32} (h : ¬ r ≤ 0) (h1 : r ≤ 1) : r = 1 := by
  rw [Int32.le_iff_toInt_le] at h h1
  have e0 : (0 : Int32).toInt = 0 := rfl
  have e1 : (1 : Int32).toInt = 1 := by decide
  exact Int32.toInt_inj.mp (by omega)
theorem q_le01 {r : Int32} (h : r ≤ 0) : r ≤ 1 := by
  rw [Int32.le_iff_toInt_le] at h ⊢
  have e0 : (0 : Int32).toInt = 0 := rfl
  have e1 : (1 : Int32).toInt = 1 := by decide
  omega
theorem k_mdoes {S : q_St} (hok : q_okS S) {w a dn bt : Int32} (hg : q_rp S.1.2 w a = 0) (d : Nat) {m : z_M} (hM : q_MS m S) (h25 : m 59 25 = dn) (h26 : m 59 26 = bt) : ∃ m1, z_go z_SH z_P (d + 5) 141 [.ref 59, .int w, .int a] m = some ((q_step S dn bt w a).elim 0 (fun _ => 1), 0, m1) ∧ q_MS m1 ((q_step S dn bt w a).elim S (fun R => R.1)) ∧ m1 59 25 = (q_step S dn bt w a).elim dn (fun R => R.2.1) ∧ m1 59 26 = (q_step S dn bt w a).elim bt (fun R => R.2.2) ∧ (∀ a, a ≠ 67 → a ≠ 68 → a ≠ 59 → m1 a = m a) ∧ ∀ k, k ≠ 8 → k ≠ 9 → k ≠ 25 → k ≠ 26 → m1 59 k = m 59 k := by
  have h6 := hok.2.1
  have h5 := hok.1
  rcases q_rp_0 h6 hg with ⟨rfl, v, hv, rfl⟩ | ⟨t, g, ht, hgg, rfl, rfl⟩ | ⟨s, g, hs, hgg, rfl, rfl⟩
  · rw [q_step_n S dn bt hv]
    obtain ⟨m1, e1, c1, f1⟩ := k_mwait hok (show v ≤ 30 by omega) (d + 2) v (199999 - v - 1) 0 m (Nat.zero_add _) (by rw [q_slp_z]; exact hM)
    rw [show 199999 - v - 1 + v + 1 = 199999 by omega, show d + 2 + 2 = d + 4 from rfl] at e1
    refine ⟨m1, ?_, c1, by rw [f1 59 (by decide)]; exact h25, by rw [f1 59 (by decide)]; exact h26, fun a h1 h2 h3 => f1 a h2, fun k _ _ _ _ => by rw [f1 59 (by decide)]⟩
    rw [c_X10_does, if_pos rfl]
    exact e1
  · rw [q_step_t S dn bt ht (show g < 6 by omega)]
    have hlt : ∀ t, t < 6 → ¬ nI (20 + t) < (20 : Int32) := by decide +kernel
    refine ⟨z_up m 67 g (nI t), ?_, q_sG_M hM t (f := 3) (k := g) (by decide), by rw [q_ua (by decide)]; exact h25, by rw [q_ua (by decide)]; exact h26, fun a h1 h2 h3 => z_up_ne h1, fun k _ _ _ _ => q_ua (by decide)⟩
    rw [c_X10_does, if_neg (q_act1 t (by omega)).1, if_neg (hlt t (by omega)), q_in (show g < 6 by omega) (by decide), z_g_t, q_cl (by omega), show (20 : Int32) = nI 20 from rfl, pk_sub (by omega), show 20 + t - 20 = t by omega]
    rfl
  · rw [q_step_g S dn bt hs (show g < 6 by omega), c_X10_does, if_neg (q_act2 s (by omega)).1, if_pos (q_act2 s (by omega)).2.2, hM.2.2.2.2.1, k_misOf _ h6 hgg]
    simp only [Option.bind_some]
    rw [q_if, k_misSign _ _ hM.1 h5, q_v_nI (by omega)]
    simp only [Option.bind_some]
    rw [q_if]
    by_cases hc2 : S.2.2.2 0 g = true
    · rw [if_pos hc2, if_neg (fun q => by rw [q.2] at hc2; cases hc2)]
      exact ⟨m, rfl, hM, h25, h26, fun _ _ _ _ => rfl, fun _ _ _ _ _ => rfl⟩
    have hc3 : S.2.2.2 0 g = false := by simpa using hc2
    rw [if_neg hc2]
    by_cases hc1 : s < S.1.1
    · rw [if_pos (decide_eq_true hc1), if_pos ⟨hc1, hc3⟩]
      obtain ⟨m0, e0, c0, f0, g0⟩ := k_mgiven d hM hok hc1 hgg hc3
      rw [e0]
      simp only [Option.bind_some]
      have hs25 : m0 59 25 = dn := by rw [g0 25 (by decide) (by decide)]; exact h25
      have hs26 : m0 59 26 = bt := by rw [g0 26 (by decide) (by decide)]; exact h26
      by_cases hr : (q_gv S s g).1 ≤ 0
      · rw [if_pos hr, if_pos (q_le01 hr), Int32.add_zero, q_up_same, Int32.add_zero, q_up_same, if_pos hr, if_pos hr]
        exact ⟨m0, rfl, c0, hs25, hs26, fun a h1 h2 h3 => f0 a h2 h3, fun k h8 h9 _ _ => g0 k h8 h9⟩
      · rw [if_neg hr, if_neg hr, if_neg hr]
        have hM2 : ∀ u v : Int32, q_MS (z_up (z_up m0 59 25 u) 59 26 v) (q_gv S s g).2 := fun u v => c0.of (by rw [q_uk (by decide), q_uk (by decide)]) (by rw [q_uk (by decide), q_uk (by decide)]) (by rw [q_uk (by decide), q_uk (by decide)]) (by rw [q_uk (by decide), q_uk (by decide)]) (fun a h1 h2 => by rw [z_up_ne (by omega), z_up_ne (by omega)])
        by_cases hr1 : (q_gv S s g).1 ≤ 1
        · have e1 := q_le1 hr hr1
          rw [if_pos hr1]
          refine ⟨_, rfl, hM2 _ _, ?_, ?_, fun a h1 h2 h3 => ?_, fun k h8 h9 h10 h11 => ?_⟩
          · rw [q_uk (by decide), q_uq, hs25]
            rfl
          · rw [q_uq, q_uk (by decide), hs26, e1]
            rfl
          · rw [z_up_ne h3, z_up_ne h3, f0 a h2 h3]
          · rw [q_uk h11, q_uk h10, g0 k h8 h9]
        · rw [if_neg hr1]
          refine ⟨_, rfl, hM2 _ _, ?_, ?_, fun a h1 h2 h3 => ?_, fun k h8 h9 h10 h11 => ?_⟩
          · rw [q_uk (by decide), q_uq, hs25]
            rfl
          · rw [q_uq, q_uk (by decide), hs26]
            rfl
          · rw [z_up_ne h3, z_up_ne h3, f0 a h2 h3]
          · rw [q_uk h11, q_uk h10, g0 k h8 h9]
    · rw [if_neg (by simpa using hc1), if_neg (fun q => hc1 q.1)]
      exact ⟨m, rfl, hM, h25, h26, fun _ _ _ _ => rfl, fun _ _ _ _ _ => rfl⟩
theorem k_mgo {b n ng : Nat} (hb : b + 2 * n ≤ 240) {W A : Nat → Int32} (hn : n ≤ 30) (hg : ∀ p, p < n → q_rp ng (W p) (A p) = 0) (d : Nat) : ∀ (r F p : Nat) (S : q_St) (dn bt : Int32) (m : z_M), p + r = n → q_MS m S → q_okS S → S.1.2 = ng → (∀ p, p < n → m 62 (b + 2 * p) = W p ∧ m 62 (b + 2 * p + 1) = A p) → m 59 25 = dn → m 59 26 = bt → ∃ m1, z_lp z_SH 0 (fun _ => 0) (z_go z_SH z_P (d + 5)) me_X10_goDinner (F + r + 1) 12 [some (.ref 59), some (.int (nI b)), some (.int (nI n)), some (.int (nI p))] [] m = some ((q_play W A r p S dn bt).1.elim (-9) nI, 0, m1) ∧ q_MS m1 (q_play W A r p S dn bt).2.1 ∧ m1 59 25 = (q_play W A r p S dn bt).2.2.1 ∧ m1 59 26 = (q_play W A r p S dn bt).2.2.2 ∧ (∀ a, a ≠ 67 → a ≠ 68 → a ≠ 59 → m1 a = m a) ∧ ∀ k, k ≠ 8 → k ≠ 9 → k ≠ 25 → k ≠ 26 → m1 59 k = m 59 k := by
  intro r
  induction r with
  | zero =>
    intro F p S dn bt m hp hM hok hng hc h1 h2
    refine ⟨m, ?_, hM, h1, h2, fun _ _ _ _ => rfl, fun _ _ _ _ _ => rfl⟩
    rw [e_X10_goDinner_12, q_nI_le (by omega) (by omega), if_pos (by omega)]
    rfl
  | succ r ih =>
    intro F p S dn bt m hp hM hok hng hc h1 h2
    obtain ⟨c1, c2⟩ := hc p (by omega)
    have ix : nI b + 2 * nI p = nI (b + 2 * p) := by rw [show (2 : Int32) = nI 2 from rfl, pk_mul, nI_add]
    obtain ⟨m0, e0, b1, b2, b3, f0, g0⟩ := k_mdoes hok (w := W p) (a := A p) (dn := dn) (bt := bt) (by rw [hng]; exact hg p (by omega)) d hM h1 h2
    rw [show F + (r + 1) + 1 = (F + r + 1) + 1 by omega, e_X10_goDinner_12, q_nI_le (by omega) (by omega), if_neg (by omega), ix, nI_1, nI_1, q_in (show b + 2 * p < 240 by omega) (by decide), z_g_t, q_in (show b + 2 * p + 1 < 240 by omega) (by decide), z_g_t, q_cl (by omega), q_cl (by omega), c1, c2, e0]
    simp only [Option.bind_some]
    have hok' := (q_play_ok (W := W) (A := A) (n := n) (ng := ng) hg (r + 1) p S dn bt (by omega) hok hng)
    cases hst : q_step S dn bt (W p) (A p) with
    | none =>
      rw [hst] at b1 b2 b3
      rw [q_play_n hst]
      refine ⟨m0, ?_, b1, b2, b3, f0, g0⟩
      rfl
    | some R =>
      rw [hst] at b1 b2 b3
      have hokR : q_okS R.1 ∧ R.1.1 = S.1 := by
        have hh := q_play_ok (W := fun _ => W p) (A := fun _ => A p) (n := 1) (ng := ng) (fun _ _ => hg p (by omega)) 1 0 S dn bt (by decide) hok hng
        rw [q_play_s (W := fun _ => W p) (A := fun _ => A p) hst] at hh
        exact ⟨hh.1, hh.2.1⟩
      obtain ⟨m1, e1, d1, d2, d3, f1, g1⟩ := ih F (p + 1) R.1 R.2.1 R.2.2 m0 (by omega) b1 hokR.1 (by rw [hokR.2]; exact hng) (fun q hq => by rw [f0 62 (by decide) (by decide) (by decide)]; exact hc q hq) b2 b3
      rw [q_play_s hst]
      refine ⟨m1, ?_, d1, d2, d3, fun a x1 x2 x3 => (f1 a x1 x2 x3).trans (f0 a x1 x2 x3), fun k x1 x2 x3 x4 => (g1 k x1 x2 x3 x4).trans (g0 k x1 x2 x3 x4)⟩
      show (if (1 : Int32) = 0 then _ else _) = _
      rw [if_neg (by decide)]
      exact e1
