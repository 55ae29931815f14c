/-! 14 just -/
def q_ws (S : q_St) (k : Nat) (g : Nat → Int32) (v : Nat) : Nat → Int32
  | 0 => 0
  | s + 1 => q_ws S k g v s + (if q_soft S s k = true ∧ q_wt S s k ≤ v then g (v - q_wt S s k) else 0)
def q_wy (S : q_St) (k : Nat) : Nat → Nat → Int32
  | 0, v => if v = 0 then 1 else 0
  | n + 1, v => q_ws S k (q_wy S k n) v S.1.1
theorem q_soft_pos {S : q_St} {s k : Nat} (h : q_soft S s k = true) : 0 < q_wt S s k := by
  simp only [q_soft, Bool.and_eq_true, decide_eq_true_eq] at h
  exact h.1
theorem q_m1 (v : Nat) : nI (v + 1) + (-1 : Int32) = nI v := by
  rw [← nI_1 v]
  simp [Int32.add_assoc]
theorem k_ways {S : q_St} (hok : q_okS S) {k : Nat} (hk : k < S.1.2) {v : Nat} (hv : v ≤ 54) {g : Nat → Int32} {m : z_M} (hC : q_CS m 2 S) (hg : ∀ u, u < v → m 45 u = g u) (d : Nat) : ∀ (j F s : Nat), s + j = S.1.1 → z_lp z_SH 0 (fun _ => 0) (z_go z_SH z_P (d + 3)) me_X5_waysByOneMore (F + j + 1) 6 [some (.ref 44), some (.ref 2), some (.int (nI k)), some (.int (nI v)), some (.int (q_ws S k g v s)), some (.int (nI s)), none] [] m = some (q_ws S k g v S.1.1, 0, m) := by
  have h5 := hok.1
  intro j
  induction j with
  | zero =>
    intro F s hs
    rw [e_X5_waysByOneMore_6, hC.1, q_nI_le (by omega) (by omega), if_pos (by omega), show s = S.1.1 by omega]
  | succ j ih =>
    intro F s hs
    have hs' : s < S.1.1 := by omega
    have hw := q_wt_le hok hs' k
    have e1 := ih F (s + 1) (by omega)
    rw [show F + (j + 1) + 1 = (F + j + 1) + 1 by omega, e_X5_waysByOneMore_6, hC.1, q_nI_le (by omega) (by omega), if_neg (by omega), k_weight (Or.inl rfl) hC hok hs' hk]
    simp only [Option.bind_some]
    rw [k_isSoft (Or.inl rfl) hC hok hs' hk]
    simp only [Option.bind_some]
    rw [q_if, nI_1, q_nI_lt (by omega) (by omega)]
    by_cases hq : q_soft S s k = true
    · rw [if_pos hq]
      have hp := q_soft_pos hq
      by_cases hl : v < q_wt S s k
      · rw [if_pos hl]
        simp only [q_ws, hq, show ¬ q_wt S s k ≤ v by omega, and_false, if_false, Int32.add_zero] at e1
        exact e1
      · rw [if_neg hl, pk_sub (by omega), q_in (show v - q_wt S s k < 55 by omega) (by decide), z_g_t, q_cl (by omega), hg _ (by omega)]
        simp only [q_ws, hq, show q_wt S s k ≤ v by omega, and_self, if_true] at e1
        exact e1
    · rw [if_neg hq]
      simp only [q_ws, hq, Bool.false_eq_true, false_and, if_false, Int32.add_zero] at e1
      exact e1
theorem k_ways0 {S : q_St} (hok : q_okS S) {k : Nat} (hk : k < S.1.2) {v : Nat} (hv : v ≤ 54) {g : Nat → Int32} {m : z_M} (hC : q_CS m 2 S) (hg : ∀ u, u < v → m 45 u = g u) (d : Nat) : z_go z_SH z_P (d + 4) 43 [.ref 44, .ref 2, .int (nI k), .int (nI v)] m = some (q_ws S k g v S.1.1, 0, m) := by
  have h5 := hok.1
  have := k_ways hok hk hv hC hg d S.1.1 (199999 - S.1.1 - 1) 0 (Nat.zero_add _)
  rw [show 199999 - S.1.1 - 1 + S.1.1 + 1 = 199999 by omega] at this
  rw [c_X5_waysByOneMore]
  exact this
theorem k_j0 (C : Nat → List Value → z_M → Option z_R) (S : q_St) (k : Nat) (y2 y3 : Int32) {M : Nat} (hM : M ≤ 54) : ∀ (j F u : Nat) (m : z_M), u + j = M + 1 → ∃ m1, z_lp z_SH 0 (fun _ => 0) C me_X5_thatWeigh (F + j + 1) 3 [some (.ref 44), some (.ref 2), some (.int y2), some (.int y3), some (.int (nI M)), some (.int (nI u)), none] [] m = z_lp z_SH 0 (fun _ => 0) C me_X5_thatWeigh F 36 [some (.ref 44), some (.ref 2), some (.int y2), some (.int y3), some (.int (nI M)), some (.int 0), none] [] m1 ∧ (∀ v, u ≤ v → v ≤ M → m1 45 v = q_wy S k 0 v) ∧ (∀ v, v < u → m1 45 v = m 45 v) ∧ ∀ a, a ≠ 45 → m1 a = m a := by
  intro j
  induction j with
  | zero =>
    intro F u m hu
    refine ⟨m, ?_, fun v h1 h2 => by omega, fun _ _ => rfl, fun _ _ => rfl⟩
    rw [e_X5_thatWeigh_3, q_nI_lt (by omega) (by omega), if_pos (by omega)]
  | succ j ih =>
    intro F u m hu
    obtain ⟨m1, e1, g1, g2, f1⟩ := ih F (u + 1) (z_up m 45 u (q_wy S k 0 u)) (by omega)
    refine ⟨m1, ?_, fun v h1 h2 => ?_, fun v hv => ?_, fun a ha => (f1 a ha).trans (z_up_ne ha)⟩
    · rw [show F + (j + 1) + 1 = (F + j + 1) + 1 by omega, e_X5_thatWeigh_3, q_nI_lt (by omega) (by omega), if_neg (by omega), q_in (show u < 55 by omega) (by decide), z_g_t, z_g_t, q_cl (by omega), nI_1, show (0 : Int32) = nI 0 from rfl, q_nI_if (by omega) (by decide), show nI 0 = (0 : Int32) from rfl]
      by_cases hq : u = 0
      · rw [if_pos hq]
        simp only [q_wy, hq, if_true] at e1 ⊢
        exact e1
      · rw [if_neg hq]
        simp only [q_wy, hq, if_false] at e1 ⊢
        exact e1
    · by_cases hq : v = u
      · subst hq
        rw [g2 v (by omega), q_uq]
      · exact g1 v (by omega) h2
    · rw [g2 v (by omega), q_uk (by omega)]
theorem k_j1 {S : q_St} (hok : q_okS S) {k : Nat} (hk : k < S.1.2) (d n q : Nat) (y3 : Int32) {M : Nat} (hM : M ≤ 54) : ∀ (c F : Nat) (m : z_M), c ≤ M + 1 → q_CS m 2 S → (∀ u, u < c → m 45 u = q_wy S k n u) → (∀ u, c ≤ u → u ≤ M → m 45 u = q_wy S k (n + 1) u) → ∃ m1, z_lp z_SH 0 (fun _ => 0) (z_go z_SH z_P (d + 4)) me_X5_thatWeigh (F + c + 1) 46 [some (.ref 44), some (.ref 2), some (.int (nI k)), some (.int y3), some (.int (nI M)), some (.int (nI q)), some (.int (nI c + (-1)))] [] m = z_lp z_SH 0 (fun _ => 0) (z_go z_SH z_P (d + 4)) me_X5_thatWeigh F 36 [some (.ref 44), some (.ref 2), some (.int (nI k)), some (.int y3), some (.int (nI M)), some (.int (nI (q + 1))), none] [] m1 ∧ (∀ u, u ≤ M → m1 45 u = q_wy S k (n + 1) u) ∧ ∀ a, a ≠ 45 → m1 a = m a := by
  have h6 := hok.2.1
  intro c
  induction c with
  | zero =>
    intro F m hc hC h1 h2
    refine ⟨m, ?_, fun u hu => h2 u (Nat.zero_le _) hu, fun _ _ => rfl⟩
    rw [e_X5_thatWeigh_46, if_pos (by decide), nI_1]
  | succ c ih =>
    intro F m hc hC h1 h2
    obtain ⟨m1, e1, g1, f1⟩ := ih F (z_up m 45 c (q_wy S k (n + 1) c)) (by omega) (hC.of h6 (fun a h1 h2 => z_up_ne (by omega))) (fun u hu => by rw [q_uk (by omega)]; exact h1 u (by omega)) (fun u hu1 hu2 => by
      by_cases hq : u = c
      · subst hq
        rw [q_uq]
      · rw [q_uk hq]
        exact h2 u (by omega) hu2)
    refine ⟨m1, ?_, g1, fun a ha => (f1 a ha).trans (z_up_ne ha)⟩
    have hn0 : ¬ nI c < (0 : Int32) := fun q => by have := (nI_ltI (a := c) (b := 0) (by omega) (by decide)).mp q; omega
    rw [show F + (c + 1) + 1 = (F + c + 1) + 1 by omega, e_X5_thatWeigh_46, q_m1, if_neg hn0, k_ways0 hok hk (by omega) hC (fun u hu => h1 u (by omega))]
    simp only [Option.bind_some]
    rw [q_in (show c < 55 by omega) (by decide), z_g_t, q_cl (by omega)]
    exact e1
theorem k_j2 {S : q_St} (hok : q_okS S) {k : Nat} (hk : k < S.1.2) (d : Nat) {n M : Nat} (hn : n ≤ 6) (hM : M ≤ 54) : ∀ (r F q : Nat) (m : z_M), q + r = n → q_CS m 2 S → (∀ u, u ≤ M → m 45 u = q_wy S k q u) → ∃ m1, z_lp z_SH 0 (fun _ => 0) (z_go z_SH z_P (d + 4)) me_X5_thatWeigh (F + r * (M + 3) + 1) 36 [some (.ref 44), some (.ref 2), some (.int (nI k)), some (.int (nI n)), some (.int (nI M)), some (.int (nI q)), none] [] m = some (q_wy S k n M, 0, m1) ∧ ∀ a, a ≠ 45 → m1 a = m a := by
  have h6 := hok.2.1
  intro r
  induction r with
  | zero =>
    intro F q m hq hC h1
    refine ⟨m, ?_, fun _ _ => rfl⟩
    rw [e_X5_thatWeigh_36, q_nI_le (by omega) (by omega), if_pos (by omega), q_in (show M < 55 by omega) (by decide), z_g_t, q_cl (by omega), h1 M (Nat.le_refl _), show q = n by omega]
  | succ r ih =>
    intro F q m hq hC h1
    obtain ⟨m1, e1, g1, f1⟩ := k_j1 hok hk d q q (nI n) hM (M + 1) (F + r * (M + 3) + 1) m (Nat.le_refl _) hC (fun u hu => h1 u (by omega)) (fun u hu1 hu2 => by omega)
    obtain ⟨m2, e2, f2⟩ := ih F (q + 1) m1 (by omega) (hC.of h6 (fun a h1 h2 => f1 a (by omega))) g1
    refine ⟨m2, ?_, fun a ha => (f2 a ha).trans (f1 a ha)⟩
    rw [q_m1] at e1
    rw [Nat.succ_mul, show F + (r * (M + 3) + (M + 3)) + 1 = (F + r * (M + 3) + 1 + (M + 1) + 1) + 1 by omega, e_X5_thatWeigh_36, q_nI_le (by omega) (by omega), if_neg (by omega), e1]
    exact e2
theorem k_just0 {S : q_St} (hok : q_okS S) {k : Nat} (hk : k < S.1.2) {n M : Nat} (hn : n ≤ 6) (hM : M ≤ 54) (d : Nat) {m : z_M} (hC : q_CS m 2 S) : ∃ m1, z_go z_SH z_P (d + 5) 42 [.ref 44, .ref 2, .int (nI k), .int (nI n), .int (nI M)] m = some (q_wy S k n M, 0, m1) ∧ ∀ a, a ≠ 45 → m1 a = m a := by
  have h6 := hok.2.1
  have hb : n * (M + 3) ≤ 6 * 57 := Nat.mul_le_mul hn (by omega)
  obtain ⟨m1, e1, g1, g2, f1⟩ := k_j0 (z_go z_SH z_P (d + 4)) S k (nI k) (nI n) hM (M + 1) (199999 - (M + 1) - 1) 0 m (Nat.zero_add _)
  obtain ⟨m2, e2, f2⟩ := k_j2 hok hk d hn hM n (199999 - (M + 1) - 1 - n * (M + 3) - 1) 0 m1 (Nat.zero_add _) (hC.of h6 (fun a h1 h2 => f1 a (by omega))) (fun u hu => g1 u (Nat.zero_le _) hu)
  rw [show 199999 - (M + 1) - 1 - n * (M + 3) - 1 + n * (M + 3) + 1 = 199999 - (M + 1) - 1 by omega] at e2
  rw [show 199999 - (M + 1) - 1 + (M + 1) + 1 = 199999 by omega] at e1
  refine ⟨m2, ?_, fun a ha => (f2 a ha).trans (f1 a ha)⟩
  rw [c_X5_thatWeigh]
  exact e1.trans e2
theorem k_mj0 (C : Nat → List Value → z_M → Option z_R) (S : q_St) (k : Nat) (y1 y2 y3 : Int32) : ∀ (j F u : Nat) (m : z_M), u + j = 55 → ∃ m1, z_lp z_SH 0 (fun _ => 0) C me_X10_just (F + j + 1) 36 [some (.ref 59), some (.int y1), some (.int y2), some (.int y3), some (.int (nI u)), none, none, none] [] m = z_lp z_SH 0 (fun _ => 0) C me_X10_just F 69 [some (.ref 59), some (.int y1), some (.int y2), some (.int y3), some (.int 0), none, none, none] [] m1 ∧ (∀ v, u ≤ v → v ≤ 54 → m1 73 v = q_wy S k 0 v) ∧ (∀ v, v < u → m1 73 v = m 73 v) ∧ ∀ a, a ≠ 73 → m1 a = m a := by
  intro j
  induction j with
  | zero =>
    intro F u m hu
    refine ⟨m, ?_, fun v h1 h2 => by omega, fun _ _ => rfl, fun _ _ => rfl⟩
    rw [e_X10_just_36, show (54 : Int32) = nI 54 from rfl, q_nI_lt (by decide) (by omega), if_pos (by omega)]
  | succ j ih =>
    intro F u m hu
    obtain ⟨m1, e1, g1, g2, f1⟩ := ih F (u + 1) (z_up m 73 u (q_wy S k 0 u)) (by omega)
    refine ⟨m1, ?_, fun v h1 h2 => ?_, fun v hv => ?_, fun a ha => (f1 a ha).trans (z_up_ne ha)⟩
    · rw [show F + (j + 1) + 1 = (F + j + 1) + 1 by omega, e_X10_just_36, show (54 : Int32) = nI 54 from rfl, q_nI_lt (by decide) (by omega), if_neg (by omega), q_in (show u < 55 by omega) (by decide), z_g_t, z_g_t, q_cl (by omega), nI_1, show (0 : Int32) = nI 0 from rfl, q_nI_if (by omega) (by decide), show nI 0 = (0 : Int32) from rfl]
      by_cases hq : u = 0
      · rw [if_pos hq]
        simp only [q_wy, hq, if_true] at e1 ⊢
        exact e1
      · rw [if_neg hq]
        simp only [q_wy, hq, if_false] at e1 ⊢
        exact e1
    · by_cases hq : v = u
      · subst hq
        rw [g2 v (by omega), q_uq]
      · exact g1 v (by omega) h2
    · rw [g2 v (by omega), q_uk (by omega)]
theorem k_mways {S : q_St} (hok : q_okS S) {k : Nat} (hk : k < S.1.2) {v : Nat} (hv : v ≤ 54) {g : Nat → Int32} {m : z_M} (hM : q_MS m S) (hg : ∀ u, u < v → m 73 u = g u) (d : Nat) (y2 y3 y4 : Int32) : ∀ (j F s : Nat), s + j = S.1.1 → z_lp z_SH 0 (fun _ => 0) (z_go z_SH z_P (d + 2)) me_X10_just (F + j + 1) 90 [some (.ref 59), some (.int (nI k)), some (.int y2), some (.int y3), some (.int y4), some (.int (nI v)), some (.int (q_ws S k g v s)), some (.int (nI s))] [] m = z_lp z_SH 0 (fun _ => 0) (z_go z_SH z_P (d + 2)) me_X10_just F 79 [some (.ref 59), some (.int (nI k)), some (.int y2), some (.int y3), some (.int y4), some (.int (nI v + (-1))), none, none] [] (z_up m 73 v (q_ws S k g v S.1.1)) := by
  have h5 := hok.1
  intro j
  induction j with
  | zero =>
    intro F s hs
    rw [e_X10_just_90, hM.1, q_nI_le (by omega) (by omega), if_pos (by omega), show s = S.1.1 by omega, q_in (show v < 55 by omega) (by decide), z_g_t, q_cl (by omega)]
  | succ j ih =>
    intro F s hs
    have hs' : s < S.1.1 := by omega
    have hw := q_wt_le hok hs' k
    have e1 := ih F (s + 1) (by omega)
    rw [show F + (j + 1) + 1 = (F + j + 1) + 1 by omega, e_X10_just_90, hM.1, q_nI_le (by omega) (by omega), if_neg (by omega), k_misSoft hM hok hs' hk]
    simp only [Option.bind_some]
    rw [k_mweigh hM hok hs' hk]
    simp only [Option.bind_some]
    rw [k_mweigh hM hok hs' hk]
    simp only [Option.bind_some]
    rw [q_if, nI_1, q_nI_lt (by omega) (by omega), Int32.add_zero]
    by_cases hq : q_soft S s k = true
    · rw [if_pos hq]
      have hp := q_soft_pos hq
      by_cases hl : v < q_wt S s k
      · rw [if_pos hl]
        simp only [q_ws, hq, show ¬ q_wt S s k ≤ v by omega, and_false, if_false, Int32.add_zero] at e1
        exact e1
      · rw [if_neg hl, pk_sub (by omega), q_in (show v - q_wt S s k < 55 by omega) (by decide), z_g_t, q_cl (by omega), hg _ (by omega)]
        simp only [q_ws, hq, show q_wt S s k ≤ v by omega, and_self, if_true] at e1
        exact e1
    · rw [if_neg hq]
      simp only [q_ws, hq, Bool.false_eq_true, false_and, if_false, Int32.add_zero] at e1
      exact e1
theorem k_mj1 {S : q_St} (hok : q_okS S) {k : Nat} (hk : k < S.1.2) (d n q : Nat) (y2 y3 : Int32) : ∀ (c F : Nat) (m : z_M), c ≤ 55 → q_MS m S → (∀ u, u < c → m 73 u = q_wy S k n u) → (∀ u, c ≤ u → u ≤ 54 → m 73 u = q_wy S k (n + 1) u) → ∃ m1, z_lp z_SH 0 (fun _ => 0) (z_go z_SH z_P (d + 2)) me_X10_just (F + c * (S.1.1 + 2) + 1) 79 [some (.ref 59), some (.int (nI k)), some (.int y2), some (.int y3), some (.int (nI q)), some (.int (nI c + (-1))), none, none] [] m = z_lp z_SH 0 (fun _ => 0) (z_go z_SH z_P (d + 2)) me_X10_just F 69 [some (.ref 59), some (.int (nI k)), some (.int y2), some (.int y3), some (.int (nI (q + 1))), none, none, none] [] m1 ∧ (∀ u, u ≤ 54 → m1 73 u = q_wy S k (n + 1) u) ∧ ∀ a, a ≠ 73 → m1 a = m a := by
  intro c
  induction c with
  | zero =>
    intro F m hc hM h1 h2
    refine ⟨m, ?_, fun u hu => h2 u (Nat.zero_le _) hu, fun _ _ => rfl⟩
    rw [e_X10_just_79, if_pos (by decide), nI_1, Nat.zero_mul]
    rfl
  | succ c ih =>
    intro F m hc hM h1 h2
    obtain ⟨m1, e1, g1, f1⟩ := ih F (z_up m 73 c (q_wy S k (n + 1) c)) (by omega) (hM.of (q_ua (by decide)) (q_ua (by decide)) (q_ua (by decide)) (q_ua (by decide)) (fun a h1 h2 => z_up_ne (by omega))) (fun u hu => by rw [q_uk (by omega)]; exact h1 u (by omega)) (fun u hu1 hu2 => by
      by_cases hq : u = c
      · subst hq
        rw [q_uq]
      · rw [q_uk hq]
        exact h2 u (by omega) hu2)
    refine ⟨m1, ?_, g1, fun a ha => (f1 a ha).trans (z_up_ne ha)⟩
    have hn0 : ¬ nI c < (0 : Int32) := fun q => by have := (nI_ltI (a := c) (b := 0) (by omega) (by decide)).mp q; omega
    have e0 := k_mways hok hk (v := c) (by omega) hM (fun u hu => h1 u (by omega)) d y2 y3 (nI q) S.1.1 (F + c * (S.1.1 + 2) + 1) 0 (Nat.zero_add _)
    rw [Nat.succ_mul, show F + (c * (S.1.1 + 2) + (S.1.1 + 2)) + 1 = (F + c * (S.1.1 + 2) + 1 + S.1.1 + 1) + 1 by omega, e_X10_just_79, q_m1, if_neg hn0]
    exact Eq.trans e0 e1
theorem k_mj2 {S : q_St} (hok : q_okS S) {k : Nat} (hk : k < S.1.2) (d : Nat) {n M : Nat} (hn : n ≤ 6) (hM54 : M ≤ 54) : ∀ (r F q : Nat) (m : z_M), q + r = n → q_MS m S → (∀ u, u ≤ 54 → m 73 u = q_wy S k q u) → ∃ m1, z_lp z_SH 0 (fun _ => 0) (z_go z_SH z_P (d + 2)) me_X10_just (F + r * (55 * (S.1.1 + 2) + 2) + 1) 69 [some (.ref 59), some (.int (nI k)), some (.int (nI n)), some (.int (nI M)), some (.int (nI q)), none, none, none] [] m = some (q_wy S k n M, 0, m1) ∧ ∀ a, a ≠ 73 → m1 a = m a := by
  intro r
  induction r with
  | zero =>
    intro F q m hq hM h1
    refine ⟨m, ?_, fun _ _ => rfl⟩
    rw [e_X10_just_69, q_nI_le (by omega) (by omega), if_pos (by omega), q_in (show M < 55 by omega) (by decide), z_g_t, q_cl (by omega), h1 M (by omega), show q = n by omega]
  | succ r ih =>
    intro F q m hq hM h1
    obtain ⟨m1, e1, g1, f1⟩ := k_mj1 hok hk d q q (nI n) (nI M) 55 (F + r * (55 * (S.1.1 + 2) + 2) + 1) m (Nat.le_refl _) hM (fun u hu => h1 u (by omega)) (fun u hu1 hu2 => by omega)
    obtain ⟨m2, e2, f2⟩ := ih F (q + 1) m1 (by omega) (hM.of (by rw [f1 59 (by decide)]) (by rw [f1 59 (by decide)]) (by rw [f1 59 (by decide)]) (by rw [f1 59 (by decide)]) (fun a h1 h2 => f1 a (by omega))) g1
    refine ⟨m2, ?_, fun a ha => (f2 a ha).trans (f1 a ha)⟩
    rw [show nI 55 + (-1 : Int32) = 54 from by decide] at e1
    rw [Nat.succ_mul, show F + (r * (55 * (S.1.1 + 2) + 2) + (55 * (S.1.1 + 2) + 2)) + 1 = (F + r * (55 * (S.1.1 + 2) + 2) + 1 + 55 * (S.1.1 + 2) + 1) + 1 by omega, e_X10_just_69, q_nI_le (by omega) (by omega), if_neg (by omega), e1]
    exact e2
theorem p_just (x y z : Int32) : q_pr 74 149 [.int x, .int y, .int z] := by
  intro T hok
  have h6 := hok.1.2.1
  have h5 := hok.1.1
  by_cases hv : q_v T.2.1.1.2 x = true
  case neg =>
    refine ⟨-1, 0, T, q_cop_same (fun d m hC => ?_), q_mop_same (fun d m hM => ?_), hok⟩
    · rw [c_X9_just, k_isGuest _ _ hC.ng h6]
      simp only [Option.bind_some, q_if]
      rw [if_neg hv]
    · rw [c_X10_just, k_misGuest _ _ hM.ng h6]
      simp only [Option.bind_some, q_if]
      rw [if_neg hv]
  by_cases hw : q_w 0 6 y = true
  case neg =>
    refine ⟨-2, 0, T, q_cop_same (fun d m hC => ?_), q_mop_same (fun d m hM => ?_), hok⟩
    · rw [c_X9_just, k_isGuest _ _ hC.ng h6]
      simp only [Option.bind_some, q_if]
      rw [if_pos hv, k_within]
      simp only [Option.bind_some, q_if]
      rw [if_neg hw]
    · rw [c_X10_just, k_misGuest _ _ hM.ng h6]
      simp only [Option.bind_some, q_if]
      rw [if_pos hv, k_mwithin]
      simp only [Option.bind_some, q_if]
      rw [if_neg hw]
  by_cases hz : q_w 0 54 z = true
  case neg =>
    refine ⟨-2, 0, T, q_cop_same (fun d m hC => ?_), q_mop_same (fun d m hM => ?_), hok⟩
    · rw [c_X9_just, k_isGuest _ _ hC.ng h6]
      simp only [Option.bind_some, q_if]
      rw [if_pos hv, k_within]
      simp only [Option.bind_some, q_if]
      rw [if_pos hw, k_within]
      simp only [Option.bind_some, q_if]
      rw [if_neg hz]
    · rw [c_X10_just, k_misGuest _ _ hM.ng h6]
      simp only [Option.bind_some, q_if]
      rw [if_pos hv, k_mwithin]
      simp only [Option.bind_some, q_if]
      rw [if_pos hw, k_mwithin]
      simp only [Option.bind_some, q_if]
      rw [if_neg hz]
  obtain ⟨k, hk, rfl⟩ := q_v_t hv (by omega)
  obtain ⟨n, -, hn, rfl⟩ := q_w_lit (a := 0) (b := 6) rfl rfl hw (by decide) (by decide)
  obtain ⟨M, -, hM54, rfl⟩ := q_w_lit (a := 0) (b := 54) rfl rfl hz (by decide) (by decide)
  refine ⟨q_wy T.2.1 k n M, 0, T, fun d m hC => ?_, fun d m hM => ?_, hok⟩
  · obtain ⟨m1, e1, f1⟩ := k_just0 hok.1 hk hn hM54 (d + 14) hC.2.1
    refine ⟨m1, ?_, hC.of h6 (fun a ha => f1 a (by omega)) (fun a h1 h2 => f1 a (by omega)) (fun a h1 h2 => f1 a (by omega)), fun a ha => f1 a (by omega)⟩
    rw [c_X9_just, k_isGuest _ _ hC.ng h6]
    simp only [Option.bind_some, q_if]
    rw [if_pos hv, k_within]
    simp only [Option.bind_some, q_if]
    rw [if_pos hw, k_within]
    simp only [Option.bind_some, q_if]
    rw [if_pos hz, e1]
    rfl
  · have hb : n * (55 * (T.2.1.1.1 + 2) + 2) ≤ 6 * 400 := Nat.mul_le_mul hn (by omega)
    obtain ⟨m1, e1, g1, g2, f1⟩ := k_mj0 (z_go z_SH z_P (d + 19)) T.2.1 k (nI k) (nI n) (nI M) 55 (199999 - 56) 0 m (by decide)
    obtain ⟨m2, e2, f2⟩ := k_mj2 hok.1 hk (d + 17) hn hM54 n (199999 - 56 - n * (55 * (T.2.1.1.1 + 2) + 2) - 1) 0 m1 (Nat.zero_add _) (hM.2.1.of (by rw [f1 59 (by decide)]) (by rw [f1 59 (by decide)]) (by rw [f1 59 (by decide)]) (by rw [f1 59 (by decide)]) (fun a h1 h2 => f1 a (by omega))) (fun u hu => g1 u (Nat.zero_le _) hu)
    rw [show 199999 - 56 - n * (55 * (T.2.1.1.1 + 2) + 2) - 1 + n * (55 * (T.2.1.1.1 + 2) + 2) + 1 = 199999 - 56 by omega, show d + 17 + 2 = d + 19 from rfl] at e2
    rw [show 199999 - 56 + 55 + 1 = 199999 by omega] at e1
    have ff : ∀ a, a ≠ 73 → m2 a = m a := fun a ha => (f2 a ha).trans (f1 a ha)
    refine ⟨m2, ?_, hM.of (fun k hk => by rw [ff 59 (by decide)]) (fun a h1 h2 => ff a (by omega)) (fun a h1 h2 => ff a (by omega)), fun a ha => ff a (by omega)⟩
    rw [c_X10_just, k_misGuest _ _ hM.ng h6]
    simp only [Option.bind_some, q_if]
    rw [if_pos hv, k_mwithin]
    simp only [Option.bind_some, q_if]
    rw [if_pos hw, k_mwithin]
    simp only [Option.bind_some, q_if]
    rw [if_pos hz]
    exact e1.trans e2
