/-! the reference's reading -/
def q_fh (m m1 : z_M) : Prop := (∀ a, a ≠ 59 → a ≠ 69 → a ≠ 70 → m1 a = m a) ∧ ∀ j, j ≠ 16 → j ≠ 17 → j ≠ 18 → m1 59 j = m 59 j
theorem q_fh.rf (m : z_M) : q_fh m m := ⟨fun _ _ _ _ => rfl, fun _ _ _ _ => rfl⟩
theorem q_fh.tr {m m1 m2 : z_M} (h : q_fh m m1) (g : q_fh m1 m2) : q_fh m m2 := ⟨fun a h1 h2 h3 => (g.1 a h1 h2 h3).trans (h.1 a h1 h2 h3), fun j h1 h2 h3 => (g.2 j h1 h2 h3).trans (h.2 j h1 h2 h3)⟩
theorem q_fh.u59 (m : z_M) {j : Nat} (h : j = 16 ∨ j = 17 ∨ j = 18) (v : Int32) : q_fh m (z_up m 59 j v) := ⟨fun a h1 h2 h3 => z_up_ne h1, fun i h1 h2 h3 => q_uk (by omega)⟩
theorem q_fh.ua (m : z_M) {a k : Nat} (h : a = 69 ∨ a = 70) (v : Int32) : q_fh m (z_up m a k v) := ⟨fun a' h1 h2 h3 => z_up_ne (by omega), fun i h1 h2 h3 => q_ua (by omega)⟩
/-- what of the hotel is read -/
def q_MT (m : z_M) (ns : Nat) (H : Nat → Nat) (ng : Nat) (G : Nat → Nat → Nat) : Prop := m 59 17 = nI ns ∧ m 59 18 = nI ng ∧ (∀ s, s < ns → m 69 s = nI (H s)) ∧ ∀ k, k < ng → ∀ f, f < 4 → m 70 (4 * k + f) = nI (G f k)
def q_cel (b n : Nat) (c : Nat → Int32) (m : z_M) : Prop := ∀ j, j < n → m 62 (b + j) = c j
theorem q_cel.of {b n : Nat} {c : Nat → Int32} {m m1 : z_M} (h : q_cel b n c m) (f : q_fh m m1) : q_cel b n c m1 := fun j hj => by rw [f.1 62 (by decide) (by decide) (by decide)]; exact h j hj
theorem k_misg {b n i : Nat} (hb : b + n ≤ 240) (hi : i ≤ n) {c : Nat → Int32} {m : z_M} (hc : q_cel b n c m) (h16 : m 59 16 = nI (b + i)) (x : Int32) (d : Nat) : z_go z_SH z_P (d + 1) 118 [.ref 59, .int (nI (b + n)), .int x] m = if i < n ∧ c i = x then some (1, 0, z_up m 59 16 (nI (b + (i + 1)))) else some (0, 0, m) := by
  rw [c_X10_isSign, h16, q_nI_le (by omega) (by omega)]
  by_cases h : i < n
  · rw [if_neg (by omega), q_in (show b + i < 240 by omega) (by decide), z_g_t, q_cl (by omega), hc i h, nI_1]
    by_cases hx : c i = x
    · rw [if_pos hx, if_pos ⟨h, hx⟩]
      rfl
    · rw [if_neg hx, if_neg (fun q => hx q.2)]
  · rw [if_pos (by omega), if_neg (fun q => h q.1)]
theorem k_mdg {b n i : Nat} (hb : b + n ≤ 240) (hi : i ≤ n) {c : Nat → Int32} {m : z_M} (hc : q_cel b n c m) (h16 : m 59 16 = nI (b + i)) (x y : Int32) (d : Nat) : z_go z_SH z_P (d + 2) 117 [.ref 59, .int (nI (b + n)), .int x, .int y] m = if i < n ∧ q_w (48 + x) (48 + y) (c i) = true then some (c i - 48, 0, z_up m 59 16 (nI (b + (i + 1)))) else some (-9, 0, m) := by
  rw [c_X10_digit, h16, q_nI_le (by omega) (by omega)]
  by_cases h : i < n
  · have e1 : nI (b + i + 1) - 1 = nI (b + i) := nI_pred _
    rw [if_neg (by omega), q_in (show b + i < 240 by omega) (by decide), z_g_t, q_cl (by omega), hc i h, k_mwithin]
    simp only [Option.bind_some]
    rw [h16, nI_1, q_uq, e1, q_in (show b + i < 240 by omega) (by decide), z_g_t, q_cl (by omega), q_ua (by decide), hc i h, q_if]
    by_cases hx : q_w (48 + x) (48 + y) (c i) = true
    · rw [if_pos hx, if_pos ⟨h, hx⟩]
      rfl
    · rw [if_neg hx, if_neg (fun q => hx q.2)]
  · rw [if_pos (by omega), if_neg (fun q => h q.1)]
theorem q_n9d : ∀ v, v ≤ 9 → ¬ nI v = (-9 : Int32) := by decide +kernel
theorem k_mrs {b n : Nat} (hb : b + n ≤ 240) {c : Nat → Int32} (G : Nat → Nat → Nat) (d : Nat) : ∀ (j F ns : Nat) (H : Nat → Nat) (i r : Nat) (m : z_M), ns + j = 5 → i + r = n → q_okT (1, ns, H, 0, G) → q_cel b n c m → m 59 16 = nI (b + i) → q_MT m ns H 0 G → ∃ ns' H' i' r' m1, i' + r' = n ∧ q_tr c r i (1, ns, H, 0, G) = q_tr c r' i' (1, ns', H', 0, G) ∧ q_okT (1, ns', H', 0, G) ∧ m1 59 16 = nI (b + i') ∧ q_MT m1 ns' H' 0 G ∧ z_lp z_SH 0 (fun _ => 0) (z_go z_SH z_P (d + 2)) me_X10_readTheSigns (F + j + 1) 5 [some (.ref 59), some (.int (nI (b + n))), none] [] m = some (q_b (decide (0 < ns')), 0, m1) ∧ (r' = 0 ∨ ¬ (ns' < 5 ∧ q_w 49 57 (c i') = true)) ∧ q_fh m m1 := by
  intro j
  induction j with
  | zero =>
    intro F ns H i r m hj hi ho hc h16 hM
    obtain rfl : ns = 5 := by omega
    refine ⟨5, H, i, r, m, hi, rfl, ho, h16, hM, ?_, Or.inr (fun q => by omega), q_fh.rf m⟩
    rw [e_X10_readTheSigns_5, hM.1, if_pos (by decide)]
    rfl
  | succ j ih =>
    intro F ns H i r m hj hi ho hc h16 hM
    obtain ⟨hp, h1, h2, h3, h4, h5, h6, h7, h8, h9⟩ := ho
    rw [show F + (j + 1) + 1 = (F + j + 1) + 1 by omega, e_X10_readTheSigns_5, hM.1, show (5 : Int32) = nI 5 from rfl, q_nI_le (by decide) (by omega), if_neg (by omega), k_mdg hb (by omega) hc h16, show (48 + 1 : Int32) = 49 by decide, show (48 + 9 : Int32) = 57 by decide]
    by_cases hd : i < n ∧ q_w 49 57 (c i) = true
    · obtain ⟨r, rfl⟩ : ∃ r', r = r' + 1 := ⟨r - 1, by omega⟩
      obtain ⟨d0, d1, d2, d3⟩ := q_d19 hd.2
      have hs : q_ts (1, ns, H, 0, G) (c i) = some (1, ns + 1, q_set H ns (q_cd (c i)), 0, G) := by
        simp only [q_ts]
        rw [if_neg d3, if_pos ⟨by omega, hd.2⟩]
      have f0 : q_fh m (z_up (z_up (z_up m 59 16 (nI (b + (i + 1)))) 69 ns (nI (q_cd (c i)))) 59 17 (nI (ns + 1))) := ((q_fh.u59 m (Or.inl rfl) _).tr (q_fh.ua _ (Or.inl rfl) _)).tr (q_fh.u59 _ (Or.inr (Or.inl rfl)) _)
      obtain ⟨ns', H', i', r', m1, g1, g2, g3, g4, g5, g6, g7, g8⟩ := ih F (ns + 1) (q_set H ns (q_cd (c i))) (i + 1) r (z_up (z_up (z_up m 59 16 (nI (b + (i + 1)))) 69 ns (nI (q_cd (c i)))) 59 17 (nI (ns + 1))) (by omega) (by omega) (q_ts_ok ⟨hp, h1, h2, h3, h4, h5, h6, h7, h8, h9⟩ hs) (hc.of f0) (by rw [q_uk (by decide), q_ua (by decide), q_uq]) ⟨by rw [q_uq], by rw [q_uk (by decide), q_ua (by decide), q_uk (by decide)]; exact hM.2.1, fun s hs => by
        rw [q_ua (by decide)]
        by_cases hq : s = ns
        · subst hq
          rw [q_uq, q_set_e]
        · rw [q_uk hq, q_ua (by decide), q_set_n H _ hq]
          exact hM.2.2.1 s (by omega), fun k hk => absurd hk (Nat.not_lt_zero k)⟩
      refine ⟨ns', H', i', r', m1, g1, by rw [q_tr_s hs]; exact g2, g3, g4, g5, ?_, g7, f0.tr g8⟩
      rw [if_pos hd]
      simp only [Option.bind_some]
      rw [d0, if_neg (q_n9d _ d2), q_uk (by decide), hM.1, q_in (show ns < 5 by omega) (by decide), z_g_t, q_cl (by omega), q_ua (by decide), q_uk (by decide), hM.1, nI_1]
      exact g6
    · refine ⟨ns, H, i, r, m, hi, rfl, ⟨hp, h1, h2, h3, h4, h5, h6, h7, h8, h9⟩, h16, hM, ?_, ?_, q_fh.rf m⟩
      · rw [if_neg hd]
        simp only [Option.bind_some]
        rw [if_pos trivial, hM.1, show (0 : Int32) = nI 0 from rfl, q_nI_le (by omega) (by decide)]
        by_cases hz : 0 < ns
        · rw [if_neg (by omega), decide_eq_true hz]
          rfl
        · rw [if_pos (by omega), decide_eq_false hz]
          rfl
      · by_cases hr : r = 0
        · exact Or.inl hr
        · exact Or.inr (fun q => hd ⟨by omega, q.2⟩)
theorem k_mg93 {b n ng q : Nat} (hb : b + n ≤ 240) (hng : ng < 6) (h1 : 1 ≤ q) (h3 : q ≤ 3) {i : Nat} (hi : i ≤ n) {c : Nat → Int32} {m : z_M} (hc : q_cel b n c m) (h16 : m 59 16 = nI (b + i)) (d F : Nat) : z_lp z_SH 0 (fun _ => 0) (z_go z_SH z_P (d + 2)) me_X10_readGuest (F + 1) 93 [some (.ref 59), some (.int (nI (b + n))), none, some (.int (nI (4 * ng))), some (.int (nI q))] [] m = if i < n ∧ q_w (if q = 3 then 48 else 49) (if q = 3 then 53 else 57) (c i) = true then z_lp z_SH 0 (fun _ => 0) (z_go z_SH z_P (d + 2)) me_X10_readGuest F 93 [some (.ref 59), some (.int (nI (b + n))), none, some (.int (nI (4 * ng))), some (.int (nI (q + 1)))] [] (z_up (z_up m 59 16 (nI (b + (i + 1)))) 70 (4 * ng + q) (nI (q_cd (c i)))) else some (0, 0, z_up m 70 (4 * ng + q) (-9)) := by
  rw [e_X10_readGuest_93, show (4 : Int32) = nI 4 from rfl, q_nI_le (by decide) (by omega), if_neg (by omega), show (3 : Int32) = nI 3 from rfl, nI_add, nI_1, q_in (show 4 * ng + q < 24 by omega) (by decide), q_cl (by omega)]
  simp only [z_g_t]
  have hq3 : nI q = nI 3 ↔ q = 3 := nI_eq (by omega) (by decide)
  by_cases hq : q = 3
  · rw [if_pos (hq3.mpr hq), if_pos (hq3.mpr hq), if_pos hq, if_pos hq, k_mdg hb hi hc h16, show (48 + 0 : Int32) = 48 by decide, show (48 + 5 : Int32) = 53 by decide]
    by_cases hd : i < n ∧ q_w 48 53 (c i) = true
    · obtain ⟨d0, d1⟩ := q_d05 hd.2
      rw [if_pos hd, if_pos hd, d0]
      simp only [Option.bind_some]
      rw [q_uq, if_neg (q_n9d _ (by omega))]
    · rw [if_neg hd, if_neg hd]
      simp only [Option.bind_some]
      rw [q_uq, if_pos rfl]
  · rw [if_neg (fun w => hq (hq3.mp w)), if_neg (fun w => hq (hq3.mp w)), if_neg hq, if_neg hq, k_mdg hb hi hc h16, show (48 + 1 : Int32) = 49 by decide, show (48 + 9 : Int32) = 57 by decide]
    by_cases hd : i < n ∧ q_w 49 57 (c i) = true
    · obtain ⟨d0, d1, d2, d3⟩ := q_d19 hd.2
      rw [if_pos hd, if_pos hd, d0]
      simp only [Option.bind_some]
      rw [q_uq, if_neg (q_n9d _ (by omega))]
    · rw [if_neg hd, if_neg hd]
      simp only [Option.bind_some]
      rw [q_uq, if_pos rfl]
