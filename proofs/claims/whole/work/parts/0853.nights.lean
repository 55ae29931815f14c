/-! 9 nights -/
def q_slp (S : q_St) (n i : Nat) : q_St := (S.1, S.2.1, (fun f k => if f = 4 ∧ k < i ∧ S.2.2.2 0 k = false then S.2.2.1 4 k - n else S.2.2.1 f k), S.2.2.2)
theorem q_slp_0 (S : q_St) (n : Nat) : q_slp S n 0 = S := by
  unfold q_slp
  simp
theorem q_slp_z (S : q_St) (i : Nat) : q_slp S 0 i = S := by
  unfold q_slp
  refine Prod.ext rfl (Prod.ext rfl (Prod.ext ?_ rfl))
  funext f k
  by_cases h : f = 4
  · subst h
    simp
  · simp [h]
theorem q_slp_4 (S : q_St) (n i : Nat) : (q_slp S n i).2.2.1 4 i = S.2.2.1 4 i := by simp [q_slp]
theorem q_slp_y {S : q_St} {n i : Nat} (h1 : S.2.2.2 0 i = false) : q_slp S n (i + 1) = q_sG (q_slp S n i) 4 i (S.2.2.1 4 i - n) := by
  unfold q_slp q_sG
  refine Prod.ext rfl (Prod.ext rfl (Prod.ext ?_ rfl))
  funext f k
  by_cases hf : f = 4
  · subst hf
    by_cases hk : k = i
    · subst hk
      simp [h1]
    · simp [hk, show (k < i + 1) = (k < i) from propext (by omega)]
  · simp [hf]
theorem q_slp_x {S : q_St} {n i : Nat} (h : ¬ S.2.2.2 0 i = false) : q_slp S n (i + 1) = q_slp S n i := by
  unfold q_slp
  refine Prod.ext rfl (Prod.ext rfl (Prod.ext ?_ rfl))
  funext f k
  by_cases hf : f = 4
  · subst hf
    by_cases hk : k = i
    · subst hk
      simp [h]
    · simp [show (k < i + 1) = (k < i) from propext (by omega)]
  · simp [hf]
theorem q_slp_s (S : q_St) (n i : Nat) : q_slp (q_slp S n i) 1 i = q_slp S (n + 1) i := by
  unfold q_slp
  refine Prod.ext rfl (Prod.ext rfl (Prod.ext ?_ rfl))
  funext f k
  by_cases hf : f = 4
  · subst hf
    by_cases hk : k < i ∧ S.2.2.2 0 k = false
    · simp [hk]
      omega
    · simp [hk]
  · simp [hf]
theorem q_slp_ok {S : q_St} (h : q_okS S) (n i : Nat) : q_okS (q_slp S n i) := by
  obtain ⟨a, b, c, d, e⟩ := h
  refine ⟨a, b, c, d, fun j hj => ?_⟩
  obtain ⟨e0, e1, e2, e3, e4, e5⟩ := e j hj
  have hle : (q_slp S n i).2.2.1 4 j ≤ S.2.2.1 4 j := by
    unfold q_slp
    by_cases hq : 4 = 4 ∧ j < i ∧ S.2.2.2 0 j = false
    · exact Nat.le_trans (Nat.le_of_eq (if_pos hq)) (by omega)
    · exact Nat.le_of_eq (if_neg hq)
  refine ⟨by simpa [q_slp] using e0, by simpa [q_slp] using e1, by simpa [q_slp] using e2, by simpa [q_slp] using e3, by omega, fun hn => ?_⟩
  have h5 := e5 hn
  have h2 : (q_slp S n i).2.2.1 2 j = S.2.2.1 2 j := by simp [q_slp]
  omega
theorem q_mx {a b : Nat} (ha : a < 1073741824) (hb : b < 1073741824) : (if (0 : Int32) < nI a - nI b then nI a - nI b else (0 : Int32)) = nI (a - b) := by
  rw [q_sub_pos ha hb]
  by_cases h : b < a
  · rw [if_pos h, pk_sub (by omega)]
  · rw [if_neg h, show a - b = 0 by omega]
    rfl
theorem k_sleep {h : Nat} (hh : z_isH h) {S : q_St} (h6 : S.1.2 ≤ 6) (h4 : ∀ k, k < S.1.2 → S.2.2.1 4 k ≤ 40) {n : Nat} (hn : n ≤ 30) (C : Nat → List Value → z_M → Option z_R) : ∀ (j F i : Nat) (m : z_M), i + j = S.1.2 → q_CS m h (q_slp S n i) → ∃ m1, z_lp z_SH 0 (fun _ => 0) C me_X2_sleep (F + j + 1) 12 [some (.ref h), some (.int (nI n)), some (.int (nI i))] [] m = some (0, 0, m1) ∧ q_CS m1 h (q_slp S n S.1.2) ∧ ∀ a, (a < h + 3 ∨ h + 9 ≤ a) → m1 a = m a := by
  intro j
  induction j with
  | zero =>
    intro F i m hi hC
    refine ⟨m, ?_, ?_, fun _ _ => rfl⟩
    · rw [e_X2_sleep_12 _ _ _ _ hh, hC.2.1, show (q_slp S n i).1.2 = S.1.2 from rfl, q_nI_le (by omega) (by omega), if_pos (by omega)]
    · rw [show S.1.2 = i by omega]
      exact hC
  | succ j ih =>
    intro F i m hi hC
    have hk : i < S.1.2 := by omega
    have hk' : i < (q_slp S n i).1.2 := hk
    have hk6 : i < 6 := by omega
    have h4i := h4 i hk
    have e5 : z_b (m (h + 3 + i) 5) = q_b (S.2.2.2 0 i) := hC.kn hk'
    have e4 : m (h + 3 + i) 4 = nI (S.2.2.1 4 i) := by rw [hC.gd hk' (by decide), q_slp_4]
    by_cases hc : S.2.2.2 0 i = false
    · obtain ⟨m1, e1, c1, f1⟩ := ih F (i + 1) (z_up m (h + 3 + i) 4 (nI (S.2.2.1 4 i - n))) (by omega) (by rw [q_slp_y hc]; exact q_sG_C hC _ (by decide))
      refine ⟨m1, ?_, c1, fun a ha => (f1 a ha).trans (z_up_ne (by omega))⟩
      rw [show F + (j + 1) + 1 = (F + j + 1) + 1 by omega, e_X2_sleep_12 _ _ _ _ hh, hC.2.1, show (q_slp S n i).1.2 = S.1.2 from rfl, q_nI_le (by omega) (by omega), if_neg (by omega), q_in hk6 (by decide), z_g_t, q_cl (by omega), q_gb hh hk6 (by decide) (by decide), z_g_t, e5, q_if, hc, if_neg (by decide), z_g_t, z_g_t, q_g hh hk6 (by decide), z_g_t, z_g_t, e4, q_mx (by omega) (by omega), nI_1]
      exact e1
    · obtain ⟨m1, e1, c1, f1⟩ := ih F (i + 1) m (by omega) (by rw [q_slp_x hc]; exact hC)
      refine ⟨m1, ?_, c1, f1⟩
      rw [show F + (j + 1) + 1 = (F + j + 1) + 1 by omega, e_X2_sleep_12 _ _ _ _ hh, hC.2.1, show (q_slp S n i).1.2 = S.1.2 from rfl, q_nI_le (by omega) (by omega), if_neg (by omega), q_in hk6 (by decide), z_g_t, q_cl (by omega), q_gb hh hk6 (by decide) (by decide), z_g_t, e5, q_if, if_pos (by simpa using hc), nI_1]
      exact e1
theorem k_sleep0 {h : Nat} (hh : z_isH h) {S : q_St} (hok : q_okS S) {n : Nat} (hn : n ≤ 30) (d : Nat) {m : z_M} (hC : q_CS m h S) : ∃ m1, z_go z_SH z_P (d + 1) 23 [.ref h, .int (nI n)] m = some (0, 0, m1) ∧ q_CS m1 h (q_slp S n S.1.2) ∧ (∀ a, (a < h ∨ (h < a ∧ a < h + 3) ∨ h + 9 ≤ a) → m1 a = m a) ∧ m1 h 4 = m h 4 + nI n := by
  have h6 := hok.2.1
  have hC' : q_CS (z_up m h 4 (m h 4 + nI n)) h (q_slp S n 0) := by
    rw [q_slp_0]
    refine ⟨by rw [q_uk (by decide)]; exact hC.1, by rw [q_uk (by decide)]; exact hC.2.1, fun s hs => by rw [q_ua (by omega)]; exact hC.2.2.1 s hs, fun k hk => ?_⟩
    rw [z_up_ne (by omega)]
    exact hC.2.2.2 k hk
  obtain ⟨m1, e1, c1, f1⟩ := k_sleep hh h6 (fun k hk => hok.k4 hk) hn (z_go z_SH z_P d) S.1.2 (199999 - S.1.2 - 1) 0 _ (Nat.zero_add _) hC'
  rw [show 199999 - S.1.2 - 1 + S.1.2 + 1 = 199999 by omega] at e1
  refine ⟨m1, ?_, c1, fun a ha => (f1 a (by omega)).trans (z_up_ne (by omega)), by rw [f1 h (by omega), q_uq]⟩
  rw [c_X2_sleep d hh]
  exact e1
def q_gu (S : q_St) : Nat → Nat
  | 0 => 0
  | n + 1 => q_gu S n + (if S.2.2.2 0 n = true then 0 else S.2.2.1 4 n)
theorem k_gbu {h : Nat} (hh : z_isH h) {S : q_St} (h6 : S.1.2 ≤ 6) (C : Nat → List Value → z_M → Option z_R) {m : z_M} (hC : q_CS m h S) : ∀ (j F i : Nat), i + j = S.1.2 → z_lp z_SH 0 (fun _ => 0) C me_X2_gatheredByUnknowing (F + j + 1) 4 [some (.ref h), some (.int (nI (q_gu S i))), some (.int (nI i))] [] m = some (nI (q_gu S S.1.2), 0, m) := by
  intro j
  induction j with
  | zero =>
    intro F i hi
    rw [e_X2_gatheredByUnknowing_4 _ _ _ _ hh, hC.2.1, q_nI_le (by omega) (by omega), if_pos (by omega), show i = S.1.2 by omega]
  | succ j ih =>
    intro F i hi
    have hk : i < S.1.2 := by omega
    have hk6 : i < 6 := by omega
    have e1 := ih F (i + 1) (by omega)
    rw [show F + (j + 1) + 1 = (F + j + 1) + 1 by omega, e_X2_gatheredByUnknowing_4 _ _ _ _ hh, hC.2.1, q_nI_le (by omega) (by omega), if_neg (by omega), q_in hk6 (by decide), z_g_t, q_cl (by omega), q_gb hh hk6 (by decide) (by decide), z_g_t, hC.kn hk, q_if, z_g_t, q_g hh hk6 (by decide), z_g_t, hC.gd hk (by decide), nI_1, nI_add, Int32.add_zero]
    by_cases hn : S.2.2.2 0 i = true
    · rw [if_pos hn]
      simp only [q_gu, hn, if_true, Nat.add_zero] at e1
      exact e1
    · rw [if_neg hn]
      simp only [q_gu, hn, if_false] at e1
      exact e1
theorem k_mnight {S : q_St} (h6 : S.1.2 ≤ 6) (h4 : ∀ k, k < S.1.2 → S.2.2.1 4 k ≤ 40) (d : Nat) : ∀ (j F i : Nat) (m : z_M), i + j = S.1.2 → q_MS m (q_slp S 1 i) → ∃ m1, z_lp z_SH 0 (fun _ => 0) (z_go z_SH z_P (d + 1)) me_X10_oneNight (F + j + 1) 2 [some (.ref 59), some (.int (nI i))] [] m = some (0, 0, m1) ∧ q_MS m1 (q_slp S 1 S.1.2) ∧ ∀ a, a ≠ 68 → m1 a = m a := by
  intro j
  induction j with
  | zero =>
    intro F i m hi hM
    refine ⟨m, ?_, ?_, fun _ _ => rfl⟩
    · rw [e_X10_oneNight_2, hM.2.1, show (q_slp S 1 i).1.2 = S.1.2 from rfl, q_nI_le (by omega) (by omega), if_pos (by omega)]
    · rw [show S.1.2 = i by omega]
      exact hM
  | succ j ih =>
    intro F i m hi hM
    have hk : i < S.1.2 := by omega
    have hk' : i < (q_slp S 1 i).1.2 := hk
    have hk6 : i < 6 := by omega
    have h4i := h4 i hk
    have e8 : m 59 8 = nI (q_bits S.1.2 (S.2.2.2 0)) := hM.2.2.2.2.1
    have e4 : m 68 i = nI (S.2.2.1 4 i) := by rw [hM.g4 hk', q_slp_4]
    rw [show F + (j + 1) + 1 = (F + j + 1) + 1 by omega, e_X10_oneNight_2, hM.2.1, show (q_slp S 1 i).1.2 = S.1.2 from rfl, q_nI_le (by omega) (by omega), if_neg (by omega), q_in hk6 (by decide), z_g_t, e8, k_misOf _ h6 hk]
    simp only [Option.bind_some]
    rw [q_if, z_g_t, q_cl (by omega), z_g_t, z_g_t, Int32.sub_zero, q_up_same, nI_1, e4]
    by_cases hc : S.2.2.2 0 i = false
    · rw [if_neg (by simp [hc]), show (0 : Int32) = nI 0 from rfl, q_nI_le (by omega) (by decide)]
      by_cases hg : S.2.2.1 4 i ≤ 0
      · rw [if_pos hg]
        have hM' : q_MS m (q_slp S 1 (i + 1)) := by
          have := q_sG_M hM (S.2.2.1 4 i - 1) (f := 4) (k := i) (by decide)
          rw [q_slp_y hc]
          rw [show nI (S.2.2.1 4 i - 1) = m 68 i by rw [e4, show S.2.2.1 4 i - 1 = S.2.2.1 4 i by omega]] at this
          have e : z_up m 68 i (m 68 i) = m := q_up_same m 68 i
          rw [show z_up m (64 + 4) i (m 68 i) = m from e] at this
          exact this
        obtain ⟨m1, e1, c1, f1⟩ := ih F (i + 1) m (by omega) hM'
        exact ⟨m1, e1, c1, f1⟩
      · rw [if_neg hg, q_pred (by omega)]
        obtain ⟨m1, e1, c1, f1⟩ := ih F (i + 1) (z_up m 68 i (nI (S.2.2.1 4 i - 1))) (by omega) (by rw [q_slp_y hc]; exact q_sG_M hM _ (f := 4) (by decide))
        exact ⟨m1, e1, c1, fun a ha => (f1 a ha).trans (z_up_ne ha)⟩
    · rw [if_pos (by simpa using hc)]
      obtain ⟨m1, e1, c1, f1⟩ := ih F (i + 1) m (by omega) (by rw [q_slp_x hc]; exact hM)
      exact ⟨m1, e1, c1, f1⟩
theorem k_mnight0 {S : q_St} (hok : q_okS S) (d : Nat) {m : z_M} (hM : q_MS m S) : ∃ m1, z_go z_SH z_P (d + 2) 134 [.ref 59] m = some (0, 0, m1) ∧ q_MS m1 (q_slp S 1 S.1.2) ∧ ∀ a, a ≠ 68 → m1 a = m a := by
  have h6 := hok.2.1
  obtain ⟨m1, e1, c1, f1⟩ := k_mnight h6 (fun k hk => hok.k4 hk) d S.1.2 (199999 - S.1.2 - 1) 0 m (Nat.zero_add _) (by rw [q_slp_0]; exact hM)
  rw [show 199999 - S.1.2 - 1 + S.1.2 + 1 = 199999 by omega] at e1
  refine ⟨m1, ?_, c1, f1⟩
  rw [c_X10_oneNight]
  exact e1
theorem k_mnights {S : q_St} (hok : q_okS S) {n : Nat} (hn : n ≤ 30) (d : Nat) : ∀ (j F t : Nat) (m : z_M), t + j = n → q_MS m (q_slp S t S.1.2) → ∃ m1, z_lp z_SH 0 (fun _ => 0) (z_go z_SH z_P (d + 2)) me_X10_nights (F + j + 1) 25 [some (.ref 59), some (.int (nI n)), some (.int (nI t)), none] [] m = z_lp z_SH 0 (fun _ => 0) (z_go z_SH z_P (d + 2)) me_X10_nights F 54 [some (.ref 59), none, some (.int 0), some (.int 0)] [] (z_up m1 59 7 ((m1 59 7) + nI n)) ∧ q_MS m1 (q_slp S n S.1.2) ∧ ∀ a, a ≠ 68 → m1 a = m a := by
  intro j
  induction j with
  | zero =>
    intro F t m ht hM
    refine ⟨m, ?_, ?_, fun _ _ => rfl⟩
    · rw [e_X10_nights_25, q_nI_le (by omega) (by omega), if_pos (by omega)]
    · rw [show n = t by omega]
      exact hM
  | succ j ih =>
    intro F t m ht hM
    obtain ⟨m1, e1, c1, f1⟩ := k_mnight0 (q_slp_ok hok t S.1.2) d hM
    have c1 : q_MS m1 (q_slp S (t + 1) S.1.2) := by
      rw [← q_slp_s]
      exact c1
    obtain ⟨m2, e2, c2, f2⟩ := ih F (t + 1) m1 (by omega) c1
    refine ⟨m2, ?_, c2, fun a ha => (f2 a ha).trans (f1 a ha)⟩
    rw [show F + (j + 1) + 1 = (F + j + 1) + 1 by omega, e_X10_nights_25, q_nI_le (by omega) (by omega), if_neg (by omega), e1]
    simp only [Option.bind_some]
    rw [nI_1]
    exact e2
theorem k_mgu {S : q_St} (h6 : S.1.2 ≤ 6) (d : Nat) {m : z_M} (hM : q_MS m S) : ∀ (j F i : Nat), i + j = S.1.2 → z_lp z_SH 0 (fun _ => 0) (z_go z_SH z_P (d + 1)) me_X10_nights (F + j + 1) 54 [some (.ref 59), none, some (.int (nI (q_gu S i))), some (.int (nI i))] [] m = some (nI (q_gu S S.1.2), 0, m) := by
  intro j
  induction j with
  | zero =>
    intro F i hi
    rw [e_X10_nights_54, hM.2.1, q_nI_le (by omega) (by omega), if_pos (by omega), show i = S.1.2 by omega]
  | succ j ih =>
    intro F i hi
    have hk : i < S.1.2 := by omega
    have hk6 : i < 6 := by omega
    have e1 := ih F (i + 1) (by omega)
    rw [show F + (j + 1) + 1 = (F + j + 1) + 1 by omega, e_X10_nights_54, hM.2.1, q_nI_le (by omega) (by omega), if_neg (by omega), hM.2.2.2.2.1, k_misOf _ h6 hk]
    simp only [Option.bind_some]
    rw [q_if, q_in hk6 (by decide), z_g_t, q_cl (by omega), hM.g4 hk, nI_1, nI_add, Int32.add_zero]
    by_cases hn : S.2.2.2 0 i = true
    · rw [if_pos hn]
      simp only [q_gu, hn, if_true, Nat.add_zero] at e1
      exact e1
    · rw [if_neg hn]
      simp only [q_gu, hn, if_false] at e1
      exact e1
theorem k_stands {h : Nat} (hh : z_isH h) {m : z_M} {n : Nat} (hC : m h 3 = nI n) (h6 : n ≤ 6) (d : Nat) : z_go z_SH z_P (d + 1) 12 [.ref h] m = some (q_b (decide (0 < n)), 0, m) := by
  rw [c_X2_stands d hh, hC, show (0 : Int32) = nI 0 from rfl, q_nI_le (by omega) (by decide)]
  unfold q_b
  by_cases h : n ≤ 0
  · rw [if_pos h, if_neg (by simp; omega)]
    rfl
  · rw [if_neg h, if_pos (by simp; omega)]
def q_setNi (T : q_T) (v : Int32) : q_T := ((T.1.1, T.1.2.1, v), T.2)
theorem p_nights (x : Int32) : q_pr 69 135 [.int x] := by
  intro T hok
  have h6 := hok.1.2.1
  by_cases hw : q_w 1 30 x = true
  · obtain ⟨n, h1, h30, rfl⟩ := q_w_lit (a := 1) (b := 30) rfl rfl hw (by decide) (by decide)
    by_cases hz : 0 < T.2.1.1.2
    · refine ⟨nI (q_gu (q_slp T.2.1 n T.2.1.1.2) T.2.1.1.2), 0, q_setNi (q_sS T (q_slp T.2.1 n T.2.1.1.2)) (T.1.2.2 + nI n), fun d m hC => ?_, fun d m hM => ?_, ⟨q_slp_ok hok.1 _ _, hok.2.1, hok.2.2⟩⟩
      · obtain ⟨m1, e1, c1, f1, g1⟩ := k_sleep0 (h := 2) (Or.inl rfl) hok.1 h30 (d + 18) hC.2.1
        refine ⟨m1, ?_, ⟨⟨?_, ?_, ?_⟩, c1, hC.2.2.1.of (fun a h1 h2 => f1 a (by omega)), hC.2.2.2.of (fun a h1 h2 => f1 a (by omega))⟩, fun a ha => f1 a (by omega)⟩
        · rw [c_X9_nights, k_within]
          simp only [Option.bind_some, q_if]
          rw [if_pos hw, k_stands (Or.inl rfl) hC.ng h6]
          simp only [Option.bind_some, q_if]
          rw [if_pos (by simpa using hz), e1]
          simp only [Option.bind_some]
          rw [c_X2_gatheredByUnknowing (d + 18) (Or.inl rfl)]
          have := k_gbu (h := 2) (Or.inl rfl) (S := q_slp T.2.1 n T.2.1.1.2) h6 (z_go z_SH z_P (d + 18)) c1 T.2.1.1.2 (199999 - T.2.1.1.2 - 1) 0 (Nat.zero_add _)
          rw [show 199999 - T.2.1.1.2 - 1 + T.2.1.1.2 + 1 = 199999 by omega] at this
          have this : z_lp z_SH 0 (fun _ => 0) (z_go z_SH z_P (d + 18)) me_X2_gatheredByUnknowing 199999 4 [some (.ref 2), some (.int 0), some (.int 0)] [] m1 = some (nI (q_gu (q_slp T.2.1 n T.2.1.1.2) T.2.1.1.2), 0, m1) := this
          rw [this]
          rfl
        · rw [f1 0 (by omega)]
          exact hC.1.1
        · rw [f1 0 (by omega)]
          exact hC.1.2.1
        · rw [g1, hC.1.2.2]
          rfl
      · obtain ⟨m1, e1, c1, f1⟩ := k_mnights hok.1 h30 (d + 17) n (199999 - n - 1) 0 m (Nat.zero_add _) (by rw [q_slp_z]; exact hM.2.1)
        rw [show 199999 - n - 1 + n + 1 = 199999 by omega] at e1
        have c2 : q_MS (z_up m1 59 7 ((m1 59 7) + nI n)) (q_slp T.2.1 n T.2.1.1.2) := c1.of (q_uk (by decide)) (q_uk (by decide)) (q_uk (by decide)) (q_uk (by decide)) (fun a h1 h2 => z_up_ne (by omega))
        refine ⟨z_up m1 59 7 ((m1 59 7) + nI n), ?_, ⟨⟨?_, ?_, ?_⟩, c2, hM.2.2.1.of ?_ (fun a h1 h2 => ?_), hM.2.2.2.of (fun a h1 h2 => ?_)⟩, fun a ha => ?_⟩
        · rw [c_X10_nights, k_mwithin]
          simp only [Option.bind_some, q_if]
          rw [if_pos hw, hM.ng, show (0 : Int32) = nI 0 from rfl, q_nI_if (by omega) (by decide), if_neg (by omega), show nI 0 = (0 : Int32) from rfl]
          refine Eq.trans e1 ?_
          have := k_mgu (S := q_slp T.2.1 n T.2.1.1.2) h6 (d + 18) c2 T.2.1.1.2 (199999 - n - 1 - T.2.1.1.2 - 1) 0 (Nat.zero_add _)
          rw [show 199999 - n - 1 - T.2.1.1.2 - 1 + T.2.1.1.2 + 1 = 199999 - n - 1 by omega] at this
          exact this
        · rw [q_uk (by decide), f1 59 (by decide)]
          exact hM.1.1
        · rw [q_uk (by decide), f1 59 (by decide)]
          exact hM.1.2.1
        · rw [q_uq, f1 59 (by decide), hM.1.2.2]
          rfl
        · rw [q_uk (by decide), f1 59 (by decide)]
        · rw [z_up_ne (by omega), f1 a (by omega)]
        · rw [z_up_ne (by omega), f1 a (by omega)]
        · rw [z_up_ne (by omega), f1 a (by omega)]
    · refine ⟨-3, 0, T, q_cop_same (fun d m hC => ?_), q_mop_same (fun d m hM => ?_), hok⟩
      · rw [c_X9_nights, k_within]
        simp only [Option.bind_some, q_if]
        rw [if_pos hw, k_stands (Or.inl rfl) hC.ng h6]
        simp only [Option.bind_some, q_if]
        rw [if_neg (by simpa using hz)]
      · rw [c_X10_nights, k_mwithin]
        simp only [Option.bind_some, q_if]
        rw [if_pos hw, hM.ng, show (0 : Int32) = nI 0 from rfl, q_nI_if (by omega) (by decide), if_pos (by omega)]
  · refine ⟨-2, 0, T, q_cop_same (fun d m hC => ?_), q_mop_same (fun d m hM => ?_), hok⟩
    · rw [c_X9_nights, k_within]
      simp only [Option.bind_some, q_if]
      rw [if_neg hw]
    · rw [c_X10_nights, k_mwithin]
      simp only [Option.bind_some, q_if]
      rw [if_neg hw]
