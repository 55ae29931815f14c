/-! 8 give: the class's dawning -/
theorem q_sub_pos {α : Type} {a b : Nat} (ha : a < 1073741824) (hb : b < 1073741824) (x y : α) : (if 0 < nI a - nI b then x else y) = if b < a then x else y := by
  have h1 : ((0 : Int32) < nI a - nI b) ↔ b < a := by
    rw [Int32.lt_iff_toInt_lt, pk_sub_toInt ha hb, show (0 : Int32).toInt = 0 from rfl]
    omega
  by_cases h : b < a
  · rw [if_pos h, if_pos (h1.mpr h)]
  · rw [if_neg h, if_neg (fun q => h (h1.mp q))]
theorem k_lackw {h : Nat} (hh : z_isH h) {m : z_M} {S : q_St} (hC : q_CS m h S) (h6 : S.1.2 ≤ 6) {k : Nat} (hk : k < S.1.2) (d : Nat) : z_go z_SH z_P (d + 1) 18 [.ref h, .int (nI k)] m = some (nI (S.2.2.1 2 k) - nI (S.2.2.1 4 k), 0, m) := by
  have hk6 : k < 6 := by omega
  rw [c_X2_lack d hh, q_in hk6 (by decide), z_g_t, q_cl (by omega), q_g hh hk6 (by decide), z_g_t, z_g_t, q_g hh hk6 (by decide), z_g_t, hC.gd hk (by decide), hC.gd hk (by decide)]
theorem k_fr {h : Nat} (hh : z_isH h) {m : z_M} {S : q_St} (hC : q_CS m h S) {w : Nat} (hw : q_okw w S) (d : Nat) : ∀ (n F i : Nat), i + n = S.1.2 → z_lp z_SH 0 (fun _ => 0) (z_go z_SH z_P (d + 1)) me_X2_firstReady (F + n + 1) 2 [some (.ref h), some (.int (nI i))] [] m = some ((q_fr S n i).elim (-1) nI, 0, m) := by
  have h6 := hw.2.1
  intro n
  induction n with
  | zero =>
    intro F i hi
    rw [e_X2_firstReady_2 _ _ _ _ hh, hC.2.1, q_nI_le (by omega) (by omega), if_pos (by omega)]
    rfl
  | succ n ih =>
    intro F i hi
    have hk : i < S.1.2 := by omega
    have hk6 : i < 6 := by omega
    have e := hw.2.2.2.2 i hk
    rw [show F + (n + 1) + 1 = (F + n + 1) + 1 by omega, e_X2_firstReady_2 _ _ _ _ hh, hC.2.1, q_nI_le (by omega) (by omega), if_neg (by omega), q_in hk6 (by decide), z_g_t, q_cl (by omega), q_gb hh hk6 (by decide) (by decide), z_g_t, hC.kn hk, q_if, k_lackw hh hC h6 hk]
    simp only [Option.bind_some]
    rw [q_sub_pos (by omega) (by omega), nI_1, ih F (i + 1) (by omega)]
    simp only [q_fr, q_rdy]
    by_cases hn : S.2.2.2 0 i = true
    · simp [hn]
    · by_cases hq : S.2.2.1 4 i < S.2.2.1 2 i
      · simp [hn, hq, show ¬ S.2.2.1 2 i ≤ S.2.2.1 4 i by omega]
      · simp [hn, hq, show S.2.2.1 2 i ≤ S.2.2.1 4 i by omega]
theorem k_stir {h : Nat} (hh : z_isH h) {S : q_St} (h6 : S.1.2 ≤ 6) {t : Nat} (ht : t ≤ 5) (h3 : ∀ k, k < S.1.2 → S.2.2.1 3 k ≤ 5) (C : Nat → List Value → z_M → Option z_R) : ∀ (n F i : Nat) (m : z_M), i + n = S.1.2 → q_CS m h (q_stir S t i) → ∃ m1, z_lp z_SH 0 (fun _ => 0) C me_X2_stir (F + n + 1) 2 [some (.ref h), some (.int (nI t)), some (.int (nI i))] [] m = some (0, 0, m1) ∧ q_CS m1 h (q_stir S t S.1.2) ∧ ∀ a, (a < h + 3 ∨ h + 9 ≤ a) → m1 a = m a := by
  intro n
  induction n with
  | zero =>
    intro F i m hi hC
    refine ⟨m, ?_, ?_, fun _ _ => rfl⟩
    · rw [e_X2_stir_2 _ _ _ _ hh, hC.2.1, show (q_stir S t i).1.2 = S.1.2 from rfl, q_nI_le (by omega) (by omega), if_pos (by omega)]
    · rw [show S.1.2 = i by omega]
      exact hC
  | succ n ih =>
    intro F i m hi hC
    have hk : i < S.1.2 := by omega
    have hk' : i < (q_stir S t i).1.2 := hk
    have hk6 : i < 6 := by omega
    have h3i := h3 i hk
    have e5 : z_b (m (h + 3 + i) 5) = q_b (S.2.2.2 0 i) := hC.kn hk'
    have e3 : m (h + 3 + i) 3 = nI (S.2.2.1 3 i) := by rw [hC.gd hk' (by decide), q_stir_3]
    have e4 : m (h + 3 + i) 4 = nI (S.2.2.1 4 i) := by rw [hC.gd hk' (by decide), q_stir_4]
    by_cases hc : S.2.2.2 0 i = false ∧ S.2.2.1 3 i = t
    · obtain ⟨m1, e1, c1, f1⟩ := ih F (i + 1) (z_up m (h + 3 + i) 4 (nI (S.2.2.1 4 i + 1))) (by omega) (by rw [q_stir_y hc.1 hc.2]; exact q_sG_C hC _ (by decide))
      refine ⟨m1, ?_, c1, fun a ha => (f1 a ha).trans (z_up_ne (by omega))⟩
      rw [show F + (n + 1) + 1 = (F + n + 1) + 1 by omega, e_X2_stir_2 _ _ _ _ hh, hC.2.1, show (q_stir S t i).1.2 = S.1.2 from rfl, q_nI_le (by omega) (by omega), if_neg (by omega), q_in hk6 (by decide), z_g_t, q_cl (by omega), q_gb hh hk6 (by decide) (by decide), z_g_t, e5, q_if, hc.1, if_neg (by decide), z_g_t, q_g hh hk6 (by decide), z_g_t, e3, hc.2, if_pos rfl, z_g_t, q_g hh hk6 (by decide), z_g_t, z_g_t, e4, nI_1, nI_1]
      exact e1
    · obtain ⟨m1, e1, c1, f1⟩ := ih F (i + 1) m (by omega) (by rw [q_stir_x hc]; exact hC)
      refine ⟨m1, ?_, c1, f1⟩
      rw [show F + (n + 1) + 1 = (F + n + 1) + 1 by omega, e_X2_stir_2 _ _ _ _ hh, hC.2.1, show (q_stir S t i).1.2 = S.1.2 from rfl, q_nI_le (by omega) (by omega), if_neg (by omega), q_in hk6 (by decide), z_g_t, q_cl (by omega), q_gb hh hk6 (by decide) (by decide), z_g_t, e5, q_if, z_g_t, q_g hh hk6 (by decide), z_g_t, e3, q_nI_if (by omega) (by omega), nI_1]
      by_cases h1 : S.2.2.2 0 i = true
      · rw [if_pos h1]
        exact e1
      · have h2 : S.2.2.1 3 i ≠ t := fun q => hc ⟨by simpa using h1, q⟩
        rw [if_neg h1, if_neg h2]
        exact e1
theorem k_dawn {h : Nat} (hh : z_isH h) (d : Nat) : ∀ (f F y : Nat) (S : q_St) (m : z_M), q_CS m h S → q_okw f S → q_un S.1.2 (S.2.2.2 0) ≤ f → y + f ≤ 6 → ∃ m1, z_lp z_SH 0 (fun _ => 0) (z_go z_SH z_P (d + 2)) me_X2_dawn (F + f + 1) 7 [some (.ref h), some (.int (nI y)), some (.int ((q_fr S S.1.2 0).elim (-1) nI))] [] m = some (nI (y + (q_dw f S).1), 0, m1) ∧ q_CS m1 h (q_dw f S).2 ∧ ∀ a, (a < h + 3 ∨ h + 9 ≤ a) → m1 a = m a := by
  intro f
  induction f with
  | zero =>
    intro F y S m hC hw hu hy
    cases hq : q_fr S S.1.2 0 with
    | none =>
      refine ⟨m, ?_, by rw [q_dw_n hq]; exact hC, fun _ _ => rfl⟩
      rw [e_X2_dawn_7 _ _ _ _ hh, q_dw_n hq]
      rfl
    | some k =>
      obtain ⟨h1, h2, h3⟩ := q_fr_s _ _ hq
      have := q_dst_un (show k < S.1.2 by omega) h3
      omega
  | succ f ih =>
    intro F y S m hC hw hu hy
    cases hq : q_fr S S.1.2 0 with
    | none =>
      refine ⟨m, ?_, by rw [q_dw_n hq]; exact hC, fun _ _ => rfl⟩
      rw [e_X2_dawn_7 _ _ _ _ hh, q_dw_n hq]
      rfl
    | some k =>
      obtain ⟨h1, h2, h3⟩ := q_fr_s _ _ hq
      have hk : k < S.1.2 := by omega
      have h6 := hw.2.1
      have hk6 : k < 6 := by omega
      have hun := q_dst_un hk h3
      have hw' := q_okw_dst hw k
      have hB : q_CS (z_up m (h + 3 + k) 5 1) h (q_stir (q_sB S 0 k) (S.2.2.1 3 k) 0) := by
        rw [q_stir_0]
        exact q_sB_C (b := 0) hC (by decide)
      obtain ⟨m1, e1, c1, f1⟩ := k_stir hh (S := q_sB S 0 k) h6 (t := S.2.2.1 3 k) (hw.2.2.2.2 k hk).2.2.2.1 (fun j hj => (hw.2.2.2.2 j hj).2.2.2.1) (z_go z_SH z_P (d + 1)) S.1.2 (199999 - S.1.2 - 1) 0 (z_up m (h + 3 + k) 5 1) (Nat.zero_add _) hB
      rw [show 199999 - S.1.2 - 1 + S.1.2 + 1 = 199999 by omega] at e1
      obtain ⟨m2, e2, c2, f2⟩ := ih F (y + 1) (q_dst S k) m1 c1 hw' (by omega) (by omega)
      refine ⟨m2, ?_, by rw [q_dw_s hq]; exact c2, fun a ha => (f2 a ha).trans ((f1 a ha).trans (z_up_ne (by omega)))⟩
      have e3 : z_up m (h + 3 + k) 5 1 (h + 3 + k) 3 = nI (S.2.2.1 3 k) := by
        rw [q_uk (by decide)]
        exact hC.gd hk (by decide)
      have efr := k_fr hh c1 hw' d S.1.2 (199999 - S.1.2 - 1) 0 (Nat.zero_add _)
      rw [show 199999 - S.1.2 - 1 + S.1.2 + 1 = 199999 by omega] at efr
      rw [show F + (f + 1) + 1 = (F + f + 1) + 1 by omega, e_X2_dawn_7 _ _ _ _ hh]
      rw [show (some k).elim (-1 : Int32) nI = nI k from rfl]
      rw [show (0 : Int32) = nI 0 from rfl, show (6 : Int32) = nI 6 from rfl, q_nI_lt (by omega) (by decide), if_neg (by omega), q_nI_le (by decide) (by omega), if_neg (by omega), q_in hk6 (by decide), z_g_t, q_cl (by omega), q_gb hh hk6 (by decide) (by decide), show (true && z_isb 1) = true from by decide, z_g_t, z_g_t, q_g hh hk6 (by decide), z_g_t, e3, c_X2_stir (d + 1) hh, show nI 0 = (0 : Int32) from rfl]
      have e1 : z_lp z_SH 0 (fun _ => 0) (z_go z_SH z_P (d + 1)) me_X2_stir 199999 2 [some (.ref h), some (.int (nI (S.2.2.1 3 k))), some (.int 0)] [] (z_up m (h + 3 + k) 5 1) = some (0, 0, m1) := e1
      rw [e1]
      simp only [Option.bind_some]
      rw [c_X2_firstReady (d + 1) hh]
      have efr : z_lp z_SH 0 (fun _ => 0) (z_go z_SH z_P (d + 1)) me_X2_firstReady 199999 2 [some (.ref h), some (.int 0)] [] m1 = some ((q_fr (q_dst S k) S.1.2 0).elim (-1) nI, 0, m1) := efr
      rw [efr]
      simp only [Option.bind_some]
      rw [nI_1, q_dw_s hq, show y + ((q_dw f (q_dst S k)).1 + 1, (q_dw f (q_dst S k)).2).1 = y + 1 + (q_dw f (q_dst S k)).1 by show y + ((q_dw f (q_dst S k)).1 + 1) = _; omega]
      exact e2
theorem k_dawn0 {h : Nat} (hh : z_isH h) (d : Nat) {S : q_St} {m : z_M} (hC : q_CS m h S) (hw : q_okw 6 S) : ∃ m1, z_go z_SH z_P (d + 3) 20 [.ref h] m = some (nI (q_dw 6 S).1, 0, m1) ∧ q_CS m1 h (q_dw 6 S).2 ∧ ∀ a, (a < h + 3 ∨ h + 9 ≤ a) → m1 a = m a := by
  have h6 := hw.2.1
  obtain ⟨m1, e1, c1, f1⟩ := k_dawn hh d 6 (199999 - 7) 0 S m hC hw (Nat.le_trans (q_un_le _ _) h6) (by decide)
  refine ⟨m1, ?_, c1, f1⟩
  have efr := k_fr hh hC hw d S.1.2 (199999 - S.1.2 - 1) 0 (Nat.zero_add _)
  rw [show 199999 - S.1.2 - 1 + S.1.2 + 1 = 199999 by omega] at efr
  have efr : z_lp z_SH 0 (fun _ => 0) (z_go z_SH z_P (d + 1)) me_X2_firstReady 199999 2 [some (.ref h), some (.int 0)] [] m = some ((q_fr S S.1.2 0).elim (-1) nI, 0, m) := efr
  rw [c_X2_dawn (d + 2) hh, c_X2_firstReady (d + 1) hh, efr]
  simp only [Option.bind_some]
  rw [Nat.zero_add] at e1
  exact e1
theorem k_offer {h : Nat} (hh : z_isH h) (d : Nat) {S : q_St} {m : z_M} (hC : q_CS m h S) (hok : q_okS S) {s k : Nat} (hs : s < S.1.1) (hk : k < S.1.2) (hn : S.2.2.2 0 k = false) : ∃ m1, z_go z_SH z_P (d + 4) 19 [.ref h, .int (nI s), .int (nI k)] m = some ((q_gv S s k).1, 0, m1) ∧ q_CS m1 h (q_gv S s k).2 ∧ ∀ a, (a < h + 3 ∨ h + 9 ≤ a) → m1 a = m a := by
  have h6 := hok.2.1
  have hk6 : k < 6 := by omega
  rw [c_X2_offer (d + 3) hh, k_shocks hh hC hok hs hk]
  simp only [Option.bind_some, q_if, decide_eq_true_eq]
  unfold q_gv
  by_cases hb : S.2.2.1 1 k < q_wt S s k
  · rw [if_pos hb, if_pos hb, q_in hk6 (by decide), z_g_t, q_cl (by omega), q_gb hh hk6 (by decide) (by decide), show (true && z_isb 1) = true from by decide, z_g_t]
    exact ⟨_, rfl, q_sB_C (b := 1) hC (by decide), fun a ha => z_up_ne (by omega)⟩
  · rw [if_neg hb, if_neg hb, q_in hk6 (by decide), z_g_t, q_cl (by omega), q_g hh hk6 (by decide), z_g_t, k_weight hh hC hok hs hk]
    simp only [Option.bind_some]
    rw [z_g_t, hC.gd hk (by decide), nI_add]
    obtain ⟨m1, e1, c1, f1⟩ := k_dawn0 hh d (q_sG_C hC (S.2.2.1 4 k + q_wt S s k) (f := 4) (k := k) (by decide)) (q_gv_w hok hs hk hn)
    rw [e1]
    exact ⟨m1, rfl, c1, fun a ha => (f1 a ha).trans (z_up_ne (by omega))⟩
