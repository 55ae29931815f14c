/-! 8 give: the reference's dawning -/
theorem k_mfr {m : z_M} {S : q_St} (hM : q_MS m S) {w : Nat} (hw : q_okw w S) (d : Nat) : ∀ (n F i : Nat), i + n = S.1.2 → z_lp z_SH 0 (fun _ => 0) (z_go z_SH z_P (d + 1)) me_X10_nextToKnow (F + n + 1) 2 [some (.ref 59), some (.int (nI i))] [] m = some ((q_fr S n i).elim (-9) nI, 0, m) := by
  have h6 := hw.2.1
  intro n
  induction n with
  | zero =>
    intro F i hi
    rw [e_X10_nextToKnow_2, hM.2.1, q_nI_le (by omega) (by omega), if_pos (by omega)]
    rfl
  | succ n ih =>
    intro F i hi
    have hk : i < S.1.2 := by omega
    have hk6 : i < 6 := by omega
    have e := hw.2.2.2.2 i hk
    rw [show F + (n + 1) + 1 = (F + n + 1) + 1 by omega, e_X10_nextToKnow_2, hM.2.1, q_nI_le (by omega) (by omega), if_neg (by omega), hM.2.2.2.2.1, k_misOf _ h6 hk]
    simp only [Option.bind_some]
    rw [q_if, q_in hk6 (by decide), z_g_t, z_g_t, q_cl (by omega), hM.g4 hk, hM.g2 hk, q_nI_lt (by omega) (by omega), nI_1, ih F (i + 1) (by omega)]
    simp only [q_fr, q_rdy]
    by_cases hn : S.2.2.2 0 i = true
    · simp [hn]
    · by_cases hq : S.2.2.1 4 i < S.2.2.1 2 i
      · simp [hn, hq, show ¬ S.2.2.1 2 i ≤ S.2.2.1 4 i by omega]
      · simp [hn, hq, show S.2.2.1 2 i ≤ S.2.2.1 4 i by omega]
theorem k_mstir {S : q_St} (h6 : S.1.2 ≤ 6) {k : Nat} (hk : k < S.1.2) (h3 : ∀ k, k < S.1.2 → S.2.2.1 3 k ≤ 5) (d : Nat) (y : Int32) : ∀ (n F i : Nat) (m : z_M), i + n = S.1.2 → q_MS m (q_stir S (S.2.2.1 3 k) i) → ∃ m1, z_lp z_SH 0 (fun _ => 0) (z_go z_SH z_P (d + 1)) me_X10_dawns (F + n + 1) 30 [some (.ref 59), some (.int y), some (.int (nI k)), some (.int (nI i))] [] m = Option.bind (z_go z_SH z_P (d + 1) 130 [.ref 59] m1) (fun r1 => z_lp z_SH 0 (fun _ => 0) (z_go z_SH z_P (d + 1)) me_X10_dawns F 7 [some (.ref 59), some (.int y), some (.int r1.1), none] [] r1.2.2) ∧ q_MS m1 (q_stir S (S.2.2.1 3 k) S.1.2) ∧ ∀ a, a ≠ 68 → m1 a = m a := by
  intro n
  induction n with
  | zero =>
    intro F i m hi hM
    refine ⟨m, ?_, ?_, fun _ _ => rfl⟩
    · rw [e_X10_dawns_30, hM.2.1, show (q_stir S (S.2.2.1 3 k) i).1.2 = S.1.2 from rfl, q_nI_le (by omega) (by omega), if_pos (by omega)]
    · rw [show S.1.2 = i by omega]
      exact hM
  | succ n ih =>
    intro F i m hi hM
    have hi' : i < S.1.2 := by omega
    have hk' : i < (q_stir S (S.2.2.1 3 k) i).1.2 := hi'
    have hi6 : i < 6 := by omega
    have hk6 : k < 6 := by omega
    have h3i := h3 i hi'
    have h3k := h3 k hk
    have e3 : m 67 i = nI (S.2.2.1 3 i) := by rw [hM.g3 hk', q_stir_3]
    have e3k : m 67 k = nI (S.2.2.1 3 k) := by rw [hM.g3 (show k < (q_stir S (S.2.2.1 3 k) i).1.2 from hk), q_stir_3]
    have e4 : m 68 i = nI (S.2.2.1 4 i) := by rw [hM.g4 hk', q_stir_4]
    have e8 : m 59 8 = nI (q_bits S.1.2 (S.2.2.2 0)) := hM.2.2.2.2.1
    by_cases hc : S.2.2.2 0 i = false ∧ S.2.2.1 3 i = S.2.2.1 3 k
    · obtain ⟨m1, e1, c1, f1⟩ := ih F (i + 1) (z_up m 68 i (nI (S.2.2.1 4 i + 1))) (by omega) (by rw [q_stir_y hc.1 hc.2]; exact q_sG_M hM _ (f := 4) (by decide))
      refine ⟨m1, ?_, c1, fun a ha => (f1 a ha).trans (z_up_ne ha)⟩
      rw [show F + (n + 1) + 1 = (F + n + 1) + 1 by omega, e_X10_dawns_30, hM.2.1, show (q_stir S (S.2.2.1 3 k) i).1.2 = S.1.2 from rfl, q_nI_le (by omega) (by omega), if_neg (by omega), q_in hi6 (by decide), z_g_t, e8, k_misOf _ h6 hi']
      simp only [Option.bind_some]
      rw [q_if, hc.1, if_neg (by decide), z_g_t, q_in hk6 (by decide), z_g_t, q_cl (by omega), q_cl (by omega), e3, e3k, hc.2, if_pos rfl, z_g_t, e4, nI_1, nI_1]
      exact e1
    · obtain ⟨m1, e1, c1, f1⟩ := ih F (i + 1) m (by omega) (by rw [q_stir_x hc]; exact hM)
      refine ⟨m1, ?_, c1, f1⟩
      rw [show F + (n + 1) + 1 = (F + n + 1) + 1 by omega, e_X10_dawns_30, hM.2.1, show (q_stir S (S.2.2.1 3 k) i).1.2 = S.1.2 from rfl, q_nI_le (by omega) (by omega), if_neg (by omega), q_in hi6 (by decide), z_g_t, e8, k_misOf _ h6 hi']
      simp only [Option.bind_some]
      rw [q_if, z_g_t, q_in hk6 (by decide), z_g_t, q_cl (by omega), q_cl (by omega), e3, e3k, q_nI_if (by omega) (by omega), z_g_t, z_g_t, Int32.add_zero, q_up_same, nI_1]
      by_cases h1 : S.2.2.2 0 i = true
      · rw [if_pos h1]
        exact e1
      · have h2 : S.2.2.1 3 i ≠ S.2.2.1 3 k := fun q => hc ⟨by simpa using h1, q⟩
        rw [if_neg h1, if_neg h2]
        exact e1
theorem k_mdawn (d : Nat) : ∀ (f F y : Nat) (S : q_St) (m : z_M), q_MS m S → q_okw f S → q_un S.1.2 (S.2.2.2 0) ≤ f → ∃ m1, z_lp z_SH 0 (fun _ => 0) (z_go z_SH z_P (d + 2)) me_X10_dawns (F + 8 * f + 1) 7 [some (.ref 59), some (.int (nI y)), some (.int ((q_fr S S.1.2 0).elim (-9) nI)), none] [] m = some (nI (y + (q_dw f S).1), 0, m1) ∧ q_MS m1 (q_dw f S).2 ∧ (∀ a, a ≠ 68 → a ≠ 59 → m1 a = m a) ∧ ∀ k, k ≠ 8 → m1 59 k = m 59 k := by
  intro f
  induction f with
  | zero =>
    intro F y S m hM hw hu
    cases hq : q_fr S S.1.2 0 with
    | none =>
      refine ⟨m, ?_, by rw [q_dw_n hq]; exact hM, fun _ _ _ => rfl, fun _ _ => rfl⟩
      rw [e_X10_dawns_7, q_dw_n hq]
      rfl
    | some k =>
      obtain ⟨h1, h2, h3⟩ := q_fr_s _ _ hq
      have := q_dst_un (show k < S.1.2 by omega) h3
      omega
  | succ f ih =>
    intro F y S m hM hw hu
    cases hq : q_fr S S.1.2 0 with
    | none =>
      refine ⟨m, ?_, by rw [q_dw_n hq]; exact hM, fun _ _ _ => rfl, fun _ _ => rfl⟩
      rw [e_X10_dawns_7, q_dw_n hq]
      rfl
    | some k =>
      obtain ⟨h1, h2, h3⟩ := q_fr_s _ _ hq
      have hk : k < S.1.2 := by omega
      have h6 := hw.2.1
      have hk6 : k < 6 := by omega
      have hun := q_dst_un hk h3
      have hw' := q_okw_dst hw k
      have hB : q_MS (z_up m 59 8 (m 59 8 ||| ((1 : Int32) <<< (nI k &&& 31)))) (q_stir (q_sB S 0 k) ((q_sB S 0 k).2.2.1 3 k) 0) := by
        rw [q_stir_0]
        exact q_sB_M (b := 0) hM h6 (by decide) hk
      obtain ⟨m1, e1, c1, f1⟩ := k_mstir (S := q_sB S 0 k) h6 (k := k) hk (fun j hj => (hw.2.2.2.2 j hj).2.2.2.1) (d + 1) (nI (y + 1)) S.1.2 (F + 8 * f + 7 - S.1.2) 0 _ (Nat.zero_add _) hB
      rw [show F + 8 * f + 7 - S.1.2 + S.1.2 + 1 = F + 8 * f + 8 by omega] at e1
      obtain ⟨m2, e2, c2, f2, g2⟩ := ih (F + 6 - S.1.2) (y + 1) (q_dst S k) m1 c1 hw' (by omega)
      rw [show F + 6 - S.1.2 + 8 * f + 1 = F + 8 * f + 7 - S.1.2 by omega] at e2
      refine ⟨m2, ?_, by rw [q_dw_s hq]; exact c2, fun a ha hb => (f2 a ha hb).trans ((f1 a ha).trans (z_up_ne hb)), fun j hj => by rw [g2 j hj, f1 59 (by decide), q_uk hj]⟩
      have efr := k_mfr c1 hw' d S.1.2 (199999 - S.1.2 - 1) 0 (Nat.zero_add _)
      rw [show 199999 - S.1.2 - 1 + S.1.2 + 1 = 199999 by omega] at efr
      have efr : z_lp z_SH 0 (fun _ => 0) (z_go z_SH z_P (d + 1)) me_X10_nextToKnow 199999 2 [some (.ref 59), some (.int 0)] [] m1 = some ((q_fr (q_dst S k) S.1.2 0).elim (-9) nI, 0, m1) := efr
      rw [show F + 8 * (f + 1) + 1 = (F + 8 * f + 8) + 1 by omega, e_X10_dawns_7]
      have hne : ¬ nI k = (-9 : Int32) := by
        have : ∀ v, v < 6 → nI v ≠ (-9 : Int32) := by decide +kernel
        exact this k hk6
      show (if nI k = (-9 : Int32) then _ else _) = _
      rw [if_neg hne, nI_1]
      refine Eq.trans e1 ?_
      rw [c_X10_nextToKnow, efr]
      simp only [Option.bind_some]
      rw [q_dw_s hq, show y + ((q_dw f (q_dst S k)).1 + 1, (q_dw f (q_dst S k)).2).1 = y + 1 + (q_dw f (q_dst S k)).1 by show y + ((q_dw f (q_dst S k)).1 + 1) = _; omega]
      exact e2
theorem k_mdawn0 (d : Nat) {S : q_St} {m : z_M} (hM : q_MS m S) (hw : q_okw 6 S) : ∃ m1, z_go z_SH z_P (d + 3) 131 [.ref 59] m = some (nI (q_dw 6 S).1, 0, m1) ∧ q_MS m1 (q_dw 6 S).2 ∧ (∀ a, a ≠ 68 → a ≠ 59 → m1 a = m a) ∧ ∀ k, k ≠ 8 → m1 59 k = m 59 k := by
  have h6 := hw.2.1
  obtain ⟨m1, e1, c1, f1, g1⟩ := k_mdawn d 6 (199999 - 49) 0 S m hM hw (Nat.le_trans (q_un_le _ _) h6)
  refine ⟨m1, ?_, c1, f1, g1⟩
  have efr := k_mfr hM hw d S.1.2 (199999 - S.1.2 - 1) 0 (Nat.zero_add _)
  rw [show 199999 - S.1.2 - 1 + S.1.2 + 1 = 199999 by omega] at efr
  have efr : z_lp z_SH 0 (fun _ => 0) (z_go z_SH z_P (d + 1)) me_X10_nextToKnow 199999 2 [some (.ref 59), some (.int 0)] [] m = some ((q_fr S S.1.2 0).elim (-9) nI, 0, m) := efr
  rw [c_X10_dawns, c_X10_nextToKnow, efr]
  simp only [Option.bind_some]
  rw [Nat.zero_add] at e1
  exact e1
theorem k_mgiven (d : Nat) {S : q_St} {m : z_M} (hM : q_MS m S) (hok : q_okS S) {s k : Nat} (hs : s < S.1.1) (hk : k < S.1.2) (hn : S.2.2.2 0 k = false) : ∃ m1, z_go z_SH z_P (d + 4) 132 [.ref 59, .int (nI s), .int (nI k)] m = some ((q_gv S s k).1, 0, m1) ∧ q_MS m1 (q_gv S s k).2 ∧ (∀ a, a ≠ 68 → a ≠ 59 → m1 a = m a) ∧ ∀ k, k ≠ 8 → k ≠ 9 → m1 59 k = m 59 k := by
  have h6 := hok.2.1
  have hk6 : k < 6 := by omega
  have hw := q_wt_le hok hs k
  have hb := hok.k1 hk
  rw [c_X10_isGiven, k_mweigh hM hok hs hk]
  simp only [Option.bind_some]
  rw [q_in hk6 (by decide), z_g_t, q_cl (by omega), hM.g1 hk, q_nI_le (by omega) (by omega)]
  unfold q_gv
  by_cases hc : S.2.2.1 1 k < q_wt S s k
  · rw [if_pos hc, if_neg (by omega)]
    exact ⟨_, rfl, q_sB_M (b := 1) hM h6 (by decide) hk, fun a ha hb => z_up_ne hb, fun j h8 h9 => q_uk h9⟩
  · rw [if_neg hc, if_pos (by omega), z_g_t, z_g_t, hM.g4 hk, nI_add]
    obtain ⟨m1, e1, c1, f1, g1⟩ := k_mdawn0 d (q_sG_M hM (S.2.2.1 4 k + q_wt S s k) (f := 4) (k := k) (by decide)) (q_gv_w hok hs hk hn)
    have e1 : z_go z_SH z_P (d + 3) 131 [.ref 59] (z_up m 68 k (nI (S.2.2.1 4 k + q_wt S s k))) = _ := e1
    rw [e1]
    exact ⟨m1, rfl, c1, fun a ha hb => (f1 a ha hb).trans (z_up_ne ha), fun j h8 h9 => (g1 j h8).trans (q_ua (by decide))⟩
theorem q_gv_ng (S : q_St) (s k : Nat) : (q_gv S s k).2.1 = S.1 := by
  have h : ∀ (f : Nat) (S : q_St), (q_dw f S).2.1 = S.1 := by
    intro f
    induction f with
    | zero => intro S; rfl
    | succ f ih =>
      intro S
      cases hq : q_fr S S.1.2 0 with
      | none => rw [q_dw_n hq]
      | some k =>
        rw [q_dw_s hq]
        exact ih (q_dst S k)
  unfold q_gv
  split
  · rfl
  · exact h 6 _
theorem p_give (x y : Int32) : q_pr 68 133 [.int x, .int y] := by
  intro T hok
  have h5 := hok.1.1
  have h6 := hok.1.2.1
  have cpre : ∀ (d : Nat) (m : z_M), q_C m T → z_go z_SH z_P (d + 20) 68 [.ref 0, .int x, .int y] m = if q_v T.2.1.1.1 x = true then (if q_v T.2.1.1.2 y = true then (if T.2.1.2.2.2 0 y.toNatClampNeg = true then some (-3, 0, m) else Option.bind (z_go z_SH z_P (d + 19) 19 [.ref 2, .int x, .int y] m) (fun r3 => some (r3.1, 0, r3.2.2))) else some (-1, 0, m)) else some (-1, 0, m) := by
    intro d m hC
    rw [c_X9_give, k_isSign _ _ hC.ns h5]
    simp only [Option.bind_some, q_if]
    rw [k_isGuest _ _ hC.ng h6]
    simp only [Option.bind_some, q_if]
    by_cases hv : q_v T.2.1.1.1 x = true
    · rw [if_pos hv, if_pos hv]
      by_cases hw : q_v T.2.1.1.2 y = true
      · rw [if_pos hw, if_pos hw]
        obtain ⟨k, hk, rfl⟩ := q_v_t hw (by omega)
        rw [q_in (show k < 6 by omega) (by decide), z_g_t, q_cl (by omega), q_g5b (by omega) (by decide) (by decide), z_g_t, hC.kn hk, q_if]
      · rw [if_neg hw, if_neg hw]
    · rw [if_neg hv, if_neg hv]
  have mpre : ∀ (d : Nat) (m : z_M), q_M m T → z_go z_SH z_P (d + 20) 133 [.ref 59, .int x, .int y] m = if q_v T.2.1.1.1 x = true then (if q_v T.2.1.1.2 y = true then (if T.2.1.2.2.2 0 y.toNatClampNeg = true then some (-3, 0, m) else Option.bind (z_go z_SH z_P (d + 19) 132 [.ref 59, .int x, .int y] m) (fun r3 => some (r3.1, 0, r3.2.2))) else some (-1, 0, m)) else some (-1, 0, m) := by
    intro d m hM
    rw [c_X10_give, k_misSign _ _ hM.ns h5]
    simp only [Option.bind_some, q_if]
    rw [k_misGuest _ _ hM.ng h6]
    simp only [Option.bind_some, q_if]
    by_cases hv : q_v T.2.1.1.1 x = true
    · rw [if_pos hv, if_pos hv]
      by_cases hw : q_v T.2.1.1.2 y = true
      · rw [if_pos hw, if_pos hw]
        obtain ⟨k, hk, rfl⟩ := q_v_t hw (by omega)
        rw [hM.kn, k_misOf _ h6 hk, q_cl (by omega)]
        simp only [Option.bind_some, q_if]
      · rw [if_neg hw, if_neg hw]
    · rw [if_neg hv, if_neg hv]
  by_cases hv : q_v T.2.1.1.1 x = true
  · by_cases hw : q_v T.2.1.1.2 y = true
    · by_cases hn : T.2.1.2.2.2 0 y.toNatClampNeg = true
      · refine ⟨-3, 0, T, q_cop_same (fun d m hC => ?_), q_mop_same (fun d m hM => ?_), hok⟩
        · rw [cpre d m hC, if_pos hv, if_pos hw, if_pos hn]
        · rw [mpre d m hM, if_pos hv, if_pos hw, if_pos hn]
      · obtain ⟨s, hs, rfl⟩ := q_v_t hv (by omega)
        obtain ⟨k, hk, rfl⟩ := q_v_t hw (by omega)
        have hn' : T.2.1.2.2.2 0 k = false := by
          rw [q_cl (by omega)] at hn
          simpa using hn
        have hng := q_gv_ng T.2.1 s k
        refine ⟨(q_gv T.2.1 s k).1, 0, q_sS T (q_gv T.2.1 s k).2, fun d m hC => ?_, fun d m hM => ?_, ⟨q_gv_ok hok.1 hs hk hn', ?_, hok.2.2⟩⟩
        · obtain ⟨m1, e1, c1, f1⟩ := k_offer (h := 2) (Or.inl rfl) (d + 15) hC.2.1 hok.1 hs hk hn'
          refine ⟨m1, ?_, hC.ofS c1 (fun a ha => f1 a (by omega)), fun a ha => f1 a (by omega)⟩
          rw [cpre d m hC, if_pos hv, if_pos hw, if_neg hn, e1]
          rfl
        · obtain ⟨m1, e1, c1, f1, g1⟩ := k_mgiven (d + 15) hM.2.1 hok.1 hs hk hn'
          refine ⟨m1, ?_, hM.ofS c1 (fun a ha hb => f1 a (by omega) hb) (fun j hj => g1 j (by omega) (by omega)), fun a ha => f1 a (by omega) (by omega)⟩
          rw [mpre d m hM, if_pos hv, if_pos hw, if_neg hn, e1]
          rfl
        · refine ⟨hok.2.1.1, fun r hr => ?_⟩
          show T.2.2.1.2.1 r < (q_gv T.2.1 s k).2.1.1 ∧ T.2.2.1.2.2.1 r < (q_gv T.2.1 s k).2.1.2
          rw [hng]
          exact hok.2.1.2 r hr
    · refine ⟨-1, 0, T, q_cop_same (fun d m hC => ?_), q_mop_same (fun d m hM => ?_), hok⟩
      · rw [cpre d m hC, if_pos hv, if_neg hw]
      · rw [mpre d m hM, if_pos hv, if_neg hw]
  · refine ⟨-1, 0, T, q_cop_same (fun d m hC => ?_), q_mop_same (fun d m hM => ?_), hok⟩
    · rw [cpre d m hC, if_neg hv]
    · rw [mpre d m hM, if_neg hv]
