theorem p_cell (x y z : Int32) : q_pr 86 167 [.int x, .int y, .int z] := by
  intro T hok
  have h6 := hok.1.2.1
  have c0 : ∀ m : z_M, q_C m T → q_C (z_up m 0 10 0) (q_setFt T 0) := fun m hC => q_setFt_C hC h6 0
  have m0 : ∀ m : z_M, q_M m T → q_M (z_up m 59 0 0) (q_setFt T 0) := fun m hM => q_setFt_M hM 0
  by_cases hw : q_w 0 3 x = true
  · by_cases hz : q_w 0 2 z = true
    · obtain ⟨k, -, hk3, rfl⟩ := q_w_nI (a := 0) (b := 3) hw (by decide) (by decide)
      have hk : k < 4 := by omega
      obtain ⟨hl2, hl60⟩ := hok.2.2 k hk
      have cpre : ∀ (d : Nat) (m : z_M), q_C m T → z_go z_SH z_P (d + 20) 86 [.ref 0, .int (nI k), .int y, .int z] m = if T.2.2.2.1 k = true then (if nI (T.2.2.2.2.1 k) = z then (if q_v (T.2.2.2.2.2.1 k) y = true then z_g (z_ina z_SH (52 + 2 * k) 0 y) (some (0, (z_up m 0 10 0 (52 + 2 * k) y.toNatClampNeg).toInt64, z_up m 0 10 0)) else some (0, z_lost, z_up (z_up m 0 10 0) 0 10 3)) else some (0, z_lost, z_up (z_up m 0 10 0) 0 10 2)) else some (0, z_lost, z_up (z_up m 0 10 0) 0 10 1) := by
        intro d m hC
        rw [c_X9_cell, k_isSheet]
        simp only [Option.bind_some, q_if]
        rw [if_pos hw, k_within]
        simp only [Option.bind_some, q_if]
        rw [if_pos hz]
        simp only [q_in hk (show 4 < 2147483648 by decide), z_g_t, q_cl (show k < 2147483648 by omega), (q_s hk).1, (q_s hk).2.2.2.2.1]
        rw [k_faultAs (c0 m hC) hok.2.2 hk]
        simp only [Option.bind_some]
        rw [k_faultAt (c0 m hC) hok.2.2 hk]
        simp only [Option.bind_some]
        show (if (if T.2.2.2.1 k = true then (if nI (T.2.2.2.2.1 k) = z then 0 else 2) else 1) = (0 : Int32) then (if (if T.2.2.2.1 k = true then (if q_v (T.2.2.2.2.2.1 k) y = true then 0 else 3) else 1) = (0 : Int32) then _ else _) else _) = _
        cases hq : T.2.2.2.1 k with
        | false =>
          have hq' : (q_setFt T 0).2.2.2.1 k = false := hq
          simp [hq']
        | true =>
          have hq' : (q_setFt T 0).2.2.2.1 k = true := hq
          simp only [hq', if_true]
          by_cases h1 : nI (T.2.2.2.2.1 k) = z
          · have h1' : nI ((q_setFt T 0).2.2.2.2.1 k) = z := h1
            simp only [h1, h1', if_true]
            by_cases h2 : q_v (T.2.2.2.2.2.1 k) y = true
            · have h2' : q_v ((q_setFt T 0).2.2.2.2.2.1 k) y = true := h2
              simp only [h2, h2', if_true]
            · have h2' : ¬ q_v ((q_setFt T 0).2.2.2.2.2.1 k) y = true := h2
              simp only [h2, h2', if_false]
              rw [if_neg (by decide)]
              rfl
          · have h1' : ¬ nI ((q_setFt T 0).2.2.2.2.1 k) = z := h1
            simp only [h1, h1', if_false]
            rw [if_neg (by decide), if_neg (by decide)]
      have mpre : ∀ (d : Nat) (m : z_M), q_M m T → z_go z_SH z_P (d + 20) 167 [.ref 59, .int (nI k), .int y, .int z] m = if T.2.2.2.1 k = true then (if nI (T.2.2.2.2.1 k) = z then (if q_v (T.2.2.2.2.2.1 k) y = true then z_g (z_in 240 (60 * nI k + y)) (some (0, (z_up m 59 0 0 62 (60 * nI k + y).toNatClampNeg).toInt64, z_up m 59 0 0)) else some (0, z_lost, z_up (z_up m 59 0 0) 59 0 3)) else some (0, z_lost, z_up (z_up m 59 0 0) 59 0 2)) else some (0, z_lost, z_up (z_up m 59 0 0) 59 0 1) := by
        intro d m hM
        obtain ⟨r1, r2, r3⟩ := (m0 m hM).2.2.2 k hk
        have r1 : z_up m 59 0 0 60 k = (if T.2.2.2.1 k = true then nI (T.2.2.2.2.1 k) else -9) := r1
        have r2 : z_up m 59 0 0 61 k = nI (T.2.2.2.2.2.1 k) := r2
        rw [c_X10_cell, k_misSheet]
        simp only [Option.bind_some, q_if]
        rw [if_pos hw, k_misSort]
        simp only [Option.bind_some, q_if]
        rw [if_pos hz]
        simp only [q_in hk (show 4 < 2147483648 by decide), z_g_t, q_cl (show k < 2147483648 by omega), r1, r2]
        rw [k_mwithin, q_w_len hl60]
        simp only [Option.bind_some, q_if]
        simp only [c_X10_lost, Option.bind_some]
        cases hq : T.2.2.2.1 k with
        | false => simp
        | true =>
          simp only [if_true, if_neg (q_n9 _ hl2)]
      cases hq : T.2.2.2.1 k with
      | false =>
        refine ⟨0, z_lost, q_setFt (q_setFt T 0) 1, fun d m hC => ⟨z_up (z_up m 0 10 0) 0 10 1, ?_, q_setFt_C (c0 m hC) h6 1, fun a ha => (z_up_ne (by omega)).trans (z_up_ne (by omega))⟩, fun d m hM => ⟨z_up (z_up m 59 0 0) 59 0 1, ?_, q_setFt_M (m0 m hM) 1, fun a ha => (z_up_ne (by omega)).trans (z_up_ne (by omega))⟩, hok⟩
        · rw [cpre d m hC, hq, if_neg (by decide)]
        · rw [mpre d m hM, hq, if_neg (by decide)]
      | true =>
        by_cases h1 : nI (T.2.2.2.2.1 k) = z
        · by_cases h2 : q_v (T.2.2.2.2.2.1 k) y = true
          · obtain ⟨i, hi, rfl⟩ := q_v_t h2 (by omega)
            have hi60 : i < 60 := by omega
            refine ⟨0, (T.2.2.2.2.2.2 k i).toInt64, q_setFt T 0, fun d m hC => ⟨z_up m 0 10 0, ?_, c0 m hC, fun a ha => z_up_ne (by omega)⟩, fun d m hM => ⟨z_up m 59 0 0, ?_, m0 m hM, fun a ha => z_up_ne (by omega)⟩, hok⟩
            · rw [cpre d m hC, if_pos hq, if_pos h1, if_pos h2, q_sa hk hi60, z_g_t, q_cl (by omega), show z_up m 0 10 0 (52 + 2 * k) i = T.2.2.2.2.2.2 k i from ((c0 m hC).2.2.2 k hk).2.2.2 i hi60]
            · rw [mpre d m hM, if_pos hq, if_pos h1, if_pos h2, q_ix, q_in (show 60 * k + i < 240 by omega) (by decide), z_g_t, q_cl (by omega), show z_up m 59 0 0 62 (60 * k + i) = T.2.2.2.2.2.2 k i from ((m0 m hM).2.2.2 k hk).2.2 i hi60]
          · refine ⟨0, z_lost, q_setFt (q_setFt T 0) 3, fun d m hC => ⟨z_up (z_up m 0 10 0) 0 10 3, ?_, q_setFt_C (c0 m hC) h6 3, fun a ha => (z_up_ne (by omega)).trans (z_up_ne (by omega))⟩, fun d m hM => ⟨z_up (z_up m 59 0 0) 59 0 3, ?_, q_setFt_M (m0 m hM) 3, fun a ha => (z_up_ne (by omega)).trans (z_up_ne (by omega))⟩, hok⟩
            · rw [cpre d m hC, if_pos hq, if_pos h1, if_neg h2]
            · rw [mpre d m hM, if_pos hq, if_pos h1, if_neg h2]
        · refine ⟨0, z_lost, q_setFt (q_setFt T 0) 2, fun d m hC => ⟨z_up (z_up m 0 10 0) 0 10 2, ?_, q_setFt_C (c0 m hC) h6 2, fun a ha => (z_up_ne (by omega)).trans (z_up_ne (by omega))⟩, fun d m hM => ⟨z_up (z_up m 59 0 0) 59 0 2, ?_, q_setFt_M (m0 m hM) 2, fun a ha => (z_up_ne (by omega)).trans (z_up_ne (by omega))⟩, hok⟩
          · rw [cpre d m hC, if_pos hq, if_neg h1]
          · rw [mpre d m hM, if_pos hq, if_neg h1]
    · refine ⟨0, z_lost, q_setFt T 0, fun d m hC => ⟨z_up m 0 10 0, ?_, c0 m hC, fun a ha => z_up_ne (by omega)⟩, fun d m hM => ⟨z_up m 59 0 0, ?_, m0 m hM, fun a ha => z_up_ne (by omega)⟩, hok⟩
      · rw [c_X9_cell, k_isSheet]
        simp only [Option.bind_some, q_if]
        rw [if_pos hw, k_within]
        simp only [Option.bind_some, q_if]
        rw [if_neg hz]
      · rw [c_X10_cell, k_misSheet]
        simp only [Option.bind_some, q_if]
        rw [if_pos hw, k_misSort]
        simp only [Option.bind_some, q_if]
        rw [if_neg hz]
  · refine ⟨0, z_lost, q_setFt T 0, fun d m hC => ⟨z_up m 0 10 0, ?_, c0 m hC, fun a ha => z_up_ne (by omega)⟩, fun d m hM => ⟨z_up m 59 0 0, ?_, m0 m hM, fun a ha => z_up_ne (by omega)⟩, hok⟩
    · rw [c_X9_cell, k_isSheet]
      simp only [Option.bind_some, q_if]
      rw [if_neg hw]
    · rw [c_X10_cell, k_misSheet]
      simp only [Option.bind_some, q_if]
      rw [if_neg hw]
/-! 23 sheet -/
def q_row (T : q_T) (k ln n : Nat) (g : Nat → Int32) : q_T := (T.1, T.2.1, T.2.2.1, ((fun j => if j = k then true else T.2.2.2.1 j), (fun j => if j = k then ln else T.2.2.2.2.1 j), (fun j => if j = k then n else T.2.2.2.2.2.1 j), (fun j i => if j = k then g i else T.2.2.2.2.2.2 j i)))
theorem k_renew (d k : Nat) (hk : k < 4) : ∀ (n F i : Nat) (m : z_M), i + n = 60 → ∃ m1, z_lp z_SH 0 (fun _ => 0) (z_go z_SH z_P d) me_X4_renew (F + n + 1) 17 [some (.ref (51 + 2 * k)), none, none, some (.int (nI i))] [] m = some (0, 0, m1) ∧ (∀ j, i ≤ j → j < 60 → m1 (52 + 2 * k) j = 0) ∧ (∀ j, j < i → m1 (52 + 2 * k) j = m (52 + 2 * k) j) ∧ ∀ a, a ≠ 52 + 2 * k → m1 a = m a := by
  intro n
  induction n with
  | zero =>
    intro F i m h
    refine ⟨m, ?_, fun j h1 h2 => by omega, fun _ _ => rfl, fun _ _ => rfl⟩
    rw [e_X4_renew_17 _ _ _ _ (q_s hk).2.2.2.2.2, show (60 : Int32) = nI 60 from rfl, q_nI_le (by decide) (by omega), if_pos (by omega)]
  | succ n ih =>
    intro F i m h
    obtain ⟨m1, e1, g1, g2, g3⟩ := ih F (i + 1) (z_up m (52 + 2 * k) i 0) (by omega)
    refine ⟨m1, ?_, fun j h1 h2 => ?_, fun j hj => ?_, fun a ha => (g3 a ha).trans (z_up_ne ha)⟩
    · rw [show F + (n + 1) + 1 = (F + n + 1) + 1 by omega, e_X4_renew_17 _ _ _ _ (q_s hk).2.2.2.2.2, show (60 : Int32) = nI 60 from rfl, q_nI_le (by decide) (by omega), if_neg (by omega), q_in (show i < 60 by omega) (by decide), z_g_t, q_cl (by omega), nI_1, show 51 + 2 * k + 1 = 52 + 2 * k by omega]
      exact e1
    · by_cases hq : j = i
      · subst hq
        rw [g2 j (by omega), q_uq]
      · exact g1 j (by omega) h2
    · rw [g2 j (by omega), q_uk (by omega)]
theorem k_msheet (d k : Nat) (hk : k < 4) : ∀ (n F i : Nat) (m : z_M), i + n = 60 → ∃ m1, z_lp z_SH 0 (fun _ => 0) (z_go z_SH z_P d) me_X10_sheet (F + n + 1) 57 [some (.ref 59), some (.int (nI k)), none, none, some (.int (nI i))] [] m = some (1, 0, m1) ∧ (∀ j, i ≤ j → j < 60 → m1 62 (60 * k + j) = 0) ∧ (∀ q, (q < 60 * k + i ∨ 60 * k + 60 ≤ q) → m1 62 q = m 62 q) ∧ ∀ a, a ≠ 62 → m1 a = m a := by
  intro n
  induction n with
  | zero =>
    intro F i m h
    refine ⟨m, ?_, fun j h1 h2 => by omega, fun _ _ => rfl, fun _ _ => rfl⟩
    rw [e_X10_sheet_57, show (60 : Int32) = nI 60 from rfl, q_nI_le (by decide) (by omega), if_pos (by omega)]
  | succ n ih =>
    intro F i m h
    obtain ⟨m1, e1, g1, g2, g3⟩ := ih F (i + 1) (z_up m 62 (60 * k + i) 0) (by omega)
    refine ⟨m1, ?_, fun j h1 h2 => ?_, fun q hq => ?_, fun a ha => (g3 a ha).trans (z_up_ne ha)⟩
    · rw [show F + (n + 1) + 1 = (F + n + 1) + 1 by omega, e_X10_sheet_57, q_ix, show (60 : Int32) = nI 60 from rfl, q_nI_le (by decide) (by omega), if_neg (by omega), q_in (show 60 * k + i < 240 by omega) (by decide), z_g_t, q_cl (by omega), nI_1]
      exact e1
    · by_cases hq : j = i
      · subst hq
        rw [g2 _ (by omega), q_uq]
      · exact g1 j (by omega) h2
    · rw [g2 q (by omega), q_uk (by omega)]
theorem p_sheet (x y z : Int32) : q_pr 83 164 [.int x, .int y, .int z] := by
  intro T hok
  have h6 := hok.1.2.1
  have c0 : ∀ m : z_M, q_C m T → q_C (z_up m 0 10 0) (q_setFt T 0) := fun m hC => q_setFt_C hC h6 0
  have m0 : ∀ m : z_M, q_M m T → q_M (z_up m 59 0 0) (q_setFt T 0) := fun m hM => q_setFt_M hM 0
  by_cases hw : q_w 0 3 x = true
  · by_cases hy : q_w 0 2 y = true
    · by_cases h1 : z ≤ 60
      · by_cases h2 : 0 ≤ z
        · obtain ⟨k, -, hk3, rfl⟩ := q_w_nI (a := 0) (b := 3) hw (by decide) (by decide)
          obtain ⟨ln, -, hln, rfl⟩ := q_w_nI (a := 0) (b := 2) hy (by decide) (by decide)
          obtain ⟨n, -, hn, rfl⟩ : ∃ v, 0 ≤ v ∧ v ≤ 60 ∧ z = nI v := q_w_nI (a := 0) (b := 60) (by unfold q_w; simp only [Bool.and_eq_true, decide_eq_true_eq]; exact ⟨h2, h1⟩) (by decide) (by decide)
          have hk : k < 4 := by omega
          refine ⟨1, 0, q_row (q_setFt T 0) k ln n (fun _ => 0), fun d m hC => ?_, fun d m hM => ?_, ?_⟩
          · obtain ⟨m1, e1, g1, -, g3⟩ := k_renew (d + 18) k hk 60 (199999 - 61) 0 (z_up (z_up (z_up (z_up m 0 10 0) (51 + 2 * k) 1 1) (51 + 2 * k) 2 (nI ln)) (51 + 2 * k) 3 (nI n)) (by decide)
            have fr : ∀ a, a ≠ 51 + 2 * k → a ≠ 52 + 2 * k → m1 a = z_up m 0 10 0 a := fun a ha hb => by rw [g3 a hb, z_up_ne ha, z_up_ne ha, z_up_ne ha]
            refine ⟨m1, ?_, ?_, fun a ha => (fr a (by omega) (by omega)).trans (z_up_ne (by omega))⟩
            · rw [c_X9_sheet, k_isSheet]
              simp only [Option.bind_some, q_if]
              rw [if_pos hw, k_within]
              simp only [Option.bind_some, q_if]
              rw [if_pos hy, if_pos h1, if_pos h2]
              simp only [q_in hk (show 4 < 2147483648 by decide), z_g_t, q_cl (show k < 2147483648 by omega), (q_s hk).1]
              rw [c_X4_renew _ (q_s hk).2.2.2.2.2]
              have e1 : z_lp z_SH 0 (fun _ => 0) (z_go z_SH z_P (d + 18)) me_X4_renew 199999 17 [some (.ref (51 + 2 * k)), none, none, some (.int 0)] [] (z_up (z_up (z_up (z_up m 0 10 0) (51 + 2 * k) 1 1) (51 + 2 * k) 2 (nI ln)) (51 + 2 * k) 3 (nI n)) = some (0, 0, m1) := e1
              rw [e1]
              rfl
            · have hc := c0 m hC
              refine ⟨hc.1.of (fr 0 (by omega) (by omega)) (fr 2 (by omega) (by omega)), hc.2.1.of h6 (fun a h1 h2 => fr a (by omega) (by omega)), hc.2.2.1.of (fun a h1 h2 => fr a (by omega) (by omega)), fun j hj => ?_⟩
              show z_b (m1 (51 + 2 * j) 1) = q_b (if j = k then true else T.2.2.2.1 j) ∧ m1 (51 + 2 * j) 2 = nI (if j = k then ln else T.2.2.2.2.1 j) ∧ m1 (51 + 2 * j) 3 = nI (if j = k then n else T.2.2.2.2.2.1 j) ∧ ∀ i, i < 60 → m1 (52 + 2 * j) i = if j = k then 0 else T.2.2.2.2.2.2 j i
              by_cases hq : j = k
              · subst hq
                simp only [if_true]
                rw [g3 (51 + 2 * j) (by omega)]
                exact ⟨by rw [q_uk (by decide), q_uk (by decide), q_uq]; rfl, by rw [q_uk (by decide), q_uq], by rw [q_uq], fun i hi => g1 i (by omega) hi⟩
              · simp only [hq, if_false]
                rw [fr (51 + 2 * j) (by omega) (by omega), fr (52 + 2 * j) (by omega) (by omega)]
                exact hc.2.2.2 j hj
          · obtain ⟨m1, e1, g1, g2, g3⟩ := k_msheet (d + 19) k hk 60 (199999 - 61) 0 (z_up (z_up (z_up m 59 0 0) 60 k (nI ln)) 61 k (nI n)) (by decide)
            refine ⟨m1, ?_, ?_, fun a ha => by rw [g3 a (by omega), z_up_ne (by omega), z_up_ne (by omega), z_up_ne (by omega)]⟩
            · rw [c_X10_sheet, k_misSheet]
              simp only [Option.bind_some, q_if]
              rw [if_pos hw, k_misSort]
              simp only [Option.bind_some, q_if]
              rw [if_pos hy, if_pos h1, if_pos h2]
              simp only [q_in hk (show 4 < 2147483648 by decide), z_g_t, q_cl (show k < 2147483648 by omega)]
              exact e1
            · have hc := m0 m hM
              have fr : ∀ a, a ≠ 60 → a ≠ 61 → a ≠ 62 → m1 a = z_up m 59 0 0 a := fun a h1 h2 h3 => by rw [g3 a h3, z_up_ne h2, z_up_ne h1]
              refine ⟨hc.1.of (by rw [fr 59 (by decide) (by decide) (by decide)]) (by rw [fr 59 (by decide) (by decide) (by decide)]) (by rw [fr 59 (by decide) (by decide) (by decide)]), hc.2.1.of (by rw [fr 59 (by decide) (by decide) (by decide)]) (by rw [fr 59 (by decide) (by decide) (by decide)]) (by rw [fr 59 (by decide) (by decide) (by decide)]) (by rw [fr 59 (by decide) (by decide) (by decide)]) (fun a h1 h2 => fr a (by omega) (by omega) (by omega)), hc.2.2.1.of (by rw [fr 59 (by decide) (by decide) (by decide)]) (fun a h1 h2 => fr a (by omega) (by omega) (by omega)), fun j hj => ?_⟩
              show m1 60 j = (if (if j = k then true else T.2.2.2.1 j) = true then nI (if j = k then ln else T.2.2.2.2.1 j) else -9) ∧ m1 61 j = nI (if j = k then n else T.2.2.2.2.2.1 j) ∧ ∀ i, i < 60 → m1 62 (60 * j + i) = if j = k then 0 else T.2.2.2.2.2.2 j i
              obtain ⟨r1, r2, r3⟩ := hc.2.2.2 j hj
              rw [g3 60 (by decide), g3 61 (by decide)]
              by_cases hq : j = k
              · subst hq
                simp only [if_true]
                exact ⟨by rw [q_ua (by decide), q_uq], by rw [q_uq], fun i hi => g1 i (by omega) hi⟩
              · simp only [hq, if_false]
                refine ⟨by rw [q_ua (by decide), q_uk hq]; exact r1, by rw [q_uk hq, q_ua (by decide)]; exact r2, fun i hi => ?_⟩
                rw [g2 (60 * j + i) (by omega), q_ua (by decide), q_ua (by decide)]
                exact r3 i hi
          · refine ⟨hok.1, hok.2.1, fun j hj => ?_⟩
            show (if j = k then ln else T.2.2.2.2.1 j) ≤ 2 ∧ (if j = k then n else T.2.2.2.2.2.1 j) ≤ 60
            by_cases hq : j = k
            · rw [if_pos hq, if_pos hq]
              exact ⟨hln, hn⟩
            · rw [if_neg hq, if_neg hq]
              exact hok.2.2 j hj
        · refine ⟨-14, 0, q_setFt (q_setFt T 0) 4, fun d m hC => ⟨z_up (z_up m 0 10 0) 0 10 4, ?_, q_setFt_C (c0 m hC) h6 4, fun a ha => (z_up_ne (by omega)).trans (z_up_ne (by omega))⟩, fun d m hM => ⟨z_up (z_up m 59 0 0) 59 0 4, ?_, q_setFt_M (m0 m hM) 4, fun a ha => (z_up_ne (by omega)).trans (z_up_ne (by omega))⟩, hok⟩
          · rw [c_X9_sheet, k_isSheet]
            simp only [Option.bind_some, q_if]
            rw [if_pos hw, k_within]
            simp only [Option.bind_some, q_if]
            rw [if_pos hy, if_pos h1, if_neg h2, c_X9_failed]
            rfl
          · rw [c_X10_sheet, k_misSheet]
            simp only [Option.bind_some, q_if]
            rw [if_pos hw, k_misSort]
            simp only [Option.bind_some, q_if]
            rw [if_pos hy, if_pos h1, if_neg h2, c_X10_fails]
            rfl
      · refine ⟨-2, 0, q_setFt T 0, fun d m hC => ⟨z_up m 0 10 0, ?_, c0 m hC, fun a ha => z_up_ne (by omega)⟩, fun d m hM => ⟨z_up m 59 0 0, ?_, m0 m hM, fun a ha => z_up_ne (by omega)⟩, hok⟩
        · rw [c_X9_sheet, k_isSheet]
          simp only [Option.bind_some, q_if]
          rw [if_pos hw, k_within]
          simp only [Option.bind_some, q_if]
          rw [if_pos hy, if_neg h1]
        · rw [c_X10_sheet, k_misSheet]
          simp only [Option.bind_some, q_if]
          rw [if_pos hw, k_misSort]
          simp only [Option.bind_some, q_if]
          rw [if_pos hy, if_neg h1]
    · refine ⟨-2, 0, q_setFt T 0, fun d m hC => ⟨z_up m 0 10 0, ?_, c0 m hC, fun a ha => z_up_ne (by omega)⟩, fun d m hM => ⟨z_up m 59 0 0, ?_, m0 m hM, fun a ha => z_up_ne (by omega)⟩, hok⟩
      · rw [c_X9_sheet, k_isSheet]
        simp only [Option.bind_some, q_if]
        rw [if_pos hw, k_within]
        simp only [Option.bind_some, q_if]
        rw [if_neg hy]
      · rw [c_X10_sheet, k_misSheet]
        simp only [Option.bind_some, q_if]
        rw [if_pos hw, k_misSort]
        simp only [Option.bind_some, q_if]
        rw [if_neg hy]
  · refine ⟨-1, 0, q_setFt T 0, fun d m hC => ⟨z_up m 0 10 0, ?_, c0 m hC, fun a ha => z_up_ne (by omega)⟩, fun d m hM => ⟨z_up m 59 0 0, ?_, m0 m hM, fun a ha => z_up_ne (by omega)⟩, hok⟩
    · rw [c_X9_sheet, k_isSheet]
      simp only [Option.bind_some, q_if]
      rw [if_neg hw]
    · rw [c_X10_sheet, k_misSheet]
      simp only [Option.bind_some, q_if]
      rw [if_neg hw]
