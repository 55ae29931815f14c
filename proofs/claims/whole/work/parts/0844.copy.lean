theorem p_copy (x y z w v : Int32) : q_pr 87 168 [.int x, .int y, .int z, .int w, .int v] := by
  intro T hok
  have h6 := hok.1.2.1
  have c0 : ∀ m : z_M, q_C m T → q_C (z_up m 0 10 0) (q_setFt T 0) := fun m hC => q_setFt_C hC h6 0
  have m0 : ∀ m : z_M, q_M m T → q_M (z_up m 59 0 0) (q_setFt T 0) := fun m hM => q_setFt_M hM 0
  have fail : ∀ f : Int32, (∀ (d : Nat) (m : z_M), q_C m T → z_go z_SH z_P (d + 20) 87 [.ref 0, .int x, .int y, .int z, .int w, .int v] m = some (-10 - f, 0, z_up (z_up m 0 10 0) 0 10 f)) → (∀ (d : Nat) (m : z_M), q_M m T → z_go z_SH z_P (d + 20) 168 [.ref 59, .int x, .int y, .int z, .int w, .int v] m = some (-10 - f, 0, z_up (z_up m 59 0 0) 59 0 f)) → ∃ (r : Int32) (l : Int64) (T' : q_T), q_cop 87 [.int x, .int y, .int z, .int w, .int v] T r l T' ∧ q_mop 168 [.int x, .int y, .int z, .int w, .int v] T r l T' ∧ q_ok T' := by
    intro f h1 h2
    exact ⟨-10 - f, 0, q_setFt (q_setFt T 0) f, fun d m hC => ⟨_, h1 d m hC, q_setFt_C (c0 m hC) h6 f, fun a ha => (z_up_ne (by omega)).trans (z_up_ne (by omega))⟩, fun d m hM => ⟨_, h2 d m hM, q_setFt_M (m0 m hM) f, fun a ha => (z_up_ne (by omega)).trans (z_up_ne (by omega))⟩, hok⟩
  have same : (∀ (d : Nat) (m : z_M), q_C m T → z_go z_SH z_P (d + 20) 87 [.ref 0, .int x, .int y, .int z, .int w, .int v] m = some (-1, 0, z_up m 0 10 0)) → (∀ (d : Nat) (m : z_M), q_M m T → z_go z_SH z_P (d + 20) 168 [.ref 59, .int x, .int y, .int z, .int w, .int v] m = some (-1, 0, z_up m 59 0 0)) → ∃ (r : Int32) (l : Int64) (T' : q_T), q_cop 87 [.int x, .int y, .int z, .int w, .int v] T r l T' ∧ q_mop 168 [.int x, .int y, .int z, .int w, .int v] T r l T' ∧ q_ok T' := by
    intro h1 h2
    exact ⟨-1, 0, q_setFt T 0, fun d m hC => ⟨_, h1 d m hC, c0 m hC, fun a ha => z_up_ne (by omega)⟩, fun d m hM => ⟨_, h2 d m hM, m0 m hM, fun a ha => z_up_ne (by omega)⟩, hok⟩
  by_cases hw : q_w 0 3 x = true
  · by_cases hz : q_w 0 3 z = true
    · obtain ⟨k, -, hk3, rfl⟩ := q_w_nI (a := 0) (b := 3) hw (by decide) (by decide)
      obtain ⟨o, -, ho3, rfl⟩ := q_w_nI (a := 0) (b := 3) hz (by decide) (by decide)
      have hk : k < 4 := by omega
      have ho : o < 4 := by omega
      obtain ⟨hl2, hl60⟩ := hok.2.2 k hk
      obtain ⟨ho2, ho60⟩ := hok.2.2 o ho
      have cpre : ∀ (d : Nat) (m : z_M), q_C m T → z_go z_SH z_P (d + 20) 87 [.ref 0, .int (nI k), .int y, .int (nI o), .int w, .int v] m = if T.2.2.2.1 k = true then (if T.2.2.2.1 o = true then (if T.2.2.2.2.1 k = T.2.2.2.2.1 o then (if q_fc (T.2.2.2.2.2.1 k) y v = true then (if q_fc (T.2.2.2.2.2.1 o) w v = true then z_g (z_copy z_SH (52 + 2 * k) (52 + 2 * o) y w v) (some (v, 0, (fun q => if q = 52 + 2 * o then va_cpy (z_up m 0 10 0 (52 + 2 * k)) (z_up m 0 10 0 (52 + 2 * o)) y.toNatClampNeg w.toNatClampNeg v.toNatClampNeg else z_up m 0 10 0 q))) else some (-10 - 3, 0, z_up (z_up m 0 10 0) 0 10 3)) else some (-10 - 3, 0, z_up (z_up m 0 10 0) 0 10 3)) else some (-10 - 2, 0, z_up (z_up m 0 10 0) 0 10 2)) else some (-10 - 1, 0, z_up (z_up m 0 10 0) 0 10 1)) else some (-10 - 1, 0, z_up (z_up m 0 10 0) 0 10 1) := by
        intro d m hC
        have hc := c0 m hC
        obtain ⟨p1, p2, -, -⟩ := hc.2.2.2 k hk
        obtain ⟨s1, s2, -, -⟩ := hc.2.2.2 o ho
        rw [c_X9_copy, k_isSheet]
        simp only [Option.bind_some, q_if]
        rw [if_pos hw, k_isSheet]
        simp only [Option.bind_some, q_if]
        rw [if_pos hz]
        simp only [q_in hk (show 4 < 2147483648 by decide), q_in ho (show 4 < 2147483648 by decide), z_g_t, q_cl (show k < 2147483648 by omega), q_cl (show o < 2147483648 by omega), (q_s hk).1, (q_s hk).2.1, (q_s hk).2.2.1, (q_s hk).2.2.2.2.1, (q_s ho).1, (q_s ho).2.1, (q_s ho).2.2.1, (q_s ho).2.2.2.2.1, p1, p2, s1, s2, q_if, k_fcells hc hok.2.2 hk, k_fcells hc hok.2.2 ho, Option.bind_some, c_X9_failed]
        rw [q_nI_if (show (q_setFt T 0).2.2.2.2.1 k < 2147483648 from by show T.2.2.2.2.1 k < _; omega) (show (q_setFt T 0).2.2.2.2.1 o < 2147483648 from by show T.2.2.2.2.1 o < _; omega)]
        show (if T.2.2.2.1 k = true then (if T.2.2.2.1 o = true then (if T.2.2.2.2.1 k = T.2.2.2.2.1 o then (if (if q_fc (T.2.2.2.2.2.1 k) y v = true then (0 : Int32) else 3) = 0 then (if (if q_fc (T.2.2.2.2.2.1 o) w v = true then (0 : Int32) else 3) = 0 then _ else _) else _) else _) else _) else _) = _
        by_cases e1 : q_fc (T.2.2.2.2.2.1 k) y v = true
        · rw [if_pos e1, if_pos e1, if_pos rfl]
          by_cases e2 : q_fc (T.2.2.2.2.2.1 o) w v = true
          · rw [if_pos e2, if_pos e2, if_pos rfl]
          · rw [if_neg e2, if_neg e2, if_neg (show ¬ ((3 : Int32) = 0) by decide)]
        · rw [if_neg e1, if_neg e1, if_neg (show ¬ ((3 : Int32) = 0) by decide)]
      have mpre : ∀ (d : Nat) (m : z_M), q_M m T → z_go z_SH z_P (d + 20) 168 [.ref 59, .int (nI k), .int y, .int (nI o), .int w, .int v] m = if T.2.2.2.1 k = true then (if T.2.2.2.1 o = true then (if T.2.2.2.2.1 k = T.2.2.2.2.1 o then (if q_fc (T.2.2.2.2.2.1 k) y v = true ∧ q_fc (T.2.2.2.2.2.1 o) w v = true then z_lp z_SH 0 (fun _ => 0) (z_go z_SH z_P (d + 19)) me_X10_copy 199998 166 [some (.ref 59), some (.int (nI k)), some (.int y), some (.int (nI o)), some (.int w), some (.int v), none, some (.int (if w ≤ y then 0 else 1)), some (.int 0), none] [] (z_up m 59 0 0) else some (-10 - 3, 0, z_up (z_up m 59 0 0) 59 0 3)) else some (-10 - 2, 0, z_up (z_up m 59 0 0) 59 0 2)) else some (-10 - 1, 0, z_up (z_up m 59 0 0) 59 0 1)) else some (-10 - 1, 0, z_up (z_up m 59 0 0) 59 0 1) := by
        intro d m hM
        have hc := m0 m hM
        obtain ⟨p1, p2, -⟩ := hc.2.2.2 k hk
        obtain ⟨s1, s2, -⟩ := hc.2.2.2 o ho
        have p1 : z_up m 59 0 0 60 k = (if T.2.2.2.1 k = true then nI (T.2.2.2.2.1 k) else -9) := p1
        have p2 : z_up m 59 0 0 61 k = nI (T.2.2.2.2.2.1 k) := p2
        have s1 : z_up m 59 0 0 60 o = (if T.2.2.2.1 o = true then nI (T.2.2.2.2.1 o) else -9) := s1
        have s2 : z_up m 59 0 0 61 o = nI (T.2.2.2.2.2.1 o) := s2
        have e0 : z_lp z_SH 0 (fun _ => 0) (z_go z_SH z_P (d + 19)) me_X10_copy 199999 110 [some (.ref 59), some (.int (nI k)), some (.int y), some (.int (nI o)), some (.int w), some (.int v), none, none, none, none] [.int 0] (z_up m 59 0 0) = some (-10 - 3, 0, z_up (z_up m 59 0 0) 59 0 3) := by
          rw [show (199999 : Nat) = 199998 + 1 from rfl, e_X10_copy_110, if_pos rfl, c_X10_fails]
          rfl
        rw [c_X10_copy, k_misSheet]
        simp only [Option.bind_some, q_if]
        rw [if_pos hw, k_misSheet]
        simp only [Option.bind_some, q_if]
        rw [if_pos hz]
        simp only [q_in hk (show 4 < 2147483648 by decide), q_in ho (show 4 < 2147483648 by decide), z_g_t, q_cl (show k < 2147483648 by omega), q_cl (show o < 2147483648 by omega), p1, p2, s1, s2, c_X10_fails, Option.bind_some, e0]
        cases hq : T.2.2.2.1 k with
        | false => simp
        | true =>
          simp only [if_true, if_neg (q_n9 _ hl2)]
          cases hq2 : T.2.2.2.1 o with
          | false => simp
          | true =>
            simp only [if_true, if_neg (q_n9 _ ho2)]
            rw [q_nI_if (by omega) (by omega)]
            by_cases hln : T.2.2.2.2.1 k = T.2.2.2.2.1 o
            · rw [if_pos hln, if_pos hln]
              by_cases hgood : q_fc (T.2.2.2.2.2.1 k) y v = true ∧ q_fc (T.2.2.2.2.2.1 o) w v = true
              · rw [if_pos hgood]
                have g1 := hgood.1
                have g2 := hgood.2
                simp only [q_fc, decide_eq_true_eq] at g1 g2
                rw [if_neg (fun q => by have := (q_lt0 y).mp q; omega), if_neg (fun q => by have := (q_lt0 w).mp q; omega), if_neg (fun q => by have := (q_lt0 v).mp q; omega), if_neg (fun q => by have := (q_ltn (by omega) y).mp q; omega), if_neg (fun q => by have := (q_ltn (by omega) w).mp q; omega), show (199999 : Nat) = 199998 + 1 from rfl, e_X10_copy_110, if_neg (by decide)]
                simp only [q_in hk (show 4 < 2147483648 by decide), q_in ho (show 4 < 2147483648 by decide), z_g_t, q_cl (show k < 2147483648 by omega), q_cl (show o < 2147483648 by omega), p2, s2]
                rw [if_neg (fun q => by rw [Int32.lt_iff_toInt_lt, q_sub_to hl60 (by omega) (by omega)] at q; omega), if_pos (by rw [Int32.le_iff_toInt_le, q_sub_to ho60 (by omega) (by omega)]; omega)]
                by_cases hwy : w ≤ y
                · rw [if_pos hwy, if_pos hwy]
                · rw [if_neg hwy, if_neg hwy]
              · rw [if_neg hgood]
                by_cases f1 : y < 0
                · rw [if_pos f1]
                rw [if_neg f1]
                by_cases f2 : w < 0
                · rw [if_pos f2]
                rw [if_neg f2]
                by_cases f3 : v < 0
                · rw [if_pos f3]
                rw [if_neg f3]
                by_cases f4 : nI (T.2.2.2.2.2.1 k) < y
                · rw [if_pos f4]
                rw [if_neg f4]
                by_cases f5 : nI (T.2.2.2.2.2.1 o) < w
                · rw [if_pos f5]
                rw [if_neg f5, show (199999 : Nat) = 199998 + 1 from rfl, e_X10_copy_110, if_neg (by decide)]
                simp only [q_in hk (show 4 < 2147483648 by decide), q_in ho (show 4 < 2147483648 by decide), z_g_t, q_cl (show k < 2147483648 by omega), q_cl (show o < 2147483648 by omega), p2, s2, c_X10_fails, Option.bind_some]
                rw [q_lt0] at f1 f2 f3
                rw [q_ltn (by omega)] at f4 f5
                by_cases f6 : nI (T.2.2.2.2.2.1 k) - y < v
                · rw [if_pos f6]
                rw [if_neg f6]
                by_cases f7 : v ≤ nI (T.2.2.2.2.2.1 o) - w
                · exfalso
                  apply hgood
                  rw [Int32.lt_iff_toInt_lt, q_sub_to hl60 (by omega) (by omega)] at f6
                  rw [Int32.le_iff_toInt_le, q_sub_to ho60 (by omega) (by omega)] at f7
                  simp only [q_fc, decide_eq_true_eq]
                  omega
                rw [if_neg f7]
            · rw [if_neg hln, if_neg hln]
      by_cases a1 : T.2.2.2.1 k = true
      · by_cases a2 : T.2.2.2.1 o = true
        · by_cases a3 : T.2.2.2.2.1 k = T.2.2.2.2.1 o
          · by_cases a4 : q_fc (T.2.2.2.2.2.1 k) y v = true
            · by_cases a5 : q_fc (T.2.2.2.2.2.1 o) w v = true
              · obtain ⟨i, n, rfl, rfl, hin⟩ := q_fc_t hl60 a4
                obtain ⟨j, n', rfl, hn', hjn⟩ := q_fc_t ho60 a5
                obtain rfl : n = n' := by
                  have h1 : (nI n).toInt = (nI n').toInt := by rw [hn']
                  have hn2 : q_fc (T.2.2.2.2.2.1 o) (nI j) (nI n) = true := a5
                  have : n' < 2147483648 := by omega
                  rcases Nat.lt_or_ge n 2147483648 with q | q
                  · rw [nI_toInt (by omega), nI_toInt (by omega)] at h1
                    omega
                  · omega
                refine ⟨nI n, 0, q_cpT (q_setFt T 0) k i o j n, fun d m hC => ⟨(fun q => if q = 52 + 2 * o then va_cpy (z_up m 0 10 0 (52 + 2 * k)) (z_up m 0 10 0 (52 + 2 * o)) i j n else z_up m 0 10 0 q), ?_, ?_, ?_⟩, fun d m hM => ?_, hok⟩
                · rw [cpre d m hC, if_pos a1, if_pos a2, if_pos a3, if_pos a4, if_pos a5, q_cp_ok hk ho (by omega) (by omega), z_g_t, q_cl (by omega), q_cl (by omega), q_cl (by omega)]
                · have hc := c0 m hC
                  have fr : ∀ a, a ≠ 52 + 2 * o → (fun q => if q = 52 + 2 * o then va_cpy (z_up m 0 10 0 (52 + 2 * k)) (z_up m 0 10 0 (52 + 2 * o)) i j n else z_up m 0 10 0 q) a = z_up m 0 10 0 a := fun a ha => if_neg ha
                  refine ⟨hc.1.of (fr 0 (by omega)) (fr 2 (by omega)), hc.2.1.of h6 (fun a h1 h2 => fr a (by omega)), hc.2.2.1.of (fun a h1 h2 => fr a (by omega)), fun q hq => ?_⟩
                  obtain ⟨r1, r2, r3, r4⟩ := hc.2.2.2 q hq
                  refine ⟨by rw [fr _ (by omega)]; exact r1, by rw [fr _ (by omega)]; exact r2, by rw [fr _ (by omega)]; exact r3, fun p hp => ?_⟩
                  show _ = if q = o then (if j ≤ p ∧ p < j + n then T.2.2.2.2.2.2 k (i + (p - j)) else T.2.2.2.2.2.2 o p) else T.2.2.2.2.2.2 q p
                  by_cases hqo : q = o
                  · subst hqo
                    rw [if_pos rfl]
                    show (if 52 + 2 * q = 52 + 2 * q then va_cpy (z_up m 0 10 0 (52 + 2 * k)) (z_up m 0 10 0 (52 + 2 * q)) i j n else z_up m 0 10 0 (52 + 2 * q)) p = _
                    rw [if_pos rfl]
                    unfold va_cpy
                    by_cases hjp : j ≤ p ∧ p < j + n
                    · rw [if_pos hjp, if_pos hjp]
                      exact (hc.2.2.2 k hk).2.2.2 (i + (p - j)) (by omega)
                    · rw [if_neg hjp, if_neg hjp]
                      exact r4 p hp
                  · rw [if_neg hqo, fr _ (by omega)]
                    exact r4 p hp
                · intro a ha
                  show (if a = 52 + 2 * o then _ else z_up m 0 10 0 a) = m a
                  rw [if_neg (by omega), z_up_ne (by omega)]
                · have hc := m0 m hM
                  obtain ⟨m1, e1, g1, g2⟩ := k_mcopy (d + 19) (i := i) (j := j) (n := n) hk ho (by omega) (by omega) (z_up m 59 0 0) (decide (i < j)) ⟨fun h => by simpa using h, fun h => by simpa using h⟩ n (199997 - n) 0 (z_up m 59 0 0) (by omega) (fun p => by rw [if_neg (by omega)]) (fun _ _ => rfl)
                  refine ⟨m1, ?_, ?_, fun a ha => (g2 a (by omega)).trans (z_up_ne (by omega))⟩
                  · rw [mpre d m hM, if_pos a1, if_pos a2, if_pos a3, if_pos ⟨a4, a5⟩, q_nI_le (by omega) (by omega)]
                    rw [show 199997 - n + n + 1 = 199998 by omega] at e1
                    have hbb : (if j ≤ i then (0 : Int32) else 1) = q_b (decide (i < j)) := by
                      unfold q_b
                      by_cases hij : i < j
                      · rw [if_neg (by omega), if_pos (by simp [hij])]
                      · rw [if_pos (by omega), if_neg (by simp [hij])]
                    rw [hbb]
                    exact e1
                  · refine ⟨hc.1.of (by rw [g2 59 (by decide)]) (by rw [g2 59 (by decide)]) (by rw [g2 59 (by decide)]), hc.2.1.of (by rw [g2 59 (by decide)]) (by rw [g2 59 (by decide)]) (by rw [g2 59 (by decide)]) (by rw [g2 59 (by decide)]) (fun a h1 h2 => g2 a (by omega)), hc.2.2.1.of (by rw [g2 59 (by decide)]) (fun a h1 h2 => g2 a (by omega)), fun q hq => ?_⟩
                    obtain ⟨r1, r2, r3⟩ := hc.2.2.2 q hq
                    refine ⟨by rw [g2 60 (by decide)]; exact r1, by rw [g2 61 (by decide)]; exact r2, fun p hp => ?_⟩
                    show _ = if q = o then (if j ≤ p ∧ p < j + n then T.2.2.2.2.2.2 k (i + (p - j)) else T.2.2.2.2.2.2 o p) else T.2.2.2.2.2.2 q p
                    rw [g1]
                    by_cases hqo : q = o
                    · subst hqo
                      rw [if_pos rfl]
                      by_cases hjp : j ≤ p ∧ p < j + n
                      · rw [if_pos hjp, if_pos (by omega), show 60 * k + i + (60 * q + p - (60 * q + j)) = 60 * k + (i + (p - j)) by omega]
                        exact (hc.2.2.2 k hk).2.2 (i + (p - j)) (by omega)
                      · rw [if_neg hjp, if_neg (by omega)]
                        exact r3 p hp
                    · rw [if_neg hqo, if_neg (by omega)]
                      exact r3 p hp
              · exact fail 3 (fun d m hC => by rw [cpre d m hC, if_pos a1, if_pos a2, if_pos a3, if_pos a4, if_neg a5]) (fun d m hM => by rw [mpre d m hM, if_pos a1, if_pos a2, if_pos a3, if_neg (fun q => a5 q.2)])
            · exact fail 3 (fun d m hC => by rw [cpre d m hC, if_pos a1, if_pos a2, if_pos a3, if_neg a4]) (fun d m hM => by rw [mpre d m hM, if_pos a1, if_pos a2, if_pos a3, if_neg (fun q => a4 q.1)])
          · exact fail 2 (fun d m hC => by rw [cpre d m hC, if_pos a1, if_pos a2, if_neg a3]) (fun d m hM => by rw [mpre d m hM, if_pos a1, if_pos a2, if_neg a3])
        · exact fail 1 (fun d m hC => by rw [cpre d m hC, if_pos a1, if_neg a2]) (fun d m hM => by rw [mpre d m hM, if_pos a1, if_neg a2])
      · exact fail 1 (fun d m hC => by rw [cpre d m hC, if_neg a1]) (fun d m hM => by rw [mpre d m hM, if_neg a1])
    · refine same (fun d m hC => ?_) (fun d m hM => ?_)
      · rw [c_X9_copy, k_isSheet]
        simp only [Option.bind_some, q_if]
        rw [if_pos hw, k_isSheet]
        simp only [Option.bind_some, q_if]
        rw [if_neg hz]
      · rw [c_X10_copy, k_misSheet]
        simp only [Option.bind_some, q_if]
        rw [if_pos hw, k_misSheet]
        simp only [Option.bind_some, q_if]
        rw [if_neg hz]
  · refine same (fun d m hC => ?_) (fun d m hM => ?_)
    · rw [c_X9_copy, k_isSheet]
      simp only [Option.bind_some, q_if]
      rw [if_neg hw]
    · rw [c_X10_copy, k_misSheet]
      simp only [Option.bind_some, q_if]
      rw [if_neg hw]
