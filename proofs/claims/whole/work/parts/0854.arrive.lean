/-! 10 arrive -/
def q_arr (S : q_St) (a b c e : Nat) : q_St := ((S.1.1, S.1.2 + 1), S.2.1, (fun f k => if k = S.1.2 then (if f = 0 then a else if f = 1 then b else if f = 2 then c else if f = 3 then e else 0) else S.2.2.1 f k), fun q k => if k = S.1.2 then false else S.2.2.2 q k)
theorem q_arr_C {m : z_M} {S : q_St} (hC : q_CS m 2 S) (a b c e : Nat) : q_CS (z_up (z_up (z_up (z_up (z_up (z_up (z_up (z_up m (5 + S.1.2) 0 (nI a)) (5 + S.1.2) 4 0) (5 + S.1.2) 5 0) (5 + S.1.2) 6 0) (5 + S.1.2) 1 (nI b)) (5 + S.1.2) 2 (nI c)) (5 + S.1.2) 3 (nI e)) 2 3 (nI (S.1.2 + 1))) 2 (q_arr S a b c e) := by
  have hz : z_b 0 = q_b false := by decide
  refine ⟨?_, ?_, fun s hs => ?_, fun k hk => ?_⟩
  · simp (disch := omega) only [q_ua, q_uk]
    exact hC.1
  · rw [q_uq]
    rfl
  · simp (disch := omega) only [q_ua]
    exact hC.2.2.1 s hs
  · have hk : k < S.1.2 + 1 := hk
    by_cases hq : k = S.1.2
    · subst hq
      refine ⟨fun f hf => ?_, ?_, ?_⟩
      · rw [z_up_ne (show 2 + 3 + S.1.2 ≠ 2 by omega), show 2 + 3 + S.1.2 = 5 + S.1.2 by omega]
        rcases (show f = 0 ∨ f = 1 ∨ f = 2 ∨ f = 3 ∨ f = 4 by omega) with rfl | rfl | rfl | rfl | rfl
        all_goals simp (disch := omega) only [q_uk, q_uq]
        all_goals simp [q_arr]
        all_goals rfl
      · rw [z_up_ne (show 2 + 3 + S.1.2 ≠ 2 by omega), show 2 + 3 + S.1.2 = 5 + S.1.2 by omega]
        simp (disch := omega) only [q_uk, q_uq, hz]
        simp [q_arr]
      · rw [z_up_ne (show 2 + 3 + S.1.2 ≠ 2 by omega), show 2 + 3 + S.1.2 = 5 + S.1.2 by omega]
        simp (disch := omega) only [q_uk, q_uq, hz]
        simp [q_arr]
    · rw [z_up_ne (by omega), z_up_ne (by omega), z_up_ne (by omega), z_up_ne (by omega), z_up_ne (by omega), z_up_ne (by omega), z_up_ne (by omega), z_up_ne (by omega)]
      have := hC.2.2.2 k (by omega)
      simpa [q_arr, hq] using this
theorem q_arr_M {m : z_M} {S : q_St} (hM : q_MS m S) (a b c e : Nat) : q_MS (z_up (z_up (z_up (z_up (z_up (z_up m 64 S.1.2 (nI a)) 65 S.1.2 (nI b)) 66 S.1.2 (nI c)) 67 S.1.2 (nI e)) 68 S.1.2 0) 59 6 (nI (S.1.2 + 1))) (q_arr S a b c e) := by
  have hb : ∀ q, q_bits (S.1.2 + 1) ((q_arr S a b c e).2.2.2 q) = q_bits S.1.2 (S.2.2.2 q) := by
    intro q
    simp only [q_bits]
    rw [q_bits_ext S.1.2 ((q_arr S a b c e).2.2.2 q) (S.2.2.2 q) (fun k hk => by simp [q_arr]; omega)]
    simp [q_arr]
  refine ⟨?_, ?_, fun s hs => ?_, fun k hk f hf => ?_, ?_, ?_⟩
  · simp (disch := omega) only [q_ua, q_uk]
    exact hM.1
  · rw [q_uq]
    rfl
  · simp (disch := omega) only [q_ua]
    exact hM.2.2.1 s hs
  · have hk : k < S.1.2 + 1 := hk
    by_cases hq : k = S.1.2
    · subst hq
      rcases (show f = 0 ∨ f = 1 ∨ f = 2 ∨ f = 3 ∨ f = 4 by omega) with rfl | rfl | rfl | rfl | rfl
      all_goals simp (disch := omega) only [q_ua, q_uq]
      all_goals simp [q_arr]
      all_goals rfl
    · have e1 : (q_arr S a b c e).2.2.1 f k = S.2.2.1 f k := by simp [q_arr, hq]
      rw [e1]
      simp (disch := omega) only [q_ua, q_uk]
      exact hM.gd (by omega) hf
  · simp (disch := omega) only [q_ua, q_uk]
    rw [hM.2.2.2.2.1]
    exact congrArg nI (hb 0).symm
  · simp (disch := omega) only [q_ua, q_uk]
    rw [hM.2.2.2.2.2]
    exact congrArg nI (hb 1).symm
theorem p_arrive (x y z w : Int32) : q_pr 70 136 [.int x, .int y, .int z, .int w] := by
  intro T hok
  have h6 := hok.1.2.1
  have cpre : ∀ (d : Nat) (m : z_M), q_C m T → z_go z_SH z_P (d + 20) 70 [.ref 0, .int x, .int y, .int z, .int w] m = if q_w 0 2 x = true then (if q_w 1 9 y = true then (if q_w 1 9 z = true then (if q_w 0 5 w = true then (if 0 < T.2.1.1.2 then (if T.2.1.1.2 < 6 then some (nI T.2.1.1.2, 0, z_up (z_up (z_up (z_up (z_up (z_up (z_up (z_up m (5 + T.2.1.1.2) 0 x) (5 + T.2.1.1.2) 4 0) (5 + T.2.1.1.2) 5 0) (5 + T.2.1.1.2) 6 0) (5 + T.2.1.1.2) 1 y) (5 + T.2.1.1.2) 2 z) (5 + T.2.1.1.2) 3 w) 2 3 (nI (T.2.1.1.2 + 1))) else some (-4, 0, m)) else some (-3, 0, m)) else some (-2, 0, m)) else some (-2, 0, m)) else some (-2, 0, m)) else some (-2, 0, m) := by
    intro d m hC
    rw [c_X9_arrive, k_within]
    simp only [Option.bind_some, q_if]
    by_cases c1 : q_w 0 2 x = true
    case neg => rw [if_neg c1, if_neg c1]
    rw [if_pos c1, if_pos c1, k_within]
    simp only [Option.bind_some, q_if]
    by_cases c2 : q_w 1 9 y = true
    case neg => rw [if_neg c2, if_neg c2]
    rw [if_pos c2, if_pos c2, k_within]
    simp only [Option.bind_some, q_if]
    by_cases c3 : q_w 1 9 z = true
    case neg => rw [if_neg c3, if_neg c3]
    rw [if_pos c3, if_pos c3, k_within]
    simp only [Option.bind_some, q_if]
    by_cases c4 : q_w 0 5 w = true
    case neg => rw [if_neg c4, if_neg c4]
    rw [if_pos c4, if_pos c4, k_stands (Or.inl rfl) hC.ng h6]
    simp only [Option.bind_some, q_if, decide_eq_true_eq]
    by_cases c5 : 0 < T.2.1.1.2
    case neg => rw [if_neg c5, if_neg c5]
    rw [if_pos c5, if_pos c5, hC.ng, show (6 : Int32) = nI 6 from rfl, q_nI_lt (by omega) (by decide)]
    by_cases c6 : T.2.1.1.2 < 6
    case neg => rw [if_neg c6, if_neg c6]
    rw [if_pos c6, if_pos c6, q_in c6 (by decide), z_g_t, q_cl (by omega), q_g5c c6, z_g_t, c_X1_checkIn, q_g5 c6 (by decide), z_g_t, q_g5 c6 (by decide), z_g_t, q_g5b c6 (by decide) (by decide), show (true && z_isb 0) = true from by decide, z_g_t, q_g5b c6 (by decide) (by decide), show (true && z_isb 0) = true from by decide, z_g_t]
    simp only [Option.bind_some]
    rw [q_g5 c6 (by decide), z_g_t, q_g5 c6 (by decide), z_g_t, q_g5 c6 (by decide), z_g_t, q_uq]
    simp (disch := omega) only [q_ua]
    rw [hC.ng, nI_1, nI_pred]
  have mpre : ∀ (d : Nat) (m : z_M), q_M m T → z_go z_SH z_P (d + 20) 136 [.ref 59, .int x, .int y, .int z, .int w] m = if q_w 0 2 x = true then (if q_w 1 9 y = true then (if q_w 1 9 z = true then (if q_w 0 5 w = true then (if 0 < T.2.1.1.2 then (if T.2.1.1.2 < 6 then some (nI T.2.1.1.2, 0, z_up (z_up (z_up (z_up (z_up (z_up m 64 T.2.1.1.2 x) 65 T.2.1.1.2 y) 66 T.2.1.1.2 z) 67 T.2.1.1.2 w) 68 T.2.1.1.2 0) 59 6 (nI (T.2.1.1.2 + 1))) else some (-4, 0, m)) else some (-3, 0, m)) else some (-2, 0, m)) else some (-2, 0, m)) else some (-2, 0, m)) else some (-2, 0, m) := by
    intro d m hM
    rw [c_X10_arrive, k_mwithin]
    simp only [Option.bind_some, q_if]
    by_cases c1 : q_w 0 2 x = true
    case neg => rw [if_neg c1, if_neg c1]
    rw [if_pos c1, if_pos c1, k_mwithin]
    simp only [Option.bind_some, q_if]
    by_cases c2 : q_w 1 9 y = true
    case neg => rw [if_neg c2, if_neg c2]
    rw [if_pos c2, if_pos c2, k_mwithin]
    simp only [Option.bind_some, q_if]
    by_cases c3 : q_w 1 9 z = true
    case neg => rw [if_neg c3, if_neg c3]
    rw [if_pos c3, if_pos c3, k_misTable]
    simp only [Option.bind_some, q_if]
    by_cases c4 : q_w 0 5 w = true
    case neg => rw [if_neg c4, if_neg c4]
    rw [if_pos c4, if_pos c4]
    simp (disch := omega) only [q_ua, hM.ng]
    rw [show (0 : Int32) = nI 0 from rfl, q_nI_if (by omega) (by decide)]
    by_cases c5 : 0 < T.2.1.1.2
    case neg => rw [if_neg c5, if_pos (by omega)]
    rw [if_pos c5, if_neg (by omega), show (6 : Int32) = nI 6 from rfl, q_nI_if (by omega) (by decide)]
    by_cases c6 : T.2.1.1.2 < 6
    case neg => rw [if_neg c6, if_pos (by omega)]
    rw [if_pos c6, if_neg (by omega), q_in c6 (by decide)]
    simp only [z_g_t]
    rw [q_uq, q_cl (by omega), nI_1, nI_pred]
  by_cases c1 : q_w 0 2 x = true
  case neg =>
    refine ⟨-2, 0, T, q_cop_same (fun d m hC => ?_), q_mop_same (fun d m hM => ?_), hok⟩
    · rw [cpre d m hC, if_neg c1]
    · rw [mpre d m hM, if_neg c1]
  by_cases c2 : q_w 1 9 y = true
  case neg =>
    refine ⟨-2, 0, T, q_cop_same (fun d m hC => ?_), q_mop_same (fun d m hM => ?_), hok⟩
    · rw [cpre d m hC, if_pos c1, if_neg c2]
    · rw [mpre d m hM, if_pos c1, if_neg c2]
  by_cases c3 : q_w 1 9 z = true
  case neg =>
    refine ⟨-2, 0, T, q_cop_same (fun d m hC => ?_), q_mop_same (fun d m hM => ?_), hok⟩
    · rw [cpre d m hC, if_pos c1, if_pos c2, if_neg c3]
    · rw [mpre d m hM, if_pos c1, if_pos c2, if_neg c3]
  by_cases c4 : q_w 0 5 w = true
  case neg =>
    refine ⟨-2, 0, T, q_cop_same (fun d m hC => ?_), q_mop_same (fun d m hM => ?_), hok⟩
    · rw [cpre d m hC, if_pos c1, if_pos c2, if_pos c3, if_neg c4]
    · rw [mpre d m hM, if_pos c1, if_pos c2, if_pos c3, if_neg c4]
  by_cases c5 : 0 < T.2.1.1.2
  case neg =>
    refine ⟨-3, 0, T, q_cop_same (fun d m hC => ?_), q_mop_same (fun d m hM => ?_), hok⟩
    · rw [cpre d m hC, if_pos c1, if_pos c2, if_pos c3, if_pos c4, if_neg c5]
    · rw [mpre d m hM, if_pos c1, if_pos c2, if_pos c3, if_pos c4, if_neg c5]
  by_cases c6 : T.2.1.1.2 < 6
  case neg =>
    refine ⟨-4, 0, T, q_cop_same (fun d m hC => ?_), q_mop_same (fun d m hM => ?_), hok⟩
    · rw [cpre d m hC, if_pos c1, if_pos c2, if_pos c3, if_pos c4, if_pos c5, if_neg c6]
    · rw [mpre d m hM, if_pos c1, if_pos c2, if_pos c3, if_pos c4, if_pos c5, if_neg c6]
  obtain ⟨a, a1, a2, rfl⟩ := q_w_lit (a := 0) (b := 2) rfl rfl c1 (by decide) (by decide)
  obtain ⟨b, b1, b2, rfl⟩ := q_w_lit (a := 1) (b := 9) rfl rfl c2 (by decide) (by decide)
  obtain ⟨c, cc1, cc2, rfl⟩ := q_w_lit (a := 1) (b := 9) rfl rfl c3 (by decide) (by decide)
  obtain ⟨e, e1, e2, rfl⟩ := q_w_lit (a := 0) (b := 5) rfl rfl c4 (by decide) (by decide)
  refine ⟨nI T.2.1.1.2, 0, q_sS T (q_arr T.2.1 a b c e), fun d m hC => ⟨_, by rw [cpre d m hC, if_pos c1, if_pos c2, if_pos c3, if_pos c4, if_pos c5, if_pos c6], ⟨⟨?_, ?_, ?_⟩, q_arr_C hC.2.1 a b c e, hC.2.2.1.of (fun q h1 h2 => ?_), hC.2.2.2.of (fun q h1 h2 => ?_)⟩, fun q hq => ?_⟩, fun d m hM => ⟨_, by rw [mpre d m hM, if_pos c1, if_pos c2, if_pos c3, if_pos c4, if_pos c5, if_pos c6], hM.ofS (q_arr_M hM.2.1 a b c e) (fun q hq hr => ?_) (fun q hq => ?_), fun q hq => ?_⟩, ⟨?_, ?_, hok.2.2⟩⟩
  · simp (disch := omega) only [q_ua]
    exact hC.1.1
  · simp (disch := omega) only [q_ua]
    exact hC.1.2.1
  · simp (disch := omega) only [q_ua, q_uk]
    exact hC.1.2.2
  · simp (disch := omega) only [z_up_ne]
  · simp (disch := omega) only [z_up_ne]
  · simp (disch := omega) only [z_up_ne]
  · simp (disch := omega) only [z_up_ne]
  · rw [q_uk (by omega)]
    simp (disch := omega) only [q_ua]
  · simp (disch := omega) only [z_up_ne]
  · obtain ⟨o1, o2, o3, o4, o5⟩ := hok.1
    refine ⟨o1, by show T.2.1.1.2 + 1 ≤ 6; omega, fun _ => o3 c5, o4, fun k hk => ?_⟩
    have hk : k < T.2.1.1.2 + 1 := hk
    by_cases hq : k = T.2.1.1.2
    · subst hq
      simp [q_arr, q_sS]
      omega
    · have := o5 k (by omega)
      simpa [q_arr, q_sS, hq] using this
  · refine ⟨hok.2.1.1, fun r hr => ?_⟩
    have := hok.2.1.2 r hr
    refine ⟨this.1, ?_⟩
    show T.2.2.1.2.2.1 r < T.2.1.1.2 + 1
    omega
