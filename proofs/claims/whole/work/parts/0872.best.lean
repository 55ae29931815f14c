def q_fb (m m1 : z_M) : Prop := (∀ a, a ≠ 59 → a ≠ 75 → a ≠ 76 → m1 a = m a) ∧ ∀ j, j ≠ 31 → j ≠ 32 → m1 59 j = m 59 j
theorem q_fb.tr {m m1 m2 : z_M} (h : q_fb m m1) (g : q_fb m1 m2) : q_fb m m2 := ⟨fun a h1 h2 h3 => (g.1 a h1 h2 h3).trans (h.1 a h1 h2 h3), fun j h1 h2 => (g.2 j h1 h2).trans (h.2 j h1 h2)⟩
theorem q_fb.S {m m1 : z_M} {S : q_St} (h : q_fb m m1) (hM : q_MS m S) : q_MS m1 S := hM.of (h.2 5 (by decide) (by decide)) (h.2 6 (by decide) (by decide)) (h.2 8 (by decide) (by decide)) (h.2 9 (by decide) (by decide)) (fun a h1 h2 => h.1 a (by omega) (by omega) (by omega))
theorem q_fb.M {m m1 : z_M} {T : q_T} (h : q_fb m m1) (hM : q_M m T) : q_M m1 T := hM.of (fun k hk => h.2 k (by omega) (by omega)) (fun a h1 h2 => h.1 a (by omega) (by omega) (by omega)) (fun a h1 h2 => h.1 a (by omega) (by omega) (by omega))
theorem k_mb27 (C : Nat → List Value → z_M → Option z_R) {ng b : Nat} (hg : ng ≤ 6) {m : z_M} (h6 : m 59 6 = nI ng) (h5 : m 59 5 + 1 = nI b) (x : Int32) : ∀ (c F q : Nat), q + c = ng → z_lp z_SH 0 (fun _ => 0) C me_X10_best (F + c + 1) 27 [some (.ref 59), some (.int x), some (.int (nI (b ^ q))), some (.int (nI q))] [] m = z_lp z_SH 0 (fun _ => 0) C me_X10_best F 63 [some (.ref 59), some (.int x), some (.int (nI (b ^ ng))), some (.int (nI 0))] [] (z_up (z_up m 59 31 (-9)) 59 32 0) := by
  intro c
  induction c with
  | zero =>
    intro F q hq
    rw [e_X10_best_27, h6, q_nI_le (by omega) (by omega), if_pos (by omega), show q = ng by omega]
    rfl
  | succ c ih =>
    intro F q hq
    rw [show F + (c + 1) + 1 = (F + c + 1) + 1 by omega, e_X10_best_27, h6, q_nI_le (by omega) (by omega), if_neg (by omega), h5, pk_mul, ← Nat.pow_succ, nI_1]
    exact ih F (q + 1) (by omega)
theorem q_un_f : ∀ n, q_un n (fun _ => false) = n
  | 0 => rfl
  | n + 1 => by
    simp only [q_un, q_un_f n]
    rfl
theorem k_mb63 {S : q_St} (hok : q_okS S) (d F : Nat) (x : Int32) (m : z_M) (hM : q_MS m S) (hB : q_MB S m none) : ∃ m1 F', z_lp z_SH 0 (fun _ => 0) (z_go z_SH z_P (d + 2)) me_X10_best (F + (S.1.1 + 1) ^ S.1.2 + 1) 63 [some (.ref 59), some (.int x), some (.int (nI ((S.1.1 + 1) ^ S.1.2))), some (.int (nI 0))] [] m = z_lp z_SH 0 (fun _ => 0) (z_go z_SH z_P (d + 2)) me_X10_best (F' + 1) 63 [some (.ref 59), some (.int x), some (.int (nI ((S.1.1 + 1) ^ S.1.2))), some (.int (nI ((S.1.1 + 1) ^ S.1.2)))] [] m1 ∧ q_MB S m1 (q_Bs S S.1.2 0 (fun _ => 0) none) ∧ q_fb m m1 := by
  have h6 := hok.2.1
  have h5 := hok.1
  have hN := q_pow6 (S.1.1 + 1) (by omega) S.1.2 (by omega)
  have key := q_gen0 (sk := fun _ => false) (ok := q_okB S) (b := S.1.1 + 1) (lf := q_try S) (q_okB_e S) (fun i B => ∀ m, q_MS m S → q_MB S m B → ∃ m1 F', z_lp z_SH 0 (fun _ => 0) (z_go z_SH z_P (d + 2)) me_X10_best (F + ((S.1.1 + 1) ^ S.1.2 - i) + 1) 63 [some (.ref 59), some (.int x), some (.int (nI ((S.1.1 + 1) ^ S.1.2))), some (.int (nI i))] [] m = z_lp z_SH 0 (fun _ => 0) (z_go z_SH z_P (d + 2)) me_X10_best (F' + 1) 63 [some (.ref 59), some (.int x), some (.int (nI ((S.1.1 + 1) ^ S.1.2))), some (.int (nI ((S.1.1 + 1) ^ S.1.2)))] [] m1 ∧ q_MB S m1 (q_Bs S S.1.2 0 (fun _ => 0) none) ∧ q_fb m m1) (n := S.1.2) (fun ρ B hb hp hQ => by
      intro m hM hB
      have hlt := q_vl_lt S.1.2 hb
      rw [q_un_f] at hlt
      obtain ⟨m1, e1, g1, f1⟩ := k_mcg0 hok hb d hM
      rw [hp] at e1
      have fb1 : q_fb m m1 := ⟨fun a h1 h2 h3 => f1 a h2, fun j h1 h2 => by rw [f1 59 (by decide)]⟩
      obtain ⟨m2, e2, g2, f2, k2⟩ := k_mtr0 hok d (fb1.S hM) (hB.of (f1 59 (by decide)) (f1 76 (by decide))) (g1 hp)
      have fb2 : q_fb m1 m2 := ⟨fun a h1 h2 h3 => f2 a h1 h3, k2⟩
      obtain ⟨m3, F', e3, g3, f3⟩ := hQ m2 (fb2.S (fb1.S hM)) g2
      refine ⟨m3, F', ?_, g3, (fb1.tr fb2).tr f3⟩
      rw [show F + ((S.1.1 + 1) ^ S.1.2 - q_vl (fun _ => false) (S.1.1 + 1) ρ S.1.2) + 1 = (F + ((S.1.1 + 1) ^ S.1.2 - (q_vl (fun _ => false) (S.1.1 + 1) ρ S.1.2 + 1)) + 1) + 1 by omega, e_X10_best_63, q_nI_le (by omega) (by omega), if_neg (by omega), e1]
      simp only [Option.bind_some]
      rw [if_neg q_b1, e2]
      simp only [Option.bind_some]
      rw [nI_1]
      exact e3) (fun ρ B hb hp hQ => by
      intro m hM hB
      have hlt := q_vl_lt S.1.2 hb
      rw [q_un_f] at hlt
      obtain ⟨m1, e1, g1, f1⟩ := k_mcg0 hok hb d hM
      rw [hp] at e1
      have fb1 : q_fb m m1 := ⟨fun a h1 h2 h3 => f1 a h2, fun j h1 h2 => by rw [f1 59 (by decide)]⟩
      obtain ⟨m3, F', e3, g3, f3⟩ := hQ m1 (fb1.S hM) (hB.of (f1 59 (by decide)) (f1 76 (by decide)))
      refine ⟨m3, F', ?_, g3, fb1.tr f3⟩
      rw [show F + ((S.1.1 + 1) ^ S.1.2 - q_vl (fun _ => false) (S.1.1 + 1) ρ S.1.2) + 1 = (F + ((S.1.1 + 1) ^ S.1.2 - (q_vl (fun _ => false) (S.1.1 + 1) ρ S.1.2 + 1)) + 1) + 1 by omega, e_X10_best_63, q_nI_le (by omega) (by omega), if_neg (by omega), e1]
      simp only [Option.bind_some]
      rw [if_pos (show q_b false = 0 by decide), nI_1]
      exact e3) (fun _ => 0) none (by
      intro m hM hB
      rw [q_pw_eq, q_un_f, Nat.sub_self]
      exact ⟨m, F, rfl, hB, fun _ _ _ _ => rfl, fun _ _ _ => rfl⟩)
  have key := key m hM hB
  rw [Nat.sub_zero] at key
  exact key
theorem k_mbest {S : q_St} (hok : q_okS S) (d : Nat) (x : Int32) (m : z_M) (hM : q_MS m S) : ∃ m1 F', z_lp z_SH 0 (fun _ => 0) (z_go z_SH z_P (d + 2)) me_X10_best 199999 27 [some (.ref 59), some (.int x), some (.int 1), some (.int 0)] [] m = z_lp z_SH 0 (fun _ => 0) (z_go z_SH z_P (d + 2)) me_X10_best (F' + 1) 63 [some (.ref 59), some (.int x), some (.int (nI ((S.1.1 + 1) ^ S.1.2))), some (.int (nI ((S.1.1 + 1) ^ S.1.2)))] [] m1 ∧ q_MB S m1 (q_Bs S S.1.2 0 (fun _ => 0) none) ∧ q_fb m m1 := by
  have h6 := hok.2.1
  have h5 := hok.1
  have hN := q_pow6 (S.1.1 + 1) (by omega) S.1.2 (by omega)
  have fb0 : q_fb m (z_up (z_up m 59 31 (-9)) 59 32 0) := ⟨fun a h1 h2 h3 => by rw [z_up_ne h1, z_up_ne h1], fun j h1 h2 => by rw [q_uk h2, q_uk h1]⟩
  have e0 := k_mb27 (z_go z_SH z_P (d + 2)) h6 hM.2.1 (b := S.1.1 + 1) (by rw [hM.1, nI_1]) x S.1.2 (199999 - S.1.2 - 1) 0 (Nat.zero_add _)
  obtain ⟨m1, F', e1, g1, f1⟩ := k_mb63 hok d (199999 - S.1.2 - 1 - (S.1.1 + 1) ^ S.1.2 - 1) x (z_up (z_up m 59 31 (-9)) 59 32 0) (fb0.S hM) ⟨by rw [q_uk (by decide), q_uq], by rw [q_uq]⟩
  rw [show 199999 - S.1.2 - 1 - (S.1.1 + 1) ^ S.1.2 - 1 + (S.1.1 + 1) ^ S.1.2 + 1 = 199999 - S.1.2 - 1 by omega] at e1
  rw [show 199999 - S.1.2 - 1 + S.1.2 + 1 = 199999 by omega, Nat.pow_zero] at e0
  exact ⟨m1, F', e0.trans e1, g1, fb0.tr f1⟩
theorem p_best (x : Int32) : q_pr 76 155 [.int x] := by
  intro T hok
  have h6 := hok.1.2.1
  have h5 := hok.1.1
  by_cases b1 : q_w (-2) 5 x = true
  case neg =>
    refine ⟨-2, 0, T, q_cop_same (fun d m hC => ?_), q_mop_same (fun d m hM => ?_), hok⟩
    · rw [c_X9_best, k_within]
      simp only [Option.bind_some, q_if]
      rw [if_neg b1]
    · rw [c_X10_best, k_mwithin]
      simp only [Option.bind_some, q_if]
      rw [if_neg b1]
  by_cases hz : 0 < T.2.1.1.2
  case neg =>
    refine ⟨-3, 0, T, q_cop_same (fun d m hC => ?_), q_mop_same (fun d m hM => ?_), hok⟩
    · rw [c_X9_best, k_within]
      simp only [Option.bind_some, q_if]
      rw [if_pos b1, k_stands (Or.inl rfl) hC.ng h6]
      simp only [Option.bind_some, q_if]
      rw [if_neg (by simpa using hz)]
    · rw [c_X10_best, k_mwithin]
      simp only [Option.bind_some, q_if]
      rw [if_pos b1, hM.ng, if_pos (by rw [show T.2.1.1.2 = 0 by omega]; rfl)]
  have hnz : ¬ nI T.2.1.1.2 = (0 : Int32) := nI_ne0 hz (by omega)
  have hN := q_pow6 (T.2.1.1.1 + 1) (by omega) T.2.1.1.2 (by omega)
  obtain ⟨b, hb⟩ := q_Bs_some T.2.1 T.2.1.1.2 0 (fun _ => 0) none
  have hcl : ∀ (d : Nat) (m : z_M), q_C m T → ∃ m1, (z_go z_SH z_P (d + 20) 76 [.ref 0, .int x] m = if x = (-2) then (some (m1 48 2, 0, m1)) else (if x = (-1) then (some (m1 48 3, 0, m1)) else (Option.bind (z_go z_SH z_P (d + 19) 46 [.ref 48, .int x] m1) (fun r4 => some (r4.1, 0, r4.2.2))))) ∧ q_CB T.2.1 m1 (some b) ∧ q_C m1 T ∧ ∀ a, 59 ≤ a → m1 a = m a := by
    intro d m hC
    obtain ⟨m1, e1, g1, f1⟩ := k_choose hok.1 (d + 8) hC.2.1
    rw [hb] at g1
    refine ⟨m1, ?_, g1, hC.of h6 (fun a ha => f1 a (by omega) (by omega) (by omega)) (fun a h1 h2 => f1 a (by omega) (by omega) (by omega)) (fun a h1 h2 => f1 a (by omega) (by omega) (by omega)), fun a ha => f1 a (by omega) (by omega) (by omega)⟩
    rw [c_X9_best, k_within]
    simp only [Option.bind_some, q_if]
    rw [if_pos b1, k_stands (Or.inl rfl) hC.ng h6]
    simp only [Option.bind_some, q_if]
    rw [if_pos (by simpa using hz), show d + 19 = d + 8 + 11 from rfl, e1]
    rfl
  have hml : ∀ (d : Nat) (m : z_M), q_M m T → ∃ m1, (z_go z_SH z_P (d + 20) 155 [.ref 59, .int x] m = if 0 ≤ x then (Option.bind (z_go z_SH z_P (d + 19) 113 [.ref 59, .int x] m1) (fun r1 => if r1.1 = 0 then (some ((-9), 0, r1.2.2)) else (z_g (z_in 6 x) (if (r1.2.2 76 x.toNatClampNeg) = 9 then (some ((-9), 0, r1.2.2)) else (z_g (z_in 6 x) (some (r1.2.2 76 x.toNatClampNeg, 0, r1.2.2))))))) else (if x = (-2) then (some (m1 59 31, 0, m1)) else (some (m1 59 32, 0, m1)))) ∧ q_MB T.2.1 m1 (some b) ∧ q_M m1 T ∧ ∀ a, a < 59 → m1 a = m a := by
    intro d m hM
    obtain ⟨m1, F', e1, g1, f1⟩ := k_mbest hok.1 (d + 17) x m hM.2.1
    rw [hb] at g1
    refine ⟨m1, ?_, g1, f1.M hM, fun a ha => f1.1 a (by omega) (by omega) (by omega)⟩
    rw [c_X10_best, k_mwithin]
    simp only [Option.bind_some, q_if]
    rw [if_pos b1, hM.ng, if_neg hnz, show d + 19 = d + 17 + 2 from rfl, e1, e_X10_best_63, q_nI_le (by omega) (by omega), if_pos (Nat.le_refl _)]
  rcases q_w_m (Or.inr (by decide)) b1 with rfl | rfl | ⟨v, hv, rfl⟩
  · refine ⟨nI b.2.1, 0, T, fun d m hC => ?_, fun d m hM => ?_, hok⟩
    · obtain ⟨m1, e1, g1, c1, f1⟩ := hcl d m hC
      exact ⟨m1, by rw [e1, if_neg (by decide), if_pos rfl, g1.2.2.1], c1, f1⟩
    · obtain ⟨m1, e1, g1, c1, f1⟩ := hml d m hM
      exact ⟨m1, by rw [e1, if_neg (by decide), if_neg (by decide), g1.2.2.1], c1, f1⟩
  · refine ⟨nI b.1, 0, T, fun d m hC => ?_, fun d m hM => ?_, hok⟩
    · obtain ⟨m1, e1, g1, c1, f1⟩ := hcl d m hC
      exact ⟨m1, by rw [e1, if_pos rfl, g1.2.1], c1, f1⟩
    · obtain ⟨m1, e1, g1, c1, f1⟩ := hml d m hM
      exact ⟨m1, by rw [e1, if_neg (by decide), if_pos rfl, g1.2.1], c1, f1⟩
  · refine ⟨if v < T.2.1.1.2 then (if q_enc T.2.1 b.2.2 v = 9 then -9 else q_enc T.2.1 b.2.2 v) else -9, 0, T, fun d m hC => ?_, fun d m hM => ?_, hok⟩
    · obtain ⟨m1, e1, g1, c1, f1⟩ := hcl d m hC
      refine ⟨m1, ?_, c1, f1⟩
      rw [e1, if_neg (q_ne_m1 v hv).2, if_neg (q_ne_m1 v hv).1, c_X6_signFor, q_in hv (by decide), z_g_t, z_g_t, q_cl (by omega), g1.2.2.2 v hv]
      by_cases hg : v < T.2.1.1.2
      · rw [if_pos hg, if_pos hg]
        by_cases h9 : q_enc T.2.1 b.2.2 v = 9
        · rw [if_pos h9, if_pos h9]
          rfl
        · rw [if_neg h9, if_neg h9]
          rfl
      · rw [if_neg hg, if_neg hg, if_pos rfl]
        rfl
    · obtain ⟨m1, e1, g1, c1, f1⟩ := hml d m hM
      refine ⟨m1, ?_, c1, f1⟩
      rw [e1, if_pos (q_nonneg hv), k_misGuest _ _ c1.ng h6, q_v_nI (by omega)]
      simp only [Option.bind_some, q_if]
      by_cases hg : v < T.2.1.1.2
      · rw [if_pos (by simpa using hg), if_pos hg, q_in hv (by decide), z_g_t, z_g_t, q_cl (by omega), g1.2.2.2 v hg]
        by_cases h9 : q_enc T.2.1 b.2.2 v = 9
        · rw [if_pos h9, if_pos h9]
        · rw [if_neg h9, if_neg h9]
      · rw [if_neg (by simpa using hg), if_neg hg]
