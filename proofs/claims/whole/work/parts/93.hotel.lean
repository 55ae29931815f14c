/-! 2 hotel: what is read is taken -/
def q_g4 (G : Nat → Nat → Nat) : Nat → Nat → Nat := fun f k => if f = 4 then 0 else G f k
theorem k_mth1 {ns : Nat} {H : Nat → Nat} (h5 : ns ≤ 5) (C : Nat → List Value → z_M → Option z_R) : ∀ (j F s : Nat) (m : z_M), s + j = ns → m 59 5 = nI ns → (∀ t, t < ns → m 69 t = nI (H t)) → ∃ m1, z_lp z_SH 0 (fun _ => 0) C me_X10_takeHotel (F + j + 1) 10 [some (.ref 59), some (.int (nI s))] [] m = z_lp z_SH 0 (fun _ => 0) C me_X10_takeHotel F 46 [some (.ref 59), some (.int 0)] [] (z_up m1 59 6 (m1 59 18)) ∧ (∀ t, s ≤ t → t < ns → m1 63 t = nI (H t)) ∧ (∀ t, t < s → m1 63 t = m 63 t) ∧ ∀ a, a ≠ 63 → m1 a = m a := by
  intro j
  induction j with
  | zero =>
    intro F s m hj h5m hH
    refine ⟨m, ?_, fun t h1 h2 => by omega, fun _ _ => rfl, fun _ _ => rfl⟩
    rw [e_X10_takeHotel_10, h5m, q_nI_le (by omega) (by omega), if_pos (by omega)]
  | succ j ih =>
    intro F s m hj h5m hH
    obtain ⟨m1, g1, g2, g3, g4⟩ := ih F (s + 1) (z_up m 63 s (nI (H s))) (by omega) (by rw [q_ua (by decide)]; exact h5m) (fun t ht => by rw [q_ua (by decide)]; exact hH t ht)
    refine ⟨m1, ?_, fun t h1 h2 => ?_, fun t ht => ?_, fun a ha => by rw [g4 a ha, z_up_ne ha]⟩
    · rw [show F + (j + 1) + 1 = (F + j + 1) + 1 by omega, e_X10_takeHotel_10, h5m, q_nI_le (by omega) (by omega), if_neg (by omega), q_in (show s < 5 by omega) (by decide), z_g_t, z_g_t, q_cl (by omega), hH s (by omega), nI_1]
      exact g1
    · by_cases e : t = s
      · subst e
        rw [g3 t (by omega), q_uq]
      · exact g2 t (by omega) h2
    · rw [g3 t (by omega), q_uk (by omega)]
theorem k_mth2 {ng : Nat} {G : Nat → Nat → Nat} (h6 : ng ≤ 6) (C : Nat → List Value → z_M → Option z_R) : ∀ (j F k : Nat) (m : z_M), k + j = ng → m 59 6 = nI ng → (∀ q, q < ng → ∀ f, f < 4 → m 70 (4 * q + f) = nI (G f q)) → ∃ m1, z_lp z_SH 0 (fun _ => 0) C me_X10_takeHotel (F + j + 1) 46 [some (.ref 59), some (.int (nI k))] [] m = some (0, 0, z_up (z_up (z_up (z_up m1 59 7 0) 59 8 0) 59 9 0) 59 33 0) ∧ (∀ q, k ≤ q → q < ng → ∀ f, f < 5 → m1 (64 + f) q = nI (q_g4 G f q)) ∧ (∀ q, q < k → ∀ f, f < 5 → m1 (64 + f) q = m (64 + f) q) ∧ ∀ a, (a < 64 ∨ 69 ≤ a) → m1 a = m a := by
  intro j
  induction j with
  | zero =>
    intro F k m hj h6m hG
    refine ⟨m, ?_, fun t h1 h2 => by omega, fun _ _ _ _ => rfl, fun _ _ => rfl⟩
    rw [e_X10_takeHotel_46, h6m, q_nI_le (by omega) (by omega), if_pos (by omega)]
  | succ j ih =>
    intro F k m hj h6m hG
    have e4 : (4 : Int32) * nI k = nI (4 * k) := by rw [show (4 : Int32) = nI 4 from rfl, pk_mul]
    have e42 : nI (4 * k) + 2 = nI (4 * k + 2) := nI_add _ 2
    have e43 : nI (4 * k) + 3 = nI (4 * k + 3) := nI_add _ 3
    have hk6 : k < 6 := by omega
    have fr : ∀ a, (a < 64 ∨ 69 ≤ a) → z_up (z_up (z_up (z_up (z_up m 64 k (nI (G 0 k))) 65 k (nI (G 1 k))) 66 k (nI (G 2 k))) 67 k (nI (G 3 k))) 68 k 0 a = m a := fun a ha => by rw [z_up_ne (by omega), z_up_ne (by omega), z_up_ne (by omega), z_up_ne (by omega), z_up_ne (by omega)]
    obtain ⟨m1, g1, g2, g3, g4⟩ := ih F (k + 1) (z_up (z_up (z_up (z_up (z_up m 64 k (nI (G 0 k))) 65 k (nI (G 1 k))) 66 k (nI (G 2 k))) 67 k (nI (G 3 k))) 68 k 0) (by omega) (by rw [fr 59 (by decide)]; exact h6m) (fun q hq f hf => by rw [fr 70 (by decide)]; exact hG q hq f hf)
    refine ⟨m1, ?_, fun q h1 h2 f hf => ?_, fun q hq f hf => ?_, fun a ha => by rw [g4 a ha, fr a ha]⟩
    · rw [show F + (j + 1) + 1 = (F + j + 1) + 1 by omega, e_X10_takeHotel_46, h6m, q_nI_le (by omega) (by omega), if_neg (by omega), e4, nI_1, e42, e43, q_in (show 4 * k < 24 by omega) (by decide), q_in (show 4 * k + 1 < 24 by omega) (by decide), q_in (show 4 * k + 2 < 24 by omega) (by decide), q_in (show 4 * k + 3 < 24 by omega) (by decide), q_in hk6 (by decide)]
      simp only [z_g_t]
      rw [q_cl (show 4 * k < 2147483648 by omega), q_cl (show 4 * k + 1 < 2147483648 by omega), q_cl (show 4 * k + 2 < 2147483648 by omega), q_cl (show 4 * k + 3 < 2147483648 by omega), q_cl (show k < 2147483648 by omega), nI_1]
      simp only [z_up_ne (show (70 : Nat) ≠ 64 by decide), z_up_ne (show (70 : Nat) ≠ 65 by decide), z_up_ne (show (70 : Nat) ≠ 66 by decide), z_up_ne (show (70 : Nat) ≠ 67 by decide)]
      rw [show m 70 (4 * k) = nI (G 0 k) from hG k (by omega) 0 (by decide), hG k (by omega) 1 (by decide), hG k (by omega) 2 (by decide), hG k (by omega) 3 (by decide)]
      exact g1
    · by_cases e : q = k
      · subst e
        rw [g3 q (by omega) f hf]
        rcases (show f = 0 ∨ f = 1 ∨ f = 2 ∨ f = 3 ∨ f = 4 by omega) with rfl | rfl | rfl | rfl | rfl
        · rw [q_ua (by decide), q_ua (by decide), q_ua (by decide), q_ua (by decide)]
          exact q_uq _ _ _ _
        · rw [q_ua (by decide), q_ua (by decide), q_ua (by decide)]
          exact q_uq _ _ _ _
        · rw [q_ua (by decide), q_ua (by decide)]
          exact q_uq _ _ _ _
        · rw [q_ua (by decide)]
          exact q_uq _ _ _ _
        · exact q_uq _ _ _ _
      · exact g2 q (by omega) h2 f hf
    · rw [g3 q (by omega) f hf, q_uk (by omega), q_uk (by omega), q_uk (by omega), q_uk (by omega), q_uk (by omega)]
theorem k_mth {ns ng : Nat} {H : Nat → Nat} {G : Nat → Nat → Nat} (h5 : ns ≤ 5) (h6 : ng ≤ 6) (d : Nat) {m : z_M} (hM : q_MT m ns H ng G) : ∃ m1, z_go z_SH z_P (d + 1) 120 [.ref 59] m = some (0, 0, m1) ∧ q_MS m1 ((ns, ng), H, q_g4 G, fun _ _ => false) ∧ m1 59 7 = 0 ∧ m1 59 33 = 0 ∧ (∀ j, j ≠ 5 → j ≠ 6 → j ≠ 7 → j ≠ 8 → j ≠ 9 → j ≠ 33 → m1 59 j = m 59 j) ∧ ∀ a, a ≠ 59 → (a < 63 ∨ 69 ≤ a) → m1 a = m a := by
  obtain ⟨m1, a1, a2, a3, a4⟩ := k_mth1 h5 (z_go z_SH z_P d) ns (199998 - ns) 0 (z_up m 59 5 (nI ns)) (Nat.zero_add _) (by rw [q_uq]) (fun t ht => by rw [q_ua (by decide)]; exact hM.2.2.1 t ht)
  have h18 : m1 59 18 = nI ng := by
    rw [a4 59 (by decide), q_uk (by decide)]
    exact hM.2.1
  rw [h18] at a1
  obtain ⟨m2, b1, b2, b3, b4⟩ := k_mth2 h6 (z_go z_SH z_P d) ng (199998 - ns - ng - 1) 0 (z_up m1 59 6 (nI ng)) (Nat.zero_add _) (by rw [q_uq]) (fun q hq f hf => by rw [q_ua (by decide), a4 70 (by decide), q_ua (by decide)]; exact hM.2.2.2 q hq f hf)
  have fk : ∀ j, j ≠ 5 → j ≠ 6 → m2 59 j = m 59 j := fun j h1 h2 => by rw [b4 59 (by decide), q_uk h2, a4 59 (by decide), q_uk h1]
  have f5 : m2 59 5 = nI ns := by rw [b4 59 (by decide), q_uk (by decide), a4 59 (by decide), q_uq]
  have f6 : m2 59 6 = nI ng := by rw [b4 59 (by decide), q_uq]
  have hb0 : nI (q_bits ng (fun _ => false)) = 0 := by
    rw [q_bits0 ng (fun _ => false) (fun _ _ => rfl)]
    rfl
  refine ⟨z_up (z_up (z_up (z_up m2 59 7 0) 59 8 0) 59 9 0) 59 33 0, ?_, ⟨?_, ?_, fun s hs => ?_, fun k hk f hf => ?_, ?_, ?_⟩, ?_, ?_, fun j h1 h2 h3 h4 h5 h6 => ?_, fun a h1 h2 => ?_⟩
  · rw [c_X10_takeHotel, hM.1]
    rw [show 199998 - ns + ns + 1 = 199999 by omega] at a1
    rw [show 199998 - ns - ng - 1 + ng + 1 = 199998 - ns by omega] at b1
    exact a1.trans b1
  · rw [q_uk (by decide), q_uk (by decide), q_uk (by decide), q_uk (by decide)]
    exact f5
  · rw [q_uk (by decide), q_uk (by decide), q_uk (by decide), q_uk (by decide)]
    exact f6
  · rw [q_ua (by decide), q_ua (by decide), q_ua (by decide), q_ua (by decide), b4 63 (by decide), q_ua (by decide)]
    exact a2 s (Nat.zero_le _) hs
  · rw [q_ua (by omega), q_ua (by omega), q_ua (by omega), q_ua (by omega)]
    exact b2 k (Nat.zero_le _) hk f hf
  · rw [q_uk (by decide), q_uk (by decide), q_uq]
    exact hb0.symm
  · rw [q_uk (by decide), q_uq]
    exact hb0.symm
  · rw [q_uk (by decide), q_uk (by decide), q_uk (by decide), q_uq]
  · rw [q_uq]
  · rw [q_uk h6, q_uk h5, q_uk h4, q_uk h3, fk j h1 h2]
  · rw [z_up_ne h1, z_up_ne h1, z_up_ne h1, z_up_ne h1, b4 a (by omega), z_up_ne h1, a4 a (by omega), z_up_ne h1]
def q_newT (T : q_T) (ns ng : Nat) (H : Nat → Nat) (G : Nat → Nat → Nat) : q_T := ((0, T.1.2.1, 0), ((ns, ng), H, q_g4 G, fun _ _ => false), (0, T.2.2.1.2), T.2.2.2)
theorem q_newT_ok {T : q_T} (hok : q_ok T) {ns ng : Nat} {H : Nat → Nat} {G : Nat → Nat → Nat} (h : q_okT (6, ns, H, ng, G)) : q_ok (q_newT T ns ng H G) := by
  obtain ⟨hp, h1, h2, h3, h4, h5, h6, h7, h8, h9⟩ := h
  refine ⟨⟨h1, h2, fun _ => h6 (by decide), h3, fun k hk => ?_⟩, ⟨Nat.zero_le _, fun r hr => absurd hr (Nat.not_lt_zero r)⟩, hok.2.2⟩
  obtain ⟨a, b, c, d⟩ := h4 k hk
  have c' := c (by decide)
  exact ⟨a (by decide), b (by decide), c', d (by decide), Nat.zero_le _, fun _ => show 0 < G 2 k from c'.1⟩
theorem q_n960 : ∀ p, p ≤ 60 → ¬ nI p = (-9 : Int32) := by decide +kernel
theorem p_hotel (x y z w : Int32) : q_pr 62 119 [.int x, .int y, .int z, .int w] := by
  intro T hok
  have h5 := hok.1.1
  have h6 := hok.1.2.1
  have c0 : ∀ m : z_M, q_C m T → q_C (z_up m 0 10 0) (q_setFt T 0) := fun m hC => q_setFt_C hC h6 0
  have m0 : ∀ m : z_M, q_M m T → q_M (z_up m 59 0 0) (q_setFt T 0) := fun m hM => q_setFt_M hM 0
  by_cases b1 : q_w 0 3 x = true
  case neg =>
    refine q_same0 hok (-1) (fun d m hC => ?_) (fun d m hM => ?_)
    · rw [c_X9_hotel, k_isSheet]
      simp only [Option.bind_some, q_if]
      rw [if_neg b1]
    · rw [c_X10_hotel, k_misSheet]
      simp only [Option.bind_some, q_if]
      rw [if_neg b1]
  by_cases b2 : q_w 0 2 y = true
  case neg =>
    refine q_same0 hok (-2) (fun d m hC => ?_) (fun d m hM => ?_)
    · rw [c_X9_hotel, k_isSheet]
      simp only [Option.bind_some, q_if]
      rw [if_pos b1, k_within]
      simp only [Option.bind_some, q_if]
      rw [if_neg b2]
    · rw [c_X10_hotel, k_misSheet]
      simp only [Option.bind_some, q_if]
      rw [if_pos b1, k_misSort]
      simp only [Option.bind_some, q_if]
      rw [if_neg b2]
  obtain ⟨k, -, hk3, rfl⟩ := q_w_nI (a := 0) (b := 3) b1 (by decide) (by decide)
  have hk : k < 4 := by omega
  obtain ⟨hl2, hl60⟩ := hok.2.2 k hk
  have cpre : ∀ (d : Nat) (m : z_M), q_C m T → z_go z_SH z_P (d + 20) 62 [.ref 0, .int (nI k), .int y, .int z, .int w] m = if q_ag T k y z w = 0 then (Option.bind (z_go z_SH z_P (d + 19) 55 [.ref 20, .ref (51 + 2 * k), .int z, .int w] (z_up m 0 10 0)) (fun r5 => if r5.1 = (-9) then (Option.bind (z_go z_SH z_P (d + 19) 14 [.ref 2, .ref 21] r5.2.2) (fun r6 => some ((z_up r6.2.2 40 3 0) 2 3, 0, z_up r6.2.2 40 3 0))) else (some ((-100) - r5.1, 0, r5.2.2)))) else some (-10 - q_ag T k y z w, 0, z_up (z_up m 0 10 0) 0 10 (q_ag T k y z w)) := by
    intro d m hC
    have hc := c0 m hC
    rw [c_X9_hotel, k_isSheet]
    simp only [Option.bind_some, q_if]
    rw [if_pos b1, k_within]
    simp only [Option.bind_some, q_if]
    rw [if_pos b2, q_in hk (by decide), z_g_t, q_cl (by omega), (q_s hk).1, z_g_t, k_faultAs hc hok.2.2 hk]
    simp only [Option.bind_some, z_g_t]
    rw [k_fcells hc hok.2.2 hk]
    simp only [Option.bind_some]
    rw [c_X9_failed, c_X9_failed, c_X9_failed]
    simp only [Option.bind_some]
    unfold q_ag
    by_cases e1 : T.2.2.2.1 k = true
    · rw [if_pos (show (q_setFt T 0).2.2.2.1 k = true from e1), if_pos e1]
      by_cases e2 : nI (T.2.2.2.2.1 k) = y
      · rw [if_pos (show nI ((q_setFt T 0).2.2.2.2.1 k) = y from e2), if_pos e2, if_pos rfl]
        by_cases e0 : (0 : Int32) ≤ w
        · rw [if_pos e0, if_pos e0]
          by_cases e3 : q_fc (T.2.2.2.2.2.1 k) z w = true
          · rw [if_pos (show q_fc ((q_setFt T 0).2.2.2.2.2.1 k) z w = true from e3), if_pos e3, if_pos rfl]
          · rw [if_neg (show ¬ q_fc ((q_setFt T 0).2.2.2.2.2.1 k) z w = true from e3), if_neg e3, if_neg (show ¬ ((3 : Int32) = 0) by decide)]
        · rw [if_neg e0, if_neg e0, if_neg (show ¬ ((4 : Int32) = 0) by decide)]
      · rw [if_neg (show ¬ nI ((q_setFt T 0).2.2.2.2.1 k) = y from e2), if_neg e2, if_neg (show ¬ ((2 : Int32) = 0) by decide), if_neg (show ¬ ((2 : Int32) = 0) by decide)]
    · rw [if_neg (show ¬ (q_setFt T 0).2.2.2.1 k = true from e1), if_neg e1, if_neg (show ¬ ((1 : Int32) = 0) by decide), if_neg (show ¬ ((1 : Int32) = 0) by decide)]
  have mpre : ∀ (d : Nat) (m : z_M), q_M m T → z_go z_SH z_P (d + 20) 119 [.ref 59, .int (nI k), .int y, .int z, .int w] m = if q_ag T k y z w = 0 then (Option.bind (z_go z_SH z_P (d + 19) 121 [.ref 59, .int (((60 * nI k) + z) + w)] (z_up (z_up m 59 0 0) 59 16 ((60 * nI k) + z))) (fun r4 => if r4.1 = 0 then (some ((-100) - ((r4.2.2 59 16) - ((60 * nI k) + z)), 0, r4.2.2)) else (Option.bind (z_go z_SH z_P (d + 19) 120 [.ref 59] r4.2.2) (fun r5 => some (r5.2.2 59 6, 0, r5.2.2))))) else some (-10 - q_ag T k y z w, 0, z_up (z_up m 59 0 0) 59 0 (q_ag T k y z w)) := by
    intro d m hM
    have hc := m0 m hM
    have hag : q_ag (q_setFt T 0) k y z w = q_ag T k y z w := rfl
    rw [c_X10_hotel, k_misSheet]
    simp only [Option.bind_some, q_if]
    rw [if_pos b1, k_misSort]
    simp only [Option.bind_some, q_if]
    rw [if_pos b2, k_against hc hok.2.2 hk, hag]
    simp only [Option.bind_some]
    rw [c_X10_fails]
    rfl
  by_cases hag : q_ag T k y z w = 0
  case neg =>
    refine q_fail hok (q_ag T k y z w) (fun d m hC => ?_) (fun d m hM => ?_)
    · rw [cpre d m hC, if_neg hag]
    · rw [mpre d m hM, if_neg hag]
  have hfc : q_fc (T.2.2.2.2.2.1 k) z w = true := by
    unfold q_ag at hag
    by_cases e1 : T.2.2.2.1 k = true
    · rw [if_pos e1] at hag
      by_cases e2 : nI (T.2.2.2.2.1 k) = y
      · rw [if_pos e2] at hag
        by_cases e0 : (0 : Int32) ≤ w
        · rw [if_pos e0] at hag
          by_cases e3 : q_fc (T.2.2.2.2.2.1 k) z w = true
          · exact e3
          · rw [if_neg e3] at hag
            exact absurd hag (by decide)
        · rw [if_neg e0] at hag
          exact absurd hag (by decide)
      · rw [if_neg e2] at hag
        exact absurd hag (by decide)
    · rw [if_neg e1] at hag
      exact absurd hag (by decide)
  obtain ⟨i, n, rfl, rfl, hin⟩ := q_fc_t hl60 hfc
  have hin : i + n ≤ 60 := by omega
  have hb : 60 * k + i + n ≤ 240 := by omega
  have hmc : ∀ m : z_M, q_M m T → q_cel (60 * k + i) n (fun j => T.2.2.2.2.2.2 k (i + j)) (z_up (z_up m 59 0 0) 59 16 (nI (60 * k + i))) := fun m hM j hj => by
    rw [q_ua (by decide), q_ua (by decide), Nat.add_assoc (60 * k)]
    exact (hM.2.2.2 k hk).2.2 _ (by omega)
  have cff := fun (d : Nat) (m : z_M) (hC : q_C m T) => k_ff0 hk hin (c := fun j => T.2.2.2.2.2.2 k (i + j)) (d + 15) (m := z_up m 0 10 0) (fun j hj => by rw [z_up_ne (by omega)]; exact (hC.2.2.2 k hk).2.2.2 _ (by omega))
  have mff := fun (d : Nat) (m : z_M) (hM : q_M m T) => k_mrh hb (c := fun j => T.2.2.2.2.2.2 k (i + j)) (d + 15) (hmc m hM) (q_uq _ _ _ _)
  have hl := fun p => q_tr_l (c := fun j => T.2.2.2.2.2.2 k (i + j)) (p := p) n 0 q_T0
  have hr := fun A' => q_tr_r (c := fun j => T.2.2.2.2.2.2 k (i + j)) (A' := A') n 0 q_T0 q_T0_ok
  generalize q_tr (fun j => T.2.2.2.2.2.2 k (i + j)) n 0 q_T0 = R at cff mff hl hr
  rcases R with p | A
  · have hp : p ≤ n := by
      have := hl p rfl
      omega
    refine ⟨-100 - nI p, 0, q_setFt T 0, fun d m hC => ?_, fun d m hM => ?_, hok⟩
    · obtain ⟨m1, e1, -, f1⟩ := cff d m hC
      refine ⟨m1, ?_, (c0 m hC).of h6 (fun a ha => f1 a (by omega)) (fun a h1 h2 => f1 a (by omega)) (fun a h1 h2 => f1 a (by omega)), fun a ha => by rw [f1 a (by omega), z_up_ne (by omega)]⟩
      rw [cpre d m hC, if_pos hag, e1]
      simp only [Option.bind_some]
      rw [if_neg (show ¬ ((Sum.inl p : Nat ⊕ q_TA).elim nI (fun _ => -9)) = (-9 : Int32) from q_n960 p (by omega))]
      rfl
    · obtain ⟨m1, e1, r1, -, f1⟩ := mff d m hM
      have fa : ∀ a, a ≠ 59 → a ≠ 69 → a ≠ 70 → m1 a = z_up m 59 0 0 a := fun a h1 h2 h3 => by rw [f1.1 a h1 h2 h3, z_up_ne h1]
      have fk : ∀ j, j ≠ 16 → j ≠ 17 → j ≠ 18 → m1 59 j = z_up m 59 0 0 59 j := fun j h1 h2 h3 => by rw [f1.2 j h1 h2 h3, q_uk h1]
      refine ⟨m1, ?_, (m0 m hM).of (fun j hj => fk j (by omega) (by omega) (by omega)) (fun a h1 h2 => fa a (by omega) (by omega) (by omega)) (fun a h1 h2 => fa a (by omega) (by omega) (by omega)), fun a ha => by rw [fa a (by omega) (by omega) (by omega), z_up_ne (by omega)]⟩
      rw [mpre d m hM, if_pos hag, q_ix, nI_add, e1]
      simp only [Option.bind_some]
      rw [if_pos (show q_b (q_rb (.inl p)) = 0 from rfl), r1 p rfl, pk_sub (by omega), show 60 * k + i + p - (60 * k + i) = p by omega]
  · obtain ⟨hA, hA6⟩ := hr A rfl
    obtain ⟨p, ns, H, ng, G⟩ := A
    obtain rfl : p = 6 := hA6
    have hok' := q_newT_ok hok hA
    have g5 : ns ≤ 5 := hA.2.1
    have g6 : ng ≤ 6 := hA.2.2.1
    refine ⟨nI ng, 0, q_newT T ns ng H G, fun d m hC => ?_, fun d m hM => ?_, hok'⟩
    · obtain ⟨m1, e1, r1, f1⟩ := cff d m hC
      obtain ⟨t1, t2, t3, t4, t5, t6, -⟩ := r1 _ rfl
      have hS : q_CS m1 21 ((ns, ng), H, q_g4 G, fun _ _ => false) := ⟨t2, t3, t5, fun j hj => by
        obtain ⟨u1, u2, u3, u4⟩ := t6 j hj
        refine ⟨fun f hf => ?_, u3, u4⟩
        show m1 (24 + j) f = nI (if f = 4 then 0 else G f j)
        by_cases e : f = 4
        · subst e
          rw [if_pos rfl]
          exact u2
        · rw [if_neg e]
          exact u1 f (by omega)⟩
      obtain ⟨m2, e2, c2, n2, f2⟩ := k_hbec (h := 2) (o := 21) (Or.inl rfl) (Or.inr (Or.inr (Or.inl rfl))) (Or.inl (by decide)) (S := ((ns, ng), H, q_g4 G, fun _ _ => false)) g5 g6 (d + 17) hS
      have ff : ∀ a, (a < 2 ∨ 11 ≤ a) → (a < 20 ∨ 30 ≤ a) → a ≠ 40 → z_up m2 40 3 0 a = z_up m 0 10 0 a := fun a h1 h2 h3 => by rw [z_up_ne h3, f2 a (by omega), f1 a h2]
      have hc := c0 m hC
      refine ⟨z_up m2 40 3 0, ?_, ⟨⟨?_, ?_, ?_⟩, c2.of g6 (fun a h1 h2 => z_up_ne (by omega)), ⟨by rw [q_uq]; rfl, fun r hr => absurd hr (Nat.not_lt_zero r)⟩, hc.2.2.2.of (fun a h1 h2 => ff a (by omega) (by omega) (by omega))⟩, fun a ha => by rw [ff a (by omega) (by omega) (by omega), z_up_ne (by omega)]⟩
      · rw [cpre d m hC, if_pos hag, e1]
        simp only [Option.bind_some]
        rw [if_pos (show ((Sum.inr (6, ns, H, ng, G) : Nat ⊕ q_TA).elim nI (fun _ => -9)) = (-9 : Int32) from rfl), e2]
        simp only [Option.bind_some]
        rw [q_ua (by decide), c2.2.1]
      · rw [ff 0 (by decide) (by decide) (by decide)]
        exact hc.1.1
      · rw [ff 0 (by decide) (by decide) (by decide)]
        exact hc.1.2.1
      · rw [q_ua (by decide), n2]
        exact t4
    · obtain ⟨m1, e1, -, r1, f1⟩ := mff d m hM
      obtain ⟨m2, e2, s2, n7, n33, fk, fa⟩ := k_mth g5 g6 (d + 18) (r1 _ rfl)
      have hc := m0 m hM
      have ga : ∀ a, a ≠ 59 → (a < 63 ∨ 71 ≤ a) → m2 a = z_up m 59 0 0 a := fun a h1 h2 => by rw [fa a h1 (by omega), f1.1 a h1 (by omega) (by omega), z_up_ne h1]
      have gk : ∀ j, j ≠ 5 → j ≠ 6 → j ≠ 7 → j ≠ 8 → j ≠ 9 → j ≠ 33 → j ≠ 16 → j ≠ 17 → j ≠ 18 → m2 59 j = z_up m 59 0 0 59 j := fun j h1 h2 h3 h4 h5 h6 h7 h8 h9 => by rw [fk j h1 h2 h3 h4 h5 h6, f1.2 j h7 h8 h9, q_uk h7]
      refine ⟨m2, ?_, ⟨⟨?_, ?_, n7⟩, s2, ⟨n33, fun r hr => absurd hr (Nat.not_lt_zero r)⟩, hc.2.2.2.of (fun a h1 h2 => ga a (by omega) (by omega))⟩, fun a ha => by rw [ga a (by omega) (by omega), z_up_ne (by omega)]⟩
      · rw [mpre d m hM, if_pos hag, q_ix, nI_add, e1]
        simp only [Option.bind_some]
        rw [if_neg (show ¬ q_b (q_rb (.inr (6, ns, H, ng, G))) = 0 from q_b1), e2]
        simp only [Option.bind_some]
        rw [s2.2.1]
      · rw [gk 0 (by decide) (by decide) (by decide) (by decide) (by decide) (by decide) (by decide) (by decide) (by decide)]
        exact hc.1.1
      · rw [gk 1 (by decide) (by decide) (by decide) (by decide) (by decide) (by decide) (by decide) (by decide) (by decide)]
        exact hc.1.2.1
