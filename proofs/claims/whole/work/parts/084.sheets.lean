/-! 24 lose -/
def q_setHas (T : q_T) (k : Nat) (b : Bool) : q_T := (T.1, T.2.1, T.2.2.1, ((fun j => if j = k then b else T.2.2.2.1 j), T.2.2.2.2))
theorem q_setHas_C {T : q_T} {m : z_M} (hC : q_C m T) (hn : T.2.1.1.2 ≤ 6) {k : Nat} (hk : k < 4) (b : Bool) : q_C (z_up m (51 + 2 * k) 1 (q_b b)) (q_setHas T k b) := by
  refine ⟨hC.1.of (z_up_ne (by omega)) (z_up_ne (by omega)), hC.2.1.of hn (fun a h1 h2 => z_up_ne (by omega)), hC.2.2.1.of (fun a h1 h2 => z_up_ne (by omega)), fun j hj => ?_⟩
  obtain ⟨p1, p2, p3, p4⟩ := hC.2.2.2 j hj
  refine ⟨?_, by rw [q_uk (by decide)]; exact p2, by rw [q_uk (by decide)]; exact p3, fun i hi => by rw [q_ua (by omega)]; exact p4 i hi⟩
  show _ = q_b (if j = k then b else T.2.2.2.1 j)
  by_cases hq : j = k
  · subst hq
    rw [q_uq, if_pos rfl, q_zb_b]
  · rw [if_neg hq, q_ua (by omega)]
    exact p1
theorem p_lose (x : Int32) : q_pr 84 165 [.int x] := by
  intro T hok
  have h6 := hok.1.2.1
  by_cases hw : q_w 0 3 x = true
  · obtain ⟨k, -, hk3, rfl⟩ := q_w_nI (a := 0) (b := 3) hw (by decide) (by decide)
    have hk : k < 4 := by omega
    refine ⟨q_b (T.2.2.2.1 k), 0, q_setHas T k false, fun d m hC => ⟨_, ?_, q_setHas_C hC h6 hk false, fun a ha => z_up_ne (by omega)⟩, fun d m hM => ⟨z_up m 60 k (-9), ?_, ?_, fun a ha => z_up_ne (by omega)⟩, hok⟩
    · rw [c_X9_lose, k_isSheet]
      simp only [Option.bind_some, q_if]
      rw [if_pos hw, q_in hk (by decide), z_g_t, z_g_t, q_cl (by omega), (q_s hk).2.1, z_g_t, show z_isb 0 = true from by decide, Bool.and_self, z_g_t, (hC.2.2.2 k hk).1, q_if]
      cases T.2.2.2.1 k <;> rfl
    · rw [c_X10_lose, k_misSheet]
      simp only [Option.bind_some, q_if]
      rw [if_pos hw, q_in hk (by decide), z_g_t, z_g_t, z_g_t, q_cl (by omega), (hM.2.2.2 k hk).1]
      have h2 := (hok.2.2 k hk).1
      cases hq : T.2.2.2.1 k with
      | true =>
        rw [if_pos rfl, if_neg]
        · rfl
        · have : ∀ v, v ≤ 2 → nI v ≠ (-9 : Int32) := by decide +kernel
          exact this _ h2
      | false =>
        rw [if_pos (show (if false = true then nI (T.2.2.2.2.1 k) else (-9 : Int32)) = -9 from rfl)]
        rfl
    · refine ⟨hM.1.of (q_ua (by decide)) (q_ua (by decide)) (q_ua (by decide)), hM.2.1.of (q_ua (by decide)) (q_ua (by decide)) (q_ua (by decide)) (q_ua (by decide)) (fun a h1 h2 => z_up_ne (by omega)), hM.2.2.1.of (q_ua (by decide)) (fun a h1 h2 => z_up_ne (by omega)), fun j hj => ?_⟩
      obtain ⟨p1, p2, p3⟩ := hM.2.2.2 j hj
      refine ⟨?_, by rw [q_ua (by decide)]; exact p2, fun i hi => by rw [q_ua (by decide)]; exact p3 i hi⟩
      show _ = if (if j = k then false else T.2.2.2.1 j) = true then nI (T.2.2.2.2.1 j) else -9
      by_cases hq : j = k
      · subst hq
        rw [q_uq, if_pos rfl]
        rfl
      · rw [if_neg hq, q_uk hq]
        exact p1
  · refine ⟨-1, 0, T, q_cop_same (fun d m hC => ?_), q_mop_same (fun d m hM => ?_), hok⟩
    · rw [c_X9_lose, k_isSheet]
      simp only [Option.bind_some, q_if]
      rw [if_neg hw]
    · rw [c_X10_lose, k_misSheet]
      simp only [Option.bind_some, q_if]
      rw [if_neg hw]
