/-! 5 word, 7 seat -/
def q_setHi (T : q_T) (s v : Nat) : q_T := (T.1, (T.2.1.1, (fun i => if i = s then v else T.2.1.2.1 i), T.2.1.2.2), T.2.2)
def q_setGd (T : q_T) (f k v : Nat) : q_T := (T.1, (T.2.1.1, T.2.1.2.1, (fun f' k' => if f' = f ∧ k' = k then v else T.2.1.2.2.1 f' k'), T.2.1.2.2.2), T.2.2)
theorem p_word (x v : Int32) : q_pr 65 127 [.int x, .int v] := by
  intro T hok
  have h5 := hok.1.1
  by_cases hv : q_v T.2.1.1.1 x = true
  · by_cases hw : q_w 1 9 v = true
    · obtain ⟨s, hs, rfl⟩ := q_v_t hv (by omega)
      obtain ⟨w, h1, h9, rfl⟩ := q_w_nI (a := 1) (b := 9) hw (by decide) (by decide)
      refine ⟨nI (T.2.1.2.1 s), 0, q_setHi T s w, ?_, ?_, ?_⟩
      · intro d m hC
        refine ⟨z_up m 3 s (nI w), ?_, ⟨hC.1.of (z_up_ne (by decide)) (z_up_ne (by decide)), ⟨?_, ?_, fun i hi => ?_, fun k hk => ?_⟩, hC.2.2.1.of (fun a h1 h2 => z_up_ne (by omega)), hC.2.2.2.of (fun a h1 h2 => z_up_ne (by omega))⟩, fun a ha => z_up_ne (by omega)⟩
        · rw [c_X9_word, k_isSign _ _ hC.ns h5]
          simp only [Option.bind_some, q_if]
          rw [if_pos hv, k_within]
          simp only [Option.bind_some, q_if]
          rw [if_pos hw, q_in (show s < 5 by omega) (by decide), z_g_t, z_g_t, q_cl (by omega), hC.hi hs]
        · rw [q_ua (by decide)]
          exact hC.ns
        · rw [q_ua (by decide)]
          exact hC.ng
        · show z_up m 3 s (nI w) 3 i = nI (if i = s then w else T.2.1.2.1 i)
          by_cases hq : i = s
          · subst hq
            rw [q_uq, if_pos rfl]
          · rw [q_uk hq, if_neg hq]
            exact hC.hi hi
        · rw [z_up_ne (show 2 + 3 + k ≠ 3 by omega)]
          exact hC.2.1.2.2.2 k hk
      · intro d m hM
        refine ⟨z_up m 63 s (nI w), ?_, ⟨hM.1.of (q_ua (by decide)) (q_ua (by decide)) (q_ua (by decide)), ⟨?_, ?_, fun i hi => ?_, fun k hk f hf => ?_, ?_, ?_⟩, hM.2.2.1.of (q_ua (by decide)) (fun a h1 h2 => z_up_ne (by omega)), hM.2.2.2.of (fun a h1 h2 => z_up_ne (by omega))⟩, fun a ha => z_up_ne (by omega)⟩
        · rw [c_X10_word, k_misSign _ _ hM.ns h5]
          simp only [Option.bind_some, q_if]
          rw [if_pos hv, k_mwithin]
          simp only [Option.bind_some, q_if]
          rw [if_pos hw, q_in (show s < 5 by omega) (by decide), z_g_t, z_g_t, q_cl (by omega), hM.hi hs]
        · rw [q_ua (by decide)]
          exact hM.ns
        · rw [q_ua (by decide)]
          exact hM.ng
        · show z_up m 63 s (nI w) 63 i = nI (if i = s then w else T.2.1.2.1 i)
          by_cases hq : i = s
          · subst hq
            rw [q_uq, if_pos rfl]
          · rw [q_uk hq, if_neg hq]
            exact hM.hi hi
        · rw [z_up_ne (show 64 + f ≠ 63 by omega)]
          exact hM.gd hk hf
        · rw [q_ua (by decide)]
          exact hM.kn
        · rw [q_ua (by decide)]
          exact hM.sk
      · obtain ⟨⟨o1, o2, o3, o4, o5⟩, o6, o7⟩ := hok
        refine ⟨⟨o1, o2, o3, fun i hi => ?_, o5⟩, o6, o7⟩
        show 1 ≤ (if i = s then w else T.2.1.2.1 i) ∧ (if i = s then w else T.2.1.2.1 i) ≤ 9
        split
        · exact ⟨h1, h9⟩
        · exact o4 i hi
    · refine ⟨-2, 0, T, q_cop_same (fun d m hC => ?_), q_mop_same (fun d m hM => ?_), hok⟩
      · rw [c_X9_word, k_isSign _ _ hC.ns h5]
        simp only [Option.bind_some, q_if]
        rw [if_pos hv, k_within]
        simp only [Option.bind_some, q_if]
        rw [if_neg hw]
      · rw [c_X10_word, k_misSign _ _ hM.ns h5]
        simp only [Option.bind_some, q_if]
        rw [if_pos hv, k_mwithin]
        simp only [Option.bind_some, q_if]
        rw [if_neg hw]
  · refine ⟨-1, 0, T, q_cop_same (fun d m hC => ?_), q_mop_same (fun d m hM => ?_), hok⟩
    · rw [c_X9_word, k_isSign _ _ hC.ns h5]
      simp only [Option.bind_some, q_if]
      rw [if_neg hv]
    · rw [c_X10_word, k_misSign _ _ hM.ns h5]
      simp only [Option.bind_some, q_if]
      rw [if_neg hv]
theorem q_setGd_C {T : q_T} {m : z_M} {f k v : Nat} (hC : q_C m T) (hk : k < 6) (hf : f < 5) : q_C (z_up m (5 + k) f (nI v)) (q_setGd T f k v) := by
  refine ⟨hC.1.of (z_up_ne (by omega)) (z_up_ne (by omega)), ⟨?_, ?_, fun i hi => ?_, fun j hj => ⟨fun f' hf' => ?_, ?_, ?_⟩⟩, hC.2.2.1.of (fun a h1 h2 => z_up_ne (by omega)), hC.2.2.2.of (fun a h1 h2 => z_up_ne (by omega))⟩
  · rw [q_ua (by omega)]
    exact hC.ns
  · rw [q_ua (by omega)]
    exact hC.ng
  · rw [q_ua (by omega)]
    exact hC.hi hi
  · show z_up m (5 + k) f (nI v) (5 + j) f' = nI (if f' = f ∧ j = k then v else T.2.1.2.2.1 f' j)
    by_cases hq : f' = f ∧ j = k
    · obtain ⟨rfl, rfl⟩ := hq
      rw [q_uq, if_pos ⟨rfl, rfl⟩]
    · rw [if_neg hq]
      by_cases h1 : f' = f
      · rw [q_ua (by omega)]
        exact hC.gd hj hf'
      · rw [q_uk h1]
        exact hC.gd hj hf'
  · rw [q_uk (by omega)]
    exact hC.kn hj
  · rw [q_uk (by omega)]
    exact hC.sk hj
theorem q_setGd_M {T : q_T} {m : z_M} {f k v : Nat} (hM : q_M m T) (hf : f < 5) : q_M (z_up m (64 + f) k (nI v)) (q_setGd T f k v) := by
  refine ⟨hM.1.of (q_ua (by omega)) (q_ua (by omega)) (q_ua (by omega)), ⟨?_, ?_, fun i hi => ?_, fun j hj f' hf' => ?_, ?_, ?_⟩, hM.2.2.1.of (q_ua (by omega)) (fun a h1 h2 => z_up_ne (by omega)), hM.2.2.2.of (fun a h1 h2 => z_up_ne (by omega))⟩
  · rw [q_ua (by omega)]
    exact hM.ns
  · rw [q_ua (by omega)]
    exact hM.ng
  · rw [q_ua (by omega)]
    exact hM.hi hi
  · show z_up m (64 + f) k (nI v) (64 + f') j = nI (if f' = f ∧ j = k then v else T.2.1.2.2.1 f' j)
    by_cases hq : f' = f ∧ j = k
    · obtain ⟨rfl, rfl⟩ := hq
      rw [q_uq, if_pos ⟨rfl, rfl⟩]
    · rw [if_neg hq]
      by_cases h1 : f' = f
      · rw [q_uk (by omega)]
        exact hM.gd hj hf'
      · rw [q_ua (by omega)]
        exact hM.gd hj hf'
  · rw [q_ua (by omega)]
    exact hM.kn
  · rw [q_ua (by omega)]
    exact hM.sk
theorem p_seat (x v : Int32) : q_pr 67 129 [.int x, .int v] := by
  intro T hok
  have h6 := hok.1.2.1
  by_cases hv : q_v T.2.1.1.2 x = true
  · by_cases hw : q_w 0 5 v = true
    · obtain ⟨k, hk, rfl⟩ := q_v_t hv (by omega)
      obtain ⟨w, h1, h9, rfl⟩ := q_w_nI (a := 0) (b := 5) hw (by decide) (by decide)
      have hk6 : k < 6 := by omega
      refine ⟨nI (T.2.1.2.2.1 3 k), 0, q_setGd T 3 k w, fun d m hC => ⟨_, ?_, q_setGd_C hC hk6 (by decide), fun a ha => z_up_ne (by omega)⟩, fun d m hM => ⟨_, ?_, q_setGd_M hM (by decide), fun a ha => z_up_ne (by omega)⟩, ?_⟩
      · rw [c_X9_seat, k_isGuest _ _ hC.ng h6]
        simp only [Option.bind_some, q_if]
        rw [if_pos hv, k_within]
        simp only [Option.bind_some, q_if]
        rw [if_pos hw, q_in hk6 (by decide), z_g_t, z_g_t, q_cl (by omega), q_g5 hk6 (by decide), z_g_t, z_g_t, hC.gd hk (by decide)]
      · have e3 : m 67 k = nI (T.2.1.2.2.1 3 k) := hM.gd hk (show 3 < 5 by decide)
        rw [c_X10_seat, k_misGuest _ _ hM.ng h6]
        simp only [Option.bind_some, q_if]
        rw [if_pos hv, k_misTable]
        simp only [Option.bind_some, q_if]
        rw [if_pos hw, q_in hk6 (by decide), z_g_t, z_g_t, q_cl (by omega), e3]
      · obtain ⟨⟨o1, o2, o3, o4, o5⟩, o6, o7⟩ := hok
        refine ⟨⟨o1, o2, o3, o4, fun j hj => ?_⟩, o6, o7⟩
        obtain ⟨p0, p1, p2, p3, p4, p5⟩ := o5 j hj
        refine ⟨p0, p1, p2, ?_, p4, p5⟩
        show (if 3 = 3 ∧ j = k then w else T.2.1.2.2.1 3 j) ≤ 5
        split
        · exact h9
        · exact p3
    · refine ⟨-2, 0, T, q_cop_same (fun d m hC => ?_), q_mop_same (fun d m hM => ?_), hok⟩
      · rw [c_X9_seat, k_isGuest _ _ hC.ng h6]
        simp only [Option.bind_some, q_if]
        rw [if_pos hv, k_within]
        simp only [Option.bind_some, q_if]
        rw [if_neg hw]
      · rw [c_X10_seat, k_misGuest _ _ hM.ng h6]
        simp only [Option.bind_some, q_if]
        rw [if_pos hv, k_misTable]
        simp only [Option.bind_some, q_if]
        rw [if_neg hw]
  · refine ⟨-1, 0, T, q_cop_same (fun d m hC => ?_), q_mop_same (fun d m hM => ?_), hok⟩
    · rw [c_X9_seat, k_isGuest _ _ hC.ng h6]
      simp only [Option.bind_some, q_if]
      rw [if_neg hv]
    · rw [c_X10_seat, k_misGuest _ _ hM.ng h6]
      simp only [Option.bind_some, q_if]
      rw [if_neg hv]
