/-! 18 back, 17 reading, 24 lose -/
def q_setNr (T : q_T) (n : Nat) : q_T := (T.1, T.2.1, (n, T.2.2.1.2), T.2.2.2)
theorem q_setNr_C {T : q_T} {m : z_M} (hC : q_C m T) (hn : T.2.1.1.2 ≤ 6) {n : Nat} (h : n ≤ T.2.2.1.1) : q_C (z_up m 40 3 (nI n)) (q_setNr T n) := by
  refine ⟨hC.1.of (z_up_ne (by decide)) (z_up_ne (by decide)), hC.2.1.of hn (fun a h1 h2 => z_up_ne (by omega)), ⟨q_uq _ _ _ _, fun r hr => ?_⟩, hC.2.2.2.of (fun a h1 h2 => z_up_ne (by omega))⟩
  rw [z_up_ne (by decide), z_up_ne (by decide), z_up_ne (by decide)]
  exact hC.2.2.1.2 r (Nat.lt_of_lt_of_le hr h)
theorem q_setNr_M {T : q_T} {m : z_M} (hM : q_M m T) {n : Nat} (h : n ≤ T.2.2.1.1) : q_M (z_up m 59 33 (nI n)) (q_setNr T n) := by
  refine ⟨hM.1.of (q_uk (by decide)) (q_uk (by decide)) (q_uk (by decide)), hM.2.1.of (q_uk (by decide)) (q_uk (by decide)) (q_uk (by decide)) (q_uk (by decide)) (fun a h1 h2 => z_up_ne (by omega)), ⟨q_uq _ _ _ _, fun r hr => ?_⟩, hM.2.2.2.of (fun a h1 h2 => z_up_ne (by omega))⟩
  rw [z_up_ne (by decide), z_up_ne (by decide), z_up_ne (by decide)]
  exact hM.2.2.1.2 r (Nat.lt_of_lt_of_le hr h)
theorem p_back (x : Int32) : q_pr 78 157 [.int x] := by
  intro T hok
  have h6 := hok.1.2.1
  have h8 := hok.2.1.1
  by_cases hw : q_w 0 (nI T.2.2.1.1) x = true
  · obtain ⟨v, -, hv, rfl⟩ := q_w_nI (a := 0) hw (by decide) (by omega)
    have e : nI T.2.2.1.1 - nI v = nI (T.2.2.1.1 - v) := pk_sub hv
    refine ⟨nI (T.2.2.1.1 - v), 0, q_setNr T (T.2.2.1.1 - v), fun d m hC => ⟨_, ?_, q_setNr_C hC h6 (by omega), fun a ha => z_up_ne (by omega)⟩, fun d m hM => ⟨_, ?_, q_setNr_M hM (by omega), fun a ha => z_up_ne (by omega)⟩, ⟨hok.1, ⟨by show T.2.2.1.1 - v ≤ 8; omega, fun r hr => hok.2.1.2 r (by have : r < T.2.2.1.1 - v := hr; omega)⟩, hok.2.2⟩⟩
    · rw [c_X9_back, hC.2.2.1.1, k_within]
      simp only [Option.bind_some, q_if]
      rw [if_pos hw, hC.2.2.1.1, e, q_uq]
    · rw [c_X10_back, hM.2.2.1.1, k_mwithin]
      simp only [Option.bind_some, q_if]
      rw [if_pos hw, hM.2.2.1.1, e, q_uq]
  · refine ⟨-2, 0, T, q_cop_same (fun d m hC => ?_), q_mop_same (fun d m hM => ?_), hok⟩
    · rw [c_X9_back, hC.2.2.1.1, k_within]
      simp only [Option.bind_some, q_if]
      rw [if_neg hw]
    · rw [c_X10_back, hM.2.2.1.1, k_mwithin]
      simp only [Option.bind_some, q_if]
      rw [if_neg hw]
def q_note (T : q_T) (s k : Nat) (b : Bool) : q_T := (T.1, T.2.1, (T.2.2.1.1 + 1, (fun r => if r = T.2.2.1.1 then s else T.2.2.1.2.1 r), (fun r => if r = T.2.2.1.1 then k else T.2.2.1.2.2.1 r), (fun r => if r = T.2.2.1.1 then b else T.2.2.1.2.2.2 r)), T.2.2.2)
theorem q_zb_b (b : Bool) : z_b (q_b b) = q_b b := by cases b <;> decide
theorem q_note_C {T : q_T} {m : z_M} (hC : q_C m T) (hn : T.2.1.1.2 ≤ 6) (s k : Nat) (b : Bool) : q_C (z_up (z_up (z_up (z_up m 41 T.2.2.1.1 (nI s)) 42 T.2.2.1.1 (nI k)) 43 T.2.2.1.1 (q_b b)) 40 3 (nI (T.2.2.1.1 + 1))) (q_note T s k b) := by
  have fr : ∀ a, a < 40 ∨ 44 ≤ a → z_up (z_up (z_up (z_up m 41 T.2.2.1.1 (nI s)) 42 T.2.2.1.1 (nI k)) 43 T.2.2.1.1 (q_b b)) 40 3 (nI (T.2.2.1.1 + 1)) a = m a := fun a ha => by rw [z_up_ne (by omega), z_up_ne (by omega), z_up_ne (by omega), z_up_ne (by omega)]
  refine ⟨hC.1.of (fr 0 (by omega)) (fr 2 (by omega)), hC.2.1.of hn (fun a h1 h2 => fr a (by omega)), ⟨q_uq _ _ _ _, fun r hr => ?_⟩, hC.2.2.2.of (fun a h1 h2 => fr a (by omega))⟩
  have hr : r < T.2.2.1.1 + 1 := hr
  show _ = nI (if r = T.2.2.1.1 then s else T.2.2.1.2.1 r) ∧ _ = nI (if r = T.2.2.1.1 then k else T.2.2.1.2.2.1 r) ∧ _ = q_b (if r = T.2.2.1.1 then b else T.2.2.1.2.2.2 r)
  by_cases hq : r = T.2.2.1.1
  · subst hq
    simp (disch := omega) only [q_ua, q_uq, if_true, q_zb_b]
    exact ⟨trivial, trivial, trivial⟩
  · rw [if_neg hq, if_neg hq, if_neg hq]
    simp (disch := omega) only [q_ua, q_uk]
    exact hC.2.2.1.2 r (by omega)
theorem q_note_M {T : q_T} {m : z_M} (hM : q_M m T) (s k : Nat) (b : Bool) : q_M (z_up (z_up (z_up (z_up m 77 T.2.2.1.1 (nI s)) 78 T.2.2.1.1 (nI k)) 79 T.2.2.1.1 (q_b b)) 59 33 (nI (T.2.2.1.1 + 1))) (q_note T s k b) := by
  have fr : ∀ a, 60 ≤ a → a < 77 → z_up (z_up (z_up (z_up m 77 T.2.2.1.1 (nI s)) 78 T.2.2.1.1 (nI k)) 79 T.2.2.1.1 (q_b b)) 59 33 (nI (T.2.2.1.1 + 1)) a = m a := fun a h1 h2 => by rw [z_up_ne (by omega), z_up_ne (by omega), z_up_ne (by omega), z_up_ne (by omega)]
  have f9 : ∀ j, j ≠ 33 → z_up (z_up (z_up (z_up m 77 T.2.2.1.1 (nI s)) 78 T.2.2.1.1 (nI k)) 79 T.2.2.1.1 (q_b b)) 59 33 (nI (T.2.2.1.1 + 1)) 59 j = m 59 j := fun j hj => by rw [q_uk hj, q_ua (by decide), q_ua (by decide), q_ua (by decide)]
  refine ⟨hM.1.of (f9 0 (by decide)) (f9 1 (by decide)) (f9 7 (by decide)), hM.2.1.of (f9 5 (by decide)) (f9 6 (by decide)) (f9 8 (by decide)) (f9 9 (by decide)) (fun a h1 h2 => fr a (by omega) (by omega)), ⟨q_uq _ _ _ _, fun r hr => ?_⟩, hM.2.2.2.of (fun a h1 h2 => fr a h1 (by omega))⟩
  have hr : r < T.2.2.1.1 + 1 := hr
  show _ = nI (if r = T.2.2.1.1 then s else T.2.2.1.2.1 r) ∧ _ = nI (if r = T.2.2.1.1 then k else T.2.2.1.2.2.1 r) ∧ _ = q_b (if r = T.2.2.1.1 then b else T.2.2.1.2.2.2 r)
  by_cases hq : r = T.2.2.1.1
  · subst hq
    simp (disch := omega) only [q_ua, q_uq, if_true]
    exact ⟨trivial, trivial, trivial⟩
  · rw [if_neg hq, if_neg hq, if_neg hq]
    simp (disch := omega) only [q_ua, q_uk]
    exact hM.2.2.1.2 r (by omega)
theorem k_note {T : q_T} {m : z_M} (hC : q_C m T) (h8 : T.2.2.1.1 < 8) (d s k : Nat) (b : Bool) : z_go z_SH z_P (d + 1) 29 [.ref 40, .int (nI s), .int (nI k), .int (q_b b)] m = some (nI T.2.2.1.1, 0, z_up (z_up (z_up (z_up m 41 T.2.2.1.1 (nI s)) 42 T.2.2.1.1 (nI k)) 43 T.2.2.1.1 (q_b b)) 40 3 (nI (T.2.2.1.1 + 1))) := by
  rw [c_X3_note]
  simp (disch := decide) only [q_ua, q_uq, hC.2.2.1.1]
  rw [q_in h8 (by decide), z_g_t, z_g_t, q_bb, Bool.true_and, z_g_t, q_cl (by omega), nI_1, nI_pred]
theorem p_reading (x y z : Int32) : q_pr 77 156 [.int x, .int y, .int z] := by
  intro T hok
  have h5 := hok.1.1
  have h6 := hok.1.2.1
  have h8 := hok.2.1.1
  have cpre : ∀ (d : Nat) (m : z_M), q_C m T → z_go z_SH z_P (d + 20) 77 [.ref 0, .int x, .int y, .int z] m = if q_v T.2.1.1.1 x = true then (if q_v T.2.1.1.2 y = true then (if q_w 0 1 z = true then (if T.2.2.1.1 < 8 then (if z = 1 then (Option.bind (z_go z_SH z_P (d + 19) 29 [.ref 40, .int x, .int y, .int 1] m) (fun r4 => some (r4.1, 0, r4.2.2))) else (Option.bind (z_go z_SH z_P (d + 19) 29 [.ref 40, .int x, .int y, .int 0] m) (fun r5 => some (r5.1, 0, r5.2.2)))) else some (-4, 0, m)) else some (-2, 0, m)) else some (-1, 0, m)) else some (-1, 0, m) := by
    intro d m hC
    rw [c_X9_reading, k_isSign _ _ hC.ns h5]
    simp only [Option.bind_some, q_if]
    by_cases c1 : q_v T.2.1.1.1 x = true
    · rw [if_pos c1, if_pos c1, k_isGuest _ _ hC.ng h6]
      simp only [Option.bind_some, q_if]
      by_cases c2 : q_v T.2.1.1.2 y = true
      · rw [if_pos c2, if_pos c2, k_within]
        simp only [Option.bind_some, q_if]
        rw [hC.2.2.1.1, show (8 : Int32) = nI 8 from rfl, q_nI_lt (by omega) (by decide)]
      · rw [if_neg c2, if_neg c2]
    · rw [if_neg c1, if_neg c1]
  have mpre : ∀ (d : Nat) (m : z_M), q_M m T → z_go z_SH z_P (d + 20) 156 [.ref 59, .int x, .int y, .int z] m = if q_v T.2.1.1.1 x = true then (if q_v T.2.1.1.2 y = true then (if q_w 0 1 z = true then (if T.2.2.1.1 = 8 then some (-4, 0, m) else some (nI T.2.2.1.1, 0, z_up (z_up (z_up (z_up m 77 T.2.2.1.1 x) 78 T.2.2.1.1 y) 79 T.2.2.1.1 z) 59 33 (nI (T.2.2.1.1 + 1)))) else some (-2, 0, m)) else some (-1, 0, m)) else some (-1, 0, m) := by
    intro d m hM
    rw [c_X10_reading, k_misSign _ _ hM.ns h5]
    simp only [Option.bind_some, q_if]
    by_cases c1 : q_v T.2.1.1.1 x = true
    · rw [if_pos c1, if_pos c1, k_misGuest _ _ hM.ng h6]
      simp only [Option.bind_some, q_if]
      by_cases c2 : q_v T.2.1.1.2 y = true
      · rw [if_pos c2, if_pos c2, k_mwithin]
        simp only [Option.bind_some, q_if]
        by_cases c3 : q_w 0 1 z = true
        · rw [if_pos c3, if_pos c3]
          simp (disch := decide) only [q_ua, q_uq, hM.2.2.1.1]
          rw [show (8 : Int32) = nI 8 from rfl, q_nI_if (by omega) (by decide)]
          by_cases c4 : T.2.2.1.1 = 8
          · rw [if_pos c4, if_pos c4]
          · rw [if_neg c4, if_neg c4, q_in (show T.2.2.1.1 < 8 by omega) (by decide), z_g_t, z_g_t, z_g_t, q_cl (by omega), nI_1, nI_pred]
        · rw [if_neg c3, if_neg c3]
      · rw [if_neg c2, if_neg c2]
    · rw [if_neg c1, if_neg c1]
  by_cases c1 : q_v T.2.1.1.1 x = true
  · by_cases c2 : q_v T.2.1.1.2 y = true
    · by_cases c3 : q_w 0 1 z = true
      · by_cases c4 : T.2.2.1.1 = 8
        · refine ⟨-4, 0, T, q_cop_same (fun d m hC => ?_), q_mop_same (fun d m hM => ?_), hok⟩
          · rw [cpre d m hC, if_pos c1, if_pos c2, if_pos c3, if_neg (by omega)]
          · rw [mpre d m hM, if_pos c1, if_pos c2, if_pos c3, if_pos c4]
        · obtain ⟨s, hs, rfl⟩ := q_v_t c1 (by omega)
          obtain ⟨k, hk, rfl⟩ := q_v_t c2 (by omega)
          obtain ⟨v, -, hv, rfl⟩ := q_w_nI (a := 0) (b := 1) c3 (by decide) (by decide)
          have hvb : nI v = q_b (decide (v = 1)) := by
            rcases (show v = 0 ∨ v = 1 by omega) with rfl | rfl <;> decide
          refine ⟨nI T.2.2.1.1, 0, q_note T s k (decide (v = 1)), fun d m hC => ⟨_, ?_, q_note_C hC h6 s k _, fun a ha => by rw [z_up_ne (by omega), z_up_ne (by omega), z_up_ne (by omega), z_up_ne (by omega)]⟩, fun d m hM => ⟨_, ?_, q_note_M hM s k _, fun a ha => by rw [z_up_ne (by omega), z_up_ne (by omega), z_up_ne (by omega), z_up_ne (by omega)]⟩, ⟨hok.1, ⟨by show T.2.2.1.1 + 1 ≤ 8; omega, fun r hr => ?_⟩, hok.2.2⟩⟩
          · rw [cpre d m hC, if_pos c1, if_pos c2, if_pos c3, if_pos (by omega)]
            rcases (show v = 0 ∨ v = 1 by omega) with rfl | rfl
            · rw [if_neg (by decide)]
              have := k_note hC (by omega) (d + 18) s k (decide (0 = 1))
              rw [show (Value.int 0) = Value.int (q_b (decide (0 = 1))) from rfl, this]
              rfl
            · rw [if_pos (by decide)]
              have := k_note hC (by omega) (d + 18) s k (decide (1 = 1))
              rw [show (Value.int 1) = Value.int (q_b (decide (1 = 1))) from rfl, this]
              rfl
          · rw [mpre d m hM, if_pos c1, if_pos c2, if_pos c3, if_neg c4, ← hvb]
          · have hr : r < T.2.2.1.1 + 1 := hr
            show (if r = T.2.2.1.1 then s else T.2.2.1.2.1 r) < T.2.1.1.1 ∧ (if r = T.2.2.1.1 then k else T.2.2.1.2.2.1 r) < T.2.1.1.2
            by_cases hq : r = T.2.2.1.1
            · rw [if_pos hq, if_pos hq]
              exact ⟨hs, hk⟩
            · rw [if_neg hq, if_neg hq]
              exact hok.2.1.2 r (by omega)
      · refine ⟨-2, 0, T, q_cop_same (fun d m hC => ?_), q_mop_same (fun d m hM => ?_), hok⟩
        · rw [cpre d m hC, if_pos c1, if_pos c2, if_neg c3]
        · rw [mpre d m hM, if_pos c1, if_pos c2, if_neg c3]
    · refine ⟨-1, 0, T, q_cop_same (fun d m hC => ?_), q_mop_same (fun d m hM => ?_), hok⟩
      · rw [cpre d m hC, if_pos c1, if_neg c2]
      · rw [mpre d m hM, if_pos c1, if_neg c2]
  · refine ⟨-1, 0, T, q_cop_same (fun d m hC => ?_), q_mop_same (fun d m hM => ?_), hok⟩
    · rw [cpre d m hC, if_neg c1]
    · rw [mpre d m hM, if_neg c1]
