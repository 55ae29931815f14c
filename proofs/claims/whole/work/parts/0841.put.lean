/-! 25 put, 26 cell -/
theorem q_w_len {n : Nat} (hn : n ≤ 60) (x : Int32) : q_w 0 (nI n - 1) x = q_v n x := by
  have e1 : (0 ≤ x) ↔ (0 ≤ x.toInt) := by
    rw [Int32.le_iff_toInt_le]
    exact Iff.rfl
  have e2 : (x ≤ nI n - 1) ↔ (x.toInt < (n : Int)) := by
    rw [Int32.le_iff_toInt_le, show (1 : Int32) = nI 1 from rfl, pk_sub_toInt (by omega) (by decide)]
    omega
  unfold q_w q_v
  simp only [e1, e2]
theorem k_faultAt {T : q_T} {m : z_M} (hC : q_C m T) (hok : q_okP T.2.2.2) {k : Nat} (hk : k < 4) (d : Nat) (x : Int32) : z_go z_SH z_P (d + 1) 35 [.ref (51 + 2 * k), .int x] m = some (if T.2.2.2.1 k = true then (if q_v (T.2.2.2.2.2.1 k) x = true then 0 else 3) else 1, 0, m) := by
  obtain ⟨p1, p2, p3, p4⟩ := hC.2.2.2 k hk
  have hl := (hok k hk).2
  rw [c_X4_faultAt d (q_s hk).2.2.2.2.2, p1, p3, q_if, q_v_if (by omega)]
  cases T.2.2.2.1 k with
  | true =>
    simp only [if_true]
    split <;> rfl
  | false => rfl
theorem k_faultAs {T : q_T} {m : z_M} (hC : q_C m T) (hok : q_okP T.2.2.2) {k : Nat} (hk : k < 4) (d : Nat) (x : Int32) : z_go z_SH z_P (d + 1) 34 [.ref (51 + 2 * k), .int x] m = some (if T.2.2.2.1 k = true then (if nI (T.2.2.2.2.1 k) = x then 0 else 2) else 1, 0, m) := by
  obtain ⟨p1, p2, p3, p4⟩ := hC.2.2.2 k hk
  rw [c_X4_faultAs d (q_s hk).2.2.2.2.2, p1, p2, q_if]
  cases T.2.2.2.1 k with
  | true =>
    simp only [if_true]
    split <;> rfl
  | false => rfl
def q_cut (ln : Nat) (v : Int32) : Int32 := if ln = 0 then v.toInt8.toInt32 else if ln = 1 then v.toInt16.toInt32 else v
def q_setCe (T : q_T) (k i : Nat) (v : Int32) : q_T := (T.1, T.2.1, T.2.2.1, (T.2.2.2.1, T.2.2.2.2.1, T.2.2.2.2.2.1, (fun j q => if j = k ∧ q = i then v else T.2.2.2.2.2.2 j q)))
theorem q_setCe_C {T : q_T} {m : z_M} (hC : q_C m T) (hn : T.2.1.1.2 ≤ 6) {k i : Nat} (hk : k < 4) (v : Int32) : q_C (z_up m (52 + 2 * k) i v) (q_setCe T k i v) := by
  refine ⟨hC.1.of (z_up_ne (by omega)) (z_up_ne (by omega)), hC.2.1.of hn (fun a h1 h2 => z_up_ne (by omega)), hC.2.2.1.of (fun a h1 h2 => z_up_ne (by omega)), fun j hj => ?_⟩
  obtain ⟨p1, p2, p3, p4⟩ := hC.2.2.2 j hj
  refine ⟨by rw [q_ua (by omega)]; exact p1, by rw [q_ua (by omega)]; exact p2, by rw [q_ua (by omega)]; exact p3, fun q hq => ?_⟩
  show _ = if j = k ∧ q = i then v else T.2.2.2.2.2.2 j q
  by_cases h : j = k ∧ q = i
  · obtain ⟨rfl, rfl⟩ := h
    rw [q_uq, if_pos ⟨rfl, rfl⟩]
  · rw [if_neg h]
    by_cases h1 : j = k
    · rw [q_uk (by omega)]
      exact p4 q hq
    · rw [q_ua (by omega)]
      exact p4 q hq
theorem q_setCe_M {T : q_T} {m : z_M} (hM : q_M m T) {k i : Nat} (hk : k < 4) (hi : i < 60) (v : Int32) : q_M (z_up m 62 (60 * k + i) v) (q_setCe T k i v) := by
  refine ⟨hM.1.of (q_ua (by decide)) (q_ua (by decide)) (q_ua (by decide)), hM.2.1.of (q_ua (by decide)) (q_ua (by decide)) (q_ua (by decide)) (q_ua (by decide)) (fun a h1 h2 => z_up_ne (by omega)), hM.2.2.1.of (q_ua (by decide)) (fun a h1 h2 => z_up_ne (by omega)), fun j hj => ?_⟩
  obtain ⟨p1, p2, p3⟩ := hM.2.2.2 j hj
  refine ⟨by rw [q_ua (by decide)]; exact p1, by rw [q_ua (by decide)]; exact p2, fun q hq => ?_⟩
  show _ = if j = k ∧ q = i then v else T.2.2.2.2.2.2 j q
  by_cases h : j = k ∧ q = i
  · obtain ⟨rfl, rfl⟩ := h
    rw [q_uq, if_pos ⟨rfl, rfl⟩]
  · rw [if_neg h, q_uk (by omega)]
    exact p3 q hq
theorem k_write {T : q_T} {m : z_M} (hC : q_C m T) (hok : q_okP T.2.2.2) {k i : Nat} (hk : k < 4) (hi : i < 60) (d : Nat) (v : Int32) : z_go z_SH z_P (d + 1) 33 [.ref (51 + 2 * k), .int (nI i), .int v] m = some (0, 0, z_up m (52 + 2 * k) i (q_cut (T.2.2.2.2.1 k) v)) := by
  obtain ⟨p1, p2, p3, p4⟩ := hC.2.2.2 k hk
  have hl := (hok k hk).1
  rw [c_X4_write d (q_s hk).2.2.2.2.2, p2, q_in hi (by decide), z_g_t, z_g_t, z_g_t, q_cl (by omega), show 51 + 2 * k + 1 = 52 + 2 * k by omega, show (0 : Int32) = nI 0 from rfl, show (1 : Int32) = nI 1 from rfl, q_nI_if (by omega) (by decide), q_nI_if (by omega) (by decide)]
  unfold q_cut
  split
  · rfl
  · split <;> rfl
theorem q_n9 : ∀ v, v ≤ 2 → nI v ≠ (-9 : Int32) := by decide +kernel
theorem q_ix {k i : Nat} : (60 : Int32) * nI k + nI i = nI (60 * k + i) := by
  rw [show (60 : Int32) = nI 60 from rfl, pk_mul, nI_add]
theorem p_put (x y v : Int32) : q_pr 85 166 [.int x, .int y, .int v] := by
  intro T hok
  have h6 := hok.1.2.1
  have c0 : ∀ m : z_M, q_C m T → q_C (z_up m 0 10 0) (q_setFt T 0) := fun m hC => q_setFt_C hC h6 0
  have m0 : ∀ m : z_M, q_M m T → q_M (z_up m 59 0 0) (q_setFt T 0) := fun m hM => q_setFt_M hM 0
  by_cases hw : q_w 0 3 x = true
  · obtain ⟨k, -, hk3, rfl⟩ := q_w_nI (a := 0) (b := 3) hw (by decide) (by decide)
    have hk : k < 4 := by omega
    obtain ⟨hl2, hl60⟩ := hok.2.2 k hk
    have cpre : ∀ (d : Nat) (m : z_M), q_C m T → z_go z_SH z_P (d + 20) 85 [.ref 0, .int (nI k), .int y, .int v] m = if (if T.2.2.2.1 k = true then (if q_v (T.2.2.2.2.2.1 k) y = true then 0 else 3) else 1) = (0 : Int32) then (Option.bind (z_go z_SH z_P (d + 19) 33 [.ref (51 + 2 * k), .int y, .int v] (z_up m 0 10 0)) (fun r3 => some (1, 0, r3.2.2))) else some (-10 - (if T.2.2.2.1 k = true then (if q_v (T.2.2.2.2.2.1 k) y = true then 0 else 3) else 1), 0, z_up (z_up m 0 10 0) 0 10 (if T.2.2.2.1 k = true then (if q_v (T.2.2.2.2.2.1 k) y = true then 0 else 3) else 1)) := by
      intro d m hC
      rw [c_X9_put, k_isSheet]
      simp only [Option.bind_some, q_if]
      rw [if_pos hw]
      simp only [q_in hk (show 4 < 2147483648 by decide), z_g_t, q_cl (show k < 2147483648 by omega), (q_s hk).1]
      rw [k_faultAt (c0 m hC) hok.2.2 hk]
      simp only [Option.bind_some]
      rw [c_X9_failed]
      rfl
    have mpre : ∀ (d : Nat) (m : z_M), q_M m T → z_go z_SH z_P (d + 20) 166 [.ref 59, .int (nI k), .int y, .int v] m = if T.2.2.2.1 k = true then (if q_v (T.2.2.2.2.2.1 k) y = true then (if T.2.2.2.2.1 k = 0 then (z_g (z_in 240 ((60 * nI k) + y)) (some (1, 0, z_up (z_up m 59 0 0) 62 ((60 * nI k) + y).toNatClampNeg v.toInt8.toInt32))) else (if T.2.2.2.2.1 k = 1 then (z_g (z_in 240 ((60 * nI k) + y)) (some (1, 0, z_up (z_up m 59 0 0) 62 ((60 * nI k) + y).toNatClampNeg v.toInt16.toInt32))) else (z_g (z_in 240 ((60 * nI k) + y)) (some (1, 0, z_up (z_up m 59 0 0) 62 ((60 * nI k) + y).toNatClampNeg v))))) else some (-13, 0, z_up (z_up m 59 0 0) 59 0 3)) else some (-11, 0, z_up (z_up m 59 0 0) 59 0 1) := by
      intro d m hM
      obtain ⟨r1, r2, r3⟩ := (m0 m hM).2.2.2 k hk
      have r1 : z_up m 59 0 0 60 k = (if T.2.2.2.1 k = true then nI (T.2.2.2.2.1 k) else -9) := r1
      have r2 : z_up m 59 0 0 61 k = nI (T.2.2.2.2.2.1 k) := r2
      rw [c_X10_put, k_misSheet]
      simp only [Option.bind_some, q_if]
      rw [if_pos hw, q_in hk (by decide), z_g_t, q_cl (by omega), r1, r2, k_mwithin, q_w_len hl60]
      simp only [Option.bind_some, q_if, z_g_t]
      cases hq : T.2.2.2.1 k with
      | true =>
        simp only [if_true]
        rw [if_neg (q_n9 _ hl2), r1, hq]
        simp only [if_true]
        rw [show (0 : Int32) = nI 0 from rfl, show (1 : Int32) = nI 1 from rfl, q_nI_if (by omega) (by decide), q_nI_if (by omega) (by decide)]
        by_cases hv : q_v (T.2.2.2.2.2.1 k) y = true
        · rw [if_pos hv, if_pos hv]
        · rw [if_neg hv, if_neg hv, c_X10_fails]
          rfl
      | false =>
        rw [if_pos (show (if false = true then nI (T.2.2.2.2.1 k) else (-9 : Int32)) = -9 from rfl), c_X10_fails]
        rfl
    cases hq : T.2.2.2.1 k with
    | false =>
      refine ⟨-11, 0, q_setFt (q_setFt T 0) 1, fun d m hC => ⟨z_up (z_up m 0 10 0) 0 10 1, ?_, q_setFt_C (c0 m hC) h6 1, fun a ha => (z_up_ne (by omega)).trans (z_up_ne (by omega))⟩, fun d m hM => ⟨z_up (z_up m 59 0 0) 59 0 1, ?_, q_setFt_M (m0 m hM) 1, fun a ha => (z_up_ne (by omega)).trans (z_up_ne (by omega))⟩, hok⟩
      · rw [cpre d m hC, hq]
        simp only [Bool.false_eq_true, if_false]
        rw [if_neg (by decide), show (-10 : Int32) - 1 = -11 from by decide]
      · rw [mpre d m hM, hq]
        simp only [Bool.false_eq_true, if_false]
    | true =>
      by_cases hv : q_v (T.2.2.2.2.2.1 k) y = true
      · obtain ⟨i, hi, rfl⟩ := q_v_t hv (by omega)
        have hi60 : i < 60 := by omega
        refine ⟨1, 0, q_setCe (q_setFt T 0) k i (q_cut (T.2.2.2.2.1 k) v), fun d m hC => ⟨z_up (z_up m 0 10 0) (52 + 2 * k) i (q_cut (T.2.2.2.2.1 k) v), ?_, q_setCe_C (c0 m hC) h6 hk _, fun a ha => (z_up_ne (by omega)).trans (z_up_ne (by omega))⟩, fun d m hM => ⟨z_up (z_up m 59 0 0) 62 (60 * k + i) (q_cut (T.2.2.2.2.1 k) v), ?_, q_setCe_M (m0 m hM) hk hi60 _, fun a ha => (z_up_ne (by omega)).trans (z_up_ne (by omega))⟩, hok⟩
        · rw [cpre d m hC, hq]
          simp only [if_true]
          rw [if_pos (by rw [if_pos hv]), k_write (c0 m hC) hok.2.2 hk hi60]
          rfl
        · rw [mpre d m hM, hq]
          simp only [if_true]
          rw [if_pos hv, q_ix, q_in (show 60 * k + i < 240 by omega) (by decide), z_g_t, z_g_t, z_g_t, q_cl (by omega)]
          unfold q_cut
          split
          · rfl
          · split <;> rfl
      · refine ⟨-13, 0, q_setFt (q_setFt T 0) 3, fun d m hC => ⟨z_up (z_up m 0 10 0) 0 10 3, ?_, q_setFt_C (c0 m hC) h6 3, fun a ha => (z_up_ne (by omega)).trans (z_up_ne (by omega))⟩, fun d m hM => ⟨z_up (z_up m 59 0 0) 59 0 3, ?_, q_setFt_M (m0 m hM) 3, fun a ha => (z_up_ne (by omega)).trans (z_up_ne (by omega))⟩, hok⟩
        · rw [cpre d m hC, hq]
          simp only [if_true]
          rw [if_neg hv, if_neg (by decide), show (-10 : Int32) - 3 = -13 from by decide]
        · rw [mpre d m hM, hq]
          simp only [if_true]
          rw [if_neg hv]
  · refine ⟨-1, 0, q_setFt T 0, fun d m hC => ⟨z_up m 0 10 0, ?_, c0 m hC, fun a ha => z_up_ne (by omega)⟩, fun d m hM => ⟨z_up m 59 0 0, ?_, m0 m hM, fun a ha => z_up_ne (by omega)⟩, hok⟩
    · rw [c_X9_put, k_isSheet]
      simp only [Option.bind_some, q_if]
      rw [if_neg hw]
    · rw [c_X10_put, k_misSheet]
      simp only [Option.bind_some, q_if]
      rw [if_neg hw]
