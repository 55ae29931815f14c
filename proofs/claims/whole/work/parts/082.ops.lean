/-! 28 tell, 29 bow, 30 as -/
def q_setTr (T : q_T) (v : Int32) : q_T := ((T.1.1, v, T.1.2.2), T.2)
def q_setFt (T : q_T) (v : Int32) : q_T := ((v, T.1.2.1, T.1.2.2), T.2)
theorem q_setTr_C {T : q_T} {m : z_M} (hC : q_C m T) (hn : T.2.1.1.2 ≤ 6) (v : Int32) : q_C (z_up m 0 9 v) (q_setTr T v) :=
  ⟨⟨(q_uk (by decide)).trans hC.1.1, q_uq _ _ _ _, (q_ua (by decide)).trans hC.1.2.2⟩, hC.2.1.of hn (fun a h1 h2 => z_up_ne (by omega)), hC.2.2.1.of (fun a h1 h2 => z_up_ne (by omega)), hC.2.2.2.of (fun a h1 h2 => z_up_ne (by omega))⟩
theorem q_setFt_C {T : q_T} {m : z_M} (hC : q_C m T) (hn : T.2.1.1.2 ≤ 6) (v : Int32) : q_C (z_up m 0 10 v) (q_setFt T v) :=
  ⟨⟨q_uq _ _ _ _, (q_uk (by decide)).trans hC.1.2.1, (q_ua (by decide)).trans hC.1.2.2⟩, hC.2.1.of hn (fun a h1 h2 => z_up_ne (by omega)), hC.2.2.1.of (fun a h1 h2 => z_up_ne (by omega)), hC.2.2.2.of (fun a h1 h2 => z_up_ne (by omega))⟩
theorem q_setTr_M {T : q_T} {m : z_M} (hM : q_M m T) (v : Int32) : q_M (z_up m 59 1 v) (q_setTr T v) :=
  ⟨⟨(q_uk (by decide)).trans hM.1.1, q_uq _ _ _ _, (q_uk (by decide)).trans hM.1.2.2⟩, hM.2.1.of (q_uk (by decide)) (q_uk (by decide)) (q_uk (by decide)) (q_uk (by decide)) (fun a h1 h2 => z_up_ne (by omega)), hM.2.2.1.of (q_uk (by decide)) (fun a h1 h2 => z_up_ne (by omega)), hM.2.2.2.of (fun a h1 h2 => z_up_ne (by omega))⟩
theorem q_setFt_M {T : q_T} {m : z_M} (hM : q_M m T) (v : Int32) : q_M (z_up m 59 0 v) (q_setFt T v) :=
  ⟨⟨q_uq _ _ _ _, (q_uk (by decide)).trans hM.1.2.1, (q_uk (by decide)).trans hM.1.2.2⟩, hM.2.1.of (q_uk (by decide)) (q_uk (by decide)) (q_uk (by decide)) (q_uk (by decide)) (fun a h1 h2 => z_up_ne (by omega)), hM.2.2.1.of (q_uk (by decide)) (fun a h1 h2 => z_up_ne (by omega)), hM.2.2.2.of (fun a h1 h2 => z_up_ne (by omega))⟩
/-- a body begins -/
def q_beg (T : q_T) (b : Int32) : q_T := q_setTr T (31 * T.1.2.1 + b)
theorem k_begin {T : q_T} {m : z_M} (hC : q_C m T) (hn : T.2.1.1.2 ≤ 6) (d : Nat) (b : Int32) : ∃ m1, z_go z_SH z_P (d + 1) 101 [.ref 0, .int b] m = some (0, 0, m1) ∧ q_C m1 (q_beg T b) ∧ ∀ a, 0 < a → m1 a = m a := by
  refine ⟨_, c_X9_begin d b m, ?_, fun a ha => z_up_ne (by omega)⟩
  have := q_setTr_C hC hn (31 * m 0 9 + b)
  rw [show m 0 9 = T.1.2.1 from hC.1.2.1] at this ⊢
  exact this
theorem k_mbegin {T : q_T} {m : z_M} (hM : q_M m T) (d : Nat) (b : Int32) : ∃ m1, z_go z_SH z_P (d + 1) 169 [.ref 59, .int b] m = some (0, 0, m1) ∧ q_M m1 (q_beg T b) ∧ ∀ a, a ≠ 59 → m1 a = m a := by
  refine ⟨_, c_X10_begins d b m, ?_, fun a ha => z_up_ne ha⟩
  have := q_setTr_M hM (31 * m 59 1 + b)
  rw [show m 59 1 = T.1.2.1 from hM.1.2.1] at this ⊢
  exact this
theorem k_miss {T : q_T} {m : z_M} (hC : q_C m T) (hn : T.2.1.1.2 ≤ 6) (d : Nat) {k : Nat} (hk : k < T.2.1.1.2) : ∃ m1, z_go z_SH z_P (d + 2) 102 [.ref 0, .int (nI k)] m = some (nI (T.2.1.2.2.1 1 k), 0, m1) ∧ q_C m1 (q_beg T 1) ∧ ∀ a, 0 < a → m1 a = m a := by
  obtain ⟨m1, e1, c1, f1⟩ := k_begin hC hn d 1
  refine ⟨m1, ?_, c1, f1⟩
  rw [c_X9_missTells, e1]
  simp only [Option.bind_some]
  rw [q_in (show k < 6 by omega) (by decide), z_g_t, q_cl (by omega), q_g5 (by omega) (by decide), z_g_t, f1 (5 + k) (by omega), hC.gd hk (by decide)]
theorem k_col {T : q_T} {m : z_M} (hC : q_C m T) (hn : T.2.1.1.2 ≤ 6) (d : Nat) {k : Nat} (hk : k < T.2.1.1.2) : ∃ m1, z_go z_SH z_P (d + 3) 103 [.ref 0, .int (nI k)] m = some (nI (T.2.1.2.2.1 1 k) + 100, 0, m1) ∧ q_C m1 (q_beg (q_beg T 2) 1) ∧ ∀ a, 0 < a → m1 a = m a := by
  obtain ⟨m1, e1, c1, f1⟩ := k_begin hC hn (d + 1) 2
  obtain ⟨m2, e2, c2, f2⟩ := k_miss c1 hn d hk
  refine ⟨m2, ?_, c2, fun a ha => (f2 a ha).trans (f1 a ha)⟩
  rw [c_X9_colonelTells, e1]
  simp only [Option.bind_some]
  rw [e2]
  rfl
theorem k_bro {T : q_T} {m : z_M} (hC : q_C m T) (hn : T.2.1.1.2 ≤ 6) (d : Nat) {k : Nat} (hk : k < T.2.1.1.2) : ∃ m1, z_go z_SH z_P (d + 4) 104 [.ref 0, .int (nI k)] m = some (nI (T.2.1.2.2.1 1 k) + 100 + nI (T.2.1.2.2.1 1 k), 0, m1) ∧ q_C m1 (q_beg (q_beg (q_beg (q_beg T 3) 2) 1) 1) ∧ ∀ a, 0 < a → m1 a = m a := by
  obtain ⟨m1, e1, c1, f1⟩ := k_begin hC hn (d + 2) 3
  obtain ⟨m2, e2, c2, f2⟩ := k_col c1 hn d hk
  obtain ⟨m3, e3, c3, f3⟩ := k_miss c2 hn (d + 1) hk
  refine ⟨m3, ?_, c3, fun a ha => (f3 a ha).trans ((f2 a ha).trans (f1 a ha))⟩
  rw [c_X9_brokerTells, e1]
  simp only [Option.bind_some]
  rw [e2]
  simp only [Option.bind_some]
  rw [e3]
  rfl
theorem q_two : ∀ b, b < 10 → nI b + 100 + nI b = 2 * nI b + 100 := by decide +kernel
theorem p_tell (x : Int32) : q_pr 88 170 [.int x] := by
  intro T hok
  have h6 := hok.1.2.1
  by_cases hv : q_v T.2.1.1.2 x = true
  · obtain ⟨k, hk, rfl⟩ := q_v_t hv (by omega)
    have hk6 : k < 6 := by omega
    have h2 := hok.1.k0 hk
    have hb := hok.1.k1 hk
    have pre : ∀ (d : Nat) (m : z_M), q_C m T → z_go z_SH z_P (d + 20) 88 [.ref 0, .int (nI k)] m = if T.2.1.2.2.1 0 k = 0 then Option.bind (z_go z_SH z_P (d + 19) 102 [.ref 0, .int (nI k)] m) (fun r => some (r.1, 0, r.2.2)) else if T.2.1.2.2.1 0 k = 1 then Option.bind (z_go z_SH z_P (d + 19) 103 [.ref 0, .int (nI k)] m) (fun r => some (r.1, 0, r.2.2)) else Option.bind (z_go z_SH z_P (d + 19) 104 [.ref 0, .int (nI k)] m) (fun r => some (r.1, 0, r.2.2)) := by
      intro d m hC
      rw [c_X9_tell, k_isGuest _ _ hC.ng h6]
      simp only [Option.bind_some, q_if]
      rw [if_pos hv, q_in hk6 (by decide), z_g_t, q_cl (by omega), q_g5 hk6 (by decide), z_g_t, hC.gd hk (by decide), q_nI_if (by omega) (by decide), q_nI_if (by omega) (by decide)]
    have mpre : ∀ (d : Nat) (m : z_M), q_M m T → z_go z_SH z_P (d + 20) 170 [.ref 59, .int (nI k)] m = if T.2.1.2.2.1 0 k = 1 then (Option.bind (z_go z_SH z_P (d + 19) 169 [.ref 59, .int 2] m) (fun r2 => Option.bind (z_go z_SH z_P (d + 19) 169 [.ref 59, .int 1] r2.2.2) (fun r3 => some (nI (T.2.1.2.2.1 1 k) + 100, 0, r3.2.2)))) else if T.2.1.2.2.1 0 k = 2 then (Option.bind (z_go z_SH z_P (d + 19) 169 [.ref 59, .int 3] m) (fun r4 => Option.bind (z_go z_SH z_P (d + 19) 169 [.ref 59, .int 2] r4.2.2) (fun r5 => Option.bind (z_go z_SH z_P (d + 19) 169 [.ref 59, .int 1] r5.2.2) (fun r6 => Option.bind (z_go z_SH z_P (d + 19) 169 [.ref 59, .int 1] r6.2.2) (fun r7 => some (2 * nI (T.2.1.2.2.1 1 k) + 100, 0, r7.2.2)))))) else (Option.bind (z_go z_SH z_P (d + 19) 169 [.ref 59, .int 1] m) (fun r8 => some (nI (T.2.1.2.2.1 1 k), 0, r8.2.2))) := by
      intro d m hM
      have e0 : m 64 k = nI (T.2.1.2.2.1 0 k) := hM.gd hk (show 0 < 5 by decide)
      have e1 : m 65 k = nI (T.2.1.2.2.1 1 k) := hM.gd hk (show 1 < 5 by decide)
      rw [c_X10_tell, k_misGuest _ _ hM.ng h6]
      simp only [Option.bind_some, q_if]
      rw [if_pos hv, q_in hk6 (by decide), z_g_t, z_g_t, q_cl (by omega), e0, e1, q_nI_if (by omega) (by decide), q_nI_if (by omega) (by decide)]
    rcases (show T.2.1.2.2.1 0 k = 0 ∨ T.2.1.2.2.1 0 k = 1 ∨ T.2.1.2.2.1 0 k = 2 by omega) with hq | hq | hq
    · refine ⟨nI (T.2.1.2.2.1 1 k), 0, q_beg T 1, fun d m hC => ?_, fun d m hM => ?_, hok⟩
      · obtain ⟨m1, e1, c1, f1⟩ := k_miss hC h6 (d + 17) hk
        refine ⟨m1, ?_, c1, fun a ha => f1 a (by omega)⟩
        rw [pre d m hC, if_pos hq, e1]
        rfl
      · obtain ⟨m1, e1, c1, f1⟩ := k_mbegin hM (d + 18) 1
        refine ⟨m1, ?_, c1, fun a ha => f1 a (by omega)⟩
        rw [mpre d m hM, if_neg (by omega), if_neg (by omega), e1]
        rfl
    · refine ⟨nI (T.2.1.2.2.1 1 k) + 100, 0, q_beg (q_beg T 2) 1, fun d m hC => ?_, fun d m hM => ?_, hok⟩
      · obtain ⟨m1, e1, c1, f1⟩ := k_col hC h6 (d + 16) hk
        refine ⟨m1, ?_, c1, fun a ha => f1 a (by omega)⟩
        rw [pre d m hC, if_neg (by omega), if_pos hq, e1]
        rfl
      · obtain ⟨m1, e1, c1, f1⟩ := k_mbegin hM (d + 18) 2
        obtain ⟨m2, e2, c2, f2⟩ := k_mbegin c1 (d + 18) 1
        refine ⟨m2, ?_, c2, fun a ha => (f2 a (by omega)).trans (f1 a (by omega))⟩
        rw [mpre d m hM, if_pos hq, e1]
        simp only [Option.bind_some]
        rw [e2]
        rfl
    · refine ⟨nI (T.2.1.2.2.1 1 k) + 100 + nI (T.2.1.2.2.1 1 k), 0, q_beg (q_beg (q_beg (q_beg T 3) 2) 1) 1, fun d m hC => ?_, fun d m hM => ?_, hok⟩
      · obtain ⟨m1, e1, c1, f1⟩ := k_bro hC h6 (d + 15) hk
        refine ⟨m1, ?_, c1, fun a ha => f1 a (by omega)⟩
        rw [pre d m hC, if_neg (by omega), if_neg (by omega), e1]
        rfl
      · obtain ⟨m1, e1, c1, f1⟩ := k_mbegin hM (d + 18) 3
        obtain ⟨m2, e2, c2, f2⟩ := k_mbegin c1 (d + 18) 2
        obtain ⟨m3, e3, c3, f3⟩ := k_mbegin c2 (d + 18) 1
        obtain ⟨m4, e4, c4, f4⟩ := k_mbegin c3 (d + 18) 1
        refine ⟨m4, ?_, c4, fun a ha => (f4 a (by omega)).trans ((f3 a (by omega)).trans ((f2 a (by omega)).trans (f1 a (by omega))))⟩
        rw [mpre d m hM, if_neg (by omega), if_pos hq, e1]
        simp only [Option.bind_some]
        rw [e2]
        simp only [Option.bind_some]
        rw [e3]
        simp only [Option.bind_some]
        rw [e4, q_two _ (by omega)]
        rfl
  · refine ⟨-1, 0, T, q_cop_same (fun d m hC => ?_), q_mop_same (fun d m hM => ?_), hok⟩
    · rw [c_X9_tell, k_isGuest _ _ hC.ng h6]
      simp only [Option.bind_some, q_if]
      rw [if_neg hv]
    · rw [c_X10_tell, k_misGuest _ _ hM.ng h6]
      simp only [Option.bind_some, q_if]
      rw [if_neg hv]
theorem p_bow (x : Int32) : q_pr 89 171 [.int x] := by
  intro T hok
  have h6 := hok.1.2.1
  by_cases hv : q_v T.2.1.1.2 x = true
  · obtain ⟨k, hk, rfl⟩ := q_v_t hv (by omega)
    have hk6 : k < 6 := by omega
    have h2 := hok.1.k0 hk
    refine ⟨if T.2.1.2.2.1 0 k = 2 then 70 else nI (T.2.1.2.2.1 3 k), 0, if T.2.1.2.2.1 0 k = 2 then q_beg T 5 else q_beg T 4, fun d m hC => ?_, fun d m hM => ?_, ?_⟩
    · rw [c_X9_bow, k_isGuest _ _ hC.ng h6]
      simp only [Option.bind_some, q_if]
      rw [if_pos hv, q_in hk6 (by decide), z_g_t, q_cl (by omega), q_g5 hk6 (by decide), z_g_t, hC.gd hk (by decide), show (2 : Int32) = nI 2 from rfl, q_nI_if (by omega) (by decide)]
      by_cases hq : T.2.1.2.2.1 0 k = 2
      · obtain ⟨m1, e1, c1, f1⟩ := k_begin hC h6 (d + 18) 5
        rw [if_pos hq, if_pos hq, if_pos hq, e1]
        exact ⟨m1, rfl, c1, fun a ha => f1 a (by omega)⟩
      · obtain ⟨m1, e1, c1, f1⟩ := k_begin hC h6 (d + 18) 4
        rw [if_neg hq, if_neg hq, if_neg hq, e1]
        refine ⟨m1, ?_, c1, fun a ha => f1 a (by omega)⟩
        simp only [Option.bind_some]
        rw [z_g_t, q_g5 hk6 (by decide), z_g_t, f1 (5 + k) (by omega), hC.gd hk (by decide)]
    · have e0 : m 64 k = nI (T.2.1.2.2.1 0 k) := hM.gd hk (show 0 < 5 by decide)
      have e3 : m 67 k = nI (T.2.1.2.2.1 3 k) := hM.gd hk (show 3 < 5 by decide)
      rw [c_X10_bow, k_misGuest _ _ hM.ng h6]
      simp only [Option.bind_some, q_if]
      rw [if_pos hv, q_in hk6 (by decide), z_g_t, q_cl (by omega), e0, show (2 : Int32) = nI 2 from rfl, q_nI_if (by omega) (by decide)]
      by_cases hq : T.2.1.2.2.1 0 k = 2
      · obtain ⟨m1, e1, c1, f1⟩ := k_mbegin hM (d + 18) 5
        rw [if_pos hq, if_pos hq, if_pos hq, e1]
        refine ⟨m1, ?_, c1, fun a ha => f1 a (by omega)⟩
        simp only [Option.bind_some]
        rw [z_g_t, f1 64 (by decide), e0, hq, if_pos rfl]
      · obtain ⟨m1, e1, c1, f1⟩ := k_mbegin hM (d + 18) 4
        rw [if_neg hq, if_neg hq, if_neg hq, e1]
        refine ⟨m1, ?_, c1, fun a ha => f1 a (by omega)⟩
        simp only [Option.bind_some]
        rw [z_g_t, z_g_t, f1 64 (by decide), f1 67 (by decide), e0, e3, q_nI_if (by omega) (by decide), if_neg hq]
    · split
      · exact hok
      · exact hok
  · refine ⟨-1, 0, T, q_cop_same (fun d m hC => ?_), q_mop_same (fun d m hM => ?_), hok⟩
    · rw [c_X9_bow, k_isGuest _ _ hC.ng h6]
      simp only [Option.bind_some, q_if]
      rw [if_neg hv]
    · rw [c_X10_bow, k_misGuest _ _ hM.ng h6]
      simp only [Option.bind_some, q_if]
      rw [if_neg hv]
theorem q_w_lit {a b : Nat} {x : Int32} {p q : Int32} (hp : p = nI a) (hq : q = nI b) (h : q_w p q x = true) (ha : a < 2147483648) (hb : b < 2147483648) : ∃ v, a ≤ v ∧ v ≤ b ∧ x = nI v := by
  subst hp
  subst hq
  exact q_w_nI h ha hb
/-- a call that names faults begins with none -/
theorem p_as (x y : Int32) : q_pr 90 172 [.int x, .int y] := by
  intro T hok
  have h6 := hok.1.2.1
  have c0 : ∀ m : z_M, q_C m T → q_C (z_up m 0 10 0) (q_setFt T 0) := fun m hC => q_setFt_C hC h6 0
  have m0 : ∀ m : z_M, q_M m T → q_M (z_up m 59 0 0) (q_setFt T 0) := fun m hM => q_setFt_M hM 0
  by_cases hv : q_v T.2.1.1.2 x = true
  · by_cases hw : q_w 0 2 y = true
    · obtain ⟨k, hk, rfl⟩ := q_v_t hv (by omega)
      obtain ⟨w, -, hw2, rfl⟩ := q_w_nI (a := 0) (b := 2) hw (by decide) (by decide)
      have hk6 : k < 6 := by omega
      have h2 := hok.1.k0 hk
      by_cases hq : T.2.1.2.2.1 0 k < w
      · refine ⟨-12, 0, q_setFt (q_setFt T 0) 2, fun d m hC => ⟨z_up (z_up m 0 10 0) 0 10 2, ?_, q_setFt_C (c0 m hC) h6 2, fun a ha => (z_up_ne (by omega)).trans (z_up_ne (by omega))⟩, fun d m hM => ⟨z_up (z_up m 59 0 0) 59 0 2, ?_, q_setFt_M (m0 m hM) 2, fun a ha => (z_up_ne (by omega)).trans (z_up_ne (by omega))⟩, hok⟩
        · rw [c_X9_as, k_isGuest _ _ (c0 m hC).ng h6]
          simp only [Option.bind_some, q_if]
          rw [if_pos (show q_v (q_setFt T 0).2.1.1.2 (nI k) = true from hv), k_within]
          simp only [Option.bind_some, q_if]
          rw [if_pos hw, q_in hk6 (by decide), z_g_t, q_cl (by omega), q_g5 hk6 (by decide), z_g_t, (c0 m hC).gd hk (by decide), q_nI_lt (by show T.2.1.2.2.1 0 k < _; omega) (by omega), if_pos (show (q_setFt T 0).2.1.2.2.1 0 k < w from hq), c_X9_failed]
          rfl
        · have e0 : z_up m 59 0 0 64 k = nI (T.2.1.2.2.1 0 k) := (m0 m hM).gd hk (show 0 < 5 by decide)
          rw [c_X10_as, k_misGuest _ _ (m0 m hM).ng h6]
          simp only [Option.bind_some, q_if]
          rw [if_pos (show q_v (q_setFt T 0).2.1.1.2 (nI k) = true from hv), k_mwithin]
          simp only [Option.bind_some, q_if]
          rw [if_pos hw, q_in hk6 (by decide), z_g_t, q_cl (by omega), e0, q_nI_lt (by omega) (by omega), if_pos hq, c_X10_fails]
          rfl
      · refine ⟨1, 0, q_setFt T 0, fun d m hC => ⟨z_up m 0 10 0, ?_, c0 m hC, fun a ha => z_up_ne (by omega)⟩, fun d m hM => ⟨z_up m 59 0 0, ?_, m0 m hM, fun a ha => z_up_ne (by omega)⟩, hok⟩
        · rw [c_X9_as, k_isGuest _ _ (c0 m hC).ng h6]
          simp only [Option.bind_some, q_if]
          rw [if_pos (show q_v (q_setFt T 0).2.1.1.2 (nI k) = true from hv), k_within]
          simp only [Option.bind_some, q_if]
          rw [if_pos hw, q_in hk6 (by decide), z_g_t, q_cl (by omega), q_g5 hk6 (by decide), z_g_t, (c0 m hC).gd hk (by decide), q_nI_lt (by show T.2.1.2.2.1 0 k < _; omega) (by omega), if_neg (show ¬ (q_setFt T 0).2.1.2.2.1 0 k < w from hq)]
        · have e0 : z_up m 59 0 0 64 k = nI (T.2.1.2.2.1 0 k) := (m0 m hM).gd hk (show 0 < 5 by decide)
          rw [c_X10_as, k_misGuest _ _ (m0 m hM).ng h6]
          simp only [Option.bind_some, q_if]
          rw [if_pos (show q_v (q_setFt T 0).2.1.1.2 (nI k) = true from hv), k_mwithin]
          simp only [Option.bind_some, q_if]
          rw [if_pos hw, q_in hk6 (by decide), z_g_t, q_cl (by omega), e0, q_nI_lt (by omega) (by omega), if_neg hq]
    · refine ⟨-2, 0, q_setFt T 0, fun d m hC => ⟨z_up m 0 10 0, ?_, c0 m hC, fun a ha => z_up_ne (by omega)⟩, fun d m hM => ⟨z_up m 59 0 0, ?_, m0 m hM, fun a ha => z_up_ne (by omega)⟩, hok⟩
      · rw [c_X9_as, k_isGuest _ _ (c0 m hC).ng h6]
        simp only [Option.bind_some, q_if]
        rw [if_pos (show q_v (q_setFt T 0).2.1.1.2 x = true from hv), k_within]
        simp only [Option.bind_some, q_if]
        rw [if_neg hw]
      · rw [c_X10_as, k_misGuest _ _ (m0 m hM).ng h6]
        simp only [Option.bind_some, q_if]
        rw [if_pos (show q_v (q_setFt T 0).2.1.1.2 x = true from hv), k_mwithin]
        simp only [Option.bind_some, q_if]
        rw [if_neg hw]
  · refine ⟨-1, 0, q_setFt T 0, fun d m hC => ⟨z_up m 0 10 0, ?_, c0 m hC, fun a ha => z_up_ne (by omega)⟩, fun d m hM => ⟨z_up m 59 0 0, ?_, m0 m hM, fun a ha => z_up_ne (by omega)⟩, hok⟩
    · rw [c_X9_as, k_isGuest _ _ (c0 m hC).ng h6]
      simp only [Option.bind_some, q_if]
      rw [if_neg (show ¬ q_v (q_setFt T 0).2.1.1.2 x = true from hv)]
    · rw [c_X10_as, k_misGuest _ _ (m0 m hM).ng h6]
      simp only [Option.bind_some, q_if]
      rw [if_neg (show ¬ q_v (q_setFt T 0).2.1.1.2 x = true from hv)]
