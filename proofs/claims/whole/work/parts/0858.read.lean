theorem p_bearings (x : Int32) : q_pr 79 159 [.int x] := by
  intro T hok
  have h6 := hok.1.2.1
  have h5 := hok.1.1
  by_cases hv : q_v T.2.1.1.2 x = true
  · obtain ⟨k, hk, rfl⟩ := q_v_t hv (by omega)
    refine ⟨q_acc (fun v => q_so (q_sG T.2.1 1 k v) T.2.2.1 T.2.2.1.1 0) (10 - 1) 1 0, 0, T, fun d m hC => ?_, fun d m hM => ?_, hok⟩
    · obtain ⟨m0, e0, c0, g0, f0⟩ := k_hbec (h := 11) (o := 2) (Or.inr (Or.inl rfl)) (Or.inl rfl) (Or.inr (by decide)) h5 h6 (d + 17) hC.2.1
      obtain ⟨m1, e1, f1⟩ := k_cbearings hok.1 hok.2.1 hk (d + 16) (10 - 1) (199999 - (10 - 1) - 1) 1 0 m0 (T.2.1.2.2.1 1 k) (by decide) (by decide) (by rw [q_sG_id]; exact c0) (hC.2.2.1.of (fun a h1 h2 => f0 a (by omega)))
      rw [show 199999 - (10 - 1) - 1 + (10 - 1) + 1 = 199999 by omega] at e1
      refine ⟨m1, ?_, hC.of h6 (fun a ha => (f1 a (by omega)).trans (f0 a (by omega))) (fun a h1 h2 => (f1 a (by omega)).trans (f0 a (by omega))) (fun a h1 h2 => (f1 a (by omega)).trans (f0 a (by omega))), fun a ha => (f1 a (by omega)).trans (f0 a (by omega))⟩
      rw [c_X9_bearings, k_isGuest _ _ hC.ng h6]
      simp only [Option.bind_some, q_if]
      rw [if_pos hv, e0]
      simp only [Option.bind_some]
      rw [show d + 16 + 3 = d + 19 from rfl] at e1
      exact e1
    · obtain ⟨m1, e1, c1, f1⟩ := k_mbearings hok.1 hok.2.1 hk (d + 17) (10 - 1) (199999 - (10 - 1) - 1) 1 0 m (T.2.1.2.2.1 1 k) (by decide) (by decide) (by rw [q_sG_id]; exact hM.2.1) hM.2.2.1
      rw [show 199999 - (10 - 1) - 1 + (10 - 1) + 1 = 199999 by omega] at e1
      refine ⟨m1, ?_, ⟨hM.1.of (by rw [f1 59 (by decide)]) (by rw [f1 59 (by decide)]) (by rw [f1 59 (by decide)]), c1, hM.2.2.1.of (by rw [f1 59 (by decide)]) (fun a h1 h2 => f1 a (by omega)), hM.2.2.2.of (fun a h1 h2 => f1 a (by omega))⟩, fun a ha => f1 a (by omega)⟩
      rw [c_X10_bearings, k_misGuest _ _ hM.ng h6]
      simp only [Option.bind_some, q_if]
      rw [if_pos hv, q_in (show k < 6 by omega) (by decide), z_g_t, q_cl (by omega), hM.2.1.g1 hk]
      exact e1
  · refine ⟨-1, 0, T, q_cop_same (fun d m hC => ?_), q_mop_same (fun d m hM => ?_), hok⟩
    · rw [c_X9_bearings, k_isGuest _ _ hC.ng h6]
      simp only [Option.bind_some, q_if]
      rw [if_neg hv]
    · rw [c_X10_bearings, k_misGuest _ _ hM.ng h6]
      simp only [Option.bind_some, q_if]
      rw [if_neg hv]
theorem p_kinds (x : Int32) : q_pr 80 160 [.int x] := by
  intro T hok
  have h6 := hok.1.2.1
  have h5 := hok.1.1
  by_cases hv : q_v T.2.1.1.2 x = true
  · obtain ⟨k, hk, rfl⟩ := q_v_t hv (by omega)
    refine ⟨q_acc (fun v => q_so (q_sG T.2.1 0 k v) T.2.2.1 T.2.2.1.1 0) (3 - 0) 0 0, 0, T, fun d m hC => ?_, fun d m hM => ?_, hok⟩
    · obtain ⟨m0, e0, c0, g0, f0⟩ := k_hbec (h := 11) (o := 2) (Or.inr (Or.inl rfl)) (Or.inl rfl) (Or.inr (by decide)) h5 h6 (d + 17) hC.2.1
      obtain ⟨m1, e1, f1⟩ := k_ckinds hok.1 hok.2.1 hk (d + 16) (3 - 0) (199999 - (3 - 0) - 1) 0 0 m0 (T.2.1.2.2.1 0 k) (by decide) (by decide) (by rw [q_sG_id]; exact c0) (hC.2.2.1.of (fun a h1 h2 => f0 a (by omega)))
      rw [show 199999 - (3 - 0) - 1 + (3 - 0) + 1 = 199999 by omega] at e1
      refine ⟨m1, ?_, hC.of h6 (fun a ha => (f1 a (by omega)).trans (f0 a (by omega))) (fun a h1 h2 => (f1 a (by omega)).trans (f0 a (by omega))) (fun a h1 h2 => (f1 a (by omega)).trans (f0 a (by omega))), fun a ha => (f1 a (by omega)).trans (f0 a (by omega))⟩
      rw [c_X9_kinds, k_isGuest _ _ hC.ng h6]
      simp only [Option.bind_some, q_if]
      rw [if_pos hv, e0]
      simp only [Option.bind_some]
      rw [show d + 16 + 3 = d + 19 from rfl] at e1
      exact e1
    · obtain ⟨m1, e1, c1, f1⟩ := k_mkinds hok.1 hok.2.1 hk (d + 17) (3 - 0) (199999 - (3 - 0) - 1) 0 0 m (T.2.1.2.2.1 0 k) (by decide) (by decide) (by rw [q_sG_id]; exact hM.2.1) hM.2.2.1
      rw [show 199999 - (3 - 0) - 1 + (3 - 0) + 1 = 199999 by omega] at e1
      refine ⟨m1, ?_, ⟨hM.1.of (by rw [f1 59 (by decide)]) (by rw [f1 59 (by decide)]) (by rw [f1 59 (by decide)]), c1, hM.2.2.1.of (by rw [f1 59 (by decide)]) (fun a h1 h2 => f1 a (by omega)), hM.2.2.2.of (fun a h1 h2 => f1 a (by omega))⟩, fun a ha => f1 a (by omega)⟩
      rw [c_X10_kinds, k_misGuest _ _ hM.ng h6]
      simp only [Option.bind_some, q_if]
      rw [if_pos hv, q_in (show k < 6 by omega) (by decide), z_g_t, q_cl (by omega), hM.2.1.g0 hk]
      exact e1
  · refine ⟨-1, 0, T, q_cop_same (fun d m hC => ?_), q_mop_same (fun d m hM => ?_), hok⟩
    · rw [c_X9_kinds, k_isGuest _ _ hC.ng h6]
      simp only [Option.bind_some, q_if]
      rw [if_neg hv]
    · rw [c_X10_kinds, k_misGuest _ _ hM.ng h6]
      simp only [Option.bind_some, q_if]
      rw [if_neg hv]
theorem p_hintings (x : Int32) : q_pr 81 161 [.int x] := by
  intro T hok
  have h6 := hok.1.2.1
  have h5 := hok.1.1
  by_cases hv : q_v T.2.1.1.1 x = true
  · obtain ⟨k, hk, rfl⟩ := q_v_t hv (by omega)
    refine ⟨q_acc (fun v => q_so (q_sH T.2.1 k v) T.2.2.1 T.2.2.1.1 0) (10 - 1) 1 0, 0, T, fun d m hC => ?_, fun d m hM => ?_, hok⟩
    · obtain ⟨m0, e0, c0, g0, f0⟩ := k_hbec (h := 11) (o := 2) (Or.inr (Or.inl rfl)) (Or.inl rfl) (Or.inr (by decide)) h5 h6 (d + 17) hC.2.1
      obtain ⟨m1, e1, f1⟩ := k_chintings hok.1 hok.2.1 hk (d + 16) (10 - 1) (199999 - (10 - 1) - 1) 1 0 m0 (T.2.1.2.1 k) (by decide) (by decide) (by rw [q_sH_id]; exact c0) (hC.2.2.1.of (fun a h1 h2 => f0 a (by omega)))
      rw [show 199999 - (10 - 1) - 1 + (10 - 1) + 1 = 199999 by omega] at e1
      refine ⟨m1, ?_, hC.of h6 (fun a ha => (f1 a (by omega)).trans (f0 a (by omega))) (fun a h1 h2 => (f1 a (by omega)).trans (f0 a (by omega))) (fun a h1 h2 => (f1 a (by omega)).trans (f0 a (by omega))), fun a ha => (f1 a (by omega)).trans (f0 a (by omega))⟩
      rw [c_X9_hintings, k_isSign _ _ hC.ns h5]
      simp only [Option.bind_some, q_if]
      rw [if_pos hv, e0]
      simp only [Option.bind_some]
      rw [show d + 16 + 3 = d + 19 from rfl] at e1
      exact e1
    · obtain ⟨m1, e1, c1, f1⟩ := k_mhintings hok.1 hok.2.1 hk (d + 17) (10 - 1) (199999 - (10 - 1) - 1) 1 0 m (T.2.1.2.1 k) (by decide) (by decide) (by rw [q_sH_id]; exact hM.2.1) hM.2.2.1
      rw [show 199999 - (10 - 1) - 1 + (10 - 1) + 1 = 199999 by omega] at e1
      refine ⟨m1, ?_, ⟨hM.1.of (by rw [f1 59 (by decide)]) (by rw [f1 59 (by decide)]) (by rw [f1 59 (by decide)]), c1, hM.2.2.1.of (by rw [f1 59 (by decide)]) (fun a h1 h2 => f1 a (by omega)), hM.2.2.2.of (fun a h1 h2 => f1 a (by omega))⟩, fun a ha => f1 a (by omega)⟩
      rw [c_X10_hintings, k_misSign _ _ hM.ns h5]
      simp only [Option.bind_some, q_if]
      rw [if_pos hv, q_in (show k < 5 by omega) (by decide), z_g_t, q_cl (by omega), hM.hi hk]
      exact e1
  · refine ⟨-1, 0, T, q_cop_same (fun d m hC => ?_), q_mop_same (fun d m hM => ?_), hok⟩
    · rw [c_X9_hintings, k_isSign _ _ hC.ns h5]
      simp only [Option.bind_some, q_if]
      rw [if_neg hv]
    · rw [c_X10_hintings, k_misSign _ _ hM.ns h5]
      simp only [Option.bind_some, q_if]
      rw [if_neg hv]
