theorem k_mkeep (C : Nat → List Value → z_M → Option z_R) {ng : Nat} (hg : ng ≤ 6) : ∀ (j F i : Nat) (m : z_M), i + j = ng → m 59 6 = nI ng → ∃ m1, z_lp z_SH 0 (fun _ => 0) C me_X10_keep (F + j + 1) 18 [some (.ref 59), some (.int (nI i))] [] m = some (0, 0, m1) ∧ (∀ k, i ≤ k → k < ng → m1 71 k = m 67 k ∧ m1 72 k = m 68 k) ∧ (∀ k, k < i → m1 71 k = m 71 k ∧ m1 72 k = m 72 k) ∧ ∀ a, a ≠ 71 → a ≠ 72 → m1 a = m a := by
  intro j
  induction j with
  | zero =>
    intro F i m hi h6
    refine ⟨m, ?_, fun k h1 h2 => by omega, fun _ _ => ⟨rfl, rfl⟩, fun _ _ _ => rfl⟩
    rw [e_X10_keep_18, h6, q_nI_le (by omega) (by omega), if_pos (by omega)]
  | succ j ih =>
    intro F i m hi h6
    have hi6 : i < 6 := by omega
    obtain ⟨m1, e1, g1, g2, f1⟩ := ih F (i + 1) (z_up (z_up m 71 i (m 67 i)) 72 i (m 68 i)) (by omega) (by rw [q_ua (by decide), q_ua (by decide)]; exact h6)
    refine ⟨m1, ?_, fun k h1 h2 => ?_, fun k hk => ?_, fun a ha hb => by rw [f1 a ha hb, z_up_ne hb, z_up_ne ha]⟩
    · rw [show F + (j + 1) + 1 = (F + j + 1) + 1 by omega, e_X10_keep_18, h6, q_nI_le (by omega) (by omega), if_neg (by omega), q_in hi6 (by decide)]
      simp only [z_g_t]
      rw [q_cl (by omega), q_ua (by decide), nI_1]
      exact e1
    · by_cases hq : k = i
      · subst hq
        obtain ⟨a, b⟩ := g2 k (by omega)
        exact ⟨by rw [a, q_ua (by decide), q_uq], by rw [b, q_uq]⟩
      · obtain ⟨a, b⟩ := g1 k (by omega) h2
        exact ⟨by rw [a, q_ua (by decide), q_ua (by decide)], by rw [b, q_ua (by decide), q_ua (by decide)]⟩
    · obtain ⟨a, b⟩ := g2 k (by omega)
      exact ⟨by rw [a, q_ua (by decide), q_uk (by omega)], by rw [b, q_uk (by omega), q_ua (by decide)]⟩
theorem k_mput (C : Nat → List Value → z_M → Option z_R) {ng : Nat} (hg : ng ≤ 6) : ∀ (j F i : Nat) (m : z_M), i + j = ng → m 59 6 = nI ng → ∃ m1, z_lp z_SH 0 (fun _ => 0) C me_X10_putBack (F + j + 1) 18 [some (.ref 59), some (.int (nI i))] [] m = some (0, 0, m1) ∧ (∀ k, i ≤ k → k < ng → m1 67 k = m 71 k ∧ m1 68 k = m 72 k) ∧ (∀ k, k < i → m1 67 k = m 67 k ∧ m1 68 k = m 68 k) ∧ ∀ a, a ≠ 67 → a ≠ 68 → m1 a = m a := by
  intro j
  induction j with
  | zero =>
    intro F i m hi h6
    refine ⟨m, ?_, fun k h1 h2 => by omega, fun _ _ => ⟨rfl, rfl⟩, fun _ _ _ => rfl⟩
    rw [e_X10_putBack_18, h6, q_nI_le (by omega) (by omega), if_pos (by omega)]
  | succ j ih =>
    intro F i m hi h6
    have hi6 : i < 6 := by omega
    obtain ⟨m1, e1, g1, g2, f1⟩ := ih F (i + 1) (z_up (z_up m 67 i (m 71 i)) 68 i (m 72 i)) (by omega) (by rw [q_ua (by decide), q_ua (by decide)]; exact h6)
    refine ⟨m1, ?_, fun k h1 h2 => ?_, fun k hk => ?_, fun a ha hb => by rw [f1 a ha hb, z_up_ne hb, z_up_ne ha]⟩
    · rw [show F + (j + 1) + 1 = (F + j + 1) + 1 by omega, e_X10_putBack_18, h6, q_nI_le (by omega) (by omega), if_neg (by omega), q_in hi6 (by decide)]
      simp only [z_g_t]
      rw [q_cl (by omega), q_ua (by decide), nI_1]
      exact e1
    · by_cases hq : k = i
      · subst hq
        obtain ⟨a, b⟩ := g2 k (by omega)
        exact ⟨by rw [a, q_ua (by decide), q_uq], by rw [b, q_uq]⟩
      · obtain ⟨a, b⟩ := g1 k (by omega) h2
        exact ⟨by rw [a, q_ua (by decide), q_ua (by decide)], by rw [b, q_ua (by decide), q_ua (by decide)]⟩
    · obtain ⟨a, b⟩ := g2 k (by omega)
      exact ⟨by rw [a, q_ua (by decide), q_uk (by omega)], by rw [b, q_uk (by omega), q_ua (by decide)]⟩
theorem q_fail {jx jm : Nat} {as : List Value} {T : q_T} (hok : q_ok T) (f : Int32) (h1 : ∀ (d : Nat) (m : z_M), q_C m T → z_go z_SH z_P (d + 20) jx (.ref 0 :: as) m = some (-10 - f, 0, z_up (z_up m 0 10 0) 0 10 f)) (h2 : ∀ (d : Nat) (m : z_M), q_M m T → z_go z_SH z_P (d + 20) jm (.ref 59 :: as) m = some (-10 - f, 0, z_up (z_up m 59 0 0) 59 0 f)) : ∃ (r : Int32) (l : Int64) (T' : q_T), q_cop jx as T r l T' ∧ q_mop jm as T r l T' ∧ q_ok T' :=
  ⟨-10 - f, 0, q_setFt (q_setFt T 0) f, fun d m hC => ⟨_, h1 d m hC, q_setFt_C (q_setFt_C hC hok.1.2.1 0) hok.1.2.1 f, fun a ha => (z_up_ne (by omega)).trans (z_up_ne (by omega))⟩, fun d m hM => ⟨_, h2 d m hM, q_setFt_M (q_setFt_M hM 0) f, fun a ha => (z_up_ne (by omega)).trans (z_up_ne (by omega))⟩, hok⟩
theorem q_same0 {jx jm : Nat} {as : List Value} {T : q_T} (hok : q_ok T) (v : Int32) (h1 : ∀ (d : Nat) (m : z_M), q_C m T → z_go z_SH z_P (d + 20) jx (.ref 0 :: as) m = some (v, 0, z_up m 0 10 0)) (h2 : ∀ (d : Nat) (m : z_M), q_M m T → z_go z_SH z_P (d + 20) jm (.ref 59 :: as) m = some (v, 0, z_up m 59 0 0)) : ∃ (r : Int32) (l : Int64) (T' : q_T), q_cop jx as T r l T' ∧ q_mop jm as T r l T' ∧ q_ok T' :=
  ⟨v, 0, q_setFt T 0, fun d m hC => ⟨_, h1 d m hC, q_setFt_C hC hok.1.2.1 0, fun a ha => z_up_ne (by omega)⟩, fun d m hM => ⟨_, h2 d m hM, q_setFt_M hM 0, fun a ha => z_up_ne (by omega)⟩, hok⟩
def q_an (R : Option Nat × q_St × Int32 × Int32) (x : Int32) : Int32 := if x = 1 then R.1.elim (-9) nI else if R.1.elim (-9) nI = (-9 : Int32) then (if x = nI 0 then nI (q_bits R.2.1.1.2 (R.2.1.2.2.2 0)) else if x = nI 2 then nI (q_bits R.2.1.1.2 (R.2.1.2.2.2 1)) else if x = nI 3 then R.2.2.1 else if x = nI 4 then R.2.2.2 else if q_v R.2.1.1.2 (x - 10) = true then nI (R.2.1.2.2.1 4 (x - 10).toNatClampNeg) else -9) else -100 - R.1.elim (-9) nI
theorem k_answer {R : Option Nat × q_St × Int32 × Int32} (h6 : R.2.1.1.2 ≤ 6) (x : Int32) {m : z_M} (hC : q_CS m 31 R.2.1) (h1 : m 30 1 = R.1.elim (-9) nI) (h2 : m 30 2 = R.2.2.1) (h3 : m 30 3 = R.2.2.2) (d : Nat) : z_go z_SH z_P (d + 2) 4 [.ref 30, .int x] m = some (q_an R x, 0, m) := by
  have hz : z_isH 31 := Or.inr (Or.inr (Or.inr rfl))
  have e31 : m 31 3 = nI R.2.1.1.2 := hC.2.1
  have hgo : z_go z_SH z_P (d + 1) 5 [.ref 30, .int (x - 10)] m = some (if q_v R.2.1.1.2 (x - 10) = true then nI (R.2.1.2.2.1 4 (x - 10).toNatClampNeg) else -9, 0, m) := by
    rw [c_X0_gatheredOf, e31, q_v_if (by omega)]
    by_cases hv : q_v R.2.1.1.2 (x - 10) = true
    · rw [if_pos hv, if_pos hv]
      obtain ⟨k, hk, ek⟩ := q_v_t hv (by omega)
      have hk6 : k < 6 := by omega
      rw [ek, q_in hk6 (by decide), z_g_t, q_cl (by omega), q_g34 hk6 (by decide), z_g_t]
      rw [show m (34 + k) 4 = nI (R.2.1.2.2.1 4 k) from hC.gd hk (by decide)]
    · rw [if_neg hv, if_neg hv]
  rw [c_X0_answer, hgo, k_knowing0 hz h6 d hC, k_shocked0 hz h6 d hC, h1, h2, h3]
  simp only [Option.bind_some]
  unfold q_an
  by_cases a1 : x = 1
  · rw [if_pos a1, if_pos a1]
  rw [if_neg a1, if_neg a1]
  by_cases a2 : R.1.elim (-9) nI = (-9 : Int32)
  · rw [if_pos a2, if_pos a2]
    by_cases b0 : x = nI 0
    · rw [if_pos b0, if_pos b0]
    rw [if_neg b0, if_neg b0, if_neg (show ¬ x = nI 1 from a1)]
    by_cases b2 : x = nI 2
    · rw [if_pos b2, if_pos b2]
    rw [if_neg b2, if_neg b2]
    by_cases b3 : x = nI 3
    · rw [if_pos b3, if_pos b3]
    rw [if_neg b3, if_neg b3]
    by_cases b4 : x = nI 4
    · rw [if_pos b4, if_pos b4]
    rw [if_neg b4, if_neg b4]
  · rw [if_neg a2, if_neg a2]
/-- what the reference tells, the fault aside -/
theorem k_mtell {R : Option Nat × q_St × Int32 × Int32} (h6 : R.2.1.1.2 ≤ 6) (x : Int32) (hx : q_w 0 4 x = true ∨ q_w 10 15 x = true) {m : z_M} (hM : q_MS m R.2.1) (h1 : m 59 25 = R.2.2.1) (h2 : m 59 26 = R.2.2.2) (d : Nat) : ∃ v : Int32, z_go z_SH z_P (d + 2) 145 [.ref 59, .int x] m = some (v, 0, m) ∧ (if x = 1 then R.1.elim (-9) nI else if R.1.elim (-9) nI = (-9 : Int32) then v else -100 - R.1.elim (-9) nI) = q_an R x := by
  rw [c_X10_tellDinner, k_misGuest _ _ hM.2.1 h6, hM.2.2.2.2.1, hM.2.2.2.2.2, h1, h2]
  simp only [Option.bind_some]
  rw [q_if]
  have hlt : ∀ v, v < 5 → nI v < (10 : Int32) := by decide +kernel
  have hnlt : ∀ v, v < 16 → 10 ≤ v → ¬ nI v < (10 : Int32) ∧ ¬ nI v = nI 0 ∧ ¬ nI v = nI 2 ∧ ¬ nI v = nI 3 ∧ ¬ nI v = nI 4 := by decide +kernel
  unfold q_an
  rcases hx with hx | hx
  · obtain ⟨v, -, hv, rfl⟩ := q_w_lit (a := 0) (b := 4) rfl rfl hx (by decide) (by decide)
    rw [if_pos (hlt v (by omega))]
    rcases (show v = 0 ∨ v = 1 ∨ v = 2 ∨ v = 3 ∨ v = 4 by omega) with rfl | rfl | rfl | rfl | rfl
    · exact ⟨_, rfl, by rw [if_pos rfl]⟩
    · exact ⟨_, rfl, by rw [if_pos (show nI 1 = (1 : Int32) from rfl), if_pos (show nI 1 = (1 : Int32) from rfl)]⟩
    · exact ⟨_, rfl, by rw [if_neg (show ¬ nI 2 = nI 0 by decide), if_pos rfl]⟩
    · exact ⟨_, rfl, by rw [if_neg (show ¬ nI 3 = nI 0 by decide), if_neg (show ¬ nI 3 = nI 2 by decide), if_pos rfl]⟩
    · exact ⟨_, rfl, by rw [if_neg (show ¬ nI 4 = nI 0 by decide), if_neg (show ¬ nI 4 = nI 2 by decide), if_neg (show ¬ nI 4 = nI 3 by decide), if_pos rfl]⟩
  · obtain ⟨v, hv0, hv, rfl⟩ := q_w_lit (a := 10) (b := 15) rfl rfl hx (by decide) (by decide)
    obtain ⟨b1, b2, b3, b4, b5⟩ := hnlt v (by omega) hv0
    rw [if_neg b1]
    by_cases hq : q_v R.2.1.1.2 (nI v - 10) = true
    · rw [if_pos hq]
      obtain ⟨k, hk, ek⟩ := q_v_t hq (by omega)
      rw [ek, q_in (show k < 6 by omega) (by decide), z_g_t, q_cl (by omega), hM.g4 hk]
      rw [ek] at hq
      exact ⟨_, rfl, by rw [if_neg b2, if_neg b3, if_neg b4, if_neg b5, if_pos hq]⟩
    · rw [if_neg hq]
      exact ⟨_, rfl, by rw [if_neg b2, if_neg b3, if_neg b4, if_neg b5, if_neg hq]⟩
theorem k_isDQ (d : Nat) (x : Int32) (m : z_M) : z_go z_SH z_P (d + 2) 98 [.int x] m = some (q_b (q_w 0 4 x || q_w 10 15 x), 0, m) := by
  rw [c_X9_isDinnerQuestion, k_within]
  simp only [Option.bind_some]
  rw [k_within]
  simp only [Option.bind_some]
  rw [q_if, q_if]
  cases q_w 0 4 x <;> cases q_w 10 15 x <;> simp [q_b]
