/-! the reference: rows by their number -/
def q_cg (S : q_St) (ρ : Nat → Nat) : Nat → (Nat → Bool) → Bool
  | 0, _ => true
  | j + 1, W => if ρ j < S.1.1 then (if W (ρ j) = true ∨ S.2.2.2 0 j = true ∨ S.2.2.1 1 j < q_wt S (ρ j) j then false else q_cg S ρ j (fun v => if v = ρ j then true else W v)) else q_cg S ρ j W
theorem q_cg_l {S : q_St} {ρ : Nat → Nat} {j : Nat} {W : Nat → Bool} (h : ¬ ρ j < S.1.1) : q_cg S ρ (j + 1) W = q_cg S ρ j W := if_neg h
theorem q_cg_n {S : q_St} {ρ : Nat → Nat} {j : Nat} {W : Nat → Bool} (h : ρ j < S.1.1) (h2 : W (ρ j) = true ∨ S.2.2.2 0 j = true ∨ S.2.2.1 1 j < q_wt S (ρ j) j) : q_cg S ρ (j + 1) W = false := (if_pos h).trans (if_pos h2)
theorem q_cg_y {S : q_St} {ρ : Nat → Nat} {j : Nat} {W : Nat → Bool} (h : ρ j < S.1.1) (h2 : ¬ (W (ρ j) = true ∨ S.2.2.2 0 j = true ∨ S.2.2.1 1 j < q_wt S (ρ j) j)) : q_cg S ρ (j + 1) W = q_cg S ρ j (fun v => if v = ρ j then true else W v) := (if_pos h).trans (if_neg h2)
theorem q_us_iff {ns : Nat} {ρ : Nat → Nat} {v : Nat} : ∀ k, q_us ns ρ k v = false ↔ ∀ i, i < k → ρ i < ns → ρ i ≠ v
  | 0 => ⟨fun _ i hi => by omega, fun _ => rfl⟩
  | k + 1 => by
    have ih := q_us_iff (ns := ns) (ρ := ρ) (v := v) k
    simp only [q_us]
    by_cases h : ρ k < ns ∧ v = ρ k
    · rw [if_pos h]
      exact ⟨fun q => (by cases q), fun q => absurd h.2.symm (q k (by omega) h.1)⟩
    · rw [if_neg h, ih]
      refine ⟨fun q i hi hn => ?_, fun q i hi => q i (by omega)⟩
      by_cases hq : i = k
      · subst hq
        exact fun e => h ⟨hn, e.symm⟩
      · exact q i (by omega) hn
theorem q_cg_iff {S : q_St} {ρ : Nat → Nat} : ∀ (j : Nat) (W : Nat → Bool), q_cg S ρ j W = true ↔ (q_pv (fun _ => false) (q_okB S) ρ j = true ∧ ∀ i, i < j → ρ i < S.1.1 → W (ρ i) = false)
  | 0, W => ⟨fun _ => ⟨rfl, fun i hi => by omega⟩, fun _ => rfl⟩
  | j + 1, W => by
    have hp : q_pv (fun _ => false) (q_okB S) ρ (j + 1) = (q_pv (fun _ => false) (q_okB S) ρ j && q_okB S ρ j (ρ j)) := by simp only [q_pv, Bool.false_or]
    by_cases h : ρ j < S.1.1
    · have ho : q_okB S ρ j (ρ j) = true ↔ (S.2.2.2 0 j = false ∧ q_wt S (ρ j) j ≤ S.2.2.1 1 j ∧ ∀ i, i < j → ρ i < S.1.1 → ρ i ≠ ρ j) := by
        unfold q_okB
        rw [if_pos h, ← q_us_iff]
        simp
      by_cases h2 : W (ρ j) = true ∨ S.2.2.2 0 j = true ∨ S.2.2.1 1 j < q_wt S (ρ j) j
      · rw [q_cg_n h h2, hp, Bool.and_eq_true, ho]
        refine ⟨fun q => (by cases q), fun q => ?_⟩
        exfalso
        obtain ⟨⟨-, q1, q2, -⟩, q3⟩ := q
        have q4 := q3 j (by omega) h
        rcases h2 with h2 | h2 | h2
        · rw [q4] at h2
          cases h2
        · rw [q1] at h2
          cases h2
        · omega
      · rw [q_cg_y h h2, q_cg_iff j, hp, Bool.and_eq_true, ho]
        have w0 : W (ρ j) = false := by
          cases hw : W (ρ j) with
          | false => rfl
          | true => exact absurd (Or.inl hw) h2
        have k0 : S.2.2.2 0 j = false := by
          cases hw : S.2.2.2 0 j with
          | false => rfl
          | true => exact absurd (Or.inr (Or.inl hw)) h2
        have b0 : q_wt S (ρ j) j ≤ S.2.2.1 1 j := by
          by_cases hq : S.2.2.1 1 j < q_wt S (ρ j) j
          · exact absurd (Or.inr (Or.inr hq)) h2
          · omega
        constructor
        · rintro ⟨q1, q2⟩
          have q3 : ∀ i, i < j → ρ i < S.1.1 → ρ i ≠ ρ j ∧ W (ρ i) = false := fun i hi hn => by
            have := q2 i hi hn
            by_cases he : ρ i = ρ j
            · rw [if_pos he] at this
              cases this
            · rw [if_neg he] at this
              exact ⟨he, this⟩
          refine ⟨⟨q1, k0, b0, fun i hi hn => (q3 i hi hn).1⟩, fun i hi hn => ?_⟩
          by_cases hq : i = j
          · rw [hq]
            exact w0
          · exact (q3 i (by omega) hn).2
        · rintro ⟨⟨q1, -, -, q2⟩, q3⟩
          refine ⟨q1, fun i hi hn => ?_⟩
          rw [if_neg (q2 i hi hn)]
          exact q3 i (by omega) hn
    · have ho : q_okB S ρ j (ρ j) = true := if_neg h
      rw [q_cg_l h, q_cg_iff j, hp, ho, Bool.and_true]
      refine ⟨fun q => ⟨q.1, fun i hi hn => ?_⟩, fun q => ⟨q.1, fun i hi hn => q.2 i (by omega) hn⟩⟩
      by_cases hq : i = j
      · rw [hq] at hn
        exact absurd hn h
      · exact q.2 i (by omega) hn
theorem q_cg_pv (S : q_St) (ρ : Nat → Nat) (j : Nat) : q_cg S ρ j (fun _ => false) = q_pv (fun _ => false) (q_okB S) ρ j := by
  have h := q_cg_iff (S := S) (ρ := ρ) j (fun _ => false)
  cases hp : q_pv (fun _ => false) (q_okB S) ρ j with
  | true => exact h.mpr ⟨hp, fun _ _ _ => rfl⟩
  | false =>
    cases hc : q_cg S ρ j (fun _ => false) with
    | false => rfl
    | true =>
      have := (h.mp hc).1
      rw [hp] at this
      cases this
theorem q_MS.o75 {m : z_M} {S : q_St} (hM : q_MS m S) (k : Nat) (v : Int32) : q_MS (z_up m 75 k v) S := hM.of (q_ua (by decide)) (q_ua (by decide)) (q_ua (by decide)) (q_ua (by decide)) (fun a h1 h2 => z_up_ne (by omega))
theorem k_mcg {S : q_St} (hok : q_okS S) {ρ : Nat → Nat} (hb : q_bd (fun _ => false) (S.1.1 + 1) ρ S.1.2) (d : Nat) : ∀ (j F : Nat) (W : Nat → Bool) (m : z_M), j ≤ S.1.2 → q_MS m S → ∃ m1, z_lp z_SH 0 (fun _ => 0) (z_go z_SH z_P (d + 1)) me_X10_canGive (F + j + 1) 12 [some (.ref 59), none, some (.int (nI (q_vl (fun _ => false) (S.1.1 + 1) ρ j))), some (.int (nI (q_bits 6 W))), some (.int (nI j - 1)), none] [] m = some (q_b (q_cg S ρ j W), 0, m1) ∧ (q_cg S ρ j W = true → ∀ i, i < j → m1 75 i = q_enc S ρ i) ∧ (∀ i, j ≤ i → m1 75 i = m 75 i) ∧ ∀ a, a ≠ 75 → m1 a = m a := by
  have h6 := hok.2.1
  have h5 := hok.1
  intro j
  induction j with
  | zero =>
    intro F W m hj hM
    refine ⟨m, ?_, fun _ i hi => by omega, fun _ _ => rfl, fun _ _ => rfl⟩
    rw [e_X10_canGive_12, if_pos q_sub0]
    rfl
  | succ j ih =>
    intro F W m hj hM
    have hj' : j < S.1.2 := by omega
    have hj6 : j < 6 := by omega
    have hd := hb j hj' rfl
    have hv : q_vl (fun _ => false) (S.1.1 + 1) ρ (j + 1) = q_vl (fun _ => false) (S.1.1 + 1) ρ j * (S.1.1 + 1) + ρ j := by simp only [q_vl, Bool.false_eq_true, if_false]
    have hlt := q_vl_lt (sk := fun _ => false) (b := S.1.1 + 1) (ρ := ρ) (j + 1) (fun i hi => hb i (by omega))
    have hp := q_pow6 (S.1.1 + 1) (by omega) (q_un (j + 1) (fun _ => false)) (by have := q_un_le (j + 1) (fun _ => false); omega)
    have ht0 : ¬ nI (S.1.1 + 1) = (0 : Int32) := nI_ne0 (by omega) (by omega)
    obtain ⟨d1, d2⟩ := q_digit (v := q_vl (fun _ => false) (S.1.1 + 1) ρ j) hd
    have n5 : ∀ v : Int32, z_up m 75 j v 59 5 = nI S.1.1 := fun v => by rw [q_ua (by decide)]; exact hM.1
    have n8 : ∀ v : Int32, z_up m 75 j v 59 8 = nI (q_bits S.1.2 (S.2.2.2 0)) := fun v => by rw [q_ua (by decide)]; exact hM.2.2.2.2.1
    have nb : ∀ v : Int32, z_up m 75 j v 65 j = nI (S.2.2.1 1 j) := fun v => by rw [q_ua (by decide)]; exact hM.g1 hj'
    have hbb := hok.k1 hj'
    rw [show F + (j + 1) + 1 = (F + j + 1) + 1 by omega, nI_pred, e_X10_canGive_12, if_neg (nI_pos (by omega)), hM.1, nI_1, decide_eq_true ht0, z_g_t, z_g_t, pk_rem (by omega) (by omega) (by omega), pk_div (by omega) (by omega) (by omega), hv, d1, d2, q_nI_if (by omega) (by omega), q_in hj6 (by decide), q_cl (by omega), q_m1s]
    simp only [z_g_t, n5]
    by_cases hs : ρ j = S.1.1
    · obtain ⟨m1, e1, g1, g2, f1⟩ := ih F W (z_up m 75 j 9) (by omega) (hM.o75 j 9)
      rw [if_pos hs, q_nI_le (by omega) (by omega), if_pos (by omega), q_cg_l (by omega)]
      refine ⟨m1, e1, fun hc i hi => ?_, fun i hi => by rw [g2 i (by omega), q_uk (by omega)], fun a ha => (f1 a ha).trans (z_up_ne ha)⟩
      by_cases hq : i = j
      · subst hq
        rw [g2 i (Nat.le_refl _), q_uq, q_enc_x (by omega)]
      · exact g1 hc i (by omega)
    · have hs' : ρ j < S.1.1 := by omega
      have hw := q_wt_le hok hs' j
      rw [if_neg hs, q_nI_le (by omega) (by omega), if_neg (by omega), k_misOf d (Nat.le_refl 6) (show ρ j < 6 by omega) W]
      simp only [Option.bind_some]
      rw [q_if, n8, k_misOf d h6 hj']
      simp only [Option.bind_some]
      rw [q_if, k_mweigh (hM.o75 j (nI (ρ j))) hok hs' hj' d]
      simp only [Option.bind_some]
      rw [nb, q_nI_le (by omega) (by omega), q_bits_or (n := 6) (g := fun v => if v = ρ j then true else W v) (Nat.le_refl _) (show ρ j < 6 by omega) (fun v => rfl)]
      have no : (W (ρ j) = true ∨ S.2.2.2 0 j = true ∨ S.2.2.1 1 j < q_wt S (ρ j) j) → ∃ m1, some ((0 : Int32), (0 : Int64), z_up m 75 j (nI (ρ j))) = some (q_b (q_cg S ρ (j + 1) W), 0, m1) ∧ (q_cg S ρ (j + 1) W = true → ∀ i, i < j + 1 → m1 75 i = q_enc S ρ i) ∧ (∀ i, j + 1 ≤ i → m1 75 i = m 75 i) ∧ ∀ a, a ≠ 75 → m1 a = m a := by
        intro h2
        rw [q_cg_n hs' h2]
        exact ⟨_, rfl, fun q => (by cases q), fun i hi => q_uk (by omega), fun a ha => z_up_ne ha⟩
      by_cases c1 : W (ρ j) = true
      · rw [if_pos c1]
        exact no (Or.inl c1)
      rw [if_neg c1]
      by_cases c2 : S.2.2.2 0 j = true
      · rw [if_pos c2]
        exact no (Or.inr (Or.inl c2))
      rw [if_neg c2]
      by_cases c3 : q_wt S (ρ j) j ≤ S.2.2.1 1 j
      · rw [if_pos c3, q_cg_y hs' (fun q => by
          rcases q with q | q | q
          · exact c1 q
          · exact c2 q
          · omega)]
        obtain ⟨m1, e1, g1, g2, f1⟩ := ih F (fun v => if v = ρ j then true else W v) (z_up m 75 j (nI (ρ j))) (by omega) (hM.o75 j _)
        refine ⟨m1, e1, fun hc i hi => ?_, fun i hi => by rw [g2 i (by omega), q_uk (by omega)], fun a ha => (f1 a ha).trans (z_up_ne ha)⟩
        by_cases hq : i = j
        · subst hq
          rw [g2 i (Nat.le_refl _), q_uq, q_enc_y hs']
        · exact g1 hc i (by omega)
      · rw [if_neg c3]
        exact no (Or.inr (Or.inr (by omega)))
theorem k_mcg0 {S : q_St} (hok : q_okS S) {ρ : Nat → Nat} (hb : q_bd (fun _ => false) (S.1.1 + 1) ρ S.1.2) (d : Nat) {m : z_M} (hM : q_MS m S) : ∃ m1, z_go z_SH z_P (d + 2) 153 [.ref 59, .int (nI (q_vl (fun _ => false) (S.1.1 + 1) ρ S.1.2))] m = some (q_b (q_pv (fun _ => false) (q_okB S) ρ S.1.2), 0, m1) ∧ (q_pv (fun _ => false) (q_okB S) ρ S.1.2 = true → ∀ i, i < S.1.2 → m1 75 i = q_enc S ρ i) ∧ ∀ a, a ≠ 75 → m1 a = m a := by
  have h6 := hok.2.1
  obtain ⟨m1, e1, g1, -, f1⟩ := k_mcg hok hb d S.1.2 (199999 - S.1.2 - 1) (fun _ => false) m (Nat.le_refl _) hM
  rw [show 199999 - S.1.2 - 1 + S.1.2 + 1 = 199999 by omega, q_cg_pv, q_bits0 6 (fun _ => false) (fun v _ => rfl)] at e1
  rw [q_cg_pv] at g1
  exact ⟨m1, by rw [c_X10_canGive, hM.2.1]; exact e1, g1, f1⟩
/-! a row tried -/
def q_MB (S : q_St) (m : z_M) : q_Bt → Prop
  | none => m 59 31 = -9 ∧ m 59 32 = 0
  | some b => (b.1 ≤ 6 ∧ b.2.1 ≤ 54) ∧ m 59 31 = nI b.1 ∧ m 59 32 = nI b.2.1 ∧ ∀ j, j < S.1.2 → m 76 j = q_enc S b.2.2 j
theorem q_MB.of {S : q_St} {m m' : z_M} {B : q_Bt} (h : q_MB S m B) (h1 : m' 59 = m 59) (h2 : m' 76 = m 76) : q_MB S m' B := by
  cases B with
  | none => exact ⟨by rw [h1]; exact h.1, by rw [h1]; exact h.2⟩
  | some b => exact ⟨h.1, by rw [h1]; exact h.2.1, by rw [h1]; exact h.2.2.1, by rw [h2]; exact h.2.2.2⟩
theorem k_mcp (C : Nat → List Value → z_M → Option z_R) {ng : Nat} (hg : ng ≤ 6) : ∀ (n F i : Nat) (m : z_M), i + n = ng → m 59 6 = nI ng → ∃ m1, z_lp z_SH 0 (fun _ => 0) C me_X10_tryRow (F + n + 1) 116 [some (.ref 59), none, none, some (.int (nI i))] [] m = some (0, 0, m1) ∧ (∀ j, i ≤ j → j < ng → m1 76 j = m 75 j) ∧ (∀ j, j < i → m1 76 j = m 76 j) ∧ ∀ a, a ≠ 76 → m1 a = m a := by
  intro n
  induction n with
  | zero =>
    intro F i m hi h6
    refine ⟨m, ?_, fun j h1 h2 => by omega, fun _ _ => rfl, fun _ _ => rfl⟩
    rw [e_X10_tryRow_116, h6, q_nI_le (by omega) (by omega), if_pos (by omega)]
  | succ n ih =>
    intro F i m hi h6
    obtain ⟨m1, e1, g1, g2, f1⟩ := ih F (i + 1) (z_up m 76 i (m 75 i)) (by omega) (by rw [q_ua (by decide)]; exact h6)
    refine ⟨m1, ?_, fun j h1 h2 => ?_, fun j hj => by rw [g2 j (by omega), q_uk (by omega)], fun a ha => (f1 a ha).trans (z_up_ne ha)⟩
    · rw [show F + (n + 1) + 1 = (F + n + 1) + 1 by omega, e_X10_tryRow_116, h6, q_nI_le (by omega) (by omega), if_neg (by omega), q_in (show i < 6 by omega) (by decide), z_g_t, z_g_t, q_cl (by omega), nI_1]
      exact e1
    · by_cases hq : j = i
      · subst hq
        rw [g2 j (by omega), q_uq]
      · rw [g1 j (by omega) h2, q_ua (by decide)]
theorem q_n9e : ∀ v, v < 6 → ¬ nI v = (9 : Int32) := by decide +kernel
theorem k_mtr {S : q_St} (hok : q_okS S) {ρ : Nat → Nat} {B : q_Bt} (d : Nat) {m : z_M} (hM : q_MS m S) (hB : q_MB S m B) (hr : ∀ i, i < S.1.2 → m 75 i = q_enc S ρ i) : ∀ (n F k : Nat), k + n = S.1.2 → ∃ m1, z_lp z_SH 0 (fun _ => 0) (z_go z_SH z_P (d + 1)) me_X10_tryRow (F + 8 + n + 1) 6 [some (.ref 59), some (.int (nI (q_mn S ρ k))), some (.int (nI (q_sm S ρ k))), some (.int (nI k))] [] m = some (0, 0, m1) ∧ q_MB S m1 (q_try S ρ B) ∧ (∀ a, a ≠ 59 → a ≠ 76 → m1 a = m a) ∧ ∀ j, j ≠ 31 → j ≠ 32 → m1 59 j = m 59 j := by
  have h6 := hok.2.1
  have h5 := hok.1
  have l1 := q_mn_le S ρ S.1.2
  have l2 := q_sm_le hok ρ S.1.2
  intro n
  induction n with
  | zero =>
    intro F k hk
    obtain rfl : k = S.1.2 := by omega
    obtain ⟨m1, e1, g1, -, f1⟩ := k_mcp (z_go z_SH z_P (d + 1)) h6 S.1.2 (F + 8 - S.1.2 - 1) 0 (z_up (z_up m 59 31 (nI (q_mn S ρ S.1.2))) 59 32 (nI (q_sm S ρ S.1.2))) (Nat.zero_add _) (by rw [q_uk (by decide), q_uk (by decide)]; exact hM.2.1)
    rw [show F + 8 - S.1.2 - 1 + S.1.2 + 1 = F + 8 by omega] at e1
    have hnew : q_MB S m1 (some (q_new S ρ)) := by
      refine ⟨⟨by show q_mn S ρ S.1.2 ≤ 6; omega, by show q_sm S ρ S.1.2 ≤ 54; omega⟩, ?_, ?_, fun j hj => ?_⟩
      · rw [f1 59 (by decide), q_uk (by decide), q_uq]
        rfl
      · rw [f1 59 (by decide), q_uq]
        rfl
      · rw [g1 j (Nat.zero_le _) hj, q_ua (by decide), q_ua (by decide)]
        exact hr j hj
    have fr : ∀ a, a ≠ 59 → a ≠ 76 → m1 a = m a := fun a h1 h2 => by rw [f1 a h2, z_up_ne h1, z_up_ne h1]
    have fk : ∀ j, j ≠ 31 → j ≠ 32 → m1 59 j = m 59 j := fun j h1 h2 => by rw [f1 59 (by decide), q_uk h2, q_uk h1]
    rw [show F + 8 + 0 + 1 = (F + 8) + 1 from rfl, e_X10_tryRow_6, hM.2.1, q_nI_le (by omega) (by omega), if_pos (Nat.le_refl _)]
    cases B with
    | none =>
      refine ⟨m1, ?_, hnew, fr, fk⟩
      rw [hB.1, if_pos (q_cm1 _ (by omega)).2.2]
      exact e1
    | some b =>
      obtain ⟨⟨b1, b2⟩, b3, b4, b5⟩ := hB
      rw [b3, b4, q_nI_lt (by omega) (by omega), q_nI_if (by omega) (by omega), q_nI_le (by omega) (by omega)]
      by_cases c1 : b.1 < q_mn S ρ S.1.2
      · rw [if_pos c1, q_try_y (by omega)]
        exact ⟨m1, e1, hnew, fr, fk⟩
      · rw [if_neg c1]
        by_cases c2 : q_mn S ρ S.1.2 = b.1
        · rw [if_pos c2]
          by_cases c3 : b.2.1 ≤ q_sm S ρ S.1.2
          · rw [if_pos c3, q_try_x (by omega)]
            exact ⟨m, rfl, ⟨⟨b1, b2⟩, b3, b4, b5⟩, fun _ _ _ => rfl, fun _ _ _ => rfl⟩
          · rw [if_neg c3, q_try_y (by omega)]
            exact ⟨m1, e1, hnew, fr, fk⟩
        · rw [if_neg c2, q_try_x (by omega)]
          exact ⟨m, rfl, ⟨⟨b1, b2⟩, b3, b4, b5⟩, fun _ _ _ => rfl, fun _ _ _ => rfl⟩
  | succ n ih =>
    intro F k hk
    have hk' : k < S.1.2 := by omega
    have hk6 : k < 6 := by omega
    have hI := ih F (k + 1) (by omega)
    have hmn : q_mn S ρ (k + 1) = q_mn S ρ k + (if ρ k < S.1.1 ∧ S.2.2.1 2 k ≤ S.2.2.1 4 k + q_wt S (ρ k) k then 1 else 0) := rfl
    have hsm : q_sm S ρ (k + 1) = q_sm S ρ k + (if ρ k < S.1.1 then S.2.1 (ρ k) else 0) := rfl
    rw [show F + 8 + (n + 1) + 1 = (F + 8 + n + 1) + 1 by omega, e_X10_tryRow_6, hM.2.1, q_nI_le (by omega) (by omega), if_neg (by omega), q_in hk6 (by decide), q_cl (by omega), hr k hk', nI_1]
    simp only [z_g_t]
    by_cases hs : ρ k < S.1.1
    · have hw := q_wt_le hok hs k
      have h4 := hok.k4 hk'
      have h2 := hok.k2 hk'
      have h9 := hok.2.2.2.1 _ hs
      rw [q_enc_y hs, if_neg (q_n9e _ (by omega)), k_mweigh hM hok hs hk' d]
      simp only [Option.bind_some]
      rw [hM.g4 hk', hM.g2 hk', nI_add, q_nI_lt (by omega) (by omega), hr k hk', q_enc_y hs, q_in (show ρ k < 5 by omega) (by decide), z_g_t, z_g_t, q_cl (by omega), hM.2.2.1 _ hs, nI_add, Int32.add_zero, nI_1]
      rw [hsm, if_pos hs] at hI
      by_cases hq : S.2.2.1 4 k + q_wt S (ρ k) k < S.2.2.1 2 k
      · rw [if_pos hq]
        rw [hmn, if_neg (fun q => by have := q.2; omega), show q_mn S ρ k + 0 = q_mn S ρ k from rfl] at hI
        exact hI
      · rw [if_neg hq]
        rw [hmn, if_pos ⟨hs, by omega⟩] at hI
        exact hI
    · rw [q_enc_x hs, if_pos rfl]
      rw [hsm, if_neg hs, hmn, if_neg (fun q => hs q.1), show q_mn S ρ k + 0 = q_mn S ρ k from rfl, show q_sm S ρ k + 0 = q_sm S ρ k from rfl] at hI
      exact hI
theorem k_mtr0 {S : q_St} (hok : q_okS S) {ρ : Nat → Nat} {B : q_Bt} (d : Nat) {m : z_M} (hM : q_MS m S) (hB : q_MB S m B) (hr : ∀ i, i < S.1.2 → m 75 i = q_enc S ρ i) : ∃ m1, z_go z_SH z_P (d + 2) 154 [.ref 59] m = some (0, 0, m1) ∧ q_MB S m1 (q_try S ρ B) ∧ (∀ a, a ≠ 59 → a ≠ 76 → m1 a = m a) ∧ ∀ j, j ≠ 31 → j ≠ 32 → m1 59 j = m 59 j := by
  have h6 := hok.2.1
  obtain ⟨m1, e1, g⟩ := k_mtr hok d hM hB hr S.1.2 (199999 - S.1.2 - 9) 0 (Nat.zero_add _)
  rw [show 199999 - S.1.2 - 9 + 8 + S.1.2 + 1 = 199999 by omega] at e1
  exact ⟨m1, by rw [c_X10_tryRow]; exact e1, g⟩
