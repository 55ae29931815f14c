theorem k_mrows (C : Nat → List Value → z_M → Option z_R) {t u : Nat} (hu : u ≤ 6) (m : z_M) : ∀ (c F q : Nat), q + c = u → z_lp z_SH 0 (fun _ => 0) C me_X10_findTables (F + c + 1) 33 [some (.ref 59), some (.int (nI u)), some (.int (nI t)), some (.int (nI (t ^ q))), some (.int (nI q))] [] m = z_lp z_SH 0 (fun _ => 0) C me_X10_findTables F 52 [some (.ref 59), some (.int (nI u)), some (.int (nI t)), some (.int (nI (t ^ u))), some (.int (nI 0))] [] m := by
  intro c
  induction c with
  | zero =>
    intro F q hq
    rw [e_X10_findTables_33, q_nI_le (by omega) (by omega), if_pos (by omega), show q = u by omega]
    rfl
  | succ c ih =>
    intro F q hq
    rw [show F + (c + 1) + 1 = (F + c + 1) + 1 by omega, e_X10_findTables_33, q_nI_le (by omega) (by omega), if_neg (by omega), pk_mul, ← Nat.pow_succ, nI_1]
    exact ih F (q + 1) (by omega)
theorem q_MS.o74 {m m' : z_M} {S : q_St} (hM : q_MS m S) (f1 : ∀ a, a ≠ 74 → m' a = m a) : q_MS m' S := hM.of (by rw [f1 59 (by decide)]) (by rw [f1 59 (by decide)]) (by rw [f1 59 (by decide)]) (by rw [f1 59 (by decide)]) (fun a h1 h2 => f1 a (by omega))
theorem q_surj : ∀ t, t < 7 → nI (q_bits 6 (fun v => decide (v < t))) = ((1 : Int32) <<< (nI t &&& 31)) - (1 : Int32) := by decide +kernel
theorem k_mrow_n {S : q_St} (hok : q_okS S) {t : Nat} (ht : t ≤ 6) (hA : q_A S t S.1.2 0 (fun _ => 0) = none) (d F : Nat) (m : z_M) (hM : q_MS m S) : ∃ m1, z_lp z_SH 0 (fun _ => 0) (z_go z_SH z_P (d + 2)) me_X10_findTables (F + t ^ q_un S.1.2 (S.2.2.2 0) + 1) 52 [some (.ref 59), some (.int (nI (q_un S.1.2 (S.2.2.2 0)))), some (.int (nI t)), some (.int (nI (t ^ q_un S.1.2 (S.2.2.2 0)))), some (.int (nI 0))] [] m = z_lp z_SH 0 (fun _ => 0) (z_go z_SH z_P (d + 2)) me_X10_findTables F 23 [some (.ref 59), some (.int (nI (q_un S.1.2 (S.2.2.2 0)))), some (.int (nI (t + 1))), none, none] [] m1 ∧ ∀ a, a ≠ 74 → m1 a = m a := by
  have h6 := hok.2.1
  have hu := q_un_le S.1.2 (S.2.2.2 0)
  have hN := q_pow6 t (by omega) (q_un S.1.2 (S.2.2.2 0)) (by omega)
  have key := q_gen0 (sk := S.2.2.2 0) (ok := q_okA S) (b := t) (lf := q_1st) (q_okA_e S) (fun i B => B.elim (∀ m, q_MS m S → ∃ m1, z_lp z_SH 0 (fun _ => 0) (z_go z_SH z_P (d + 2)) me_X10_findTables (F + (t ^ q_un S.1.2 (S.2.2.2 0) - i) + 1) 52 [some (.ref 59), some (.int (nI (q_un S.1.2 (S.2.2.2 0)))), some (.int (nI t)), some (.int (nI (t ^ q_un S.1.2 (S.2.2.2 0)))), some (.int (nI i))] [] m = z_lp z_SH 0 (fun _ => 0) (z_go z_SH z_P (d + 2)) me_X10_findTables F 23 [some (.ref 59), some (.int (nI (q_un S.1.2 (S.2.2.2 0)))), some (.int (nI (t + 1))), none, none] [] m1 ∧ ∀ a, a ≠ 74 → m1 a = m a) (fun _ => False)) (n := S.1.2) (fun ρ B hb hp hQ => by
      rw [q_A_no hA hb] at hp
      cases hp) (fun ρ B hb hp hQ => by
      cases B with
      | some y => exact (show False from hQ).elim
      | none =>
        intro m hM
        have hlt := q_vl_lt S.1.2 hb
        obtain ⟨m1, e1, -, f1⟩ := k_mcan hok ht hb hM d
        rw [hp, Bool.false_and] at e1
        obtain ⟨m2, e2, f2⟩ := hQ m1 (hM.o74 f1)
        refine ⟨m2, ?_, fun a ha => (f2 a ha).trans (f1 a ha)⟩
        rw [show F + (t ^ q_un S.1.2 (S.2.2.2 0) - q_vl (S.2.2.2 0) t ρ S.1.2) + 1 = (F + (t ^ q_un S.1.2 (S.2.2.2 0) - (q_vl (S.2.2.2 0) t ρ S.1.2 + 1)) + 1) + 1 by omega, e_X10_findTables_52, q_nI_le (by omega) (by omega), if_neg (by omega), e1]
        simp only [Option.bind_some]
        rw [if_pos (by rfl), nI_1]
        exact e2) (fun _ => 0) none (by
      rw [q_pw_eq, show q_D (S.2.2.2 0) (q_okA S) t q_1st S.1.2 0 (fun _ => 0) none = none from hA]
      intro m hM
      refine ⟨m, ?_, fun _ _ => rfl⟩
      rw [e_X10_findTables_52, q_nI_le (by omega) (by omega), if_pos (Nat.le_refl _), nI_1, Nat.sub_self]
      rfl)
  have key := (show ∀ m, q_MS m S → ∃ m1, z_lp z_SH 0 (fun _ => 0) (z_go z_SH z_P (d + 2)) me_X10_findTables (F + (t ^ q_un S.1.2 (S.2.2.2 0) - 0) + 1) 52 [some (.ref 59), some (.int (nI (q_un S.1.2 (S.2.2.2 0)))), some (.int (nI t)), some (.int (nI (t ^ q_un S.1.2 (S.2.2.2 0)))), some (.int (nI 0))] [] m = z_lp z_SH 0 (fun _ => 0) (z_go z_SH z_P (d + 2)) me_X10_findTables F 23 [some (.ref 59), some (.int (nI (q_un S.1.2 (S.2.2.2 0)))), some (.int (nI (t + 1))), none, none] [] m1 ∧ ∀ a, a ≠ 74 → m1 a = m a from key) m hM
  rw [Nat.sub_zero] at key
  exact key
theorem k_mrow_s {S : q_St} (hok : q_okS S) {t : Nat} (ht : t ≤ 6) {x : Nat → Nat} (hA : q_A S t S.1.2 0 (fun _ => 0) = some x) (hl : ∀ f, f < t → q_A S f S.1.2 0 (fun _ => 0) = none) (d F : Nat) (m : z_M) (hM : q_MS m S) : ∃ m1, z_lp z_SH 0 (fun _ => 0) (z_go z_SH z_P (d + 2)) me_X10_findTables (F + t ^ q_un S.1.2 (S.2.2.2 0) + 1) 52 [some (.ref 59), some (.int (nI (q_un S.1.2 (S.2.2.2 0)))), some (.int (nI t)), some (.int (nI (t ^ q_un S.1.2 (S.2.2.2 0)))), some (.int (nI 0))] [] m = some (nI t, 0, m1) ∧ (∀ i, i < S.1.2 → m1 74 i = q_sz S x i) ∧ ∀ a, a ≠ 74 → m1 a = m a := by
  have h6 := hok.2.1
  have hu := q_un_le S.1.2 (S.2.2.2 0)
  have hN := q_pow6 t (by omega) (q_un S.1.2 (S.2.2.2 0)) (by omega)
  have key := q_gen0 (sk := S.2.2.2 0) (ok := q_okA S) (b := t) (lf := q_1st) (q_okA_e S) (fun i B => B.elim (∀ m, q_MS m S → ∃ m1, z_lp z_SH 0 (fun _ => 0) (z_go z_SH z_P (d + 2)) me_X10_findTables (F + (t ^ q_un S.1.2 (S.2.2.2 0) - i) + 1) 52 [some (.ref 59), some (.int (nI (q_un S.1.2 (S.2.2.2 0)))), some (.int (nI t)), some (.int (nI (t ^ q_un S.1.2 (S.2.2.2 0)))), some (.int (nI i))] [] m = some (nI t, 0, m1) ∧ (∀ i, i < S.1.2 → m1 74 i = q_sz S x i) ∧ ∀ a, a ≠ 74 → m1 a = m a) (fun y => y = x)) (n := S.1.2) (fun ρ B hb hp hQ => by
      cases B with
      | some y => exact (show y = x from (show y = x from hQ))
      | none =>
        have hQ : ρ = x := hQ
        intro m hM
        have hlt := q_vl_lt S.1.2 hb
        obtain ⟨m1, e1, g1, f1⟩ := k_mcan hok ht hb hM d
        have hall := q_A_all hl hb hp
        have hbits : nI (q_bits 6 (q_uz (S.2.2.2 0) ρ S.1.2)) = ((1 : Int32) <<< (nI t &&& 31)) - (1 : Int32) := by
          rw [← q_surj t (by omega)]
          refine congrArg nI (q_bits_ext _ _ _ (fun v hv => ?_))
          by_cases hq : v < t
          · rw [hall v hq, decide_eq_true hq]
          · rw [decide_eq_false hq]
            cases hz : q_uz (S.2.2.2 0) ρ S.1.2 v with
            | false => rfl
            | true => exact absurd (q_uz_y S.1.2 hb hz) hq
        rw [hp, decide_eq_true hbits] at e1
        refine ⟨m1, ?_, fun i hi => by rw [← hQ]; exact g1 i hi, f1⟩
        rw [show F + (t ^ q_un S.1.2 (S.2.2.2 0) - q_vl (S.2.2.2 0) t ρ S.1.2) + 1 = (F + (t ^ q_un S.1.2 (S.2.2.2 0) - (q_vl (S.2.2.2 0) t ρ S.1.2 + 1)) + 1) + 1 by omega, e_X10_findTables_52, q_nI_le (by omega) (by omega), if_neg (by omega), e1]
        simp only [Option.bind_some]
        rw [if_neg (by decide)]) (fun ρ B hb hp hQ => by
      cases B with
      | some y => exact (show y = x from (show y = x from hQ))
      | none =>
        intro m hM
        have hlt := q_vl_lt S.1.2 hb
        obtain ⟨m1, e1, -, f1⟩ := k_mcan hok ht hb hM d
        rw [hp, Bool.false_and] at e1
        obtain ⟨m2, e2, g2, f2⟩ := hQ m1 (hM.o74 f1)
        refine ⟨m2, ?_, g2, fun a ha => (f2 a ha).trans (f1 a ha)⟩
        rw [show F + (t ^ q_un S.1.2 (S.2.2.2 0) - q_vl (S.2.2.2 0) t ρ S.1.2) + 1 = (F + (t ^ q_un S.1.2 (S.2.2.2 0) - (q_vl (S.2.2.2 0) t ρ S.1.2 + 1)) + 1) + 1 by omega, e_X10_findTables_52, q_nI_le (by omega) (by omega), if_neg (by omega), e1]
        simp only [Option.bind_some]
        rw [if_pos (by rfl), nI_1]
        exact e2) (fun _ => 0) none (by
      rw [q_pw_eq, show q_D (S.2.2.2 0) (q_okA S) t q_1st S.1.2 0 (fun _ => 0) none = some x from hA]
      rfl)
  have key := (show ∀ m, q_MS m S → ∃ m1, z_lp z_SH 0 (fun _ => 0) (z_go z_SH z_P (d + 2)) me_X10_findTables (F + (t ^ q_un S.1.2 (S.2.2.2 0) - 0) + 1) 52 [some (.ref 59), some (.int (nI (q_un S.1.2 (S.2.2.2 0)))), some (.int (nI t)), some (.int (nI (t ^ q_un S.1.2 (S.2.2.2 0)))), some (.int (nI 0))] [] m = some (nI t, 0, m1) ∧ (∀ i, i < S.1.2 → m1 74 i = q_sz S x i) ∧ ∀ a, a ≠ 74 → m1 a = m a from key) m hM
  rw [Nat.sub_zero] at key
  exact key
def q_fu (u : Nat) : Nat → Nat → Nat
  | 0, t => t ^ u + u + 3
  | c + 1, t => t ^ u + u + 3 + q_fu u c (t + 1)
theorem q_fu_le : ∀ u, u < 7 → ∀ c, c < 7 → q_fu u c 0 ≤ 199999 ∧ (0 < c → q_fu u (c - 1) 1 ≤ 199999) := by decide +kernel
theorem k_mft {S : q_St} (hok : q_okS S) {f0 : Nat} (h0 : f0 ≤ q_un S.1.2 (S.2.2.2 0)) {x : Nat → Nat} (hx : q_A S f0 S.1.2 0 (fun _ => 0) = some x) (hl : ∀ f, f < f0 → q_A S f S.1.2 0 (fun _ => 0) = none) (d : Nat) : ∀ (c F t : Nat) (m : z_M), t + c = f0 → q_MS m S → ∃ m1, z_lp z_SH 0 (fun _ => 0) (z_go z_SH z_P (d + 2)) me_X10_findTables (F + q_fu (q_un S.1.2 (S.2.2.2 0)) c t) 23 [some (.ref 59), some (.int (nI (q_un S.1.2 (S.2.2.2 0)))), some (.int (nI t)), none, none] [] m = some (nI f0, 0, m1) ∧ (∀ i, i < S.1.2 → m1 74 i = q_sz S x i) ∧ ∀ a, a ≠ 74 → m1 a = m a := by
  have h6 := hok.2.1
  have hu := q_un_le S.1.2 (S.2.2.2 0)
  intro c
  induction c with
  | zero =>
    intro F t m hc hM
    obtain rfl : t = f0 := by omega
    have e := k_mrows (z_go z_SH z_P (d + 2)) (t := t) (u := q_un S.1.2 (S.2.2.2 0)) (by omega) m (q_un S.1.2 (S.2.2.2 0)) (F + t ^ q_un S.1.2 (S.2.2.2 0) + 1) 0 (Nat.zero_add _)
    obtain ⟨m1, e1, g1, f1⟩ := k_mrow_s hok (by omega) hx hl d F m hM
    refine ⟨m1, ?_, g1, f1⟩
    rw [show F + q_fu (q_un S.1.2 (S.2.2.2 0)) 0 t = (F + t ^ q_un S.1.2 (S.2.2.2 0) + 1 + q_un S.1.2 (S.2.2.2 0) + 1) + 1 by simp only [q_fu]; omega, e_X10_findTables_23, q_nI_lt (by omega) (by omega), if_neg (by omega)]
    exact e.trans e1
  | succ c ih =>
    intro F t m hc hM
    have e := k_mrows (z_go z_SH z_P (d + 2)) (t := t) (u := q_un S.1.2 (S.2.2.2 0)) (by omega) m (q_un S.1.2 (S.2.2.2 0)) (F + q_fu (q_un S.1.2 (S.2.2.2 0)) c (t + 1) + t ^ q_un S.1.2 (S.2.2.2 0) + 1) 0 (Nat.zero_add _)
    obtain ⟨m1, e1, f1⟩ := k_mrow_n hok (show t ≤ 6 by omega) (hl t (by omega)) d (F + q_fu (q_un S.1.2 (S.2.2.2 0)) c (t + 1)) m hM
    obtain ⟨m2, e2, g2, f2⟩ := ih F (t + 1) m1 (by omega) (hM.o74 f1)
    refine ⟨m2, ?_, g2, fun a ha => (f2 a ha).trans (f1 a ha)⟩
    rw [show F + q_fu (q_un S.1.2 (S.2.2.2 0)) (c + 1) t = (F + q_fu (q_un S.1.2 (S.2.2.2 0)) c (t + 1) + t ^ q_un S.1.2 (S.2.2.2 0) + 1 + q_un S.1.2 (S.2.2.2 0) + 1) + 1 by simp only [q_fu]; omega, e_X10_findTables_23, q_nI_lt (by omega) (by omega), if_neg (by omega)]
    exact (e.trans e1).trans e2
theorem k_mfind {S : q_St} (hok : q_okS S) {f0 : Nat} (h0 : f0 ≤ q_un S.1.2 (S.2.2.2 0)) (h1 : q_un S.1.2 (S.2.2.2 0) ≠ 0 → 1 ≤ f0) {x : Nat → Nat} (hx : q_A S f0 S.1.2 0 (fun _ => 0) = some x) (hl : ∀ f, f < f0 → q_A S f S.1.2 0 (fun _ => 0) = none) (d : Nat) {m : z_M} (hM : q_MS m S) : ∃ m1, z_go z_SH z_P (d + 3) 151 [.ref 59] m = some (nI f0, 0, m1) ∧ (∀ i, i < S.1.2 → m1 74 i = q_sz S x i) ∧ ∀ a, a ≠ 74 → m1 a = m a := by
  have h6 := hok.2.1
  have hu := q_un_le S.1.2 (S.2.2.2 0)
  have hpc := q_pc_un h6 (S.2.2.2 0)
  rw [c_X10_findTables, hM.2.2.2.2.1, k_msize (q_bits_lt64 h6 _)]
  simp only [Option.bind_some]
  rw [hM.2.1, pk_sub (by omega), show S.1.2 - q_pc (q_bits S.1.2 (S.2.2.2 0)) = q_un S.1.2 (S.2.2.2 0) by omega, show (0 : Int32) = nI 0 from rfl, show (1 : Int32) = nI 1 from rfl, q_nI_if (by omega) (by decide)]
  have hfu := q_fu_le (q_un S.1.2 (S.2.2.2 0)) (by omega) f0 (by omega)
  by_cases hz : q_un S.1.2 (S.2.2.2 0) = 0
  · rw [if_pos hz]
    obtain ⟨m1, e1, g1, f1⟩ := k_mft hok h0 hx hl d f0 (199999 - q_fu (q_un S.1.2 (S.2.2.2 0)) f0 0) 0 m (Nat.zero_add _) hM
    rw [show 199999 - q_fu (q_un S.1.2 (S.2.2.2 0)) f0 0 + q_fu (q_un S.1.2 (S.2.2.2 0)) f0 0 = 199999 by omega] at e1
    exact ⟨m1, e1, g1, f1⟩
  · rw [if_neg hz]
    have hge := h1 hz
    have hfu2 := hfu.2 (by omega)
    obtain ⟨m1, e1, g1, f1⟩ := k_mft hok h0 hx hl d (f0 - 1) (199999 - q_fu (q_un S.1.2 (S.2.2.2 0)) (f0 - 1) 1) 1 m (by omega) hM
    rw [show 199999 - q_fu (q_un S.1.2 (S.2.2.2 0)) (f0 - 1) 1 + q_fu (q_un S.1.2 (S.2.2.2 0)) (f0 - 1) 1 = 199999 by omega] at e1
    exact ⟨m1, e1, g1, f1⟩
theorem q_w_m {x : Int32} {a : Int32} (ha : a.toInt = -1 ∨ a.toInt = -2) (h : q_w a 5 x = true) : (x = -1) ∨ (x = -2) ∨ ∃ v, v < 6 ∧ x = nI v := by
  simp only [q_w, Bool.and_eq_true, decide_eq_true_eq, Int32.le_iff_toInt_le] at h
  rw [show (5 : Int32).toInt = 5 by decide] at h
  by_cases h1 : x.toInt = -1
  · exact Or.inl (Int32.toInt_inj.mp (by rw [h1]; decide))
  · by_cases h2 : x.toInt = -2
    · exact Or.inr (Or.inl (Int32.toInt_inj.mp (by rw [h2]; decide)))
    · exact Or.inr (Or.inr ⟨x.toInt.toNat, by omega, z_nI_of (by omega) (by omega)⟩)
theorem q_M.o74 {m m' : z_M} {T : q_T} (hM : q_M m T) (f1 : ∀ a, a ≠ 74 → m' a = m a) : q_M m' T := hM.of (fun k _ => by rw [f1 59 (by decide)]) (fun a h1 h2 => f1 a (by omega)) (fun a h1 h2 => f1 a (by omega))
theorem q_nonneg {v : Nat} (hv : v < 6) : (0 : Int32) ≤ nI v := nI_pos' (by omega)
theorem q_ne_m1 : ∀ v, v < 6 → ¬ nI v = (-1 : Int32) ∧ ¬ nI v = (-2 : Int32) := by decide +kernel
theorem p_apart (x : Int32) : q_pr 75 152 [.int x] := by
  intro T hok
  have h6 := hok.1.2.1
  by_cases b1 : q_w (-1) 5 x = true
  case neg =>
    refine ⟨-2, 0, T, q_cop_same (fun d m hC => ?_), q_mop_same (fun d m hM => ?_), hok⟩
    · rw [c_X9_apart, k_within]
      simp only [Option.bind_some, q_if]
      rw [if_neg b1]
    · rw [c_X10_apart, k_mwithin]
      simp only [Option.bind_some, q_if]
      rw [if_neg b1]
  by_cases hz : 0 < T.2.1.1.2
  case neg =>
    refine ⟨-3, 0, T, q_cop_same (fun d m hC => ?_), q_mop_same (fun d m hM => ?_), hok⟩
    · rw [c_X9_apart, k_within]
      simp only [Option.bind_some, q_if]
      rw [if_pos b1, k_stands (Or.inl rfl) hC.ng h6]
      simp only [Option.bind_some, q_if]
      rw [if_neg (by simpa using hz)]
    · rw [c_X10_apart, k_mwithin]
      simp only [Option.bind_some, q_if]
      rw [if_pos b1, hM.ng, if_pos (by rw [show T.2.1.1.2 = 0 by omega]; rfl)]
  have hnz : ¬ nI T.2.1.1.2 = (0 : Int32) := nI_ne0 hz (by omega)
  obtain ⟨f0, y, h0, h1, hx, hl⟩ := q_A_min T.2.1
  have hu := q_un_le T.2.1.1.2 (T.2.1.2.2.2 0)
  have hcl : ∀ (d : Nat) (m : z_M), q_C m T → ∃ m1, z_go z_SH z_P (d + 19) 50 [.ref 46, .ref 2] m = some (nI f0, 0, m1) ∧ (∀ j, j < 6 → m1 47 j = if j < T.2.1.1.2 then q_sz T.2.1 y j else -9) ∧ ∀ a, a ≠ 47 → m1 a = m a := fun d m hC => k_lay0 hok.1 (by omega) hx hl (d + 9) hC.2.1
  have hml : ∀ (d : Nat) (m : z_M), q_M m T → ∃ m1, z_go z_SH z_P (d + 19) 151 [.ref 59] m = some (nI f0, 0, m1) ∧ (∀ i, i < T.2.1.1.2 → m1 74 i = q_sz T.2.1 y i) ∧ ∀ a, a ≠ 74 → m1 a = m a := fun d m hM => k_mfind hok.1 h0 h1 hx hl (d + 16) hM.2.1
  have cpre : ∀ (d : Nat) (m m1 : z_M), q_C m T → z_go z_SH z_P (d + 19) 50 [.ref 46, .ref 2] m = some (nI f0, 0, m1) → z_go z_SH z_P (d + 20) 75 [.ref 0, .int x] m = if 0 ≤ x then (z_g (z_in 6 x) (some (m1 47 x.toNatClampNeg, 0, m1))) else (some (nI f0, 0, m1)) := by
    intro d m m1 hC e1
    rw [c_X9_apart, k_within]
    simp only [Option.bind_some, q_if]
    rw [if_pos b1, k_stands (Or.inl rfl) hC.ng h6]
    simp only [Option.bind_some, q_if]
    rw [if_pos (by simpa using hz), e1]
    rfl
  have mpre : ∀ (d : Nat) (m m1 : z_M), q_M m T → z_go z_SH z_P (d + 19) 151 [.ref 59] m = some (nI f0, 0, m1) → q_M m1 T → z_go z_SH z_P (d + 20) 152 [.ref 59, .int x] m = if x = (-1) then (some (nI f0, 0, m1)) else (if q_v T.2.1.1.2 x = true then (Option.bind (z_go z_SH z_P (d + 19) 115 [.int (m1 59 8), .int x] m1) (fun r4 => if r4.1 = 0 then (z_g (z_in 6 x) (some (r4.2.2 74 x.toNatClampNeg, 0, r4.2.2))) else (some ((-9), 0, r4.2.2)))) else some (-9, 0, m1)) := by
    intro d m m1 hM e1 hM1
    rw [c_X10_apart, k_mwithin]
    simp only [Option.bind_some, q_if]
    rw [if_pos b1, hM.ng, if_neg hnz, e1]
    simp only [Option.bind_some]
    rw [k_misGuest _ _ hM1.ng h6]
    simp only [Option.bind_some, q_if]
  rcases q_w_m (Or.inl (by decide)) b1 with rfl | rfl | ⟨v, hv, rfl⟩
  · refine ⟨nI f0, 0, T, fun d m hC => ?_, fun d m hM => ?_, hok⟩
    · obtain ⟨m1, e1, -, f1⟩ := hcl d m hC
      exact ⟨m1, by rw [cpre d m m1 hC e1, if_neg (by decide)], hC.of h6 (fun a ha => f1 a (by omega)) (fun a h1 h2 => f1 a (by omega)) (fun a h1 h2 => f1 a (by omega)), fun a ha => f1 a (by omega)⟩
    · obtain ⟨m1, e1, -, f1⟩ := hml d m hM
      exact ⟨m1, by rw [mpre d m m1 hM e1 (hM.o74 f1), if_pos rfl], hM.o74 f1, fun a ha => f1 a (by omega)⟩
  · exact absurd b1 (by decide)
  · refine ⟨if v < T.2.1.1.2 then q_sz T.2.1 y v else -9, 0, T, fun d m hC => ?_, fun d m hM => ?_, hok⟩
    · obtain ⟨m1, e1, g1, f1⟩ := hcl d m hC
      exact ⟨m1, by rw [cpre d m m1 hC e1, if_pos (q_nonneg hv), q_in hv (by decide), z_g_t, q_cl (by omega), g1 v hv], hC.of h6 (fun a ha => f1 a (by omega)) (fun a h1 h2 => f1 a (by omega)) (fun a h1 h2 => f1 a (by omega)), fun a ha => f1 a (by omega)⟩
    · obtain ⟨m1, e1, g1, f1⟩ := hml d m hM
      refine ⟨m1, ?_, hM.o74 f1, fun a ha => f1 a (by omega)⟩
      rw [mpre d m m1 hM e1 (hM.o74 f1), if_neg (q_ne_m1 v hv).1, q_v_nI (by omega)]
      by_cases hg : v < T.2.1.1.2
      · rw [if_pos (by simpa using hg), if_pos hg, (hM.o74 f1).kn, k_misOf _ h6 hg]
        simp only [Option.bind_some, q_if]
        rcases Bool.eq_false_or_eq_true (T.2.1.2.2.2 0 v) with hn | hn
        · rw [if_pos hn, q_sz_t hn]
        · rw [if_neg (by rw [hn]; decide), q_in hv (by decide), z_g_t, q_cl (by omega), g1 v hg]
      · rw [if_neg (by simpa using hg), if_neg hg]
