/-! 15 apart: who may sit with whom; the class's search -/
def q_cl2 (S : q_St) (j k : Nat) : Bool := decide (S.2.2.1 0 j = S.2.2.1 0 k) || (S.2.2.2 1 j && S.2.2.2 1 k)
def q_fre (S : q_St) (ρ : Nat → Nat) (k s : Nat) : Nat → Nat → Bool
  | 0, _ => true
  | n + 1, j => if S.2.2.2 0 j = false ∧ ρ j = s ∧ q_cl2 S j k = true then false else q_fre S ρ k s n (j + 1)
def q_okA (S : q_St) (ρ : Nat → Nat) (k s : Nat) : Bool := q_fre S ρ k s k 0
theorem q_fre_ext {S : q_St} {ρ ρ' : Nat → Nat} {k s : Nat} : ∀ n j, (∀ i, j ≤ i → i < j + n → ρ i = ρ' i) → q_fre S ρ k s n j = q_fre S ρ' k s n j
  | 0, _, _ => rfl
  | n + 1, j, h => by
    simp only [q_fre]
    rw [q_fre_ext n (j + 1) (fun i h1 h2 => h i (by omega) (by omega)), h j (by omega) (by omega)]
theorem q_okA_e (S : q_St) : q_oke (q_okA S) := fun ρ ρ' k s h => q_fre_ext k 0 (fun i _ h2 => h i (by omega))
def q_sz (S : q_St) (ρ : Nat → Nat) (j : Nat) : Int32 := if S.2.2.2 0 j = true then -9 else nI (ρ j)
theorem q_sz_t {S : q_St} {ρ : Nat → Nat} {j : Nat} (h : S.2.2.2 0 j = true) : q_sz S ρ j = -9 := if_pos h
theorem q_sz_f {S : q_St} {ρ : Nat → Nat} {j : Nat} (h : S.2.2.2 0 j = false) : q_sz S ρ j = nI (ρ j) := if_neg (by rw [h]; decide)
theorem q_b1 : ¬ q_b true = 0 := by decide
theorem q_n9x : ∀ v, v < 7 → ¬ nI v = (-9 : Int32) := by decide +kernel
abbrev q_A (S : q_St) (t : Nat) (r k : Nat) (ρ : Nat → Nat) : Option (Nat → Nat) := q_D (S.2.2.2 0) (q_okA S) t q_1st r k ρ none
theorem k_clash {S : q_St} (h6 : S.1.2 ≤ 6) (hok : q_okS S) {m : z_M} (hC : q_CS m 2 S) {j k : Nat} (hj : j < S.1.2) (hk : k < S.1.2) (d : Nat) : z_go z_SH z_P (d + 1) 53 [.ref (5 + j), .ref (5 + k)] m = some (q_b (q_cl2 S j k), 0, m) := by
  have hj6 : j < 6 := by omega
  have hk6 : k < 6 := by omega
  have e1 : m (5 + j) 0 = nI (S.2.2.1 0 j) := hC.gd hj (by decide)
  have e2 : m (5 + k) 0 = nI (S.2.2.1 0 k) := hC.gd hk (by decide)
  have e3 : z_b (m (5 + j) 6) = q_b (S.2.2.2 1 j) := hC.sk hj
  have e4 : z_b (m (5 + k) 6) = q_b (S.2.2.2 1 k) := hC.sk hk
  have b1 := hok.k0 hj
  have b2 := hok.k0 hk
  rw [c_X7_clash, q_g5 hj6 (by decide), z_g_t, q_g5 hk6 (by decide), z_g_t, e1, e2, q_nI_if (by omega) (by omega), q_g5b hj6 (by decide) (by decide), z_g_t, e3, q_if, q_g5b hk6 (by decide) (by decide), z_g_t, e4, q_if]
  unfold q_cl2
  by_cases h : S.2.2.1 0 j = S.2.2.1 0 k
  · rw [if_pos h, decide_eq_true h]
    rfl
  · rw [if_neg h, decide_eq_false h]
    cases S.2.2.2 1 j <;> cases S.2.2.2 1 k <;> rfl
theorem k_free {S : q_St} (hok : q_okS S) {m : z_M} (hC : q_CS m 2 S) {k s : Nat} (hk : k < S.1.2) (hs : s < 6) {ρ : Nat → Nat} (hb : q_bd (S.2.2.2 0) 6 ρ k) (hr : ∀ j, j < k → m 47 j = q_sz S ρ j) (d : Nat) : ∀ (n F j : Nat), j + n = k → z_lp z_SH 0 (fun _ => 0) (z_go z_SH z_P (d + 1)) me_X7_isFree (F + n + 1) 3 [some (.ref 46), some (.ref 2), some (.int (nI k)), some (.int (nI s)), some (.int (nI j))] [] m = some (q_b (q_fre S ρ k s n j), 0, m) := by
  have h6 := hok.2.1
  have hk6 : k < 6 := by omega
  intro n
  induction n with
  | zero =>
    intro F j hj
    rw [e_X7_isFree_3, q_nI_le (by omega) (by omega), if_pos (by omega)]
    rfl
  | succ n ih =>
    intro F j hj
    have hj6 : j < 6 := by omega
    rw [show F + (n + 1) + 1 = (F + n + 1) + 1 by omega, e_X7_isFree_3, q_nI_le (by omega) (by omega), if_neg (by omega), q_in hj6 (by decide), z_g_t, z_g_t, q_in hk6 (by decide), z_g_t, q_cl (by omega), q_cl (by omega), hr j (by omega), k_clash h6 hok hC (show j < S.1.2 by omega) hk]
    simp only [Option.bind_some]
    rw [nI_1, ih F (j + 1) (by omega), q_if]
    simp only [q_fre]
    by_cases hn : S.2.2.2 0 j = true
    · rw [q_sz_t hn, if_neg (fun q => q_n9x s (by omega) q.symm), if_neg (fun q => by rw [hn] at q; cases q.1)]
    · have hn' : S.2.2.2 0 j = false := by simpa using hn
      have := hb j (by omega) hn'
      rw [q_sz_f hn', q_nI_if (by omega) (by omega)]
      by_cases he : ρ j = s
      · rw [if_pos he]
        by_cases hc : q_cl2 S j k = true
        · rw [if_pos hc, if_pos ⟨hn', he, hc⟩]
          rfl
        · rw [if_neg hc, if_neg (fun q => hc q.2.2)]
      · rw [if_neg he, if_neg (fun q => he q.2.1)]
theorem k_free0 {S : q_St} (hok : q_okS S) {m : z_M} (hC : q_CS m 2 S) {k s : Nat} (hk : k < S.1.2) (hs : s < 6) {ρ : Nat → Nat} (hb : q_bd (S.2.2.2 0) 6 ρ k) (hr : ∀ j, j < k → m 47 j = q_sz S ρ j) (d : Nat) : z_go z_SH z_P (d + 2) 52 [.ref 46, .ref 2, .int (nI k), .int (nI s)] m = some (q_b (q_okA S ρ k s), 0, m) := by
  have h6 := hok.2.1
  have := k_free hok hC hk hs hb hr d k (199999 - k - 1) 0 (Nat.zero_add _)
  rw [show 199999 - k - 1 + k + 1 = 199999 by omega] at this
  rw [c_X7_isFree]
  exact this
theorem k_sit2 {ng : Nat} (x : Int32) (d : Nat) : ∀ (e k : Nat) (m : z_M), k + e = 6 → ng ≤ k → m 2 3 = nI ng → ∃ m1, z_go z_SH z_P (d + e + 1) 51 [.ref 46, .ref 2, .int (nI k), .int x] m = some (1, 0, m1) ∧ (∀ j, k ≤ j → j < 6 → m1 47 j = -9) ∧ (∀ j, j < k → m1 47 j = m 47 j) ∧ ∀ a, a ≠ 47 → m1 a = m a := by
  intro e
  induction e with
  | zero =>
    intro k m hk hg h3
    obtain rfl : k = 6 := by omega
    refine ⟨m, ?_, fun j h1 h2 => by omega, fun _ _ => rfl, fun _ _ => rfl⟩
    rw [c_X7_sitsFrom, if_neg (by decide)]
  | succ e ih =>
    intro k m hk hg h3
    obtain ⟨m1, e1, g1, g2, f1⟩ := ih (k + 1) (z_up m 47 k (-9)) (by omega) (by omega) (by rw [q_ua (by decide)]; exact h3)
    refine ⟨m1, ?_, fun j h1 h2 => ?_, fun j hj => by rw [g2 j (by omega), q_uk (by omega)], fun a ha => (f1 a ha).trans (z_up_ne ha)⟩
    · rw [show d + (e + 1) + 1 = (d + e + 1) + 1 by omega, c_X7_sitsFrom, show (6 : Int32) = nI 6 from rfl, q_nI_lt (by omega) (by decide), if_pos (by omega), h3, q_nI_le (by omega) (by omega), if_pos hg, q_in (show k < 6 by omega) (by decide), z_g_t, q_cl (by omega), nI_1, e1]
      rfl
    · by_cases hq : j = k
      · subst hq
        rw [g2 j (by omega), q_uq]
      · exact g1 j (by omega) h2
theorem k_sit {S : q_St} (hok : q_okS S) {t : Nat} (ht : t ≤ 6) (d : Nat) : ∀ (r e k : Nat) (ρ : Nat → Nat) (m : z_M), k + r = S.1.2 → k + e = 6 → q_bd (S.2.2.2 0) t ρ k → q_CS m 2 S → (∀ j, j < k → m 47 j = q_sz S ρ j) → ∃ m1, z_go z_SH z_P (d + e + 3) 51 [.ref 46, .ref 2, .int (nI k), .int (nI t)] m = some (q_b (q_A S t r k ρ).isSome, 0, m1) ∧ (∀ x, q_A S t r k ρ = some x → ∀ j, j < 6 → m1 47 j = if j < S.1.2 then q_sz S x j else -9) ∧ (∀ j, j < k → m1 47 j = m 47 j) ∧ ∀ a, a ≠ 47 → m1 a = m a := by
  have h6 := hok.2.1
  intro r
  induction r with
  | zero =>
    intro e k ρ m hk he hb hC hr
    obtain ⟨m1, e1, g1, g2, f1⟩ := k_sit2 (ng := S.1.2) (nI t) (d + 2) e k m he (by omega) hC.2.1
    refine ⟨m1, ?_, fun x hx j hj => ?_, g2, f1⟩
    · rw [show d + e + 3 = d + 2 + e + 1 by omega, e1]
      rfl
    · have hx : some ρ = some x := hx
      injection hx with hx
      subst hx
      by_cases hq : j < S.1.2
      · rw [if_pos hq, g2 j (by omega), hr j (by omega)]
      · rw [if_neg hq]
        exact g1 j (by omega) hj
  | succ r ih =>
    intro e k ρ m hk he hb hC hr
    obtain ⟨e, rfl⟩ : ∃ e', e = e' + 1 := ⟨e - 1, by omega⟩
    have hkn : k < S.1.2 := by omega
    have hk6 : k < 6 := by omega
    have e5 : z_b (m (5 + k) 5) = q_b (S.2.2.2 0 k) := hC.kn hkn
    rw [show d + (e + 1) + 3 = (d + e + 3) + 1 by omega, c_X7_sitsFrom, show (6 : Int32) = nI 6 from rfl, q_nI_lt (by omega) (by decide), if_pos hk6, hC.2.1, q_nI_le (by omega) (by omega), if_neg (by omega), q_in hk6 (by decide), z_g_t, z_g_t, q_cl (by omega), q_g5b hk6 (by decide) (by decide), z_g_t, e5, q_if, nI_1]
    cases hn : S.2.2.2 0 k with
    | true =>
      have hA : q_A S t (r + 1) k ρ = q_A S t r (k + 1) ρ := by
        show q_D _ _ _ _ (r + 1) k ρ none = _
        simp only [q_D, hn, if_true]
      obtain ⟨m1, e1, g1, g2, f1⟩ := ih e (k + 1) ρ (z_up m 47 k (-9)) (by omega) (by omega) (fun j hj hq => hb j (by
        rcases Nat.lt_succ_iff_lt_or_eq.mp hj with h | h
        · exact h
        · subst h
          rw [hn] at hq
          cases hq) hq) (hC.of h6 (fun a h1 h2 => z_up_ne (by omega))) (fun j hj => by
        by_cases hq : j = k
        · subst hq
          rw [q_uq]
          exact (q_sz_t hn).symm
        · rw [q_uk hq]
          exact hr j (by omega))
      rw [hA]
      refine ⟨m1, ?_, g1, fun j hj => by rw [g2 j (by omega), q_uk (by omega)], fun a ha => (f1 a ha).trans (z_up_ne ha)⟩
      rw [if_pos rfl, e1]
      simp only [Option.bind_some]
      rw [q_bb, z_g_t]
    | false =>
      rw [if_neg (by decide)]
      have hA : q_A S t (r + 1) k ρ = q_fd (fun s B => if q_okA S ρ k s = true then q_D (S.2.2.2 0) (q_okA S) t q_1st r (k + 1) (q_set ρ k s) B else B) t 0 none := by
        show q_D _ _ _ _ (r + 1) k ρ none = _
        simp only [q_D, hn, Bool.false_eq_true, if_false]
      rw [hA]
      have loop : ∀ (c F s : Nat) (m : z_M), s + c = t → q_CS m 2 S → (∀ j, j < k → m 47 j = q_sz S ρ j) → ∃ m1, z_lp z_SH 0 (fun _ => 0) (z_go z_SH z_P (d + e + 3)) me_X7_sitsFrom (F + c + 1) 49 [some (.ref 46), some (.ref 2), some (.int (nI k)), some (.int (nI t)), some (.int (nI s))] [] m = some (q_b (q_fd (fun s B => if q_okA S ρ k s = true then q_D (S.2.2.2 0) (q_okA S) t q_1st r (k + 1) (q_set ρ k s) B else B) c s none).isSome, 0, m1) ∧ (∀ x, q_fd (fun s B => if q_okA S ρ k s = true then q_D (S.2.2.2 0) (q_okA S) t q_1st r (k + 1) (q_set ρ k s) B else B) c s none = some x → ∀ j, j < 6 → m1 47 j = if j < S.1.2 then q_sz S x j else -9) ∧ (∀ j, j < k → m1 47 j = m 47 j) ∧ ∀ a, a ≠ 47 → m1 a = m a := by
        intro c
        induction c with
        | zero =>
          intro F s m hs hC hr
          refine ⟨m, ?_, fun x hx => (by cases hx), fun _ _ => rfl, fun _ _ => rfl⟩
          rw [e_X7_sitsFrom_49, q_nI_le (by omega) (by omega), if_pos (by omega)]
          rfl
        | succ c ihc =>
          intro F s m hs hC hr
          have hC' : q_CS (z_up m 47 k (nI s)) 2 S := hC.of h6 (fun a h1 h2 => z_up_ne (by omega))
          have hr' : ∀ j, j < k → z_up m 47 k (nI s) 47 j = q_sz S ρ j := fun j hj => by
            rw [q_uk (by omega)]
            exact hr j hj
          have hf := k_free0 hok hC' hkn (show s < 6 by omega) (fun j hj hq => Nat.lt_of_lt_of_le (hb j hj hq) ht) hr' (d + e + 1)
          rw [show F + (c + 1) + 1 = (F + c + 1) + 1 by omega, e_X7_sitsFrom_49, q_nI_le (by omega) (by omega), if_neg (by omega), q_in hk6 (by decide), z_g_t, q_cl (by omega), show d + e + 3 = d + e + 1 + 2 by omega, hf]
          simp only [Option.bind_some]
          rw [q_if, nI_1, nI_1]
          simp only [q_fd]
          by_cases ho : q_okA S ρ k s = true
          · rw [if_pos ho, if_pos ho]
            obtain ⟨m2, e2, g1, g2, f2⟩ := ih e (k + 1) (q_set ρ k s) (z_up m 47 k (nI s)) (by omega) (by omega) (q_set_bd hb (by omega)) hC' (fun j hj => by
              by_cases hq : j = k
              · subst hq
                rw [q_uq, q_sz_f hn, q_set_e]
              · rw [q_uk hq, hr j (by omega)]
                unfold q_sz
                rw [q_set_n ρ s hq])
            rw [show d + e + 1 + 2 = d + e + 3 by omega, e2]
            simp only [Option.bind_some]
            cases hD : q_D (S.2.2.2 0) (q_okA S) t q_1st r (k + 1) (q_set ρ k s) none with
            | none =>
              obtain ⟨m3, e3, g3, g4, f3⟩ := ihc F (s + 1) m2 (by omega) (hC'.of h6 (fun a h1 h2 => f2 a (by omega))) (fun j hj => by rw [g2 j (by omega)]; exact hr' j hj)
              refine ⟨m3, ?_, g3, fun j hj => by rw [g4 j hj, g2 j (by omega), q_uk (by omega)], fun a ha => by rw [f3 a ha, f2 a ha, z_up_ne ha]⟩
              rw [show q_A S t r (k + 1) (q_set ρ k s) = none from hD, if_pos (by rfl), e3]
            | some x =>
              rw [show q_A S t r (k + 1) (q_set ρ k s) = some x from hD] at g1 ⊢
              rw [q_fd_some x (fun s => by
                by_cases ho : q_okA S ρ k s = true
                · rw [if_pos ho]
                  exact q_D_some x r (k + 1) _
                · rw [if_neg ho])]
              refine ⟨m2, ?_, g1, fun j hj => by rw [g2 j (by omega), q_uk (by omega)], fun a ha => by rw [f2 a ha, z_up_ne ha]⟩
              rw [if_neg (show ¬ q_b (some x).isSome = 0 from q_b1)]
              rfl
          · rw [if_neg ho, if_neg ho]
            obtain ⟨m3, e3, g3, g4, f3⟩ := ihc F (s + 1) (z_up m 47 k (nI s)) (by omega) hC' hr'
            refine ⟨m3, ?_, g3, fun j hj => by rw [g4 j hj, q_uk (by omega)], fun a ha => by rw [f3 a ha, z_up_ne ha]⟩
            rw [show d + e + 1 + 2 = d + e + 3 by omega]
            exact e3
      have := loop t (199999 - t - 1) 0 m (Nat.zero_add _) hC hr
      rw [show 199999 - t - 1 + t + 1 = 199999 by omega] at this
      exact this
theorem k_lay {S : q_St} (hok : q_okS S) {f0 : Nat} (h0 : f0 ≤ 6) {x : Nat → Nat} (hx : q_A S f0 S.1.2 0 (fun _ => 0) = some x) (hl : ∀ f, f < f0 → q_A S f S.1.2 0 (fun _ => 0) = none) (d : Nat) : ∀ (c F f : Nat) (m : z_M), f + c = f0 → q_CS m 2 S → ∃ m1, z_lp z_SH 0 (fun _ => 0) (z_go z_SH z_P (d + 9)) me_X7_lay (F + c + 1) 2 [some (.ref 46), some (.ref 2), some (.int (nI f))] [] m = some (nI f0, 0, m1) ∧ (∀ j, j < 6 → m1 47 j = if j < S.1.2 then q_sz S x j else -9) ∧ ∀ a, a ≠ 47 → m1 a = m a := by
  have h6 := hok.2.1
  intro c
  induction c with
  | zero =>
    intro F f m hf hC
    obtain rfl : f = f0 := by omega
    obtain ⟨m1, e1, g1, -, f1⟩ := k_sit hok h0 d S.1.2 6 0 (fun _ => 0) m (Nat.zero_add _) rfl (fun j hj => by omega) hC (fun j hj => by omega)
    rw [show d + 6 + 3 = d + 9 by omega, show (nI 0 : Int32) = 0 from rfl, hx] at e1
    refine ⟨m1, ?_, g1 x hx, f1⟩
    rw [e_X7_lay_2, show (6 : Int32) = nI 6 from rfl, q_nI_le (by decide) (by omega)]
    by_cases hq : 6 ≤ f
    · obtain rfl : f = 6 := by omega
      rw [if_pos (by omega), e1]
      rfl
    · rw [if_neg hq, e1]
      simp only [Option.bind_some]
      rw [if_neg (show ¬ q_b (some x).isSome = 0 from q_b1)]
  | succ c ih =>
    intro F f m hf hC
    obtain ⟨m1, e1, -, -, f1⟩ := k_sit hok (show f ≤ 6 by omega) d S.1.2 6 0 (fun _ => 0) m (Nat.zero_add _) rfl (fun j hj => by omega) hC (fun j hj => by omega)
    rw [show d + 6 + 3 = d + 9 by omega, show (nI 0 : Int32) = 0 from rfl, hl f (by omega)] at e1
    obtain ⟨m2, e2, g2, f2⟩ := ih F (f + 1) m1 (by omega) (hC.of h6 (fun a h1 h2 => f1 a (by omega)))
    refine ⟨m2, ?_, g2, fun a ha => (f2 a ha).trans (f1 a ha)⟩
    rw [show F + (c + 1) + 1 = (F + c + 1) + 1 by omega, e_X7_lay_2, show (6 : Int32) = nI 6 from rfl, q_nI_le (by decide) (by omega), if_neg (by omega), e1]
    simp only [Option.bind_some]
    rw [if_pos (by rfl), nI_1, e2]
theorem k_lay0 {S : q_St} (hok : q_okS S) {f0 : Nat} (h0 : f0 ≤ 6) {x : Nat → Nat} (hx : q_A S f0 S.1.2 0 (fun _ => 0) = some x) (hl : ∀ f, f < f0 → q_A S f S.1.2 0 (fun _ => 0) = none) (d : Nat) {m : z_M} (hC : q_CS m 2 S) : ∃ m1, z_go z_SH z_P (d + 10) 50 [.ref 46, .ref 2] m = some (nI f0, 0, m1) ∧ (∀ j, j < 6 → m1 47 j = if j < S.1.2 then q_sz S x j else -9) ∧ ∀ a, a ≠ 47 → m1 a = m a := by
  obtain ⟨m1, e1, g1, f1⟩ := k_lay hok h0 hx hl d f0 (199999 - f0 - 1) 0 m (Nat.zero_add _) hC
  rw [show 199999 - f0 - 1 + f0 + 1 = 199999 by omega] at e1
  exact ⟨m1, by rw [c_X7_lay]; exact e1, g1, f1⟩
