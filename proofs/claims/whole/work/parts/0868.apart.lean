/-! what the search says of all rows -/
theorem q_fre_y {S : q_St} {ρ : Nat → Nat} {k s n j : Nat} (h : S.2.2.2 0 j = false ∧ ρ j = s ∧ q_cl2 S j k = true) : q_fre S ρ k s (n + 1) j = false := if_pos h
theorem q_fre_x {S : q_St} {ρ : Nat → Nat} {k s n j : Nat} (h : ¬ (S.2.2.2 0 j = false ∧ ρ j = s ∧ q_cl2 S j k = true)) : q_fre S ρ k s (n + 1) j = q_fre S ρ k s n (j + 1) := if_neg h
theorem q_fre_mono {S : q_St} {ρ ρ' : Nat → Nat} {k s s' : Nat} : ∀ n j, (∀ i, j ≤ i → i < j + n → S.2.2.2 0 i = false → ρ' i = s' → ρ i = s) → q_fre S ρ k s n j = true → q_fre S ρ' k s' n j = true
  | 0, _, _, _ => rfl
  | n + 1, j, h, hf => by
    simp only [q_fre] at hf ⊢
    by_cases hc : S.2.2.2 0 j = false ∧ ρ j = s ∧ q_cl2 S j k = true
    · rw [if_pos hc] at hf
      cases hf
    · rw [if_neg hc] at hf
      rw [if_neg (fun q => hc ⟨q.1, h j (by omega) (by omega) q.1 q.2.1, q.2.2⟩)]
      exact q_fre_mono n (j + 1) (fun i h1 h2 => h i (by omega) (by omega)) hf
theorem q_pvA_mono {S : q_St} {ρ ρ' : Nat → Nat} : ∀ n, (∀ k, k < n → S.2.2.2 0 k = false → ∀ i, i < k → S.2.2.2 0 i = false → ρ' i = ρ' k → ρ i = ρ k) → q_pv (S.2.2.2 0) (q_okA S) ρ n = true → q_pv (S.2.2.2 0) (q_okA S) ρ' n = true
  | 0, _, _ => rfl
  | n + 1, h, hp => by
    simp only [q_pv, Bool.and_eq_true] at hp ⊢
    refine ⟨q_pvA_mono n (fun k hk => h k (by omega)) hp.1, ?_⟩
    cases hn : S.2.2.2 0 n with
    | true => rfl
    | false =>
      have h2 := hp.2
      rw [hn, Bool.false_or] at h2
      rw [Bool.false_or]
      exact q_fre_mono n 0 (fun i h1 h3 h4 h5 => h n (by omega) hn i (by omega) h4 h5) h2
theorem q_fre_of {S : q_St} {ρ : Nat → Nat} {k s : Nat} : ∀ n j, (∀ i, j ≤ i → i < j + n → S.2.2.2 0 i = false → ρ i ≠ s) → q_fre S ρ k s n j = true
  | 0, _, _ => rfl
  | n + 1, j, h => by
    simp only [q_fre]
    rw [if_neg (fun q => h j (by omega) (by omega) q.1 q.2.1)]
    exact q_fre_of n (j + 1) (fun i h1 h2 => h i (by omega) (by omega))
theorem q_pvA_inj {S : q_St} {ρ : Nat → Nat} : ∀ n, (∀ k, k < n → S.2.2.2 0 k = false → ∀ i, i < k → S.2.2.2 0 i = false → ρ i ≠ ρ k) → q_pv (S.2.2.2 0) (q_okA S) ρ n = true
  | 0, _ => rfl
  | n + 1, h => by
    simp only [q_pv, Bool.and_eq_true]
    refine ⟨q_pvA_inj n (fun k hk => h k (by omega)), ?_⟩
    cases hn : S.2.2.2 0 n with
    | true => rfl
    | false =>
      rw [Bool.false_or]
      exact q_fre_of n 0 (fun i h1 h2 h3 => h n (by omega) hn i (by omega) h3)
theorem q_A_no {S : q_St} {t : Nat} (h : q_A S t S.1.2 0 (fun _ => 0) = none) {ρ : Nat → Nat} (hb : q_bd (S.2.2.2 0) t ρ S.1.2) : q_pv (S.2.2.2 0) (q_okA S) ρ S.1.2 = false := by
  cases hp : q_pv (S.2.2.2 0) (q_okA S) ρ S.1.2 with
  | false => rfl
  | true =>
    have h1 := q_pvA_mono (S := S) (ρ := ρ) (ρ' := fun j => if S.2.2.2 0 j = true then 0 else ρ j) S.1.2 (fun k hk hn i hi hm he => by
      simp only [hn, hm, Bool.false_eq_true, if_false] at he
      exact he) hp
    have h2 := q_D_none (q_okA_e S) S.1.2 0 (fun _ => 0) h (fun j => if S.2.2.2 0 j = true then 0 else ρ j) (fun j hj => by omega) (fun j hj => by simp only [hj, if_true]) (fun j hj hn => by
      simp only [hn, Bool.false_eq_true, if_false]
      exact hb j (by omega) hn)
    rw [Nat.zero_add, h1] at h2
    cases h2
def q_uz (sk : Nat → Bool) (ρ : Nat → Nat) : Nat → Nat → Bool
  | 0, _ => false
  | k + 1, v => if sk k = false ∧ v = ρ k then true else q_uz sk ρ k v
theorem q_uz_n {sk : Nat → Bool} {ρ : Nat → Nat} {v : Nat} : ∀ k, q_uz sk ρ k v = false → ∀ j, j < k → sk j = false → ρ j ≠ v
  | 0, _, j, hj, _ => by omega
  | k + 1, h, j, hj, hn => by
    simp only [q_uz] at h
    by_cases hc : sk k = false ∧ v = ρ k
    · rw [if_pos hc] at h
      cases h
    · rw [if_neg hc] at h
      by_cases hq : j = k
      · subst hq
        exact fun q => hc ⟨hn, q.symm⟩
      · exact q_uz_n k h j (by omega) hn
theorem q_uz_y {sk : Nat → Bool} {ρ : Nat → Nat} {v b : Nat} : ∀ k, q_bd sk b ρ k → q_uz sk ρ k v = true → v < b
  | 0, _, h => by cases h
  | k + 1, hb, h => by
    simp only [q_uz] at h
    by_cases hc : sk k = false ∧ v = ρ k
    · rw [hc.2]
      exact hb k (by omega) hc.1
    · rw [if_neg hc] at h
      exact q_uz_y k (fun j hj => hb j (by omega)) h
/-- with one table less there was no row: so all tables are taken -/
theorem q_A_all {S : q_St} {t : Nat} (h : ∀ f, f < t → q_A S f S.1.2 0 (fun _ => 0) = none) {ρ : Nat → Nat} (hb : q_bd (S.2.2.2 0) t ρ S.1.2) (hp : q_pv (S.2.2.2 0) (q_okA S) ρ S.1.2 = true) : ∀ v, v < t → q_uz (S.2.2.2 0) ρ S.1.2 v = true := by
  intro v hv
  cases hu : q_uz (S.2.2.2 0) ρ S.1.2 v with
  | true => rfl
  | false =>
    have hn := q_uz_n S.1.2 hu
    have h1 := q_pvA_mono (S := S) (ρ := ρ) (ρ' := fun j => if v < ρ j then ρ j - 1 else ρ j) S.1.2 (fun k hk hn1 i hi hn2 he => by
      have a1 := hn k hk hn1
      have a2 := hn i (by omega) hn2
      have he : (if v < ρ i then ρ i - 1 else ρ i) = (if v < ρ k then ρ k - 1 else ρ k) := he
      by_cases c1 : v < ρ i
      · by_cases c2 : v < ρ k
        · rw [if_pos c1, if_pos c2] at he
          omega
        · rw [if_pos c1, if_neg c2] at he
          omega
      · by_cases c2 : v < ρ k
        · rw [if_neg c1, if_pos c2] at he
          omega
        · rw [if_neg c1, if_neg c2] at he
          omega) hp
    have h2 := q_A_no (h (t - 1) (by omega)) (ρ := fun j => if v < ρ j then ρ j - 1 else ρ j) (fun j hj hq => by
      have a1 := hn j hj hq
      have a2 := hb j hj hq
      show (if v < ρ j then ρ j - 1 else ρ j) < t - 1
      split <;> omega)
    rw [h1] at h2
    cases h2
theorem q_un_mono {f : Nat → Bool} : ∀ {i k : Nat}, i ≤ k → q_un i f ≤ q_un k f := by
  intro i k h
  induction k with
  | zero =>
    obtain rfl : i = 0 := by omega
    exact Nat.le_refl _
  | succ k ih =>
    by_cases hq : i = k + 1
    · subst hq
      exact Nat.le_refl _
    · have := ih (by omega)
      simp only [q_un]
      omega
theorem q_un_lt {f : Nat → Bool} {i k : Nat} (h : i < k) (hf : f i = false) : q_un i f < q_un k f := by
  have h1 : q_un (i + 1) f = q_un i f + 1 := by simp only [q_un, hf, if_true]
  have := q_un_mono (f := f) (show i + 1 ≤ k by omega)
  omega
theorem q_A_u (S : q_St) : q_A S (q_un S.1.2 (S.2.2.2 0)) S.1.2 0 (fun _ => 0) ≠ none := by
  intro h
  have h1 := q_A_no h (ρ := fun j => q_un j (S.2.2.2 0)) (fun j hj hn => q_un_lt hj hn)
  rw [q_pvA_inj S.1.2 (fun k hk hn i hi hm => by
    have := q_un_lt hi hm
    omega)] at h1
  cases h1
theorem q_un_all : ∀ (n : Nat) (f : Nat → Bool), (∀ j, j < n → f j = true) → q_un n f = 0
  | 0, _, _ => rfl
  | n + 1, f, h => by
    simp only [q_un, q_un_all n f (fun j hj => h j (by omega)), h n (by omega)]
    rfl
theorem q_D_0 {sk : Nat → Bool} {ok : (Nat → Nat) → Nat → Nat → Bool} : ∀ (r k : Nat) (ρ : Nat → Nat) (j : Nat), k ≤ j → j < k + r → sk j = false → q_D sk ok 0 q_1st r k ρ none = none
  | 0, k, ρ, j, h1, h2, hj => by omega
  | r + 1, k, ρ, j, h1, h2, hj => by
    simp only [q_D]
    by_cases hs : sk k = true
    · rw [if_pos hs]
      exact q_D_0 r (k + 1) ρ j (by
        by_cases hq : j = k
        · subst hq
          rw [hs] at hj
          cases hj
        · omega) (by omega) hj
    · rw [if_neg hs]
      rfl
/-- the fewest tables, and the first row at them -/
theorem q_A_min (S : q_St) : ∃ f0 x, f0 ≤ q_un S.1.2 (S.2.2.2 0) ∧ (q_un S.1.2 (S.2.2.2 0) ≠ 0 → 1 ≤ f0) ∧ q_A S f0 S.1.2 0 (fun _ => 0) = some x ∧ ∀ f, f < f0 → q_A S f S.1.2 0 (fun _ => 0) = none := by
  obtain ⟨f0, h0, hl⟩ := pk_least (fun f => q_A S f S.1.2 0 (fun _ => 0) ≠ none) ⟨_, q_A_u S⟩
  cases hx : q_A S f0 S.1.2 0 (fun _ => 0) with
  | none => exact absurd hx h0
  | some x =>
    refine ⟨f0, x, ?_, fun hu => ?_, hx, fun f hf => ?_⟩
    · by_cases hq : f0 ≤ q_un S.1.2 (S.2.2.2 0)
      · exact hq
      · exact absurd (q_A_u S) (hl _ (by omega))
    · by_cases hq : 1 ≤ f0
      · exact hq
      · exfalso
        obtain rfl : f0 = 0 := by omega
        refine hu (q_un_all _ _ (fun j hj => ?_))
        cases hn : S.2.2.2 0 j with
        | true => rfl
        | false =>
          have := q_D_0 (sk := S.2.2.2 0) (ok := q_okA S) S.1.2 0 (fun _ => 0) j (Nat.zero_le _) (by omega) hn
          rw [show q_A S 0 S.1.2 0 (fun _ => 0) = none from this] at hx
          cases hx
    · cases hq : q_A S f S.1.2 0 (fun _ => 0) with
      | none => rfl
      | some y => exact absurd (by rw [hq]; exact fun q => by cases q) (hl f hf)
/-! the reference's search -/
theorem q_m1s (x : Int32) : x + (-1) = x - 1 := (Int32.sub_eq_add_neg x 1).symm
theorem q_sub0 : (nI 0 : Int32) - 1 < 0 := by decide
theorem q_digit {v t s : Nat} (hs : s < t) : (v * t + s) % t = s ∧ (v * t + s) / t = v := by
  refine ⟨?_, ?_⟩
  · rw [Nat.mul_comm, Nat.mul_add_mod]
    exact Nat.mod_eq_of_lt hs
  · rw [Nat.add_comm, Nat.add_mul_div_right _ _ (by omega), Nat.div_eq_of_lt hs, Nat.zero_add]
theorem k_mc10 {S : q_St} (hok : q_okS S) {t : Nat} (ht : t ≤ 6) {ρ : Nat → Nat} (hb : q_bd (S.2.2.2 0) t ρ S.1.2) (d : Nat) : ∀ (j F : Nat) (m : z_M), j ≤ S.1.2 → q_MS m S → (∀ i, j ≤ i → i < S.1.2 → m 74 i = q_sz S ρ i) → ∃ m1, z_lp z_SH 0 (fun _ => 0) (z_go z_SH z_P (d + 1)) me_X10_canSit (F + j + 1) 10 [some (.ref 59), none, some (.int (nI t)), some (.int (nI (q_vl (S.2.2.2 0) t ρ j))), some (.int (nI j - 1)), none, none, none] [] m = z_lp z_SH 0 (fun _ => 0) (z_go z_SH z_P (d + 1)) me_X10_canSit F 62 [some (.ref 59), none, some (.int (nI t)), none, some (.int 0), some (.int 0), none, none] [] m1 ∧ (∀ i, i < S.1.2 → m1 74 i = q_sz S ρ i) ∧ ∀ a, a ≠ 74 → m1 a = m a := by
  have h6 := hok.2.1
  intro j
  induction j with
  | zero =>
    intro F m hj hM hr
    refine ⟨m, ?_, fun i hi => hr i (Nat.zero_le _) hi, fun _ _ => rfl⟩
    rw [Nat.add_zero, e_X10_canSit_10, if_pos q_sub0]
  | succ j ih =>
    intro F m hj hM hr
    have hj6 : j < 6 := by omega
    rw [show F + (j + 1) + 1 = (F + j + 1) + 1 by omega, nI_pred, e_X10_canSit_10, if_neg (nI_pos (by omega)), q_in hj6 (by decide), z_g_t, q_cl (by omega), q_ua (by decide), hM.2.2.2.2.1, k_misOf d h6 (show j < S.1.2 by omega)]
    simp only [Option.bind_some]
    rw [q_if, q_m1s]
    cases hn : S.2.2.2 0 j with
    | true =>
      rw [if_pos rfl]
      obtain ⟨m1, e1, g1, f1⟩ := ih F (z_up m 74 j (-9)) (by omega) (hM.of (q_ua (by decide)) (q_ua (by decide)) (q_ua (by decide)) (q_ua (by decide)) (fun a h1 h2 => z_up_ne (by omega))) (fun i h1 h2 => by
        by_cases hq : i = j
        · subst hq
          rw [q_uq]
          exact (q_sz_t hn).symm
        · rw [q_uk hq]
          exact hr i (by omega) h2)
      refine ⟨m1, ?_, g1, fun a ha => (f1 a ha).trans (z_up_ne ha)⟩
      rw [show q_vl (S.2.2.2 0) t ρ (j + 1) = q_vl (S.2.2.2 0) t ρ j by simp only [q_vl, hn, if_true]]
      exact e1
    | false =>
      have hd := hb j (by omega) hn
      have hv : q_vl (S.2.2.2 0) t ρ (j + 1) = q_vl (S.2.2.2 0) t ρ j * t + ρ j := by simp only [q_vl, hn, Bool.false_eq_true, if_false]
      have hlt := q_vl_lt (sk := S.2.2.2 0) (b := t) (ρ := ρ) (j + 1) (fun i hi => hb i (by omega))
      have hp := q_pow6 t (by omega) (q_un (j + 1) (S.2.2.2 0)) (by have := q_un_le (j + 1) (S.2.2.2 0); omega)
      have ht0 : ¬ nI t = (0 : Int32) := nI_ne0 (by omega) (by omega)
      obtain ⟨d1, d2⟩ := q_digit (v := q_vl (S.2.2.2 0) t ρ j) hd
      rw [if_neg (by decide), decide_eq_true ht0, z_g_t, z_g_t, z_g_t, pk_rem (by omega) (by omega) (by omega), pk_div (by omega) (by omega) (by omega), hv, d1, d2]
      obtain ⟨m1, e1, g1, f1⟩ := ih F (z_up (z_up m 74 j (-9)) 74 j (nI (ρ j))) (by omega) (hM.of (by rw [q_ua (by decide), q_ua (by decide)]) (by rw [q_ua (by decide), q_ua (by decide)]) (by rw [q_ua (by decide), q_ua (by decide)]) (by rw [q_ua (by decide), q_ua (by decide)]) (fun a h1 h2 => by rw [z_up_ne (by omega), z_up_ne (by omega)])) (fun i h1 h2 => by
        by_cases hq : i = j
        · subst hq
          rw [q_uq]
          exact (q_sz_f hn).symm
        · rw [q_uk hq, q_uk hq]
          exact hr i (by omega) h2)
      exact ⟨m1, e1, g1, fun a ha => by rw [f1 a ha, z_up_ne ha, z_up_ne ha]⟩
theorem k_m104 {S : q_St} (hok : q_okS S) {m : z_M} (hM : q_MS m S) (d F : Nat) (y2 y4 : Int32) {a b : Nat} (ha : a < S.1.2) (hb : b < a) : z_lp z_SH 0 (fun _ => 0) (z_go z_SH z_P (d + 1)) me_X10_canSit (F + 1) 104 [some (.ref 59), none, some (.int y2), none, some (.int y4), some (.int (nI a)), some (.int (nI b)), none] [] m = z_lp z_SH 0 (fun _ => 0) (z_go z_SH z_P (d + 1)) me_X10_canSit F 157 [some (.ref 59), none, some (.int y2), none, some (.int y4), some (.int (nI a)), some (.int (nI b)), none] [.int (q_b (!(q_cl2 S b a)))] m := by
  have h6 := hok.2.1
  have b1 := hok.k0 ha
  have b2 := hok.k0 (show b < S.1.2 by omega)
  rw [e_X10_canSit_104, q_nI_le (by omega) (by omega), if_neg (by omega), q_in (show a < 6 by omega) (by decide), z_g_t, q_in (show b < 6 by omega) (by decide), z_g_t, q_cl (by omega), q_cl (by omega), hM.g0 ha, hM.g0 (show b < S.1.2 by omega), q_nI_if (by omega) (by omega), hM.2.2.2.2.2, k_misOf d h6 ha]
  simp only [Option.bind_some]
  rw [hM.2.2.2.2.2, k_misOf d h6 (show b < S.1.2 by omega)]
  simp only [Option.bind_some]
  rw [q_if, q_if]
  unfold q_cl2
  by_cases h : S.2.2.1 0 a = S.2.2.1 0 b
  · rw [if_pos h, decide_eq_true h.symm]
    rfl
  · rw [if_neg h, decide_eq_false (fun q => h q.symm)]
    cases S.2.2.2 1 a <;> cases S.2.2.2 1 b <;> rfl
theorem k_mc104 {S : q_St} (hok : q_okS S) {t : Nat} (ht : t ≤ 6) {ρ : Nat → Nat} (hb : q_bd (S.2.2.2 0) t ρ S.1.2) {m : z_M} (hM : q_MS m S) (hr : ∀ i, i < S.1.2 → m 74 i = q_sz S ρ i) (d : Nat) (y2 y4 : Int32) {a : Nat} (ha : a < S.1.2) : ∀ (n F b : Nat), b + n = a → z_lp z_SH 0 (fun _ => 0) (z_go z_SH z_P (d + 1)) me_X10_canSit (F + 2 * n + 1) 104 [some (.ref 59), none, some (.int y2), none, some (.int y4), some (.int (nI a)), some (.int (nI b)), none] [] m = if (S.2.2.2 0 a || q_fre S ρ a (ρ a) n b) = true then z_lp z_SH 0 (fun _ => 0) (z_go z_SH z_P (d + 1)) me_X10_canSit F 62 [some (.ref 59), none, some (.int y2), none, some (.int y4), some (.int (nI (a + 1))), none, none] [] m else some (0, 0, m) := by
  have h6 := hok.2.1
  intro n
  induction n with
  | zero =>
    intro F b hn
    rw [e_X10_canSit_104, q_nI_le (by omega) (by omega), if_pos (by omega), nI_1, if_pos (by simp [q_fre])]
  | succ n ih =>
    intro F b hn
    have hb' : b < S.1.2 := by omega
    rw [show F + 2 * (n + 1) + 1 = (F + 2 * n + 1 + 1) + 1 by omega, k_m104 hok hM d _ y2 y4 ha (by omega), e_X10_canSit_157, q_in (show a < 6 by omega) (by decide), z_g_t, z_g_t, q_in (show b < 6 by omega) (by decide), z_g_t, q_cl (by omega), q_cl (by omega), hr a ha, hr b hb', nI_1, ih F (b + 1) (by omega)]
    rcases Bool.eq_false_or_eq_true (S.2.2.2 0 a) with ea | ea
    · rw [q_sz_t ea, if_pos rfl, ea, Bool.true_or, Bool.true_or]
    · have ba := hb a ha ea
      rw [q_sz_f ea, if_neg (q_n9x _ (by omega)), ea, Bool.false_or, Bool.false_or]
      rcases Bool.eq_false_or_eq_true (S.2.2.2 0 b) with eb | eb
      · rw [q_sz_t eb, if_neg (q_n9x _ (by omega)), q_fre_x (n := n) (j := b) (fun q => by rw [eb] at q; cases q.1)]
      · have bb := hb b hb' eb
        rw [q_sz_f eb, q_nI_if (by omega) (by omega)]
        by_cases he : ρ a = ρ b
        · rw [if_pos he]
          rcases Bool.eq_false_or_eq_true (q_cl2 S b a) with hc | hc
          · rw [if_pos (show q_b (!q_cl2 S b a) = 0 by rw [hc]; rfl), q_fre_y (n := n) (j := b) ⟨eb, he.symm, hc⟩, if_neg (by decide)]
          · rw [if_neg (show ¬ q_b (!q_cl2 S b a) = 0 by rw [hc]; decide), q_fre_x (n := n) (j := b) (fun q => by rw [hc] at q; cases q.2.2)]
        · rw [if_neg he, q_fre_x (n := n) (j := b) (fun q => he q.2.1.symm)]
def q_pf (sk : Nat → Bool) (ok : (Nat → Nat) → Nat → Nat → Bool) (ρ : Nat → Nat) : Nat → Nat → Bool
  | 0, _ => true
  | n + 1, a => (sk a || ok ρ a (ρ a)) && q_pf sk ok ρ n (a + 1)
theorem q_pv_pf {sk : Nat → Bool} {ok : (Nat → Nat) → Nat → Nat → Bool} {ρ : Nat → Nat} : ∀ n a, q_pv sk ok ρ (a + n) = (q_pv sk ok ρ a && q_pf sk ok ρ n a)
  | 0, a => by simp [q_pf]
  | n + 1, a => by
    rw [show a + (n + 1) = (a + 1) + n by omega, q_pv_pf n (a + 1)]
    simp only [q_pv, q_pf, Bool.and_assoc]
theorem k_mc62 {S : q_St} (hok : q_okS S) {t : Nat} (ht : t ≤ 6) {ρ : Nat → Nat} (hb : q_bd (S.2.2.2 0) t ρ S.1.2) {m : z_M} (hM : q_MS m S) (hr : ∀ i, i < S.1.2 → m 74 i = q_sz S ρ i) (d : Nat) : ∀ (n F a : Nat), a + n = S.1.2 → z_lp z_SH 0 (fun _ => 0) (z_go z_SH z_P (d + 1)) me_X10_canSit (F + 14 * n + 1) 62 [some (.ref 59), none, some (.int (nI t)), none, some (.int (nI (q_bits 6 (q_uz (S.2.2.2 0) ρ a)))), some (.int (nI a)), none, none] [] m = some (q_b (q_pf (S.2.2.2 0) (q_okA S) ρ n a && decide (nI (q_bits 6 (q_uz (S.2.2.2 0) ρ S.1.2)) = ((1 : Int32) <<< (nI t &&& 31)) - (1 : Int32))), 0, m) := by
  have h6 := hok.2.1
  intro n
  induction n with
  | zero =>
    intro F a hn
    rw [e_X10_canSit_62, hM.2.1, q_nI_le (by omega) (by omega), if_pos (by omega), show a = S.1.2 by omega]
    simp only [q_pf, Bool.true_and]
    by_cases h : nI (q_bits 6 (q_uz (S.2.2.2 0) ρ S.1.2)) = ((1 : Int32) <<< (nI t &&& 31)) - (1 : Int32)
    · rw [if_pos h, decide_eq_true h]
      rfl
    · rw [if_neg h, decide_eq_false h]
      rfl
  | succ n ih =>
    intro F a hn
    have ha : a < S.1.2 := by omega
    have hin := fun y4 => k_mc104 hok ht hb hM hr d (nI t) y4 ha a (F + (12 - 2 * a) + 14 * n + 1) 0 (Nat.zero_add _)
    rw [show F + 14 * (n + 1) + 1 = (F + (12 - 2 * a) + 14 * n + 1 + 2 * a + 1) + 1 by omega, e_X10_canSit_62, hM.2.1, q_nI_le (by omega) (by omega), if_neg (by omega), q_in (show a < 6 by omega) (by decide), z_g_t, z_g_t, q_cl (by omega), hr a ha]
    simp only [q_pf]
    have hI := ih (F + (12 - 2 * a)) (a + 1) (by omega)
    cases ea : S.2.2.2 0 a with
    | true =>
      rw [q_sz_t ea, if_pos rfl, Int32.or_zero]
      have h1 := hin (nI (q_bits 6 (q_uz (S.2.2.2 0) ρ a)))
      rw [ea, Bool.true_or, if_pos rfl, show (nI 0 : Int32) = 0 from rfl] at h1
      rw [h1, Bool.true_or, Bool.true_and, ← hI, show q_uz (S.2.2.2 0) ρ (a + 1) = q_uz (S.2.2.2 0) ρ a from by
        funext v
        simp only [q_uz]
        rw [if_neg (fun q => by rw [ea] at q; cases q.1)]]
    | false =>
      have ba := hb a ha ea
      have h1 := hin (nI (q_bits 6 (q_uz (S.2.2.2 0) ρ (a + 1))))
      rw [ea, Bool.false_or, show (nI 0 : Int32) = 0 from rfl] at h1
      rw [q_sz_f ea, if_neg (q_n9x _ (by omega)), q_bits_or (n := 6) (g := q_uz (S.2.2.2 0) ρ (a + 1)) (Nat.le_refl _) (show ρ a < 6 by omega) (fun v => by
        simp only [q_uz]
        by_cases hv : v = ρ a
        · rw [if_pos ⟨ea, hv⟩, if_pos hv]
        · rw [if_neg (fun q => hv q.2), if_neg hv]), h1, Bool.false_or, hI]
      show _ = some (q_b (q_fre S ρ a (ρ a) a 0 && _ && _), 0, m)
      cases q_fre S ρ a (ρ a) a 0 with
      | true => rw [if_pos rfl, Bool.true_and]
      | false =>
        rw [if_neg (by decide), Bool.false_and, Bool.false_and]
        rfl
theorem q_bits0 : ∀ (n : Nat) (f : Nat → Bool), (∀ v, v < n → f v = false) → q_bits n f = 0
  | 0, _, _ => rfl
  | n + 1, f, h => by
    simp only [q_bits, q_bits0 n f (fun v hv => h v (by omega)), h n (by omega)]
    rfl
theorem k_mcan {S : q_St} (hok : q_okS S) {t : Nat} (ht : t ≤ 6) {ρ : Nat → Nat} (hb : q_bd (S.2.2.2 0) t ρ S.1.2) {m : z_M} (hM : q_MS m S) (d : Nat) : ∃ m1, z_go z_SH z_P (d + 2) 150 [.ref 59, .int (nI (q_vl (S.2.2.2 0) t ρ S.1.2)), .int (nI t)] m = some (q_b (q_pv (S.2.2.2 0) (q_okA S) ρ S.1.2 && decide (nI (q_bits 6 (q_uz (S.2.2.2 0) ρ S.1.2)) = ((1 : Int32) <<< (nI t &&& 31)) - (1 : Int32))), 0, m1) ∧ (∀ i, i < S.1.2 → m1 74 i = q_sz S ρ i) ∧ ∀ a, a ≠ 74 → m1 a = m a := by
  have h6 := hok.2.1
  obtain ⟨m1, e1, g1, f1⟩ := k_mc10 hok ht hb d S.1.2 (199999 - S.1.2 - 1) m (Nat.le_refl _) hM (fun i h1 h2 => by omega)
  have hM1 : q_MS m1 S := hM.of (by rw [f1 59 (by decide)]) (by rw [f1 59 (by decide)]) (by rw [f1 59 (by decide)]) (by rw [f1 59 (by decide)]) (fun a h1 h2 => f1 a (by omega))
  have e2 := k_mc62 hok ht hb hM1 g1 d S.1.2 (199999 - S.1.2 - 1 - 14 * S.1.2 - 1) 0 (Nat.zero_add _)
  rw [show 199999 - S.1.2 - 1 - 14 * S.1.2 - 1 + 14 * S.1.2 + 1 = 199999 - S.1.2 - 1 by omega, q_bits0 6 (q_uz (S.2.2.2 0) ρ 0) (fun v _ => rfl)] at e2
  rw [show 199999 - S.1.2 - 1 + S.1.2 + 1 = 199999 by omega] at e1
  refine ⟨m1, ?_, g1, f1⟩
  rw [c_X10_canSit, hM.2.1, e1, ← Nat.zero_add S.1.2, q_pv_pf S.1.2 0, Nat.zero_add]
  exact e2
