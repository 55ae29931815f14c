/-! 13 softly -/
def q_hv (S : q_St) (k : Nat) : Nat → Nat
  | 0 => 0
  | n + 1 => if q_soft S n k = true ∧ q_hv S k n < q_wt S n k then q_wt S n k else q_hv S k n
theorem q_hv_le {S : q_St} (hok : q_okS S) (k : Nat) : ∀ n, n ≤ S.1.1 → q_hv S k n ≤ 9
  | 0, _ => Nat.zero_le _
  | n + 1, h => by
    have := q_hv_le hok k n (by omega)
    have := q_wt_le hok (show n < S.1.1 by omega) k
    simp only [q_hv]
    split <;> omega
theorem q_hv_ub (S : q_St) (k : Nat) : ∀ n s, s < n → q_soft S s k = true → q_wt S s k ≤ q_hv S k n
  | 0, s, h, _ => by omega
  | n + 1, s, h, hs => by
    simp only [q_hv]
    by_cases hq : s = n
    · subst hq
      by_cases hc : q_soft S s k = true ∧ q_hv S k s < q_wt S s k
      · rw [if_pos hc]
        exact Nat.le_refl _
      · rw [if_neg hc]
        exact Nat.le_of_not_lt (fun q => hc ⟨hs, q⟩)
    · have := q_hv_ub S k n s (by omega) hs
      split <;> omega
theorem q_hv_ex (S : q_St) (k : Nat) : ∀ n, 0 < q_hv S k n → ∃ s, s < n ∧ q_soft S s k = true ∧ q_wt S s k = q_hv S k n
  | 0, h => by simp [q_hv] at h
  | n + 1, h => by
    simp only [q_hv] at h ⊢
    by_cases hc : q_soft S n k = true ∧ q_hv S k n < q_wt S n k
    · rw [if_pos hc]
      exact ⟨n, by omega, hc.1, rfl⟩
    · rw [if_neg hc] at h ⊢
      obtain ⟨s, a, b, c⟩ := q_hv_ex S k n h
      exact ⟨s, by omega, b, c⟩
def q_fo (S : q_St) (k least : Nat) : Nat → Nat → Option Nat
  | 0, _ => none
  | n + 1, i => if q_soft S i k = true ∧ least ≤ q_wt S i k then some i else q_fo S k least n (i + 1)
theorem q_fo_s {S : q_St} {k l s : Nat} : ∀ n i, q_fo S k l n i = some s → i ≤ s ∧ s < i + n ∧ q_soft S s k = true ∧ l ≤ q_wt S s k
  | 0, i, h => by simp [q_fo] at h
  | n + 1, i, h => by
    simp only [q_fo] at h
    by_cases hc : q_soft S i k = true ∧ l ≤ q_wt S i k
    · rw [if_pos hc] at h
      injection h with h
      subst h
      exact ⟨by omega, by omega, hc.1, hc.2⟩
    · rw [if_neg hc] at h
      obtain ⟨a, b, c⟩ := q_fo_s n (i + 1) h
      exact ⟨by omega, by omega, c⟩
theorem q_fo_ex {S : q_St} {k l s : Nat} (hs : q_soft S s k = true) (hl : l ≤ q_wt S s k) : ∀ n i, i ≤ s → s < i + n → ∃ t, q_fo S k l n i = some t
  | 0, i, h1, h2 => by omega
  | n + 1, i, h1, h2 => by
    simp only [q_fo]
    by_cases hc : q_soft S i k = true ∧ l ≤ q_wt S i k
    · exact ⟨i, by rw [if_pos hc]⟩
    · rw [if_neg hc]
      refine q_fo_ex hs hl n (i + 1) ?_ (by omega)
      by_cases hq : i = s
      · subst hq
        exact absurd ⟨hs, hl⟩ hc
      · omega
theorem k_misSoft {m : z_M} {S : q_St} (hM : q_MS m S) (hok : q_okS S) {s k : Nat} (hs : s < S.1.1) (hk : k < S.1.2) (d : Nat) : z_go z_SH z_P (d + 2) 146 [.ref 59, .int (nI s), .int (nI k)] m = some (q_b (q_soft S s k), 0, m) := by
  have h6 := hok.2.1
  have hw := q_wt_le hok hs k
  have hb := hok.k1 hk
  rw [c_X10_isSoft, k_mweigh hM hok hs hk]
  simp only [Option.bind_some]
  rw [k_mweigh hM hok hs hk]
  simp only [Option.bind_some]
  rw [q_in (show k < 6 by omega) (by decide), z_g_t, q_cl (by omega), hM.g1 hk, show (0 : Int32) = nI 0 from rfl, q_nI_le (by omega) (by decide), q_nI_lt (by omega) (by omega)]
  unfold q_soft q_b
  by_cases h0 : q_wt S s k ≤ 0
  · rw [if_pos h0, if_neg (by simp; omega)]
    rfl
  · rw [if_neg h0]
    by_cases h1 : S.2.2.1 1 k < q_wt S s k
    · rw [if_pos h1, if_neg (by simp; omega)]
      rfl
    · rw [if_neg h1, if_pos (by simp; omega)]
theorem k_heavy {S : q_St} (hok : q_okS S) {k : Nat} (hk : k < S.1.2) {m : z_M} (hC : q_CS m 2 S) (d : Nat) : ∀ (n F i : Nat), i + n = S.1.1 → z_lp z_SH 0 (fun _ => 0) (z_go z_SH z_P (d + 3)) me_X5_heaviest (F + n + 1) 4 [some (.ref 2), some (.int (nI k)), some (.int (nI (q_hv S k i))), some (.int (nI i))] [] m = some (nI (q_hv S k S.1.1), 0, m) := by
  have h5 := hok.1
  intro n
  induction n with
  | zero =>
    intro F i hi
    rw [e_X5_heaviest_4, hC.1, q_nI_le (by omega) (by omega), if_pos (by omega), show i = S.1.1 by omega]
  | succ n ih =>
    intro F i hi
    have hs : i < S.1.1 := by omega
    have h9 := q_hv_le hok k i (by omega)
    have hw := q_wt_le hok hs k
    have e1 := ih F (i + 1) (by omega)
    rw [show F + (n + 1) + 1 = (F + n + 1) + 1 by omega, e_X5_heaviest_4, hC.1, q_nI_le (by omega) (by omega), if_neg (by omega), k_isSoft (Or.inl rfl) hC hok hs hk]
    simp only [Option.bind_some]
    rw [k_weight (Or.inl rfl) hC hok hs hk]
    simp only [Option.bind_some]
    rw [q_if, nI_1]
    by_cases hq : q_soft S i k = true
    · rw [if_pos hq, q_nI_lt (by omega) (by omega)]
      simp only [q_hv, hq, true_and] at e1
      by_cases hl : q_hv S k i < q_wt S i k
      · rw [if_pos hl] at e1 ⊢
        exact e1
      · rw [if_neg hl] at e1 ⊢
        exact e1
    · rw [if_neg hq]
      simp only [q_hv, hq, false_and, if_false] at e1
      exact e1
theorem k_heavy0 {S : q_St} (hok : q_okS S) {k : Nat} (hk : k < S.1.2) {m : z_M} (hC : q_CS m 2 S) (d : Nat) : z_go z_SH z_P (d + 4) 40 [.ref 2, .int (nI k)] m = some (nI (q_hv S k S.1.1), 0, m) := by
  have h5 := hok.1
  have := k_heavy hok hk hC d S.1.1 (199999 - S.1.1 - 1) 0 (Nat.zero_add _)
  rw [show 199999 - S.1.1 - 1 + S.1.1 + 1 = 199999 by omega] at this
  rw [c_X5_heaviest]
  exact this
theorem k_mheavy {S : q_St} (hok : q_okS S) {k : Nat} (hk : k < S.1.2) {m : z_M} (hM : q_MS m S) (d : Nat) : ∀ (n F i : Nat), i + n = S.1.1 → z_lp z_SH 0 (fun _ => 0) (z_go z_SH z_P (d + 2)) me_X10_heaviest (F + n + 1) 4 [some (.ref 59), some (.int (nI k)), some (.int (nI (q_hv S k i))), some (.int (nI i))] [] m = some (nI (q_hv S k S.1.1), 0, m) := by
  have h5 := hok.1
  intro n
  induction n with
  | zero =>
    intro F i hi
    rw [e_X10_heaviest_4, hM.1, q_nI_le (by omega) (by omega), if_pos (by omega), show i = S.1.1 by omega]
  | succ n ih =>
    intro F i hi
    have hs : i < S.1.1 := by omega
    have h9 := q_hv_le hok k i (by omega)
    have hw := q_wt_le hok hs k
    have e1 := ih F (i + 1) (by omega)
    rw [show F + (n + 1) + 1 = (F + n + 1) + 1 by omega, e_X10_heaviest_4, hM.1, q_nI_le (by omega) (by omega), if_neg (by omega), k_misSoft hM hok hs hk]
    simp only [Option.bind_some]
    rw [k_mweigh hM hok hs hk]
    simp only [Option.bind_some]
    rw [k_mweigh hM hok hs hk]
    simp only [Option.bind_some]
    rw [q_if, nI_1]
    by_cases hq : q_soft S i k = true
    · rw [if_pos hq, q_nI_le (by omega) (by omega)]
      simp only [q_hv, hq, true_and] at e1
      by_cases hl : q_hv S k i < q_wt S i k
      · rw [if_pos hl] at e1
        rw [if_neg (by omega)]
        exact e1
      · rw [if_neg hl] at e1
        rw [if_pos (by omega)]
        exact e1
    · rw [if_neg hq]
      simp only [q_hv, hq, false_and, if_false] at e1
      exact e1
theorem k_mheavy0 {S : q_St} (hok : q_okS S) {k : Nat} (hk : k < S.1.2) {m : z_M} (hM : q_MS m S) (d : Nat) : z_go z_SH z_P (d + 3) 147 [.ref 59, .int (nI k)] m = some (nI (q_hv S k S.1.1), 0, m) := by
  have h5 := hok.1
  have := k_mheavy hok hk hM d S.1.1 (199999 - S.1.1 - 1) 0 (Nat.zero_add _)
  rw [show 199999 - S.1.1 - 1 + S.1.1 + 1 = 199999 by omega] at this
  rw [c_X10_heaviest]
  exact this
theorem k_first {S : q_St} (hok : q_okS S) {k : Nat} (hk : k < S.1.2) {l : Nat} (hl : l < 1000) {m : z_M} (hC : q_CS m 2 S) (d : Nat) : ∀ (n F i : Nat), i + n = S.1.1 → z_lp z_SH 0 (fun _ => 0) (z_go z_SH z_P (d + 3)) me_X5_firstOfAtLeast (F + n + 1) 2 [some (.ref 2), some (.int (nI k)), some (.int (nI l)), some (.int (nI i))] [] m = some ((q_fo S k l n i).elim (-9) nI, 0, m) := by
  have h5 := hok.1
  intro n
  induction n with
  | zero =>
    intro F i hi
    rw [e_X5_firstOfAtLeast_2, hC.1, q_nI_le (by omega) (by omega), if_pos (by omega)]
    rfl
  | succ n ih =>
    intro F i hi
    have hs : i < S.1.1 := by omega
    have hw := q_wt_le hok hs k
    have e1 := ih F (i + 1) (by omega)
    rw [show F + (n + 1) + 1 = (F + n + 1) + 1 by omega, e_X5_firstOfAtLeast_2, hC.1, q_nI_le (by omega) (by omega), if_neg (by omega), k_isSoft (Or.inl rfl) hC hok hs hk]
    simp only [Option.bind_some]
    rw [k_weight (Or.inl rfl) hC hok hs hk]
    simp only [Option.bind_some]
    rw [q_if, nI_1, q_nI_lt (by omega) (by omega), e1]
    simp only [q_fo]
    by_cases hq : q_soft S i k = true
    · rw [if_pos hq]
      by_cases hl : q_wt S i k < l
      · rw [if_pos hl, if_neg (fun q => by have := q.2; omega)]
      · rw [if_neg hl, if_pos ⟨hq, by omega⟩]
        rfl
    · rw [if_neg hq, if_neg (fun q => hq q.1)]
theorem k_first0 {S : q_St} (hok : q_okS S) {k : Nat} (hk : k < S.1.2) {l : Nat} (hl : l < 1000) {m : z_M} (hC : q_CS m 2 S) (d : Nat) : z_go z_SH z_P (d + 4) 41 [.ref 2, .int (nI k), .int (nI l)] m = some ((q_fo S k l S.1.1 0).elim (-9) nI, 0, m) := by
  have h5 := hok.1
  have := k_first hok hk hl hC d S.1.1 (199999 - S.1.1 - 1) 0 (Nat.zero_add _)
  rw [show 199999 - S.1.1 - 1 + S.1.1 + 1 = 199999 by omega] at this
  rw [c_X5_firstOfAtLeast]
  exact this
/-- the row: r places to go, l signs behind the next one -/
def q_sgn (S : q_St) (k H : Nat) : Nat → Nat → Nat → Nat → Nat
  | 0, _, _, c => c
  | r + 1, l, a, _ => q_sgn S k H r (l - 1) (a - q_wt S ((q_fo S k (a - l * H) S.1.1 0).getD 0) k) ((q_fo S k (a - l * H) S.1.1 0).getD 0)
theorem q_fo_go {S : q_St} {k l a : Nat} (h0 : 0 < q_hv S k S.1.1) (ha : a ≤ l * q_hv S k S.1.1 + q_hv S k S.1.1) : ∃ s, q_fo S k (a - l * q_hv S k S.1.1) S.1.1 0 = some s := by
  obtain ⟨s, h1, h2, h3⟩ := q_hv_ex S k S.1.1 h0
  exact q_fo_ex h2 (by omega) S.1.1 0 (by omega) (by omega)
theorem k_row {S : q_St} (hok : q_okS S) {k : Nat} (hk : k < S.1.2) (h0 : 0 < q_hv S k S.1.1) {i : Nat} (hi : i ≤ 8) {m : z_M} (hC : q_CS m 2 S) (d : Nat) : ∀ (r F l a c p : Nat) (y5 y6 y7 : Int32), p + r = i + 1 → y7 = (if p = 0 then -9 else nI c) → (0 < r → y5 = nI (l + 1) ∧ y6 = nI a ∧ l * q_hv S k S.1.1 < a ∧ a ≤ l * q_hv S k S.1.1 + q_hv S k S.1.1 ∧ a ≤ 9 ∧ r ≤ l + 1 ∧ l ≤ 9) → z_lp z_SH 0 (fun _ => 0) (z_go z_SH z_P (d + 4)) me_X5_signOfRow (F + r + 1) 38 [none, some (.ref 2), some (.int (nI k)), some (.int (nI i)), some (.int (nI (q_hv S k S.1.1))), some (.int y5), some (.int y6), some (.int y7), some (.int (nI p))] [] m = some (if p + r = 0 then -9 else nI (q_sgn S k (q_hv S k S.1.1) r l a c), 0, m) := by
  have h5 := hok.1
  have h9 := q_hv_le hok k S.1.1 (Nat.le_refl _)
  intro r
  induction r with
  | zero =>
    intro F l a c p y5 y6 y7 hp hy hr
    rw [e_X5_signOfRow_38, q_nI_lt (by omega) (by omega), if_pos (by omega), hy, if_neg (by omega), if_neg (by omega)]
    rfl
  | succ r ih =>
    intro F l a c p y5 y6 y7 hp hy hr
    obtain ⟨rfl, rfl, i1, i2, i3, i4, i5⟩ := hr (by omega)
    obtain ⟨s, hs⟩ := q_fo_go h0 i2
    obtain ⟨s1, s2, s3, s4⟩ := q_fo_s _ _ hs
    have hs' : s < S.1.1 := by omega
    have hsH := q_hv_ub S k S.1.1 s hs' s3
    have hw := q_wt_le hok hs' k
    have hg : (q_fo S k (a - l * q_hv S k S.1.1) S.1.1 0).getD 0 = s := by rw [hs]; rfl
    have e1 := ih F (l - 1) (a - q_wt S s k) s (p + 1) (nI (l + 1) + (-1)) (nI a - nI (q_wt S s k)) (nI s) (by omega) (by rw [if_neg (by omega)]) (by
      intro hr'
      obtain ⟨l', rfl⟩ : ∃ l', l = l' + 1 := ⟨l - 1, by omega⟩
      rw [Nat.succ_mul] at i1 i2 s4
      refine ⟨?_, ?_, ?_, ?_, by omega, by omega, by omega⟩
      · rw [show l' + 1 - 1 + 1 = l' + 1 by omega, ← nI_1 (l' + 1)]
        simp [Int32.add_assoc]
      · exact pk_sub (by omega)
      · rw [show l' + 1 - 1 = l' by omega]
        omega
      · rw [show l' + 1 - 1 = l' by omega]
        omega)
    rw [show F + (r + 1) + 1 = (F + r + 1) + 1 by omega, e_X5_signOfRow_38, q_nI_lt (by omega) (by omega), if_neg (by omega), show nI (l + 1) + (-1 : Int32) = nI l from by rw [← nI_1 l]; simp [Int32.add_assoc], pk_mul, pk_sub (by omega), k_first0 hok hk (by omega) hC, hs]
    simp only [Option.bind_some]
    have hne : ¬ nI s = (-9 : Int32) := by
      have : ∀ v, v < 6 → nI v ≠ (-9 : Int32) := by decide +kernel
      exact this s (by omega)
    rw [show (some s).elim (-9 : Int32) nI = nI s from rfl, if_neg hne, k_weight (Or.inl rfl) hC hok hs' hk]
    simp only [Option.bind_some]
    rw [show nI (l + 1) + (-1 : Int32) = nI l from by rw [← nI_1 l]; simp [Int32.add_assoc]] at e1
    rw [nI_1, e1, if_neg (by omega), if_neg (by omega)]
    simp only [q_sgn, hg]
theorem k_mfo {S : q_St} (hok : q_okS S) {k : Nat} (hk : k < S.1.2) {m : z_M} (hM : q_MS m S) (d : Nat) {l a s0 : Nat} (y2 : Int32) {n q : Nat} (hn : l + q + 1 = n) (hn9 : n ≤ 99) (hla : l * q_hv S k S.1.1 < a) (ha : a ≤ 99) : ∀ (j F s : Nat), s + j = S.1.1 → q_fo S k (a - l * q_hv S k S.1.1) j s = some s0 → ∃ F', z_lp z_SH 0 (fun _ => 0) (z_go z_SH z_P (d + 2)) me_X10_softly (F + j + 1) 116 [some (.ref 59), some (.int (nI k)), some (.int y2), some (.int (nI a)), some (.int (nI (q_hv S k S.1.1))), some (.int (nI n)), some (.int (nI s)), some (.int (nI q))] [] m = z_lp z_SH 0 (fun _ => 0) (z_go z_SH z_P (d + 2)) me_X10_softly (F + F' + 1) 107 [some (.ref 59), some (.int (nI k)), some (.int y2), some (.int (nI a - nI (q_wt S s0 k))), some (.int (nI (q_hv S k S.1.1))), some (.int (nI n)), some (.int (nI s0)), some (.int (nI (q + 1)))] [] m := by
  have h5 := hok.1
  have h9 := q_hv_le hok k S.1.1 (Nat.le_refl _)
  have hla9 : l * q_hv S k S.1.1 ≤ 99 := by omega
  intro j
  induction j with
  | zero =>
    intro F s hs h
    simp [q_fo] at h
  | succ j ih =>
    intro F s hs h
    have hs' : s < S.1.1 := by omega
    have hw := q_wt_le hok hs' k
    rw [show F + (j + 1) + 1 = (F + j + 1) + 1 by omega, e_X10_softly_116, k_misSoft hM hok hs' hk]
    simp only [Option.bind_some]
    rw [k_mweigh hM hok hs' hk]
    simp only [Option.bind_some]
    rw [k_mweigh hM hok hs' hk]
    simp only [Option.bind_some]
    rw [q_if, nI_1, nI_1, show (1 : Int32) = nI 1 from rfl, pk_sub (by omega), pk_sub (by omega), show n - 1 - q = l by omega, pk_mul, nI_add, q_nI_le (by omega) (by omega)]
    simp only [q_fo] at h
    by_cases hc : q_soft S s k = true ∧ a - l * q_hv S k S.1.1 ≤ q_wt S s k
    · rw [if_pos hc] at h
      injection h with h
      subst h
      rw [if_pos hc.1, if_pos (by omega)]
      exact ⟨j, rfl⟩
    · rw [if_neg hc] at h
      obtain ⟨F', e⟩ := ih F (s + 1) (by omega) h
      refine ⟨F', ?_⟩
      by_cases hq : q_soft S s k = true
      · rw [if_pos hq, if_neg (fun q => hc ⟨hq, by omega⟩)]
        exact e
      · rw [if_neg hq]
        exact e
theorem k_mrow {S : q_St} (hok : q_okS S) {k : Nat} (hk : k < S.1.2) (h0 : 0 < q_hv S k S.1.1) {i n : Nat} (hi : i ≤ 8) (hn : n ≤ 20) {m : z_M} (hM : q_MS m S) (d : Nat) : ∀ (r G l a c p : Nat) (y3 : Int32), 10 * r + 10 ≤ G → p + r = i + 1 → (0 < r → y3 = nI a ∧ l + p + 1 = n ∧ l * q_hv S k S.1.1 < a ∧ a ≤ l * q_hv S k S.1.1 + q_hv S k S.1.1 ∧ a ≤ 9 ∧ r ≤ l + 1) → z_lp z_SH 0 (fun _ => 0) (z_go z_SH z_P (d + 2)) me_X10_softly G 107 [some (.ref 59), some (.int (nI k)), some (.int (nI i)), some (.int y3), some (.int (nI (q_hv S k S.1.1))), some (.int (nI n)), some (.int (nI c)), some (.int (nI p))] [] m = some (nI (q_sgn S k (q_hv S k S.1.1) r l a c), 0, m) := by
  have h5 := hok.1
  have h9 := q_hv_le hok k S.1.1 (Nat.le_refl _)
  intro r
  induction r with
  | zero =>
    intro G l a c p y3 hG hp hr
    obtain ⟨G', rfl⟩ : ∃ G', G = G' + 1 := ⟨G - 1, by omega⟩
    rw [e_X10_softly_107, q_nI_lt (by omega) (by omega), if_pos (by omega)]
    rfl
  | succ r ih =>
    intro G l a c p y3 hG hp hr
    obtain ⟨rfl, i0, i1, i2, i3, i4⟩ := hr (by omega)
    obtain ⟨s, hs⟩ := q_fo_go h0 i2
    obtain ⟨s1, s2, s3, s4⟩ := q_fo_s _ _ hs
    have hs' : s < S.1.1 := by omega
    have hsH := q_hv_ub S k S.1.1 s hs' s3
    have hg : (q_fo S k (a - l * q_hv S k S.1.1) S.1.1 0).getD 0 = s := by rw [hs]; rfl
    obtain ⟨G', rfl⟩ : ∃ G', G = G' + 1 := ⟨G - 1, by omega⟩
    obtain ⟨F', e1⟩ := k_mfo hok hk hM d (nI i) (l := l) (a := a) (n := n) (q := p) (by omega) (by omega) i1 (by omega) S.1.1 (G' - S.1.1 - 1) 0 (Nat.zero_add _) hs
    rw [show G' - S.1.1 - 1 + S.1.1 + 1 = G' by omega] at e1
    rw [e_X10_softly_107, q_nI_lt (by omega) (by omega), if_neg (by omega)]
    have e1 : z_lp z_SH 0 (fun _ => 0) (z_go z_SH z_P (d + 2)) me_X10_softly G' 116 [some (.ref 59), some (.int (nI k)), some (.int (nI i)), some (.int (nI a)), some (.int (nI (q_hv S k S.1.1))), some (.int (nI n)), some (.int 0), some (.int (nI p))] [] m = _ := e1
    rw [e1, ih (G' - S.1.1 - 1 + F' + 1) (l - 1) (a - q_wt S s k) s (p + 1) _ (by omega) (by omega) (by
      intro hr'
      obtain ⟨l', rfl⟩ : ∃ l', l = l' + 1 := ⟨l - 1, by omega⟩
      rw [Nat.succ_mul] at i1 i2 s4
      refine ⟨?_, by omega, ?_, ?_, by omega, by omega⟩
      · exact pk_sub (by omega)
      · rw [show l' + 1 - 1 = l' by omega]
        omega
      · rw [show l' + 1 - 1 = l' by omega]
        omega)]
    simp only [q_sgn, hg]
theorem q_ceil1 : ∀ L, L < 10 → ∀ H, H < 10 → 0 < H → 0 < L → ((L + H - 1) / H - 1) * H < L ∧ L ≤ ((L + H - 1) / H - 1) * H + H := by decide +kernel
theorem q_ceil2 : ∀ L, L < 10 → ∀ H, H < 10 → 0 < H → 0 < L → 1 ≤ (L + H - 1) / H ∧ (L + H - 1) / H ≤ 9 := by decide +kernel
theorem q_ceil3 : ∀ L, L < 10 → ∀ H, H < 10 → 0 < H → 0 < L → (nI L + nI H - 1) / nI H = nI ((L + H - 1) / H) := by decide +kernel
theorem q_ceil (L : Nat) (hL : L < 10) (H : Nat) (hH : H < 10) (h0 : 0 < H) (l0 : 0 < L) : ((L + H - 1) / H - 1) * H < L ∧ L ≤ ((L + H - 1) / H - 1) * H + H ∧ 1 ≤ (L + H - 1) / H ∧ (L + H - 1) / H ≤ 9 ∧ (nI L + nI H - 1) / nI H = nI ((L + H - 1) / H) :=
  ⟨(q_ceil1 L hL H hH h0 l0).1, (q_ceil1 L hL H hH h0 l0).2, (q_ceil2 L hL H hH h0 l0).1, (q_ceil2 L hL H hH h0 l0).2, q_ceil3 L hL H hH h0 l0⟩
theorem q_w_m1 {b : Nat} {x : Int32} (hb : b < 1000) (h : q_w (-1) (nI b) x = true) : x = -1 ∨ ∃ v, v ≤ b ∧ x = nI v := by
  simp only [q_w, Bool.and_eq_true, decide_eq_true_eq, Int32.le_iff_toInt_le] at h
  rw [nI_toInt (by omega), show (-1 : Int32).toInt = -1 from by decide] at h
  by_cases hx : x.toInt = -1
  · left
    exact Int32.toInt_inj.mp (by rw [hx]; rfl)
  · right
    exact ⟨x.toInt.toNat, by omega, z_nI_of (by omega) (by omega)⟩
theorem p_softly (x y : Int32) : q_pr 73 148 [.int x, .int y] := by
  intro T hok
  have h6 := hok.1.2.1
  have h5 := hok.1.1
  by_cases hv : q_v T.2.1.1.2 x = true
  case neg =>
    refine ⟨-1, 0, T, q_cop_same (fun d m hC => ?_), q_mop_same (fun d m hM => ?_), hok⟩
    · rw [c_X9_softly, k_isGuest _ _ hC.ng h6]
      simp only [Option.bind_some, q_if]
      rw [if_neg hv]
    · rw [c_X10_softly, k_misGuest _ _ hM.ng h6]
      simp only [Option.bind_some, q_if]
      rw [if_neg hv]
  by_cases hw : q_w (-1) 8 y = true
  case neg =>
    refine ⟨-2, 0, T, q_cop_same (fun d m hC => ?_), q_mop_same (fun d m hM => ?_), hok⟩
    · rw [c_X9_softly, k_isGuest _ _ hC.ng h6]
      simp only [Option.bind_some, q_if]
      rw [if_pos hv, k_within]
      simp only [Option.bind_some, q_if]
      rw [if_neg hw]
    · rw [c_X10_softly, k_misGuest _ _ hM.ng h6]
      simp only [Option.bind_some, q_if]
      rw [if_pos hv, k_mwithin]
      simp only [Option.bind_some, q_if]
      rw [if_neg hw]
  obtain ⟨k, hk, rfl⟩ := q_v_t hv (by omega)
  have hk6 : k < 6 := by omega
  by_cases hn : T.2.1.2.2.2 0 k = true
  case pos =>
    refine ⟨-3, 0, T, q_cop_same (fun d m hC => ?_), q_mop_same (fun d m hM => ?_), hok⟩
    · rw [c_X9_softly, k_isGuest _ _ hC.ng h6]
      simp only [Option.bind_some, q_if]
      rw [if_pos hv, k_within]
      simp only [Option.bind_some, q_if]
      rw [if_pos hw, q_in hk6 (by decide), z_g_t, q_cl (by omega), q_g5b hk6 (by decide) (by decide), z_g_t, hC.kn hk, q_if, if_pos hn]
    · rw [c_X10_softly, k_misGuest _ _ hM.ng h6]
      simp only [Option.bind_some, q_if]
      rw [if_pos hv, k_mwithin]
      simp only [Option.bind_some, q_if]
      rw [if_pos hw, hM.kn, k_misOf _ h6 hk]
      simp only [Option.bind_some, q_if]
      rw [if_pos hn]
  have hlt := (hok.1.2.2.2.2 k hk).2.2.2.2.2 (by simpa using hn)
  have ht := hok.1.k2 hk
  have hH9 := q_hv_le hok.1 k T.2.1.1.1 (Nat.le_refl _)
  have cpre : ∀ (d : Nat) (m : z_M), q_C m T → z_go z_SH z_P (d + 20) 73 [.ref 0, .int (nI k), .int y] m = if 0 ≤ y then (Option.bind (z_go z_SH z_P (d + 19) 39 [.ref 44, .ref 2, .int (nI k), .int y] m) (fun r3 => some (r3.1, 0, r3.2.2))) else (Option.bind (z_go z_SH z_P (d + 19) 38 [.ref 44, .ref 2, .int (nI k)] m) (fun r4 => some (r4.1, 0, r4.2.2))) := by
    intro d m hC
    rw [c_X9_softly, k_isGuest _ _ hC.ng h6]
    simp only [Option.bind_some, q_if]
    rw [if_pos hv, k_within]
    simp only [Option.bind_some, q_if]
    rw [if_pos hw, q_in hk6 (by decide), z_g_t, q_cl (by omega), q_g5b hk6 (by decide) (by decide), z_g_t, hC.kn hk, q_if, if_neg hn]
  have kf : ∀ (d : Nat) (m : z_M), q_C m T → z_go z_SH z_P (d + 5) 38 [.ref 44, .ref 2, .int (nI k)] m = if q_hv T.2.1 k T.2.1.1.1 = 0 then some (-9, 0, m) else some (nI ((T.2.1.2.2.1 2 k - T.2.1.2.2.1 4 k + q_hv T.2.1 k T.2.1.1.1 - 1) / q_hv T.2.1 k T.2.1.1.1), 0, m) := by
    intro d m hC
    rw [c_X5_fewest, k_heavy0 hok.1 hk hC.2.1]
    simp only [Option.bind_some]
    rw [k_lack (Or.inl rfl) hC.2.1 hok.1 hk]
    simp only [Option.bind_some]
    rw [pk_sub (by omega)]
    by_cases h0 : q_hv T.2.1 k T.2.1.1.1 = 0
    · rw [if_pos h0, h0]
      rfl
    · have hne : ¬ nI (q_hv T.2.1 k T.2.1.1.1) = (0 : Int32) := by
        rw [show (0 : Int32) = nI 0 from rfl]
        exact fun q => h0 ((nI_eq (by omega) (by decide)).mp q)
      rw [if_neg hne, if_neg h0, decide_eq_true hne, z_g_t, (q_ceil _ (by omega) _ (by omega) (by omega) (by omega)).2.2.2.2]
  have mpre : ∀ (d : Nat) (m : z_M), q_M m T → z_go z_SH z_P (d + 20) 148 [.ref 59, .int (nI k), .int y] m = if q_hv T.2.1 k T.2.1.1.1 = 0 then some (-9, 0, m) else (if y = -1 then some (nI ((T.2.1.2.2.1 2 k - T.2.1.2.2.1 4 k + q_hv T.2.1 k T.2.1.1.1 - 1) / q_hv T.2.1 k T.2.1.1.1), 0, m) else if y < nI ((T.2.1.2.2.1 2 k - T.2.1.2.2.1 4 k + q_hv T.2.1 k T.2.1.1.1 - 1) / q_hv T.2.1 k T.2.1.1.1) then z_lp z_SH 0 (fun _ => 0) (z_go z_SH z_P (d + 19)) me_X10_softly 199999 107 [some (.ref 59), some (.int (nI k)), some (.int y), some (.int (nI (T.2.1.2.2.1 2 k - T.2.1.2.2.1 4 k))), some (.int (nI (q_hv T.2.1 k T.2.1.1.1))), some (.int (nI ((T.2.1.2.2.1 2 k - T.2.1.2.2.1 4 k + q_hv T.2.1 k T.2.1.1.1 - 1) / q_hv T.2.1 k T.2.1.1.1))), some (.int 0), some (.int 0)] [] m else some (-9, 0, m)) := by
    intro d m hM
    rw [c_X10_softly, k_misGuest _ _ hM.ng h6]
    simp only [Option.bind_some, q_if]
    rw [if_pos hv, k_mwithin]
    simp only [Option.bind_some, q_if]
    rw [if_pos hw, hM.kn, k_misOf _ h6 hk]
    simp only [Option.bind_some, q_if]
    rw [if_neg hn, q_in hk6 (by decide), z_g_t, z_g_t, q_cl (by omega), hM.2.1.g2 hk, hM.2.1.g4 hk, pk_sub (by omega), k_mheavy0 hok.1 hk hM.2.1]
    simp only [Option.bind_some]
    by_cases h0 : q_hv T.2.1 k T.2.1.1.1 = 0
    · rw [if_pos h0, h0]
      rfl
    · have hne : ¬ nI (q_hv T.2.1 k T.2.1.1.1) = (0 : Int32) := by
        rw [show (0 : Int32) = nI 0 from rfl]
        exact fun q => h0 ((nI_eq (by omega) (by decide)).mp q)
      rw [if_neg hne, if_neg h0, decide_eq_true hne, z_g_t, (q_ceil _ (by omega) _ (by omega) (by omega) (by omega)).2.2.2.2]
      by_cases hy : y = -1
      · rw [if_pos hy, if_pos hy, if_pos hy]
      · rw [if_neg hy, if_neg hy, if_neg hy]
  by_cases h0 : q_hv T.2.1 k T.2.1.1.1 = 0
  · refine ⟨-9, 0, T, q_cop_same (fun d m hC => ?_), q_mop_same (fun d m hM => ?_), hok⟩
    · rw [cpre d m hC]
      have e1 := kf (d + 14) m hC
      have e2 := kf (d + 13) m hC
      rw [if_pos h0] at e1 e2
      rw [e1, c_X5_signOfRow, k_heavy0 hok.1 hk hC.2.1]
      simp only [Option.bind_some]
      rw [e2]
      simp only [Option.bind_some]
      by_cases hy : 0 ≤ y
      · rw [if_pos hy, if_neg]
        · rfl
        · intro q
          rw [Int32.lt_iff_toInt_lt, show (-9 : Int32).toInt = -9 from by decide] at q
          rw [Int32.le_iff_toInt_le, show (0 : Int32).toInt = 0 from rfl] at hy
          omega
      · rw [if_neg hy]
    · rw [mpre d m hM, if_pos h0]
  obtain ⟨k1, k2, k3, k4, k5⟩ := q_ceil (T.2.1.2.2.1 2 k - T.2.1.2.2.1 4 k) (by omega) (q_hv T.2.1 k T.2.1.1.1) (by omega) (by omega) (by omega)
  generalize hN : (T.2.1.2.2.1 2 k - T.2.1.2.2.1 4 k + q_hv T.2.1 k T.2.1.1.1 - 1) / q_hv T.2.1 k T.2.1.1.1 = N at *
  rcases q_w_m1 (b := 8) (by decide) hw with rfl | ⟨v, hv8, rfl⟩
  · refine ⟨nI N, 0, T, q_cop_same (fun d m hC => ?_), q_mop_same (fun d m hM => ?_), hok⟩
    · have e1 := kf (d + 14) m hC
      rw [if_neg h0] at e1
      rw [cpre d m hC, if_neg (by decide), e1]
      rfl
    · rw [mpre d m hM, if_neg h0, if_pos rfl]
  · have hle0 : (0 : Int32) ≤ nI v := (nI_leI (a := 0) (b := v) (by decide) (by omega)).mpr (Nat.zero_le _)
    have hne1 : ¬ nI v = (-1 : Int32) := by
      have : ∀ v, v < 9 → nI v ≠ (-1 : Int32) := by decide +kernel
      exact this v (by omega)
    by_cases hvN : v < N
    · refine ⟨nI (q_sgn T.2.1 k (q_hv T.2.1 k T.2.1.1.1) (v + 1) (N - 1) (T.2.1.2.2.1 2 k - T.2.1.2.2.1 4 k) 0), 0, T, q_cop_same (fun d m hC => ?_), q_mop_same (fun d m hM => ?_), hok⟩
      · have e2 := kf (d + 13) m hC
        rw [if_neg h0] at e2
        rw [cpre d m hC, if_pos hle0, c_X5_signOfRow, k_heavy0 hok.1 hk hC.2.1]
        simp only [Option.bind_some]
        rw [e2]
        simp only [Option.bind_some]
        rw [q_nI_lt (by omega) (by omega), if_pos hvN, k_lack (Or.inl rfl) hC.2.1 hok.1 hk]
        simp only [Option.bind_some]
        have e3 := k_row hok.1 hk (by omega) (i := v) hv8 hC.2.1 (d + 14) (v + 1) (199999 - (v + 1) - 1) (N - 1) (T.2.1.2.2.1 2 k - T.2.1.2.2.1 4 k) 0 0 (nI N) (nI (T.2.1.2.2.1 2 k) - nI (T.2.1.2.2.1 4 k)) (-9) (by omega) rfl (fun _ => ⟨by rw [show N - 1 + 1 = N by omega], pk_sub (by omega), k1, k2, by omega, by omega, by omega⟩)
        rw [show 199999 - (v + 1) - 1 + (v + 1) + 1 = 199999 by omega, show d + 14 + 4 = d + 18 from rfl, if_neg (by omega)] at e3
        have e3 : z_lp z_SH 0 (fun _ => 0) (z_go z_SH z_P (d + 18)) me_X5_signOfRow 199999 38 [none, some (.ref 2), some (.int (nI k)), some (.int (nI v)), some (.int (nI (q_hv T.2.1 k T.2.1.1.1))), some (.int (nI N)), some (.int (nI (T.2.1.2.2.1 2 k) - nI (T.2.1.2.2.1 4 k))), some (.int (-9)), some (.int 0)] [] m = _ := e3
        rw [e3]
        rfl
      · rw [mpre d m hM, if_neg h0, if_neg hne1, q_nI_lt (by omega) (by omega), if_pos hvN]
        have e3 := k_mrow hok.1 hk (by omega) (i := v) (n := N) hv8 (by omega) hM.2.1 (d + 17) (v + 1) 199999 (N - 1) (T.2.1.2.2.1 2 k - T.2.1.2.2.1 4 k) 0 0 (nI (T.2.1.2.2.1 2 k - T.2.1.2.2.1 4 k)) (by omega) (by omega) (fun _ => ⟨rfl, by omega, k1, k2, by omega, by omega⟩)
        rw [show d + 17 + 2 = d + 19 from rfl] at e3
        exact e3
    · refine ⟨-9, 0, T, q_cop_same (fun d m hC => ?_), q_mop_same (fun d m hM => ?_), hok⟩
      · have e2 := kf (d + 13) m hC
        rw [if_neg h0] at e2
        rw [cpre d m hC, if_pos hle0, c_X5_signOfRow, k_heavy0 hok.1 hk hC.2.1]
        simp only [Option.bind_some]
        rw [e2]
        simp only [Option.bind_some]
        rw [q_nI_lt (by omega) (by omega), if_neg hvN]
        rfl
      · rw [mpre d m hM, if_neg h0, if_neg hne1, q_nI_lt (by omega) (by omega), if_neg hvN]
