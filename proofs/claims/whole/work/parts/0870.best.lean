/-! 16 best: which sign is left to whom -/
abbrev q_Bt : Type := Option (Nat × Nat × (Nat → Nat))
def q_us (ns : Nat) (ρ : Nat → Nat) : Nat → Nat → Bool
  | 0, _ => false
  | k + 1, v => if ρ k < ns ∧ v = ρ k then true else q_us ns ρ k v
def q_okB (S : q_St) (ρ : Nat → Nat) (k s : Nat) : Bool := if s < S.1.1 then !(S.2.2.2 0 k) && (decide (q_wt S s k ≤ S.2.2.1 1 k) && !(q_us S.1.1 ρ k s)) else true
def q_mn (S : q_St) (ρ : Nat → Nat) : Nat → Nat
  | 0 => 0
  | k + 1 => q_mn S ρ k + (if ρ k < S.1.1 ∧ S.2.2.1 2 k ≤ S.2.2.1 4 k + q_wt S (ρ k) k then 1 else 0)
def q_sm (S : q_St) (ρ : Nat → Nat) : Nat → Nat
  | 0 => 0
  | k + 1 => q_sm S ρ k + (if ρ k < S.1.1 then S.2.1 (ρ k) else 0)
def q_btr (S : q_St) (b : Nat × Nat × (Nat → Nat)) (ρ : Nat → Nat) : Prop := b.1 < q_mn S ρ S.1.2 ∨ (q_mn S ρ S.1.2 = b.1 ∧ q_sm S ρ S.1.2 < b.2.1)
def q_new (S : q_St) (ρ : Nat → Nat) : Nat × Nat × (Nat → Nat) := (q_mn S ρ S.1.2, q_sm S ρ S.1.2, ρ)
def q_try (S : q_St) (ρ : Nat → Nat) : q_Bt → q_Bt
  | none => some (q_new S ρ)
  | some b => if b.1 < q_mn S ρ S.1.2 ∨ (q_mn S ρ S.1.2 = b.1 ∧ q_sm S ρ S.1.2 < b.2.1) then some (q_new S ρ) else some b
theorem q_try_y {S : q_St} {ρ : Nat → Nat} {b : Nat × Nat × (Nat → Nat)} (h : b.1 < q_mn S ρ S.1.2 ∨ (q_mn S ρ S.1.2 = b.1 ∧ q_sm S ρ S.1.2 < b.2.1)) : q_try S ρ (some b) = some (q_new S ρ) := if_pos h
theorem q_try_x {S : q_St} {ρ : Nat → Nat} {b : Nat × Nat × (Nat → Nat)} (h : ¬ (b.1 < q_mn S ρ S.1.2 ∨ (q_mn S ρ S.1.2 = b.1 ∧ q_sm S ρ S.1.2 < b.2.1))) : q_try S ρ (some b) = some b := if_neg h
def q_enc (S : q_St) (ρ : Nat → Nat) (j : Nat) : Int32 := if ρ j < S.1.1 then nI (ρ j) else 9
theorem q_enc_y {S : q_St} {ρ : Nat → Nat} {j : Nat} (h : ρ j < S.1.1) : q_enc S ρ j = nI (ρ j) := if_pos h
theorem q_enc_x {S : q_St} {ρ : Nat → Nat} {j : Nat} (h : ¬ ρ j < S.1.1) : q_enc S ρ j = 9 := if_neg h
abbrev q_Bs (S : q_St) (r k : Nat) (ρ : Nat → Nat) (B : q_Bt) : q_Bt := q_D (fun _ => false) (q_okB S) (S.1.1 + 1) (q_try S) r k ρ B
theorem q_us_ext {ns : Nat} {ρ ρ' : Nat → Nat} : ∀ k, (∀ j, j < k → ρ j = ρ' j) → q_us ns ρ k = q_us ns ρ' k
  | 0, _ => rfl
  | k + 1, h => by
    funext v
    simp only [q_us]
    rw [q_us_ext k (fun j hj => h j (by omega)), h k (by omega)]
theorem q_mn_ext {S : q_St} {ρ ρ' : Nat → Nat} : ∀ k, (∀ j, j < k → ρ j = ρ' j) → q_mn S ρ k = q_mn S ρ' k
  | 0, _ => rfl
  | k + 1, h => by
    simp only [q_mn]
    rw [q_mn_ext k (fun j hj => h j (by omega)), h k (by omega)]
theorem q_sm_ext {S : q_St} {ρ ρ' : Nat → Nat} : ∀ k, (∀ j, j < k → ρ j = ρ' j) → q_sm S ρ k = q_sm S ρ' k
  | 0, _ => rfl
  | k + 1, h => by
    simp only [q_sm]
    rw [q_sm_ext k (fun j hj => h j (by omega)), h k (by omega)]
theorem q_okB_e (S : q_St) : q_oke (q_okB S) := fun ρ ρ' k s h => by
  unfold q_okB
  rw [q_us_ext k h]
theorem q_setj (ρ : Nat → Nat) (k s : Nat) : ∀ j, j < k → q_set ρ k s j = ρ j := fun j hj => q_set_n ρ s (by omega)
theorem q_us_s {ns : Nat} (ρ : Nat → Nat) {k s : Nat} (hs : s < ns) (v : Nat) : q_us ns (q_set ρ k s) (k + 1) v = if v = s then true else q_us ns ρ k v := by
  simp only [q_us]
  rw [q_set_e, q_us_ext k (q_setj ρ k s)]
  by_cases h : v = s
  · rw [if_pos ⟨hs, h⟩, if_pos h]
  · rw [if_neg (fun q => h q.2), if_neg h]
theorem q_us_l {ns : Nat} (ρ : Nat → Nat) (k : Nat) : q_us ns (q_set ρ k ns) (k + 1) = q_us ns ρ k := by
  funext v
  simp only [q_us]
  rw [q_set_e, q_us_ext k (q_setj ρ k ns), if_neg (fun q => Nat.lt_irrefl _ q.1)]
theorem q_mn_s {S : q_St} (ρ : Nat → Nat) {k s : Nat} (hs : s < S.1.1) : q_mn S (q_set ρ k s) (k + 1) = q_mn S ρ k + (if S.2.2.1 2 k ≤ S.2.2.1 4 k + q_wt S s k then 1 else 0) := by
  simp only [q_mn]
  rw [q_set_e, q_mn_ext k (q_setj ρ k s)]
  by_cases h : S.2.2.1 2 k ≤ S.2.2.1 4 k + q_wt S s k
  · rw [if_pos ⟨hs, h⟩, if_pos h]
  · rw [if_neg (fun q => h q.2), if_neg h]
theorem q_mn_l {S : q_St} (ρ : Nat → Nat) (k : Nat) : q_mn S (q_set ρ k S.1.1) (k + 1) = q_mn S ρ k := by
  simp only [q_mn]
  rw [q_set_e, q_mn_ext k (q_setj ρ k S.1.1), if_neg (fun q => Nat.lt_irrefl _ q.1), Nat.add_zero]
theorem q_sm_s {S : q_St} (ρ : Nat → Nat) {k s : Nat} (hs : s < S.1.1) : q_sm S (q_set ρ k s) (k + 1) = q_sm S ρ k + S.2.1 s := by
  simp only [q_sm]
  rw [q_set_e, q_sm_ext k (q_setj ρ k s), if_pos hs]
theorem q_sm_l {S : q_St} (ρ : Nat → Nat) (k : Nat) : q_sm S (q_set ρ k S.1.1) (k + 1) = q_sm S ρ k := by
  simp only [q_sm]
  rw [q_set_e, q_sm_ext k (q_setj ρ k S.1.1), if_neg (Nat.lt_irrefl _), Nat.add_zero]
theorem q_mn_le (S : q_St) (ρ : Nat → Nat) : ∀ k, q_mn S ρ k ≤ k
  | 0 => Nat.le_refl _
  | k + 1 => by
    have := q_mn_le S ρ k
    simp only [q_mn]
    split <;> omega
theorem q_sm_le {S : q_St} (hok : q_okS S) (ρ : Nat → Nat) : ∀ k, q_sm S ρ k ≤ 9 * k
  | 0 => Nat.le_refl _
  | k + 1 => by
    have := q_sm_le hok ρ k
    simp only [q_sm]
    split
    · rename_i h
      have := hok.2.2.2.1 _ h
      omega
    · omega
theorem q_fd_snoc {α : Type} (g : Nat → α → α) : ∀ (n s : Nat) (B : α), q_fd g (n + 1) s B = g (s + n) (q_fd g n s B)
  | 0, s, B => rfl
  | n + 1, s, B => by
    have := q_fd_snoc g n (s + 1) (g s B)
    rw [show s + 1 + n = s + (n + 1) by omega] at this
    exact this
theorem q_fd_id {α : Type} (g : Nat → α → α) (B : α) : ∀ (n s : Nat), (∀ v, s ≤ v → v < s + n → g v B = B) → q_fd g n s B = B
  | 0, s, _ => rfl
  | n + 1, s, h => by
    show q_fd g n (s + 1) (g s B) = B
    rw [h s (by omega) (by omega)]
    exact q_fd_id g B n (s + 1) (fun v h1 h2 => h v (by omega) (by omega))
theorem q_okB_l (S : q_St) (ρ : Nat → Nat) (k : Nat) : q_okB S ρ k S.1.1 = true := if_neg (Nat.lt_irrefl _)
theorem q_Bs_succ (S : q_St) (r k : Nat) (ρ : Nat → Nat) (B : q_Bt) : q_Bs S (r + 1) k ρ B = q_fd (fun s B => if q_okB S ρ k s = true then q_Bs S r (k + 1) (q_set ρ k s) B else B) (S.1.1 + 1) 0 B := by
  show q_D _ _ _ _ (r + 1) k ρ B = _
  simp only [q_D, Bool.false_eq_true, if_false]
theorem q_Bs_some (S : q_St) : ∀ (r k : Nat) (ρ : Nat → Nat) (B : q_Bt), ∃ b, q_Bs S r k ρ B = some b
  | 0, k, ρ, none => ⟨_, rfl⟩
  | 0, k, ρ, some b => by
    by_cases h : b.1 < q_mn S ρ S.1.2 ∨ (q_mn S ρ S.1.2 = b.1 ∧ q_sm S ρ S.1.2 < b.2.1)
    · exact ⟨_, q_try_y h⟩
    · exact ⟨_, q_try_x h⟩
  | r + 1, k, ρ, B => by
    rw [q_Bs_succ, q_fd_snoc, Nat.zero_add, if_pos (q_okB_l S ρ k)]
    exact q_Bs_some S r (k + 1) _ _
/-! the class -/
def q_CB (S : q_St) (m : z_M) : q_Bt → Prop
  | none => m 48 2 = -1 ∧ m 48 3 = 0
  | some b => (b.1 ≤ 6 ∧ b.2.1 ≤ 54) ∧ m 48 2 = nI b.1 ∧ m 48 3 = nI b.2.1 ∧ ∀ j, j < 6 → m 50 j = if j < S.1.2 then q_enc S b.2.2 j else 9
theorem q_CB.of {S : q_St} {m m' : z_M} {B : q_Bt} (h : q_CB S m B) (h1 : m' 48 = m 48) (h2 : m' 50 = m 50) : q_CB S m' B := by
  cases B with
  | none => exact ⟨by rw [h1]; exact h.1, by rw [h1]; exact h.2⟩
  | some b => exact ⟨h.1, by rw [h1]; exact h.2.1, by rw [h1]; exact h.2.2.1, by rw [h2]; exact h.2.2.2⟩
theorem k_kcp (C : Nat → List Value → z_M → Option z_R) : ∀ (n F i : Nat) (m : z_M), i + n = 6 → ∃ m1, z_lp z_SH 0 (fun _ => 0) C me_X6_keepIfBetter (F + n + 1) 37 [some (.ref 48), none, none, some (.int (nI i))] [] m = some (0, 0, m1) ∧ (∀ j, i ≤ j → j < 6 → m1 50 j = m 49 j) ∧ (∀ j, j < i → m1 50 j = m 50 j) ∧ ∀ a, a ≠ 50 → m1 a = m a := by
  intro n
  induction n with
  | zero =>
    intro F i m hi
    refine ⟨m, ?_, fun j h1 h2 => by omega, fun _ _ => rfl, fun _ _ => rfl⟩
    rw [e_X6_keepIfBetter_37, show (6 : Int32) = nI 6 from rfl, q_nI_le (by decide) (by omega), if_pos (by omega)]
  | succ n ih =>
    intro F i m hi
    obtain ⟨m1, e1, g1, g2, f1⟩ := ih F (i + 1) (z_up m 50 i (m 49 i)) (by omega)
    refine ⟨m1, ?_, fun j h1 h2 => ?_, fun j hj => by rw [g2 j (by omega), q_uk (by omega)], fun a ha => (f1 a ha).trans (z_up_ne ha)⟩
    · rw [show F + (n + 1) + 1 = (F + n + 1) + 1 by omega, e_X6_keepIfBetter_37, show (6 : Int32) = nI 6 from rfl, q_nI_le (by decide) (by omega), if_neg (by omega), q_in (show i < 6 by omega) (by decide), z_g_t, z_g_t, q_cl (by omega), nI_1]
      exact e1
    · by_cases hq : j = i
      · subst hq
        rw [g2 j (by omega), q_uq]
      · rw [g1 j (by omega) h2, q_ua (by decide)]
theorem q_cm1 : ∀ v, v < 7 → ¬ nI v < (-1 : Int32) ∧ ¬ nI v = (-1 : Int32) ∧ (-9 : Int32) < nI v := by decide +kernel
theorem k_keep2 {S : q_St} (hok : q_okS S) {ρ : Nat → Nat} {B : q_Bt} (d : Nat) {m : z_M} (hB : q_CB S m B) (hr : ∀ j, j < 6 → m 49 j = if j < S.1.2 then q_enc S ρ j else 9) : ∃ m1, z_go z_SH z_P (d + 1) 48 [.ref 48, .int (nI (q_mn S ρ S.1.2)), .int (nI (q_sm S ρ S.1.2))] m = some (0, 0, m1) ∧ q_CB S m1 (q_try S ρ B) ∧ ∀ a, a ≠ 48 → a ≠ 50 → m1 a = m a := by
  have h6 := hok.2.1
  have l1 := q_mn_le S ρ S.1.2
  have l2 := q_sm_le hok ρ S.1.2
  obtain ⟨m1, e1, g1, -, f1⟩ := k_kcp (z_go z_SH z_P d) 6 (199999 - 7) 0 (z_up (z_up m 48 2 (nI (q_mn S ρ S.1.2))) 48 3 (nI (q_sm S ρ S.1.2))) rfl
  have hnew : q_CB S m1 (some (q_new S ρ)) := by
    refine ⟨⟨by show q_mn S ρ S.1.2 ≤ 6; omega, by show q_sm S ρ S.1.2 ≤ 54; omega⟩, ?_, ?_, fun j hj => ?_⟩
    · rw [f1 48 (by decide), q_uk (by decide), q_uq]
      rfl
    · rw [f1 48 (by decide), q_uq]
      rfl
    · rw [g1 j (Nat.zero_le _) hj, q_ua (by decide), q_ua (by decide)]
      exact hr j hj
  have fr : ∀ a, a ≠ 48 → a ≠ 50 → m1 a = m a := fun a h1 h2 => by rw [f1 a h2, z_up_ne h1, z_up_ne h1]
  rw [c_X6_keepIfBetter]
  cases B with
  | none =>
    refine ⟨m1, ?_, hnew, fr⟩
    rw [hB.1, if_neg (q_cm1 _ (by omega)).1, if_neg (q_cm1 _ (by omega)).2.1]
    exact e1
  | some b =>
    obtain ⟨⟨b1, b2⟩, b3, b4, b5⟩ := hB
    rw [b3, b4, q_nI_lt (by omega) (by omega), q_nI_if (by omega) (by omega), q_nI_lt (by omega) (by omega)]
    by_cases c1 : q_mn S ρ S.1.2 < b.1
    · rw [if_pos c1, q_try_x (by omega)]
      exact ⟨m, rfl, ⟨⟨b1, b2⟩, b3, b4, b5⟩, fun _ _ _ => rfl⟩
    · rw [if_neg c1]
      by_cases c2 : q_mn S ρ S.1.2 = b.1
      · rw [if_pos c2]
        by_cases c3 : q_sm S ρ S.1.2 < b.2.1
        · rw [if_pos c3, q_try_y (by omega)]
          exact ⟨m1, e1, hnew, fr⟩
        · rw [if_neg c3, q_try_x (by omega)]
          exact ⟨m, rfl, ⟨⟨b1, b2⟩, b3, b4, b5⟩, fun _ _ _ => rfl⟩
      · rw [if_neg c2, q_try_y (by omega)]
        exact ⟨m1, e1, hnew, fr⟩
theorem k_try2 {S : q_St} (hok : q_okS S) {ρ : Nat → Nat} {B : q_Bt} (x : Int32) (d : Nat) : ∀ (e k : Nat) (m : z_M), k + e = 6 → S.1.2 ≤ k → m 2 3 = nI S.1.2 → q_CB S m B → (∀ j, j < k → m 49 j = if j < S.1.2 then q_enc S ρ j else 9) → ∃ m1, z_go z_SH z_P (d + e + 2) 47 [.ref 48, .ref 2, .int (nI k), .int x, .int (nI (q_mn S ρ S.1.2)), .int (nI (q_sm S ρ S.1.2))] m = some (0, 0, m1) ∧ q_CB S m1 (q_try S ρ B) ∧ (∀ j, j < k → m1 49 j = m 49 j) ∧ ∀ a, a ≠ 48 → a ≠ 49 → a ≠ 50 → m1 a = m a := by
  intro e
  induction e with
  | zero =>
    intro k m hk hg h3 hB hr
    obtain rfl : k = 6 := by omega
    obtain ⟨m1, e1, g1, f1⟩ := k_keep2 hok d hB hr
    refine ⟨m1, ?_, g1, fun j _ => by rw [f1 49 (by decide) (by decide)], fun a h1 h2 h3 => f1 a h1 h3⟩
    rw [Nat.add_zero, c_X6_tryFrom, if_neg (by decide), e1]
    rfl
  | succ e ih =>
    intro k m hk hg h3 hB hr
    obtain ⟨m1, e1, g1, g2, f1⟩ := ih (k + 1) (z_up m 49 k 9) (by omega) (by omega) (by rw [q_ua (by decide)]; exact h3) (hB.of (z_up_ne (by decide)) (z_up_ne (by decide))) (fun j hj => by
      by_cases hq : j = k
      · subst hq
        rw [q_uq, if_neg (by omega)]
      · rw [q_uk hq]
        exact hr j (by omega))
    refine ⟨m1, ?_, g1, fun j hj => by rw [g2 j (by omega), q_uk (by omega)], fun a h1 h2 h3 => (f1 a h1 h2 h3).trans (z_up_ne h2)⟩
    rw [show d + (e + 1) + 2 = (d + e + 2) + 1 by omega, c_X6_tryFrom, show (6 : Int32) = nI 6 from rfl, q_nI_lt (by omega) (by decide), if_pos (by omega), h3, q_nI_le (by omega) (by omega), if_pos hg, q_in (show k < 6 by omega) (by decide), z_g_t, q_cl (by omega), nI_1, e1]
    rfl
theorem k_tryF {S : q_St} (hok : q_okS S) (d : Nat) : ∀ (r e k : Nat) (ρ : Nat → Nat) (B : q_Bt) (m : z_M), k + r = S.1.2 → k + e = 6 → q_CS m 2 S → (∀ j, j < k → m 49 j = q_enc S ρ j) → q_CB S m B → ∃ m1, z_go z_SH z_P (d + e + 4) 47 [.ref 48, .ref 2, .int (nI k), .int (nI (q_bits 6 (q_us S.1.1 ρ k))), .int (nI (q_mn S ρ k)), .int (nI (q_sm S ρ k))] m = some (0, 0, m1) ∧ q_CB S m1 (q_Bs S r k ρ B) ∧ (∀ j, j < k → m1 49 j = m 49 j) ∧ ∀ a, a ≠ 48 → a ≠ 49 → a ≠ 50 → m1 a = m a := by
  have h6 := hok.2.1
  have h5 := hok.1
  intro r
  induction r with
  | zero =>
    intro e k ρ B m hk he hC hr hB
    obtain rfl : k = S.1.2 := by omega
    have := k_try2 hok (ρ := ρ) (B := B) (nI (q_bits 6 (q_us S.1.1 ρ S.1.2))) (d + 2) e S.1.2 m he (Nat.le_refl _) hC.2.1 hB (fun j hj => by rw [if_pos hj]; exact hr j hj)
    rw [show d + 2 + e + 2 = d + e + 4 by omega] at this
    exact this
  | succ r ih =>
    intro e k ρ B m hk he hC hr hB
    obtain ⟨e, rfl⟩ : ∃ e', e = e' + 1 := ⟨e - 1, by omega⟩
    have hkn : k < S.1.2 := by omega
    have hk6 : k < 6 := by omega
    have e5 : z_b (m (5 + k) 5) = q_b (S.2.2.2 0 k) := hC.kn hkn
    have hmn := q_mn_le S ρ k
    have hsm := q_sm_le hok ρ k
    have last : ∀ (B : q_Bt) (m : z_M), q_CS m 2 S → (∀ j, j < k → m 49 j = q_enc S ρ j) → q_CB S m B → ∃ m1, z_go z_SH z_P (d + e + 4) 47 [.ref 48, .ref 2, .int (nI (k + 1)), .int (nI (q_bits 6 (q_us S.1.1 ρ k))), .int (nI (q_mn S ρ k)), .int (nI (q_sm S ρ k))] (z_up m 49 k 9) = some (0, 0, m1) ∧ q_CB S m1 (q_Bs S r (k + 1) (q_set ρ k S.1.1) B) ∧ (∀ j, j < k → m1 49 j = m 49 j) ∧ ∀ a, a ≠ 48 → a ≠ 49 → a ≠ 50 → m1 a = m a := by
      intro B m hC hr hB
      obtain ⟨m1, e1, g1, g2, f1⟩ := ih e (k + 1) (q_set ρ k S.1.1) B (z_up m 49 k 9) (by omega) (by omega) (hC.of h6 (fun a h1 h2 => z_up_ne (by omega))) (fun j hj => by
        by_cases hq : j = k
        · subst hq
          rw [q_uq, q_enc_x (by rw [q_set_e]; omega)]
        · rw [q_uk hq, hr j (by omega)]
          unfold q_enc
          rw [q_set_n ρ _ hq]) (hB.of (z_up_ne (by decide)) (z_up_ne (by decide)))
      rw [q_us_l, q_mn_l, q_sm_l] at e1
      exact ⟨m1, e1, g1, fun j hj => by rw [g2 j (by omega), q_uk (by omega)], fun a h1 h2 h3 => (f1 a h1 h2 h3).trans (z_up_ne h2)⟩
    rw [show d + (e + 1) + 4 = (d + e + 4) + 1 by omega, c_X6_tryFrom, show (6 : Int32) = nI 6 from rfl, q_nI_lt (by omega) (by decide), if_pos hk6, hC.2.1, q_nI_le (by omega) (by omega), if_neg (by omega), q_in hk6 (by decide), z_g_t, z_g_t, q_cl (by omega), q_g5b hk6 (by decide) (by decide), z_g_t, e5, q_if, nI_1, q_Bs_succ]
    rcases Bool.eq_false_or_eq_true (S.2.2.2 0 k) with hn | hn
    · have hid : q_fd (fun s B => if q_okB S ρ k s = true then q_Bs S r (k + 1) (q_set ρ k s) B else B) S.1.1 0 B = B := q_fd_id _ B S.1.1 0 (fun v _ hv => if_neg (show ¬ q_okB S ρ k v = true by
        unfold q_okB
        rw [if_pos (by omega), hn]
        simp))
      rw [if_pos hn, q_fd_snoc, hid, Nat.zero_add, if_pos (q_okB_l S ρ k)]
      obtain ⟨m1, e1, g1, g2, f1⟩ := last B m hC hr hB
      exact ⟨m1, by rw [e1]; rfl, g1, g2, f1⟩
    · rw [if_neg (by rw [hn]; decide)]
      have loop : ∀ (c F s : Nat) (B : q_Bt) (m : z_M), s + c = S.1.1 → q_CS m 2 S → (∀ j, j < k → m 49 j = q_enc S ρ j) → q_CB S m B → ∃ m1, z_lp z_SH 0 (fun _ => 0) (z_go z_SH z_P (d + e + 4)) me_X6_tryFrom (F + c + 1) 38 [some (.ref 48), some (.ref 2), some (.int (nI k)), some (.int (nI (q_bits 6 (q_us S.1.1 ρ k)))), some (.int (nI (q_mn S ρ k))), some (.int (nI (q_sm S ρ k))), some (.int (nI s)), none] [] m = some (0, 0, m1) ∧ q_CB S m1 (q_fd (fun s B => if q_okB S ρ k s = true then q_Bs S r (k + 1) (q_set ρ k s) B else B) (c + 1) s B) ∧ (∀ j, j < k → m1 49 j = m 49 j) ∧ ∀ a, a ≠ 48 → a ≠ 49 → a ≠ 50 → m1 a = m a := by
        intro c
        induction c with
        | zero =>
          intro F s B m hs hC hr hB
          obtain rfl : s = S.1.1 := by omega
          obtain ⟨m1, e1, g1, g2, f1⟩ := last B m hC hr hB
          refine ⟨m1, ?_, ?_, g2, f1⟩
          · rw [e_X6_tryFrom_38, hC.1, q_nI_le (by omega) (by omega), if_pos (Nat.le_refl _), q_in hk6 (by decide), z_g_t, q_cl (by omega), nI_1, e1]
            rfl
          · simp only [q_fd]
            rw [if_pos (q_okB_l S ρ k)]
            exact g1
        | succ c ihc =>
          intro F s B m hs hC hr hB
          have hs' : s < S.1.1 := by omega
          have hs5 : s < 5 := by omega
          have hw := q_wt_le hok hs' k
          have hb := hok.k1 hkn
          have hC' : q_CS (z_up m 49 k (nI s)) 2 S := hC.of h6 (fun a h1 h2 => z_up_ne (by omega))
          have h3 : z_up m 49 k (nI s) 3 s = nI (S.2.1 s) := hC'.2.2.1 s hs'
          have hlt := (hok.2.2.2.2 k hkn).2.2.2.2.2 hn
          have h24 := (hok.2.2.2.2 k hkn).2.2.1
          have h9 := hok.2.2.2.1 s hs'
          have stay : q_okB S ρ k s = false → ∃ m1, z_lp z_SH 0 (fun _ => 0) (z_go z_SH z_P (d + e + 4)) me_X6_tryFrom (F + c + 1) 38 [some (.ref 48), some (.ref 2), some (.int (nI k)), some (.int (nI (q_bits 6 (q_us S.1.1 ρ k)))), some (.int (nI (q_mn S ρ k))), some (.int (nI (q_sm S ρ k))), some (.int (nI (s + 1))), none] [] m = some (0, 0, m1) ∧ q_CB S m1 (q_fd (fun s B => if q_okB S ρ k s = true then q_Bs S r (k + 1) (q_set ρ k s) B else B) (c + 1 + 1) s B) ∧ (∀ j, j < k → m1 49 j = m 49 j) ∧ ∀ a, a ≠ 48 → a ≠ 49 → a ≠ 50 → m1 a = m a := by
            intro ho
            obtain ⟨m1, e1, g1, g2, f1⟩ := ihc F (s + 1) B m (by omega) hC hr hB
            refine ⟨m1, e1, ?_, g2, f1⟩
            show q_CB S m1 (q_fd _ (c + 1) (s + 1) (if q_okB S ρ k s = true then q_Bs S r (k + 1) (q_set ρ k s) B else B))
            rw [if_neg (by rw [ho]; decide)]
            exact g1
          rw [show F + (c + 1) + 1 = (F + c + 1) + 1 by omega, e_X6_tryFrom_38, hC.1, q_nI_le (by omega) (by omega), if_neg (by omega), q_bit (n := 6) (Nat.le_refl _) (show s < 6 by omega), q_if, k_shocks (Or.inl rfl) hC hok hs' hkn (d + e + 2)]
          simp only [Option.bind_some]
          rw [q_if, q_in hk6 (by decide), z_g_t, q_cl (by omega), k_weight (Or.inl rfl) hC' hok hs' hkn (d + e + 3)]
          simp only [Option.bind_some]
          rw [k_lack (Or.inl rfl) hC' hok hkn (d + e + 3)]
          simp only [Option.bind_some]
          rw [q_in hs5 (by decide), z_g_t, z_g_t, q_cl (by omega), h3, pk_sub (by omega), q_nI_lt (by omega) (by omega), nI_1, nI_1, nI_1, nI_add, Int32.add_zero, q_bits_or (n := 6) (g := q_us S.1.1 (q_set ρ k s) (k + 1)) (Nat.le_refl _) (show s < 6 by omega) (q_us_s ρ hs')]
          rcases Bool.eq_false_or_eq_true (q_us S.1.1 ρ k s) with hu | hu
          · rw [if_pos hu]
            exact stay (by unfold q_okB; rw [if_pos hs', hu]; simp)
          rw [if_neg (by rw [hu]; decide)]
          by_cases hsh : S.2.2.1 1 k < q_wt S s k
          · rw [if_pos (by simpa using hsh)]
            exact stay (by unfold q_okB; rw [if_pos hs', decide_eq_false (by omega)]; simp)
          rw [if_neg (by simpa using hsh)]
          have ho : q_okB S ρ k s = true := by
            unfold q_okB
            rw [if_pos hs', hn, hu, decide_eq_true (by omega)]
            rfl
          obtain ⟨m2, e2, g1, g2, f2⟩ := ih e (k + 1) (q_set ρ k s) B (z_up m 49 k (nI s)) (by omega) (by omega) hC' (fun j hj => by
            by_cases hq : j = k
            · subst hq
              rw [q_uq, q_enc_y (by rw [q_set_e]; exact hs'), q_set_e]
            · rw [q_uk hq, hr j (by omega)]
              unfold q_enc
              rw [q_set_n ρ _ hq]) (hB.of (z_up_ne (by decide)) (z_up_ne (by decide)))
          obtain ⟨m3, e3, g3, g4, f3⟩ := ihc F (s + 1) (q_Bs S r (k + 1) (q_set ρ k s) B) m2 (by omega) (hC'.of h6 (fun a h1 h2 => f2 a (by omega) (by omega) (by omega))) (fun j hj => by rw [g2 j (by omega), q_uk (by omega)]; exact hr j hj) g1
          rw [q_mn_s ρ hs', q_sm_s ρ hs'] at e2
          refine ⟨m3, ?_, ?_, fun j hj => by rw [g4 j hj, g2 j (by omega), q_uk (by omega)], fun a h1 h2 h3 => by rw [f3 a h1 h2 h3, f2 a h1 h2 h3, z_up_ne h2]⟩
          · by_cases hq : q_wt S s k < S.2.2.1 2 k - S.2.2.1 4 k
            · rw [if_pos hq]
              rw [if_neg (by omega), show q_mn S ρ k + 0 = q_mn S ρ k from rfl] at e2
              rw [e2]
              exact e3
            · rw [if_neg hq]
              rw [if_pos (by omega)] at e2
              rw [e2]
              exact e3
          · show q_CB S m3 (q_fd _ (c + 1) (s + 1) (if q_okB S ρ k s = true then q_Bs S r (k + 1) (q_set ρ k s) B else B))
            rw [if_pos ho]
            exact g3
      have := loop S.1.1 (199999 - S.1.1 - 1) 0 B m (Nat.zero_add _) hC hr hB
      rw [show 199999 - S.1.1 - 1 + S.1.1 + 1 = 199999 by omega] at this
      exact this
theorem k_choose {S : q_St} (hok : q_okS S) (d : Nat) {m : z_M} (hC : q_CS m 2 S) : ∃ m1, z_go z_SH z_P (d + 11) 45 [.ref 48, .ref 2] m = some (0, 0, m1) ∧ q_CB S m1 (q_Bs S S.1.2 0 (fun _ => 0) none) ∧ ∀ a, a ≠ 48 → a ≠ 49 → a ≠ 50 → m1 a = m a := by
  have h6 := hok.2.1
  obtain ⟨m1, e1, g1, -, f1⟩ := k_tryF hok d S.1.2 6 0 (fun _ => 0) none (z_up (z_up m 48 2 (-1)) 48 3 0) (Nat.zero_add _) rfl (hC.of h6 (fun a h1 h2 => by rw [z_up_ne (by omega), z_up_ne (by omega)])) (fun j hj => by omega) ⟨by rw [q_uk (by decide), q_uq], by rw [q_uq]⟩
  rw [q_bits0 6 (q_us S.1.1 (fun _ => 0) 0) (fun v _ => rfl)] at e1
  have e1 : z_go z_SH z_P (d + 10) 47 [.ref 48, .ref 2, .int 0, .int 0, .int 0, .int 0] (z_up (z_up m 48 2 (-1)) 48 3 0) = some (0, 0, m1) := e1
  refine ⟨m1, ?_, g1, fun a h1 h2 h3 => by rw [f1 a h1 h2 h3, z_up_ne h1, z_up_ne h1]⟩
  rw [c_X6_choose, e1]
  rfl
