/-! Rows of digits, counted through by their number; the same rows, searched one place after another. -/
def q_fd {α : Type} (g : Nat → α → α) : Nat → Nat → α → α
  | 0, _, B => B
  | n + 1, s, B => q_fd g n (s + 1) (g s B)
def q_set (ρ : Nat → Nat) (k s : Nat) : Nat → Nat := fun j => if j = k then s else ρ j
theorem q_set_e (ρ : Nat → Nat) (k s : Nat) : q_set ρ k s k = s := if_pos rfl
theorem q_set_n (ρ : Nat → Nat) {k j : Nat} (s : Nat) (h : j ≠ k) : q_set ρ k s j = ρ j := if_neg h
def q_D {α : Type} (sk : Nat → Bool) (ok : (Nat → Nat) → Nat → Nat → Bool) (b : Nat) (lf : (Nat → Nat) → α → α) : Nat → Nat → (Nat → Nat) → α → α
  | 0, _, ρ, B => lf ρ B
  | r + 1, k, ρ, B => if sk k = true then q_D sk ok b lf r (k + 1) ρ B else q_fd (fun s B => if ok ρ k s = true then q_D sk ok b lf r (k + 1) (q_set ρ k s) B else B) b 0 B
def q_vl (sk : Nat → Bool) (b : Nat) (ρ : Nat → Nat) : Nat → Nat
  | 0 => 0
  | k + 1 => if sk k = true then q_vl sk b ρ k else q_vl sk b ρ k * b + ρ k
def q_pw (sk : Nat → Bool) (b : Nat) : Nat → Nat → Nat
  | 0, _ => 1
  | r + 1, k => if sk k = true then q_pw sk b r (k + 1) else b * q_pw sk b r (k + 1)
def q_pv (sk : Nat → Bool) (ok : (Nat → Nat) → Nat → Nat → Bool) (ρ : Nat → Nat) : Nat → Bool
  | 0 => true
  | k + 1 => q_pv sk ok ρ k && (sk k || ok ρ k (ρ k))
def q_bd (sk : Nat → Bool) (b : Nat) (ρ : Nat → Nat) (k : Nat) : Prop := ∀ j, j < k → sk j = false → ρ j < b
def q_oke (ok : (Nat → Nat) → Nat → Nat → Bool) : Prop := ∀ (ρ ρ' : Nat → Nat) (k s : Nat), (∀ j, j < k → ρ j = ρ' j) → ok ρ k s = ok ρ' k s
theorem q_vl_ext {sk : Nat → Bool} {b : Nat} {ρ ρ' : Nat → Nat} : ∀ k, (∀ j, j < k → ρ j = ρ' j) → q_vl sk b ρ k = q_vl sk b ρ' k
  | 0, _ => rfl
  | k + 1, h => by
    simp only [q_vl]
    rw [q_vl_ext k (fun j hj => h j (by omega)), h k (by omega)]
theorem q_pv_ext {sk : Nat → Bool} {ok : (Nat → Nat) → Nat → Nat → Bool} (he : q_oke ok) {ρ ρ' : Nat → Nat} : ∀ k, (∀ j, j < k → ρ j = ρ' j) → q_pv sk ok ρ k = q_pv sk ok ρ' k
  | 0, _ => rfl
  | k + 1, h => by
    simp only [q_pv]
    rw [q_pv_ext he k (fun j hj => h j (by omega)), h k (by omega), he ρ ρ' k _ (fun j hj => h j (by omega))]
theorem q_set_vl {sk : Nat → Bool} {b : Nat} (ρ : Nat → Nat) {k : Nat} (s : Nat) (hk : sk k = false) : q_vl sk b (q_set ρ k s) (k + 1) = q_vl sk b ρ k * b + s := by
  simp only [q_vl, hk, Bool.false_eq_true, if_false]
  rw [q_vl_ext (ρ := q_set ρ k s) (ρ' := ρ) k (fun j hj => q_set_n ρ s (by omega)), q_set_e]
theorem q_set_pv {sk : Nat → Bool} {ok : (Nat → Nat) → Nat → Nat → Bool} (he : q_oke ok) (ρ : Nat → Nat) {k : Nat} (s : Nat) (hk : sk k = false) : q_pv sk ok (q_set ρ k s) (k + 1) = (q_pv sk ok ρ k && ok ρ k s) := by
  simp only [q_pv, hk, Bool.false_or]
  rw [q_pv_ext he (ρ := q_set ρ k s) (ρ' := ρ) k (fun j hj => q_set_n ρ s (by omega)), q_set_e, he (q_set ρ k s) ρ k s (fun j hj => q_set_n ρ s (by omega))]
theorem q_set_bd {sk : Nat → Bool} {b : Nat} {ρ : Nat → Nat} {k s : Nat} (h : q_bd sk b ρ k) (hs : s < b) : q_bd sk b (q_set ρ k s) (k + 1) := by
  intro j hj hn
  by_cases hq : j = k
  · subst hq
    rw [q_set_e]
    exact hs
  · rw [q_set_n ρ s hq]
    exact h j (by omega) hn
theorem q_gen {α : Type} {sk : Nat → Bool} {ok : (Nat → Nat) → Nat → Nat → Bool} {b : Nat} {lf : (Nat → Nat) → α → α} (he : q_oke ok) (Q : Nat → α → Prop) {n : Nat} (H1 : ∀ ρ B, q_bd sk b ρ n → q_pv sk ok ρ n = true → Q (q_vl sk b ρ n + 1) (lf ρ B) → Q (q_vl sk b ρ n) B) (H2 : ∀ ρ B, q_bd sk b ρ n → q_pv sk ok ρ n = false → Q (q_vl sk b ρ n + 1) B → Q (q_vl sk b ρ n) B) : ∀ (r k : Nat) (ρ : Nat → Nat), k + r = n → q_bd sk b ρ k → ∀ B : α, (q_pv sk ok ρ k = true → Q (q_vl sk b ρ k * q_pw sk b r k + q_pw sk b r k) (q_D sk ok b lf r k ρ B) → Q (q_vl sk b ρ k * q_pw sk b r k) B) ∧ (q_pv sk ok ρ k = false → Q (q_vl sk b ρ k * q_pw sk b r k + q_pw sk b r k) B → Q (q_vl sk b ρ k * q_pw sk b r k) B) := by
  intro r
  induction r with
  | zero =>
    intro k ρ hk hb B
    obtain rfl : k = n := by omega
    simp only [q_pw, q_D, Nat.mul_one]
    exact ⟨H1 ρ B hb, H2 ρ B hb⟩
  | succ r ih =>
    intro k ρ hk hb B
    cases hs : sk k with
    | true =>
      have hv : q_vl sk b ρ (k + 1) = q_vl sk b ρ k := by simp only [q_vl, hs, if_true]
      have hp : q_pv sk ok ρ (k + 1) = q_pv sk ok ρ k := by simp only [q_pv, hs, Bool.true_or, Bool.and_true]
      have := ih (k + 1) ρ (by omega) (fun j hj hn => hb j (by
        rcases Nat.lt_succ_iff_lt_or_eq.mp hj with h | h
        · exact h
        · subst h
          rw [hs] at hn
          cases hn) hn) B
      rw [hv, hp] at this
      simp only [q_pw, q_D, hs, if_true]
      exact this
    | false =>
      have hpw : q_pw sk b (r + 1) k = b * q_pw sk b r (k + 1) := by simp only [q_pw, hs, Bool.false_eq_true, if_false]
      have hD : q_D sk ok b lf (r + 1) k ρ B = q_fd (fun s B => if ok ρ k s = true then q_D sk ok b lf r (k + 1) (q_set ρ k s) B else B) b 0 B := by simp only [q_D, hs, Bool.false_eq_true, if_false]
      rw [hpw, hD]
      have ee : ∀ s, (q_vl sk b ρ k * b + s) * q_pw sk b r (k + 1) = q_vl sk b ρ k * (b * q_pw sk b r (k + 1)) + s * q_pw sk b r (k + 1) := fun s => by rw [Nat.add_mul, Nat.mul_assoc]
      have es : ∀ s, (q_vl sk b ρ k * b + s) * q_pw sk b r (k + 1) + q_pw sk b r (k + 1) = (q_vl sk b ρ k * b + (s + 1)) * q_pw sk b r (k + 1) := fun s => by rw [← Nat.add_assoc, Nat.succ_mul]
      have e0 : q_vl sk b ρ k * (b * q_pw sk b r (k + 1)) = (q_vl sk b ρ k * b + 0) * q_pw sk b r (k + 1) := by rw [ee 0, Nat.zero_mul]; rfl
      have e1 : q_vl sk b ρ k * (b * q_pw sk b r (k + 1)) + b * q_pw sk b r (k + 1) = (q_vl sk b ρ k * b + b) * q_pw sk b r (k + 1) := (ee b).symm
      rw [e1, e0]
      have step : ∀ s, s < b → ∀ B : α, (q_pv sk ok ρ k = true → Q ((q_vl sk b ρ k * b + (s + 1)) * q_pw sk b r (k + 1)) (if ok ρ k s = true then q_D sk ok b lf r (k + 1) (q_set ρ k s) B else B) → Q ((q_vl sk b ρ k * b + s) * q_pw sk b r (k + 1)) B) ∧ (q_pv sk ok ρ k = false → Q ((q_vl sk b ρ k * b + (s + 1)) * q_pw sk b r (k + 1)) B → Q ((q_vl sk b ρ k * b + s) * q_pw sk b r (k + 1)) B) := by
        intro s hlt B
        obtain ⟨i1, i2⟩ := ih (k + 1) (q_set ρ k s) (by omega) (q_set_bd hb hlt) B
        rw [q_set_vl ρ s hs, q_set_pv he ρ s hs, es] at i1 i2
        refine ⟨fun hp hq => ?_, fun hp hq => i2 (by rw [hp, Bool.false_and]) hq⟩
        by_cases ho : ok ρ k s = true
        · rw [if_pos ho] at hq
          exact i1 (by rw [hp, ho, Bool.and_self]) hq
        · rw [if_neg ho] at hq
          exact i2 (by rw [Bool.eq_false_iff.mpr ho, Bool.and_false]) hq
      refine ⟨fun hp => ?_, fun hp => ?_⟩
      · have : ∀ (c s : Nat) (B : α), s + c = b → Q ((q_vl sk b ρ k * b + b) * q_pw sk b r (k + 1)) (q_fd (fun s B => if ok ρ k s = true then q_D sk ok b lf r (k + 1) (q_set ρ k s) B else B) c s B) → Q ((q_vl sk b ρ k * b + s) * q_pw sk b r (k + 1)) B := by
          intro c
          induction c with
          | zero =>
            intro s B hc hq
            obtain rfl : s = b := by omega
            exact hq
          | succ c ihc =>
            intro s B hc hq
            exact (step s (by omega) B).1 hp (ihc (s + 1) _ (by omega) hq)
        exact this b 0 B (by omega)
      · have : ∀ (c s : Nat) (B : α), s + c = b → Q ((q_vl sk b ρ k * b + b) * q_pw sk b r (k + 1)) B → Q ((q_vl sk b ρ k * b + s) * q_pw sk b r (k + 1)) B := by
          intro c
          induction c with
          | zero =>
            intro s B hc hq
            obtain rfl : s = b := by omega
            exact hq
          | succ c ihc =>
            intro s B hc hq
            exact (step s (by omega) B).2 hp (ihc (s + 1) _ (by omega) hq)
        exact this b 0 B (by omega)
theorem q_gen0 {α : Type} {sk : Nat → Bool} {ok : (Nat → Nat) → Nat → Nat → Bool} {b : Nat} {lf : (Nat → Nat) → α → α} (he : q_oke ok) (Q : Nat → α → Prop) {n : Nat} (H1 : ∀ ρ B, q_bd sk b ρ n → q_pv sk ok ρ n = true → Q (q_vl sk b ρ n + 1) (lf ρ B) → Q (q_vl sk b ρ n) B) (H2 : ∀ ρ B, q_bd sk b ρ n → q_pv sk ok ρ n = false → Q (q_vl sk b ρ n + 1) B → Q (q_vl sk b ρ n) B) (ρ : Nat → Nat) (B : α) (h : Q (q_pw sk b n 0) (q_D sk ok b lf n 0 ρ B)) : Q 0 B := by
  have := (q_gen he Q H1 H2 n 0 ρ (Nat.zero_add n) (fun j hj => by omega) B).1 rfl
  simp only [q_vl, Nat.zero_mul, Nat.zero_add] at this
  exact this h
theorem q_pw_un {sk : Nat → Bool} {b : Nat} : ∀ r k, q_pw sk b r k * b ^ q_un k sk = b ^ q_un (k + r) sk
  | 0, k => by simp only [q_pw, Nat.one_mul, Nat.add_zero]
  | r + 1, k => by
    have := q_pw_un (sk := sk) (b := b) r (k + 1)
    rw [show k + 1 + r = k + (r + 1) by omega] at this
    rw [← this]
    simp only [q_pw, q_un]
    cases hs : sk k with
    | true => simp
    | false =>
      simp only [Bool.false_eq_true, if_false, if_true, Nat.pow_succ]
      rw [Nat.mul_comm b, Nat.mul_assoc, Nat.mul_comm b]
theorem q_pw_eq (sk : Nat → Bool) (b n : Nat) : q_pw sk b n 0 = b ^ q_un n sk := by
  have := q_pw_un (sk := sk) (b := b) n 0
  simp only [q_un, Nat.pow_zero, Nat.mul_one, Nat.zero_add] at this
  exact this
theorem q_vl_lt {sk : Nat → Bool} {b : Nat} {ρ : Nat → Nat} : ∀ k, q_bd sk b ρ k → q_vl sk b ρ k < b ^ q_un k sk
  | 0, _ => by simp [q_vl, q_un]
  | k + 1, h => by
    have i := q_vl_lt k (fun j hj => h j (by omega))
    simp only [q_vl, q_un]
    cases hs : sk k with
    | true => simpa using i
    | false =>
      have hk := h k (by omega) hs
      simp only [Bool.false_eq_true, if_false, if_true, Nat.pow_succ]
      calc q_vl sk b ρ k * b + ρ k < q_vl sk b ρ k * b + b := by omega
        _ = (q_vl sk b ρ k + 1) * b := (Nat.succ_mul _ _).symm
        _ ≤ b ^ q_un k sk * b := Nat.mul_le_mul_right _ i
theorem q_pow6 : ∀ b, b < 7 → ∀ u, u < 7 → b ^ u ≤ 46656 := by decide +kernel
/-! searching for the first row -/
def q_1st (ρ : Nat → Nat) (B : Option (Nat → Nat)) : Option (Nat → Nat) := match B with
  | none => some ρ
  | some x => some x
theorem q_fd_some {α : Type} {g : Nat → Option α → Option α} (x : α) (hg : ∀ s, g s (some x) = some x) : ∀ n s, q_fd g n s (some x) = some x
  | 0, _ => rfl
  | n + 1, s => by
    simp only [q_fd]
    rw [hg s]
    exact q_fd_some x hg n (s + 1)
theorem q_D_some {sk : Nat → Bool} {ok : (Nat → Nat) → Nat → Nat → Bool} {b : Nat} (x : Nat → Nat) : ∀ r k ρ, q_D sk ok b q_1st r k ρ (some x) = some x
  | 0, _, _ => rfl
  | r + 1, k, ρ => by
    simp only [q_D]
    by_cases hs : sk k = true
    · rw [if_pos hs]
      exact q_D_some x r (k + 1) ρ
    · rw [if_neg hs]
      refine q_fd_some x (fun s => ?_) b 0
      by_cases ho : ok ρ k s = true
      · rw [if_pos ho]
        exact q_D_some x r (k + 1) _
      · rw [if_neg ho]
/-- a search that found nothing: there is nothing -/
theorem q_D_none {sk : Nat → Bool} {ok : (Nat → Nat) → Nat → Nat → Bool} {b : Nat} (he : q_oke ok) : ∀ r k ρ, q_D sk ok b q_1st r k ρ none = none → ∀ ρ', (∀ j, j < k → sk j = false → ρ' j = ρ j) → (∀ j, sk j = true → ρ' j = ρ j) → q_bd sk b ρ' (k + r) → q_pv sk ok ρ' (k + r) = false
  | 0, k, ρ, h, ρ', h1, h2, hb => by
    simp [q_D, q_1st] at h
  | r + 1, k, ρ, h, ρ', h1, h2, hb => by
    rw [show k + (r + 1) = (k + 1) + r by omega] at hb ⊢
    simp only [q_D] at h
    by_cases hs : sk k = true
    · rw [if_pos hs] at h
      exact q_D_none he r (k + 1) ρ h ρ' (fun j hj hn => h1 j (by
        rcases Nat.lt_succ_iff_lt_or_eq.mp hj with q | q
        · exact q
        · subst q
          rw [hs] at hn
          cases hn) hn) h2 hb
    · rw [if_neg hs] at h
      have hs' : sk k = false := by simpa using hs
      have hk : ρ' k < b := hb k (by omega) hs'
      have agree : ∀ j, j < k → ρ j = ρ' j := fun j hj => by
        cases hq : sk j with
        | true => exact (h2 j hq).symm
        | false => exact (h1 j hj hq).symm
      have hf : ∀ (c s : Nat), s + c = b → q_fd (fun s B => if ok ρ k s = true then q_D sk ok b q_1st r (k + 1) (q_set ρ k s) B else B) c s none = none → ∀ v, s ≤ v → v < b → ok ρ k v = true → q_D sk ok b q_1st r (k + 1) (q_set ρ k v) none = none := by
        intro c
        induction c with
        | zero =>
          intro s hc _ v h3 h4
          omega
        | succ c ihc =>
          intro s hc hq v h3 h4 ho
          simp only [q_fd] at hq
          cases hr : (if ok ρ k s = true then q_D sk ok b q_1st r (k + 1) (q_set ρ k s) none else none) with
          | some x =>
            rw [hr, q_fd_some x (fun s => by
              by_cases ho : ok ρ k s = true
              · rw [if_pos ho]
                exact q_D_some x r (k + 1) _
              · rw [if_neg ho])] at hq
            cases hq
          | none =>
            rw [hr] at hq
            by_cases hv : v = s
            · subst hv
              rw [if_pos ho] at hr
              exact hr
            · exact ihc (s + 1) (by omega) hq v (by omega) h4 ho
      by_cases hp : q_pv sk ok ρ' (k + 1) = true
      · have ho : ok ρ k (ρ' k) = true := by
          simp only [q_pv, hs', Bool.false_or, Bool.and_eq_true] at hp
          rw [he ρ ρ' k _ agree]
          exact hp.2
        exact q_D_none he r (k + 1) _ (hf b 0 (by omega) h _ (Nat.zero_le _) hk ho) ρ' (fun j hj hn => by
          by_cases hq : j = k
          · subst hq
            rw [q_set_e]
          · rw [q_set_n ρ _ hq]
            exact h1 j (by omega) hn) (fun j hj => by
          rw [q_set_n ρ _ (fun q => by rw [q, hs'] at hj; cases hj)]
          exact h2 j hj) hb
      · have hz : ∀ c, q_pv sk ok ρ' (k + 1 + c) = false := by
          intro c
          induction c with
          | zero => simpa using hp
          | succ c ihc =>
            show (q_pv sk ok ρ' (k + 1 + c) && _) = false
            rw [ihc, Bool.false_and]
        exact hz r
