/-! An hotel's state alone: setting a number, a mark; on both sides. -/
def q_sG (S : q_St) (f k v : Nat) : q_St := (S.1, S.2.1, (fun f' k' => if f' = f ∧ k' = k then v else S.2.2.1 f' k'), S.2.2.2)
def q_sB (S : q_St) (b k : Nat) : q_St := (S.1, S.2.1, S.2.2.1, fun b' k' => if b' = b ∧ k' = k then true else S.2.2.2 b' k')
def q_sS (T : q_T) (S : q_St) : q_T := (T.1, S, T.2.2)
theorem q_up_same (m : z_M) (a k : Nat) : z_up m a k (m a k) = m := by
  funext a' k'
  rw [z_up_at]
  split
  · rename_i h
    rw [h.1, h.2]
  · rfl
theorem q_CS.gd {m : z_M} {h : Nat} {S : q_St} (hC : q_CS m h S) {k f : Nat} (hk : k < S.1.2) (hf : f < 5) : m (h + 3 + k) f = nI (S.2.2.1 f k) := (hC.2.2.2 k hk).1 f hf
theorem q_CS.kn {m : z_M} {h : Nat} {S : q_St} (hC : q_CS m h S) {k : Nat} (hk : k < S.1.2) : z_b (m (h + 3 + k) 5) = q_b (S.2.2.2 0 k) := (hC.2.2.2 k hk).2.1
theorem q_CS.sk {m : z_M} {h : Nat} {S : q_St} (hC : q_CS m h S) {k : Nat} (hk : k < S.1.2) : z_b (m (h + 3 + k) 6) = q_b (S.2.2.2 1 k) := (hC.2.2.2 k hk).2.2
theorem q_MS.gd {m : z_M} {S : q_St} (hM : q_MS m S) {k f : Nat} (hk : k < S.1.2) (hf : f < 5) : m (64 + f) k = nI (S.2.2.1 f k) := hM.2.2.2.1 k hk f hf
theorem q_MS.g0 {m : z_M} {S : q_St} (hM : q_MS m S) {k : Nat} (hk : k < S.1.2) : m 64 k = nI (S.2.2.1 0 k) := hM.gd hk (show 0 < 5 by decide)
theorem q_MS.g1 {m : z_M} {S : q_St} (hM : q_MS m S) {k : Nat} (hk : k < S.1.2) : m 65 k = nI (S.2.2.1 1 k) := hM.gd hk (show 1 < 5 by decide)
theorem q_MS.g2 {m : z_M} {S : q_St} (hM : q_MS m S) {k : Nat} (hk : k < S.1.2) : m 66 k = nI (S.2.2.1 2 k) := hM.gd hk (show 2 < 5 by decide)
theorem q_MS.g3 {m : z_M} {S : q_St} (hM : q_MS m S) {k : Nat} (hk : k < S.1.2) : m 67 k = nI (S.2.2.1 3 k) := hM.gd hk (show 3 < 5 by decide)
theorem q_MS.g4 {m : z_M} {S : q_St} (hM : q_MS m S) {k : Nat} (hk : k < S.1.2) : m 68 k = nI (S.2.2.1 4 k) := hM.gd hk (show 4 < 5 by decide)
theorem q_sG_C {m : z_M} {h : Nat} {S : q_St} (hC : q_CS m h S) {f k : Nat} (v : Nat) (hf : f < 5) : q_CS (z_up m (h + 3 + k) f (nI v)) h (q_sG S f k v) := by
  refine ⟨by rw [q_ua (by omega)]; exact hC.1, by rw [q_ua (by omega)]; exact hC.2.1, fun s hs => by rw [q_ua (by omega)]; exact hC.2.2.1 s hs, fun j hj => ⟨fun f' hf' => ?_, by rw [q_uk (by omega)]; exact hC.kn hj, by rw [q_uk (by omega)]; exact hC.sk hj⟩⟩
  show _ = nI (if f' = f ∧ j = k then v else S.2.2.1 f' j)
  by_cases hq : f' = f ∧ j = k
  · obtain ⟨rfl, rfl⟩ := hq
    rw [q_uq, if_pos ⟨rfl, rfl⟩]
  · rw [if_neg hq]
    by_cases h1 : f' = f
    · rw [q_ua (by omega)]
      exact hC.gd hj hf'
    · rw [q_uk h1]
      exact hC.gd hj hf'
theorem q_sB_C {m : z_M} {h : Nat} {S : q_St} (hC : q_CS m h S) {b k : Nat} (hb : b < 2) : q_CS (z_up m (h + 3 + k) (5 + b) 1) h (q_sB S b k) := by
  have hz : z_b 1 = q_b true := by decide
  refine ⟨by rw [q_ua (by omega)]; exact hC.1, by rw [q_ua (by omega)]; exact hC.2.1, fun s hs => by rw [q_ua (by omega)]; exact hC.2.2.1 s hs, fun j hj => ⟨fun f' hf' => by rw [q_uk (by omega)]; exact hC.gd hj hf', ?_, ?_⟩⟩
  · show _ = q_b (if 0 = b ∧ j = k then true else S.2.2.2 0 j)
    by_cases hq : 0 = b ∧ j = k
    · obtain ⟨rfl, rfl⟩ := hq
      rw [if_pos ⟨rfl, rfl⟩, q_uq, hz]
    · rw [if_neg hq]
      by_cases h1 : j = k
      · rw [q_uk (by omega)]
        exact hC.kn hj
      · rw [q_ua (by omega)]
        exact hC.kn hj
  · show _ = q_b (if 1 = b ∧ j = k then true else S.2.2.2 1 j)
    by_cases hq : 1 = b ∧ j = k
    · obtain ⟨rfl, rfl⟩ := hq
      rw [if_pos ⟨rfl, rfl⟩, q_uq, hz]
    · rw [if_neg hq]
      by_cases h1 : j = k
      · rw [q_uk (by omega)]
        exact hC.sk hj
      · rw [q_ua (by omega)]
        exact hC.sk hj
theorem q_sG_M {m : z_M} {S : q_St} (hM : q_MS m S) {f k : Nat} (v : Nat) (hf : f < 5) : q_MS (z_up m (64 + f) k (nI v)) (q_sG S f k v) := by
  refine ⟨by rw [q_ua (by omega)]; exact hM.1, by rw [q_ua (by omega)]; exact hM.2.1, fun s hs => by rw [q_ua (by omega)]; exact hM.2.2.1 s hs, fun j hj f' hf' => ?_, by rw [q_ua (by omega)]; exact hM.2.2.2.2.1, by rw [q_ua (by omega)]; exact hM.2.2.2.2.2⟩
  show _ = nI (if f' = f ∧ j = k then v else S.2.2.1 f' j)
  by_cases hq : f' = f ∧ j = k
  · obtain ⟨rfl, rfl⟩ := hq
    rw [q_uq, if_pos ⟨rfl, rfl⟩]
  · rw [if_neg hq]
    by_cases h1 : f' = f
    · rw [q_uk (by omega)]
      exact hM.gd hj hf'
    · rw [q_ua (by omega)]
      exact hM.gd hj hf'
theorem q_bits_ext : ∀ (n : Nat) (f g : Nat → Bool), (∀ k, k < n → f k = g k) → q_bits n f = q_bits n g
  | 0, _, _, _ => rfl
  | n + 1, f, g, h => by
    simp only [q_bits]
    rw [q_bits_ext n f g (fun k hk => h k (by omega)), h n (by omega)]
theorem q_bits_set : ∀ (n : Nat) (f g : Nat → Bool) (k : Nat), k < n → (∀ j, g j = if j = k then true else f j) → q_bits n g = if f k = true then q_bits n f else q_bits n f + 2 ^ k
  | 0, _, _, _, h, _ => by omega
  | n + 1, f, g, k, h, hg => by
    simp only [q_bits]
    by_cases hk : k = n
    · subst hk
      rw [q_bits_ext k g f (fun j hj => by rw [hg, if_neg (by omega)]), hg k, if_pos rfl]
      cases f k <;> simp
    · rw [q_bits_set n f g k (by omega) hg, hg n, if_neg (show ¬ n = k by omega)]
      cases f k <;> simp
      omega
theorem q_or_of : ∀ b, b < 64 → ∀ k, k < 6 → nI b ||| ((1 : Int32) <<< (nI k &&& 31)) = nI (if b.testBit k = true then b else b + 2 ^ k) := by decide +kernel
theorem q_bits_or {n : Nat} (hn : n ≤ 6) {f g : Nat → Bool} {k : Nat} (hk : k < n) (hg : ∀ j, g j = if j = k then true else f j) : nI (q_bits n f) ||| ((1 : Int32) <<< (nI k &&& 31)) = nI (q_bits n g) := by
  rw [q_or_of _ (q_bits_lt64 hn f) k (by omega), q_bits_test n f k hk, q_bits_set n f g k hk hg]
theorem q_sB_M {m : z_M} {S : q_St} (hM : q_MS m S) (h6 : S.1.2 ≤ 6) {b k : Nat} (hb : b < 2) (hk : k < S.1.2) : q_MS (z_up m 59 (8 + b) (m 59 (8 + b) ||| ((1 : Int32) <<< (nI k &&& 31)))) (q_sB S b k) := by
  refine ⟨by rw [q_uk (by omega)]; exact hM.1, by rw [q_uk (by omega)]; exact hM.2.1, fun s hs => by rw [q_ua (by omega)]; exact hM.2.2.1 s hs, fun j hj f' hf' => by rw [q_ua (by omega)]; exact hM.gd hj hf', ?_, ?_⟩
  · rcases (show b = 0 ∨ b = 1 by omega) with rfl | rfl
    · show z_up m 59 8 (m 59 8 ||| ((1 : Int32) <<< (nI k &&& 31))) 59 8 = nI (q_bits S.1.2 ((q_sB S 0 k).2.2.2 0))
      rw [q_uq, hM.2.2.2.2.1]
      exact q_bits_or h6 hk (fun j => by simp [q_sB])
    · rw [q_uk (by decide), hM.2.2.2.2.1]
      exact congrArg nI (q_bits_ext _ _ _ (fun j hj => by simp [q_sB]))
  · rcases (show b = 0 ∨ b = 1 by omega) with rfl | rfl
    · rw [q_uk (by decide), hM.2.2.2.2.2]
      exact congrArg nI (q_bits_ext _ _ _ (fun j hj => by simp [q_sB]))
    · show z_up m 59 9 (m 59 9 ||| ((1 : Int32) <<< (nI k &&& 31))) 59 9 = nI (q_bits S.1.2 ((q_sB S 1 k).2.2.2 1))
      rw [q_uq, hM.2.2.2.2.2]
      exact q_bits_or h6 hk (fun j => by simp [q_sB])
theorem q_C.ofS {m m' : z_M} {T : q_T} (h : q_C m T) {S : q_St} (hS : q_CS m' 2 S) (hf : ∀ a, a < 5 ∨ 11 ≤ a → m' a = m a) : q_C m' (q_sS T S) :=
  ⟨h.1.of (hf 0 (by omega)) (hf 2 (by omega)), hS, h.2.2.1.of (fun a h1 h2 => hf a (by omega)), h.2.2.2.of (fun a h1 h2 => hf a (by omega))⟩
theorem q_M.ofS {m m' : z_M} {T : q_T} (h : q_M m T) {S : q_St} (hS : q_MS m' S) (hf : ∀ a, (a < 63 ∨ 69 ≤ a) → a ≠ 59 → m' a = m a) (hk : ∀ k, k = 0 ∨ k = 1 ∨ k = 7 ∨ k = 33 → m' 59 k = m 59 k) : q_M m' (q_sS T S) :=
  ⟨h.1.of (hk 0 (by omega)) (hk 1 (by omega)) (hk 7 (by omega)), hS, h.2.2.1.of (hk 33 (by omega)) (fun a h1 h2 => hf a (by omega) (by omega)), h.2.2.2.of (fun a h1 h2 => hf a (by omega) (by omega))⟩
/-! Dawning -/
def q_rdy (S : q_St) (k : Nat) : Bool := !(S.2.2.2 0 k) && decide (S.2.2.1 2 k ≤ S.2.2.1 4 k)
def q_fr (S : q_St) : Nat → Nat → Option Nat
  | 0, _ => none
  | n + 1, i => if q_rdy S i = true then some i else q_fr S n (i + 1)
theorem q_fr_s {S : q_St} {k : Nat} : ∀ (n i : Nat), q_fr S n i = some k → i ≤ k ∧ k < i + n ∧ q_rdy S k = true
  | 0, i, h => by simp [q_fr] at h
  | n + 1, i, h => by
    simp only [q_fr] at h
    by_cases hr : q_rdy S i = true
    · rw [if_pos hr] at h
      injection h with h
      subst h
      exact ⟨by omega, by omega, hr⟩
    · rw [if_neg hr] at h
      obtain ⟨a, b, c⟩ := q_fr_s n (i + 1) h
      exact ⟨by omega, by omega, c⟩
theorem q_fr_n {S : q_St} : ∀ (n i : Nat), q_fr S n i = none → ∀ k, i ≤ k → k < i + n → q_rdy S k = false
  | 0, i, h, k, h1, h2 => by omega
  | n + 1, i, h, k, h1, h2 => by
    simp only [q_fr] at h
    by_cases hr : q_rdy S i = true
    · rw [if_pos hr] at h
      cases h
    · rw [if_neg hr] at h
      by_cases hk : k = i
      · subst hk
        simpa using hr
      · exact q_fr_n n (i + 1) h k (by omega) (by omega)
def q_stir (S : q_St) (t i : Nat) : q_St := (S.1, S.2.1, (fun f k => if f = 4 ∧ k < i ∧ S.2.2.2 0 k = false ∧ S.2.2.1 3 k = t then S.2.2.1 4 k + 1 else S.2.2.1 f k), S.2.2.2)
theorem q_stir_0 (S : q_St) (t : Nat) : q_stir S t 0 = S := by
  unfold q_stir
  simp
theorem q_stir_3 (S : q_St) (t i k : Nat) : (q_stir S t i).2.2.1 3 k = S.2.2.1 3 k := by simp [q_stir]
theorem q_stir_4 (S : q_St) (t i : Nat) : (q_stir S t i).2.2.1 4 i = S.2.2.1 4 i := by simp [q_stir]
theorem q_stir_y {S : q_St} {t i : Nat} (h1 : S.2.2.2 0 i = false) (h2 : S.2.2.1 3 i = t) : q_stir S t (i + 1) = q_sG (q_stir S t i) 4 i (S.2.2.1 4 i + 1) := by
  unfold q_stir q_sG
  refine Prod.ext rfl (Prod.ext rfl (Prod.ext ?_ rfl))
  funext f k
  by_cases hf : f = 4
  · subst hf
    by_cases hk : k = i
    · subst hk
      simp [h1, h2]
    · simp [hk, show (k < i + 1) = (k < i) from propext (by omega)]
  · simp [hf]
theorem q_stir_x {S : q_St} {t i : Nat} (h : ¬ (S.2.2.2 0 i = false ∧ S.2.2.1 3 i = t)) : q_stir S t (i + 1) = q_stir S t i := by
  unfold q_stir
  refine Prod.ext rfl (Prod.ext rfl (Prod.ext ?_ rfl))
  funext f k
  by_cases hf : f = 4
  · subst hf
    by_cases hk : k = i
    · subst hk
      simp [h]
    · simp [show (k < i + 1) = (k < i) from propext (by omega)]
  · simp [hf]
def q_dst (S : q_St) (k : Nat) : q_St := q_stir (q_sB S 0 k) (S.2.2.1 3 k) S.1.2
def q_dw : Nat → q_St → Nat × q_St
  | 0, S => (0, S)
  | f + 1, S => match q_fr S S.1.2 0 with
    | none => (0, S)
    | some k => ((q_dw f (q_dst S k)).1 + 1, (q_dw f (q_dst S k)).2)
theorem q_dw_n {S : q_St} (h : q_fr S S.1.2 0 = none) : ∀ f, q_dw f S = (0, S)
  | 0 => rfl
  | f + 1 => by simp only [q_dw, h]
theorem q_dw_s {S : q_St} {k : Nat} (h : q_fr S S.1.2 0 = some k) (f : Nat) : q_dw (f + 1) S = ((q_dw f (q_dst S k)).1 + 1, (q_dw f (q_dst S k)).2) := by simp only [q_dw, h]
def q_un : Nat → (Nat → Bool) → Nat
  | 0, _ => 0
  | n + 1, f => q_un n f + (if f n = false then 1 else 0)
theorem q_un_le : ∀ (n : Nat) (f : Nat → Bool), q_un n f ≤ n
  | 0, _ => by simp [q_un]
  | n + 1, f => by
    have := q_un_le n f
    simp only [q_un]
    split <;> omega
theorem q_un_ext : ∀ (n : Nat) (f g : Nat → Bool), (∀ k, k < n → f k = g k) → q_un n f = q_un n g
  | 0, _, _, _ => rfl
  | n + 1, f, g, h => by
    simp only [q_un]
    rw [q_un_ext n f g (fun k hk => h k (by omega)), h n (by omega)]
theorem q_un_set : ∀ (n : Nat) (f g : Nat → Bool) (k : Nat), k < n → f k = false → (∀ j, g j = if j = k then true else f j) → q_un n g + 1 = q_un n f
  | 0, _, _, _, h, _, _ => by omega
  | n + 1, f, g, k, h, hf, hg => by
    simp only [q_un]
    by_cases hk : k = n
    · subst hk
      rw [q_un_ext k g f (fun j hj => by rw [hg, if_neg (by omega)]), hg k, if_pos rfl, hf]
      simp
    · have := q_un_set n f g k (by omega) hf hg
      rw [hg n, if_neg (show ¬ n = k by omega)]
      omega
theorem q_un_0 : ∀ (n : Nat) (f : Nat → Bool), q_un n f = 0 → ∀ k, k < n → f k = true
  | 0, _, _, _, h => by omega
  | n + 1, f, h, k, hk => by
    simp only [q_un] at h
    by_cases hq : k = n
    · subst hq
      cases hf : f k with
      | true => rfl
      | false =>
        rw [hf] at h
        simp at h
    · exact q_un_0 n f (by omega) k (by omega)
theorem q_dst_un {S : q_St} {k : Nat} (hk : k < S.1.2) (hr : q_rdy S k = true) : q_un (q_dst S k).1.2 ((q_dst S k).2.2.2 0) + 1 = q_un S.1.2 (S.2.2.2 0) := by
  simp only [q_rdy, Bool.and_eq_true, Bool.not_eq_true'] at hr
  exact q_un_set _ _ _ k hk hr.1 (fun j => by simp [q_dst, q_stir, q_sB])
/-- ranges while it dawns; at most f dawnings to come -/
def q_okw (f : Nat) (S : q_St) : Prop := S.1.1 ≤ 5 ∧ S.1.2 ≤ 6 ∧ (0 < S.1.2 → 0 < S.1.1) ∧ (∀ s, s < S.1.1 → 1 ≤ S.2.1 s ∧ S.2.1 s ≤ 9) ∧ ∀ k, k < S.1.2 → S.2.2.1 0 k ≤ 2 ∧ (1 ≤ S.2.2.1 1 k ∧ S.2.2.1 1 k ≤ 9) ∧ (1 ≤ S.2.2.1 2 k ∧ S.2.2.1 2 k ≤ 9) ∧ S.2.2.1 3 k ≤ 5 ∧ S.2.2.1 4 k ≤ 40 ∧ (S.2.2.2 0 k = false → S.2.2.1 4 k + f ≤ 30)
theorem q_stir_b (S : q_St) (t i j : Nat) : (q_stir S t i).2.2.1 4 j = S.2.2.1 4 j ∨ ((q_stir S t i).2.2.1 4 j = S.2.2.1 4 j + 1 ∧ S.2.2.2 0 j = false) := by
  unfold q_stir
  by_cases h : 4 = 4 ∧ j < i ∧ S.2.2.2 0 j = false ∧ S.2.2.1 3 j = t
  · right
    exact ⟨if_pos h, h.2.2.1⟩
  · left
    exact if_neg h
theorem q_sB_n {S : q_St} {k j : Nat} (h : (q_sB S 0 k).2.2.2 0 j = false) : S.2.2.2 0 j = false := by
  unfold q_sB at h
  by_cases hk : j = k
  · simp [hk] at h
  · simpa [hk] using h
theorem q_okw_dst {f : Nat} {S : q_St} (h : q_okw (f + 1) S) (k : Nat) : q_okw f (q_dst S k) := by
  obtain ⟨a, b, c, d, e⟩ := h
  refine ⟨a, b, c, d, fun j hj => ?_⟩
  obtain ⟨e0, e1, e2, e3, e4, e5⟩ := e j hj
  refine ⟨by simpa [q_dst, q_stir, q_sB] using e0, by simpa [q_dst, q_stir, q_sB] using e1, by simpa [q_dst, q_stir, q_sB] using e2, by simpa [q_dst, q_stir, q_sB] using e3, ?_, ?_⟩
  · rcases q_stir_b (q_sB S 0 k) (S.2.2.1 3 k) S.1.2 j with hq | ⟨hq, hn⟩
    · exact Nat.le_trans (Nat.le_of_eq hq) e4
    · have := e5 (q_sB_n hn)
      refine Nat.le_trans (Nat.le_of_eq hq) ?_
      show S.2.2.1 4 j + 1 ≤ 40
      omega
  · intro hn
    have := e5 (q_sB_n hn)
    rcases q_stir_b (q_sB S 0 k) (S.2.2.1 3 k) S.1.2 j with hq | ⟨hq, hn⟩
    · have hq : (q_dst S k).2.2.1 4 j = S.2.2.1 4 j := hq
      omega
    · have hq : (q_dst S k).2.2.1 4 j = S.2.2.1 4 j + 1 := hq
      omega
theorem q_dw_ok : ∀ (f : Nat) (S : q_St), q_okw f S → q_un S.1.2 (S.2.2.2 0) ≤ f → q_okS (q_dw f S).2 ∧ (q_dw f S).1 ≤ f := by
  intro f
  induction f with
  | zero =>
    intro S h hu
    cases hq : q_fr S S.1.2 0 with
    | none =>
      rw [q_dw_n hq]
      obtain ⟨a, b, c, d, e⟩ := h
      refine ⟨⟨a, b, c, d, fun j hj => ?_⟩, Nat.le_refl _⟩
      obtain ⟨e0, e1, e2, e3, e4, e5⟩ := e j hj
      refine ⟨e0, e1, e2, e3, e4, fun hn => ?_⟩
      have hj : j < S.1.2 := hj
      have hn : S.2.2.2 0 j = false := hn
      have := q_fr_n _ _ hq j (by omega) (by omega)
      simp only [q_rdy, hn, Bool.not_false, Bool.true_and, decide_eq_false_iff_not] at this
      exact Nat.lt_of_not_le this
    | some k =>
      obtain ⟨h1, h2, h3⟩ := q_fr_s _ _ hq
      have := q_dst_un (show k < S.1.2 by omega) h3
      omega
  | succ f ih =>
    intro S h hu
    cases hq : q_fr S S.1.2 0 with
    | none =>
      rw [q_dw_n hq]
      obtain ⟨a, b, c, d, e⟩ := h
      refine ⟨⟨a, b, c, d, fun j hj => ?_⟩, Nat.zero_le _⟩
      obtain ⟨e0, e1, e2, e3, e4, e5⟩ := e j hj
      refine ⟨e0, e1, e2, e3, e4, fun hn => ?_⟩
      have hj : j < S.1.2 := hj
      have hn : S.2.2.2 0 j = false := hn
      have := q_fr_n _ _ hq j (by omega) (by omega)
      simp only [q_rdy, hn, Bool.not_false, Bool.true_and, decide_eq_false_iff_not] at this
      exact Nat.lt_of_not_le this
    | some k =>
      obtain ⟨h1, h2, h3⟩ := q_fr_s _ _ hq
      have := q_dst_un (show k < S.1.2 by omega) h3
      obtain ⟨i1, i2⟩ := ih _ (q_okw_dst h k) (by omega)
      rw [q_dw_s hq]
      exact ⟨i1, by show (q_dw f (q_dst S k)).1 + 1 ≤ f + 1; omega⟩
def q_gv (S : q_St) (s k : Nat) : Int32 × q_St := if S.2.2.1 1 k < q_wt S s k then (-9, q_sB S 1 k) else (nI (q_dw 6 (q_sG S 4 k (S.2.2.1 4 k + q_wt S s k))).1, (q_dw 6 (q_sG S 4 k (S.2.2.1 4 k + q_wt S s k))).2)
theorem q_gv_w {S : q_St} (hok : q_okS S) {s k : Nat} (hs : s < S.1.1) (hk : k < S.1.2) (hn : S.2.2.2 0 k = false) : q_okw 6 (q_sG S 4 k (S.2.2.1 4 k + q_wt S s k)) := by
  obtain ⟨a, b, c, d, e⟩ := hok
  have hw := q_wt_le ⟨a, b, c, d, e⟩ hs k
  refine ⟨a, b, c, d, fun j hj => ?_⟩
  obtain ⟨e0, e1, e2, e3, e4, e5⟩ := e j hj
  have ek := (e k hk).2.2.2.2.2 hn
  have ek2 := (e k hk).2.2.1
  refine ⟨by simpa [q_sG] using e0, by simpa [q_sG] using e1, by simpa [q_sG] using e2, by simpa [q_sG] using e3, ?_, fun hq => ?_⟩
  · show (if 4 = 4 ∧ j = k then S.2.2.1 4 k + q_wt S s k else S.2.2.1 4 j) ≤ 40
    split <;> omega
  · have hq : S.2.2.2 0 j = false := hq
    have := e5 hq
    show (if 4 = 4 ∧ j = k then S.2.2.1 4 k + q_wt S s k else S.2.2.1 4 j) + 6 ≤ 30
    split <;> omega
theorem q_gv_ok {S : q_St} (hok : q_okS S) {s k : Nat} (hs : s < S.1.1) (hk : k < S.1.2) (hn : S.2.2.2 0 k = false) : q_okS (q_gv S s k).2 := by
  unfold q_gv
  by_cases hb : S.2.2.1 1 k < q_wt S s k
  · rw [if_pos hb]
    obtain ⟨a, b, c, d, e⟩ := hok
    refine ⟨a, b, c, d, fun j hj => ?_⟩
    obtain ⟨e0, e1, e2, e3, e4, e5⟩ := e j hj
    exact ⟨e0, e1, e2, e3, e4, fun hq => e5 (by simpa [q_sB] using hq)⟩
  · rw [if_neg hb]
    exact (q_dw_ok 6 _ (q_gv_w hok hs hk hn) (Nat.le_trans (q_un_le _ _) hok.2.1)).1
