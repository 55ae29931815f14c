theorem q_C0.of {m m' : z_M} {F : Int32 × Int32 × Int32} (h : q_C0 m F) (h1 : m' 0 = m 0) (h2 : m' 2 = m 2) : q_C0 m' F := by
  obtain ⟨a, b, c⟩ := h
  exact ⟨by rw [h1]; exact a, by rw [h1]; exact b, by rw [h2]; exact c⟩
theorem q_CS.of {m m' : z_M} {h : Nat} {S : q_St} (hC : q_CS m h S) (hn : S.1.2 ≤ 6) (hq : ∀ a, h ≤ a → a < h + 9 → m' a = m a) : q_CS m' h S := by
  obtain ⟨a, b, c, d⟩ := hC
  refine ⟨by rw [hq h (by omega) (by omega)]; exact a, by rw [hq h (by omega) (by omega)]; exact b, fun s hs => by rw [hq (h + 1) (by omega) (by omega)]; exact c s hs, fun k hk => ?_⟩
  rw [hq (h + 3 + k) (by omega) (by omega)]
  exact d k hk
theorem q_CR.of {m m' : z_M} {Q : q_Rd} (h : q_CR m Q) (hq : ∀ a, 40 ≤ a → a < 44 → m' a = m a) : q_CR m' Q := by
  obtain ⟨a, b⟩ := h
  refine ⟨by rw [hq 40 (by omega) (by omega)]; exact a, fun r hr => ?_⟩
  rw [hq 41 (by omega) (by omega), hq 42 (by omega) (by omega), hq 43 (by omega) (by omega)]
  exact b r hr
theorem q_CP.of {m m' : z_M} {Y : q_Sh} (h : q_CP m Y) (hq : ∀ a, 51 ≤ a → a < 59 → m' a = m a) : q_CP m' Y := by
  intro k hk
  rw [hq (51 + 2 * k) (by omega) (by omega), hq (52 + 2 * k) (by omega) (by omega)]
  exact h k hk
theorem q_M0.of {m m' : z_M} {F : Int32 × Int32 × Int32} (h : q_M0 m F) (h0 : m' 59 0 = m 59 0) (h1 : m' 59 1 = m 59 1) (h7 : m' 59 7 = m 59 7) : q_M0 m' F := by
  obtain ⟨a, b, c⟩ := h
  exact ⟨by rw [h0]; exact a, by rw [h1]; exact b, by rw [h7]; exact c⟩
theorem q_MS.of {m m' : z_M} {S : q_St} (h : q_MS m S) (h5 : m' 59 5 = m 59 5) (h6 : m' 59 6 = m 59 6) (h8 : m' 59 8 = m 59 8) (h9 : m' 59 9 = m 59 9) (hq : ∀ a, 63 ≤ a → a < 69 → m' a = m a) : q_MS m' S := by
  obtain ⟨a, b, c, d, e, f⟩ := h
  refine ⟨by rw [h5]; exact a, by rw [h6]; exact b, fun s hs => by rw [hq 63 (by omega) (by omega)]; exact c s hs, fun k hk i hi => by rw [hq (64 + i) (by omega) (by omega)]; exact d k hk i hi, by rw [h8]; exact e, by rw [h9]; exact f⟩
theorem q_MR.of {m m' : z_M} {Q : q_Rd} (h : q_MR m Q) (h33 : m' 59 33 = m 59 33) (hq : ∀ a, 77 ≤ a → a < 80 → m' a = m a) : q_MR m' Q := by
  obtain ⟨a, b⟩ := h
  refine ⟨by rw [h33]; exact a, fun r hr => ?_⟩
  rw [hq 77 (by omega) (by omega), hq 78 (by omega) (by omega), hq 79 (by omega) (by omega)]
  exact b r hr
theorem q_MP.of {m m' : z_M} {Y : q_Sh} (h : q_MP m Y) (hq : ∀ a, 60 ≤ a → a < 63 → m' a = m a) : q_MP m' Y := by
  intro k hk
  rw [hq 60 (by omega) (by omega), hq 61 (by omega) (by omega), hq 62 (by omega) (by omega)]
  exact h k hk
/-- the reference's other cells: those not of number 59 and 60 .. 79 that count -/
theorem q_M.of {m m' : z_M} {T : q_T} (h : q_M m T) (hf : ∀ k, k = 0 ∨ k = 1 ∨ k = 5 ∨ k = 6 ∨ k = 7 ∨ k = 8 ∨ k = 9 ∨ k = 33 → m' 59 k = m 59 k) (hq : ∀ a, 60 ≤ a → a < 69 → m' a = m a) (hr : ∀ a, 77 ≤ a → a < 80 → m' a = m a) : q_M m' T :=
  ⟨h.1.of (hf 0 (by omega)) (hf 1 (by omega)) (hf 7 (by omega)), h.2.1.of (hf 5 (by omega)) (hf 6 (by omega)) (hf 8 (by omega)) (hf 9 (by omega)) (fun a h1 h2 => hq a (by omega) h2), h.2.2.1.of (hf 33 (by omega)) hr, h.2.2.2.of (fun a h1 h2 => hq a h1 (by omega))⟩
theorem q_C.of {m m' : z_M} {T : q_T} (h : q_C m T) (hn : T.2.1.1.2 ≤ 6) (hq : ∀ a, a < 11 → m' a = m a) (hr : ∀ a, 40 ≤ a → a < 44 → m' a = m a) (hs : ∀ a, 51 ≤ a → a < 59 → m' a = m a) : q_C m' T :=
  ⟨h.1.of (hq 0 (by omega)) (hq 2 (by omega)), h.2.1.of hn (fun a h1 h2 => hq a (by omega)), h.2.2.1.of hr, h.2.2.2.of hs⟩
