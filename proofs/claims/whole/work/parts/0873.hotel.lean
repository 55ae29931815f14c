/-! 2 hotel: a text, code by code -/
abbrev q_TA : Type := Nat × Nat × (Nat → Nat) × Nat × (Nat → Nat → Nat)
def q_sg (G : Nat → Nat → Nat) (f k v : Nat) : Nat → Nat → Nat := fun f' k' => if f' = f ∧ k' = k then v else G f' k'
theorem q_sg_e (G : Nat → Nat → Nat) (f k v : Nat) : q_sg G f k v f k = v := if_pos ⟨rfl, rfl⟩
theorem q_sg_n (G : Nat → Nat → Nat) {f k f' k' : Nat} (v : Nat) (h : ¬ (f' = f ∧ k' = k)) : q_sg G f k v f' k' = G f' k' := if_neg h
def q_cd (c : Int32) : Nat := c.toNatClampNeg - 48
def q_ts : q_TA → Int32 → Option q_TA
  | (0, ns, H, ng, G), c => if c = 104 then some (1, ns, H, ng, G) else none
  | (1, ns, H, ng, G), c => if c = 59 then (if 0 < ns then some (2, ns, H, ng, G) else none) else (if ns < 5 ∧ q_w 49 57 c = true then some (1, ns + 1, q_set H ns (q_cd c), ng, G) else none)
  | (2, ns, H, ng, G), c => if c = 109 then some (3, ns, H, ng, q_sg G 0 ng 0) else if c = 99 then some (3, ns, H, ng, q_sg G 0 ng 1) else if c = 98 then some (3, ns, H, ng, q_sg G 0 ng 2) else none
  | (3, ns, H, ng, G), c => if q_w 49 57 c = true then some (4, ns, H, ng, q_sg G 1 ng (q_cd c)) else none
  | (4, ns, H, ng, G), c => if q_w 49 57 c = true then some (5, ns, H, ng, q_sg G 2 ng (q_cd c)) else none
  | (5, ns, H, ng, G), c => if q_w 48 53 c = true then some (6, ns, H, ng + 1, q_sg G 3 ng (q_cd c)) else none
  | (_, ns, H, ng, G), c => if c = 59 ∧ ng < 6 then some (2, ns, H, ng, G) else none
theorem q_d19 {c : Int32} (h : q_w 49 57 c = true) : c - 48 = nI (q_cd c) ∧ 1 ≤ q_cd c ∧ q_cd c ≤ 9 ∧ ¬ c = 59 := by
  obtain ⟨v, h1, h2, rfl⟩ := q_w_lit (a := 49) (b := 57) rfl rfl h (by decide) (by decide)
  unfold q_cd
  rw [q_cl (by omega)]
  exact ⟨by rw [show (48 : Int32) = nI 48 from rfl, pk_sub (by omega)], by omega, by omega, fun q => by have := (nI_eq (a := v) (b := 59) (by omega) (by decide)).mp q; omega⟩
theorem q_d05 {c : Int32} (h : q_w 48 53 c = true) : c - 48 = nI (q_cd c) ∧ q_cd c ≤ 5 := by
  obtain ⟨v, h1, h2, rfl⟩ := q_w_lit (a := 48) (b := 53) rfl rfl h (by decide) (by decide)
  unfold q_cd
  rw [q_cl (by omega)]
  exact ⟨by rw [show (48 : Int32) = nI 48 from rfl, pk_sub (by omega)], by omega⟩
def q_gr (G : Nat → Nat → Nat) (k n : Nat) : Prop := (0 < n → G 0 k ≤ 2) ∧ (1 < n → 1 ≤ G 1 k ∧ G 1 k ≤ 9) ∧ (2 < n → 1 ≤ G 2 k ∧ G 2 k ≤ 9) ∧ (3 < n → G 3 k ≤ 5)
theorem q_gr.sg {G : Nat → Nat → Nat} {k n : Nat} (h : q_gr G k n) {f j v : Nat} (hn : ¬ (f < n ∧ j = k)) : q_gr (q_sg G f j v) k n := by
  obtain ⟨a, b, c, d⟩ := h
  refine ⟨fun h => ?_, fun h => ?_, fun h => ?_, fun h => ?_⟩
  · rw [q_sg_n G v (by omega)]; exact a h
  · rw [q_sg_n G v (by omega)]; exact b h
  · rw [q_sg_n G v (by omega)]; exact c h
  · rw [q_sg_n G v (by omega)]; exact d h
/-- ranges; part 3 + n: n + 1 of a guest's four are read -/
def q_okT : q_TA → Prop
  | (p, ns, H, ng, G) => p ≤ 6 ∧ ns ≤ 5 ∧ ng ≤ 6 ∧ (∀ s, s < ns → 1 ≤ H s ∧ H s ≤ 9) ∧ (∀ k, k < ng → q_gr G k 4) ∧ (p ≤ 1 → ng = 0) ∧ (2 ≤ p → 0 < ns) ∧ (2 ≤ p → p ≤ 5 → ng < 6) ∧ (p = 6 → 0 < ng) ∧ (3 ≤ p → p ≤ 5 → q_gr G ng (p - 2))
theorem q_ts_ok : ∀ {A A' : q_TA} {c : Int32}, q_okT A → q_ts A c = some A' → q_okT A' := by
  intro A A' c h hs
  obtain ⟨p, ns, H, ng, G⟩ := A
  obtain ⟨hp, h1, h2, h3, h4, h5, h6, h7, h8, h9⟩ := h
  rcases (show p = 0 ∨ p = 1 ∨ p = 2 ∨ p = 3 ∨ p = 4 ∨ p = 5 ∨ p = 6 by omega) with rfl | rfl | rfl | rfl | rfl | rfl | rfl
  · simp only [q_ts] at hs
    by_cases hc : c = 104
    · rw [if_pos hc] at hs
      injection hs with hs
      subst hs
      exact ⟨by omega, h1, h2, h3, h4, fun _ => h5 (by omega), fun q => by omega, fun q => by omega, fun q => by omega, fun q => by omega⟩
    · rw [if_neg hc] at hs
      cases hs
  · simp only [q_ts] at hs
    by_cases hc : c = 59
    · rw [if_pos hc] at hs
      by_cases hn : 0 < ns
      · rw [if_pos hn] at hs
        injection hs with hs
        subst hs
        have := h5 (by omega)
        exact ⟨by omega, h1, h2, h3, h4, fun q => by omega, fun _ => hn, fun _ _ => by omega, fun q => by omega, fun q => by omega⟩
      · rw [if_neg hn] at hs
        cases hs
    · rw [if_neg hc] at hs
      by_cases hn : ns < 5 ∧ q_w 49 57 c = true
      · rw [if_pos hn] at hs
        injection hs with hs
        subst hs
        obtain ⟨-, d1, d2, -⟩ := q_d19 hn.2
        refine ⟨by omega, by omega, h2, fun s hs => ?_, h4, fun _ => h5 (by omega), fun q => by omega, fun q => by omega, fun q => by omega, fun q => by omega⟩
        by_cases hq : s = ns
        · subst hq
          rw [q_set_e]
          exact ⟨d1, d2⟩
        · rw [q_set_n H _ hq]
          exact h3 s (by omega)
      · rw [if_neg hn] at hs
        cases hs
  · have hng := h7 (by omega) (by omega)
    have key : ∀ v, v ≤ 2 → q_okT (3, ns, H, ng, q_sg G 0 ng v) := fun v hv => ⟨by omega, h1, h2, h3, fun k hk => (h4 k hk).sg (by omega), fun q => by omega, fun _ => h6 (by omega), fun _ _ => hng, fun q => by omega, fun _ _ => ⟨fun _ => by rw [q_sg_e]; exact hv, fun q => by omega, fun q => by omega, fun q => by omega⟩⟩
    simp only [q_ts] at hs
    by_cases c1 : c = 109
    · rw [if_pos c1] at hs
      injection hs with hs
      subst hs
      exact key 0 (by omega)
    rw [if_neg c1] at hs
    by_cases c2 : c = 99
    · rw [if_pos c2] at hs
      injection hs with hs
      subst hs
      exact key 1 (by omega)
    rw [if_neg c2] at hs
    by_cases c3 : c = 98
    · rw [if_pos c3] at hs
      injection hs with hs
      subst hs
      exact key 2 (by omega)
    rw [if_neg c3] at hs
    cases hs
  · have hng := h7 (by omega) (by omega)
    have hg := h9 (by omega) (by omega)
    simp only [q_ts] at hs
    by_cases hc : q_w 49 57 c = true
    · rw [if_pos hc] at hs
      injection hs with hs
      subst hs
      obtain ⟨-, d1, d2, -⟩ := q_d19 hc
      exact ⟨by omega, h1, h2, h3, fun k hk => (h4 k hk).sg (by omega), fun q => by omega, fun _ => h6 (by omega), fun _ _ => hng, fun q => by omega, fun _ _ => ⟨fun _ => by rw [q_sg_n G _ (by omega)]; exact hg.1 (by omega), fun _ => by rw [q_sg_e]; exact ⟨d1, d2⟩, fun q => by omega, fun q => by omega⟩⟩
    · rw [if_neg hc] at hs
      cases hs
  · have hng := h7 (by omega) (by omega)
    have hg := h9 (by omega) (by omega)
    simp only [q_ts] at hs
    by_cases hc : q_w 49 57 c = true
    · rw [if_pos hc] at hs
      injection hs with hs
      subst hs
      obtain ⟨-, d1, d2, -⟩ := q_d19 hc
      exact ⟨by omega, h1, h2, h3, fun k hk => (h4 k hk).sg (by omega), fun q => by omega, fun _ => h6 (by omega), fun _ _ => hng, fun q => by omega, fun _ _ => ⟨fun _ => by rw [q_sg_n G _ (by omega)]; exact hg.1 (by omega), fun _ => by rw [q_sg_n G _ (by omega)]; exact hg.2.1 (by omega), fun _ => by rw [q_sg_e]; exact ⟨d1, d2⟩, fun q => by omega⟩⟩
    · rw [if_neg hc] at hs
      cases hs
  · have hng := h7 (by omega) (by omega)
    have hg := h9 (by omega) (by omega)
    simp only [q_ts] at hs
    by_cases hc : q_w 48 53 c = true
    · rw [if_pos hc] at hs
      injection hs with hs
      subst hs
      obtain ⟨-, d1⟩ := q_d05 hc
      refine ⟨by omega, h1, by omega, h3, fun k hk => ?_, fun q => by omega, fun _ => h6 (by omega), fun _ q => by omega, fun _ => by omega, fun _ q => by omega⟩
      by_cases hq : k = ng
      · subst hq
        exact ⟨fun _ => by rw [q_sg_n G _ (by omega)]; exact hg.1 (by omega), fun _ => by rw [q_sg_n G _ (by omega)]; exact hg.2.1 (by omega), fun _ => by rw [q_sg_n G _ (by omega)]; exact hg.2.2.1 (by omega), fun _ => by rw [q_sg_e]; exact d1⟩
      · exact (h4 k (by omega)).sg (by omega)
    · rw [if_neg hc] at hs
      cases hs
  · simp only [q_ts] at hs
    by_cases hc : c = 59 ∧ ng < 6
    · rw [if_pos hc] at hs
      injection hs with hs
      subst hs
      exact ⟨by omega, h1, h2, h3, h4, fun q => by omega, fun _ => h6 (by omega), fun _ _ => hc.2, fun q => by omega, fun q => by omega⟩
    · rw [if_neg hc] at hs
      cases hs
/-! the class's draft -/
def q_gd (m : z_M) (a : Nat) (G : Nat → Nat → Nat) (k n : Nat) : Prop := (∀ f, f < n → m a f = nI (G f k)) ∧ m a 4 = 0 ∧ z_b (m a 5) = 0 ∧ z_b (m a 6) = 0
theorem q_gd.of {m m' : z_M} {a k n : Nat} {G : Nat → Nat → Nat} (h : q_gd m a G k n) (hm : m' a = m a) : q_gd m' a G k n := by
  unfold q_gd
  rw [hm]
  exact h
theorem q_gd.sg {m : z_M} {a k n : Nat} {G : Nat → Nat → Nat} (h : q_gd m a G k n) {f j v : Nat} (hn : ¬ (f < n ∧ j = k)) : q_gd m a (q_sg G f j v) k n := ⟨fun f' hf' => by rw [q_sg_n G v (by omega)]; exact h.1 f' hf', h.2⟩
def q_CT (m : z_M) : q_TA → Prop
  | (p, ns, H, ng, G) => m 20 1 = nI p ∧ m 21 2 = nI ns ∧ m 21 3 = nI ng ∧ m 21 4 = 0 ∧ (∀ s, s < ns → m 22 s = nI (H s)) ∧ (∀ k, k < ng → q_gd m (24 + k) G k 4) ∧ (3 ≤ p → p ≤ 5 → q_gd m (24 + ng) G ng (p - 2))
theorem k_nxg (d : Nat) {m : z_M} {ng : Nat} (hg : ng ≤ 6) (h3 : m 21 3 = nI ng) : z_go z_SH z_P (d + 1) 58 [.ref 20] m = some (q_b (decide (ng < 6)), 0, z_up m 20 1 2) := by
  rw [c_X8_nextGuest, q_ua (by decide), h3, show (6 : Int32) = nI 6 from rfl, q_nI_le (by decide) (by omega)]
  by_cases h : ng < 6
  · rw [if_neg (by omega), decide_eq_true h]
    rfl
  · rw [if_pos (by omega), decide_eq_false h]
    rfl
theorem q_np : ∀ p, p < 7 → (nI p = nI 0 ↔ p = 0) ∧ (nI p = nI 1 ↔ p = 1) ∧ (nI p = nI 2 ↔ p = 2) ∧ (nI p = nI 3 ↔ p = 3) ∧ (nI p = nI 4 ↔ p = 4) ∧ (nI p = nI 5 ↔ p = 5) ∧ (nI p = nI 6 ↔ p = 6) := by decide +kernel
theorem k_go {A : q_TA} {m : z_M} {c : Int32} (h : q_okT A) (hC : q_CT m A) (d : Nat) : ∃ m1, z_go z_SH z_P (d + 3) 56 [.ref 20, .int c] m = some (q_b (q_ts A c).isSome, 0, m1) ∧ (∀ A', q_ts A c = some A' → q_CT m1 A') ∧ ∀ a, (a < 20 ∨ 30 ≤ a) → m1 a = m a := by
  obtain ⟨p, ns, H, ng, G⟩ := A
  obtain ⟨hp, h1, h2, h3, h4, h5, h6, h7, h8, h9⟩ := h
  obtain ⟨e1, e2, e3, e4, e5, e6, e7⟩ := hC
  rcases (show p = 0 ∨ p = 1 ∨ p = 2 ∨ p = 3 ∨ p = 4 ∨ p = 5 ∨ p = 6 by omega) with rfl | rfl | rfl | rfl | rfl | rfl | rfl
  · rw [c_X8_goesOn, e1, if_pos rfl]
    simp only [q_ts]
    refine ⟨z_up m 20 1 1, ?_, fun A' hA => ?_, fun a ha => z_up_ne (by omega)⟩
    · by_cases hc : c = 104
      · rw [if_pos hc, if_pos hc]
        rfl
      · rw [if_neg hc, if_neg hc]
        rfl
    · by_cases hc : c = 104
      · rw [if_pos hc] at hA
        injection hA with hA
        subst hA
        exact ⟨by rw [q_uq]; rfl, by rw [q_ua (by decide)]; exact e2, by rw [q_ua (by decide)]; exact e3, by rw [q_ua (by decide)]; exact e4, fun s hs => by rw [q_ua (by decide)]; exact e5 s hs, fun k hk => (e6 k hk).of (z_up_ne (by omega)), fun q => by omega⟩
      · rw [if_neg hc] at hA
        cases hA
  · have hng := h5 (by omega)
    rw [c_X8_goesOn, e1, if_neg (by decide), if_pos rfl, e2]
    simp only [q_ts]
    by_cases hc : c = 59
    · rw [if_pos hc, if_pos hc, show (0 : Int32) = nI 0 from rfl, q_nI_le (by omega) (by decide), show nI 0 = (0 : Int32) from rfl, k_nxg (d + 1) h2 e3]
      simp only [Option.bind_some]
      by_cases hn : 0 < ns
      · rw [if_neg (by omega), if_pos hn, decide_eq_true (by omega), if_neg q_b1]
        refine ⟨z_up m 20 1 2, rfl, fun A' hA => ?_, fun a ha => z_up_ne (by omega)⟩
        injection hA with hA
        subst hA
        exact ⟨by rw [q_uq]; rfl, by rw [q_ua (by decide)]; exact e2, by rw [q_ua (by decide)]; exact e3, by rw [q_ua (by decide)]; exact e4, fun s hs => by rw [q_ua (by decide)]; exact e5 s hs, fun k hk => (e6 k hk).of (z_up_ne (by omega)), fun q => by omega⟩
      · rw [if_pos (by omega), if_neg hn]
        exact ⟨m, rfl, fun A' hA => (by cases hA), fun _ _ => rfl⟩
    · rw [if_neg hc, if_neg hc, c_X8_nextSign, e2, show (5 : Int32) = nI 5 from rfl, q_nI_le (by decide) (by omega), k_within]
      simp only [Option.bind_some]
      rw [q_if, e2]
      by_cases hn : ns < 5
      · rw [if_neg (by omega), q_in hn (by decide), z_g_t, q_cl (by omega), q_ua (by decide), e2, nI_1]
        by_cases hw : q_w 49 57 c = true
        · obtain ⟨d0, -, -, -⟩ := q_d19 hw
          rw [if_pos hw, if_pos ⟨hn, hw⟩, d0]
          refine ⟨z_up (z_up m 22 ns (nI (q_cd c))) 21 2 (nI (ns + 1)), rfl, fun A' hA => ?_, fun a ha => by rw [z_up_ne (by omega), z_up_ne (by omega)]⟩
          injection hA with hA
          subst hA
          refine ⟨by rw [q_ua (by decide), q_ua (by decide)]; exact e1, by rw [q_uq], by rw [q_uk (by decide), q_ua (by decide)]; exact e3, by rw [q_uk (by decide), q_ua (by decide)]; exact e4, fun s hs => ?_, fun k hk => by omega, fun q => by omega⟩
          rw [q_ua (by decide)]
          by_cases hq : s = ns
          · subst hq
            rw [q_uq, q_set_e]
          · rw [q_uk hq, q_set_n H _ hq]
            exact e5 s (by omega)
        · rw [if_neg hw, if_neg (fun q => hw q.2)]
          exact ⟨m, rfl, fun A' hA => (by cases hA), fun _ _ => rfl⟩
      · rw [if_pos (by omega), if_neg (fun q => hn q.1)]
        exact ⟨m, rfl, fun A' hA => (by cases hA), fun _ _ => rfl⟩
  · have hng := h7 (by omega) (by omega)
    have key : ∀ v, v ≤ 2 → ∃ m1, z_go z_SH z_P (d + 1) 9 [.ref (24 + ng), .int (nI v)] m = some (0, 0, m1) ∧ q_CT (z_up m1 20 1 3) (3, ns, H, ng, q_sg G 0 ng v) ∧ ∀ a, (a < 20 ∨ 30 ≤ a) → z_up m1 20 1 3 a = m a := by
      intro v hv
      have hb5 := q_gb (h := 21) (n := ng) (k := 5) (Or.inr (Or.inr (Or.inl rfl))) hng (by decide) (by decide)
      have hb6 := q_gb (h := 21) (n := ng) (k := 6) (Or.inr (Or.inr (Or.inl rfl))) hng (by decide) (by decide)
      have hb5 : z_okp z_SH (24 + ng) 1 5 1 = true := hb5
      have hb6 : z_okp z_SH (24 + ng) 1 6 1 = true := hb6
      refine ⟨z_up (z_up (z_up (z_up m (24 + ng) 0 (nI v)) (24 + ng) 4 0) (24 + ng) 5 0) (24 + ng) 6 0, ?_, ?_, fun a ha => by rw [z_up_ne (by omega), z_up_ne (by omega), z_up_ne (by omega), z_up_ne (by omega), z_up_ne (by omega)]⟩
      · rw [c_X1_checkIn, q_g24 hng (by decide), z_g_t, q_g24 hng (by decide), z_g_t, hb5, show (true && z_isb 0) = true from by decide, z_g_t, hb6, show (true && z_isb 0) = true from by decide, z_g_t]
      · have fr : ∀ a, a ≠ 20 → a ≠ 24 + ng → z_up (z_up (z_up (z_up (z_up m (24 + ng) 0 (nI v)) (24 + ng) 4 0) (24 + ng) 5 0) (24 + ng) 6 0) 20 1 3 a = m a := fun a q1 q2 => by rw [z_up_ne q1, z_up_ne q2, z_up_ne q2, z_up_ne q2, z_up_ne q2]
        refine ⟨by rw [q_uq]; rfl, by rw [fr 21 (by decide) (by omega)]; exact e2, by rw [fr 21 (by decide) (by omega)]; exact e3, by rw [fr 21 (by decide) (by omega)]; exact e4, fun s hs => by rw [fr 22 (by decide) (by omega)]; exact e5 s hs, fun k hk => ((e6 k hk).sg (by omega)).of (fr _ (by omega) (by omega)), fun _ _ => ⟨fun f hf => ?_, ?_, ?_, ?_⟩⟩
        · obtain rfl : f = 0 := by omega
          rw [q_sg_e, q_ua (by omega), q_uk (by decide), q_uk (by decide), q_uk (by decide), q_uq]
        · rw [q_ua (by omega), q_uk (by decide), q_uk (by decide), q_uq]
        · rw [q_ua (by omega), q_uk (by decide), q_uq]
          decide
        · rw [q_ua (by omega), q_uq]
          decide
    rw [c_X8_goesOn, e1, if_neg (by decide), if_neg (by decide), if_pos rfl, c_X8_letter, e3, q_in hng (by decide), z_g_t, q_cl (by omega), q_g24c hng, if_neg (show ¬ (0 : Int32) = -9 by decide), if_neg (show ¬ (1 : Int32) = -9 by decide), if_neg (show ¬ (2 : Int32) = -9 by decide), if_pos (show (-9 : Int32) = -9 from rfl)]
    simp only [z_g_t, q_ts]
    by_cases c1 : c = 109
    · obtain ⟨m1, g1, g2, g3⟩ := key 0 (by omega)
      rw [if_pos c1, if_pos c1, show (0 : Int32) = nI 0 from rfl, g1]
      exact ⟨z_up m1 20 1 3, rfl, fun A' hA => by injection hA with hA; subst hA; exact g2, g3⟩
    rw [if_neg c1, if_neg c1]
    by_cases c2 : c = 99
    · obtain ⟨m1, g1, g2, g3⟩ := key 1 (by omega)
      rw [if_pos c2, if_pos c2, show (1 : Int32) = nI 1 from rfl, g1]
      exact ⟨z_up m1 20 1 3, rfl, fun A' hA => by injection hA with hA; subst hA; exact g2, g3⟩
    rw [if_neg c2, if_neg c2]
    by_cases c3 : c = 98
    · obtain ⟨m1, g1, g2, g3⟩ := key 2 (by omega)
      rw [if_pos c3, if_pos c3, show (2 : Int32) = nI 2 from rfl, g1]
      exact ⟨z_up m1 20 1 3, rfl, fun A' hA => by injection hA with hA; subst hA; exact g2, g3⟩
    rw [if_neg c3, if_neg c3]
    exact ⟨m, rfl, fun A' hA => (by cases hA), fun _ _ => rfl⟩
  · have hng := h7 (by omega) (by omega)
    have hg := e7 (by omega) (by omega)
    rw [c_X8_goesOn, e1, if_neg (by decide), if_neg (by decide), if_neg (by decide), if_pos rfl, c_X8_digitOfGuest, e3, q_in hng (by decide), z_g_t, q_cl (by omega), e1, if_neg (show ¬ nI 3 = (5 : Int32) by decide), if_pos (show nI 3 = (3 : Int32) from rfl), q_g24 hng (by decide), z_g_t, k_within]
    simp only [Option.bind_some, q_ts]
    rw [q_bb, z_g_t]
    simp only [Option.bind_some]
    rw [q_bb, z_g_t]
    have fr : ∀ a, a ≠ 20 → a ≠ 24 + ng → z_up (z_up m (24 + ng) 1 (c - 48)) 20 1 4 a = m a := fun a q1 q2 => by rw [z_up_ne q1, z_up_ne q2]
    refine ⟨z_up (z_up m (24 + ng) 1 (c - 48)) 20 1 4, ?_, fun A' hA => ?_, fun a ha => fr a (by omega) (by omega)⟩
    · by_cases hw : q_w 49 57 c = true
      · rw [if_pos hw, hw]
        rfl
      · rw [if_neg hw, Bool.eq_false_iff.mpr hw]
        rfl
    · by_cases hw : q_w 49 57 c = true
      · rw [if_pos hw] at hA
        injection hA with hA
        subst hA
        obtain ⟨d0, -, -, -⟩ := q_d19 hw
        rw [d0] at fr ⊢
        refine ⟨by rw [q_uq]; rfl, by rw [fr 21 (by decide) (by omega)]; exact e2, by rw [fr 21 (by decide) (by omega)]; exact e3, by rw [fr 21 (by decide) (by omega)]; exact e4, fun s hs => by rw [fr 22 (by decide) (by omega)]; exact e5 s hs, fun k hk => ((e6 k hk).sg (by omega)).of (fr _ (by omega) (by omega)), fun _ _ => ⟨fun f hf => ?_, by rw [q_ua (by omega), q_uk (by decide)]; exact hg.2.1, by rw [q_ua (by omega), q_uk (by decide)]; exact hg.2.2.1, by rw [q_ua (by omega), q_uk (by decide)]; exact hg.2.2.2⟩⟩
        by_cases hq : f = 1
        · subst hq
          rw [q_sg_e, q_ua (by omega), q_uq]
        · rw [q_sg_n G _ (by omega), q_ua (by omega), q_uk hq]
          exact hg.1 f (by omega)
      · rw [if_neg hw] at hA
        cases hA
  · have hng := h7 (by omega) (by omega)
    have hg := e7 (by omega) (by omega)
    rw [c_X8_goesOn, e1, if_neg (by decide), if_neg (by decide), if_neg (by decide), if_neg (by decide), if_pos rfl, c_X8_digitOfGuest, e3, q_in hng (by decide), z_g_t, q_cl (by omega), e1, if_neg (show ¬ nI 4 = (5 : Int32) by decide), if_neg (show ¬ nI 4 = (3 : Int32) by decide), q_g24 hng (by decide), z_g_t, k_within]
    simp only [Option.bind_some, q_ts]
    rw [q_bb, z_g_t]
    simp only [Option.bind_some]
    rw [q_bb, z_g_t]
    have fr : ∀ a, a ≠ 20 → a ≠ 24 + ng → z_up (z_up m (24 + ng) 2 (c - 48)) 20 1 5 a = m a := fun a q1 q2 => by rw [z_up_ne q1, z_up_ne q2]
    refine ⟨z_up (z_up m (24 + ng) 2 (c - 48)) 20 1 5, ?_, fun A' hA => ?_, fun a ha => fr a (by omega) (by omega)⟩
    · by_cases hw : q_w 49 57 c = true
      · rw [if_pos hw, hw]
        rfl
      · rw [if_neg hw, Bool.eq_false_iff.mpr hw]
        rfl
    · by_cases hw : q_w 49 57 c = true
      · rw [if_pos hw] at hA
        injection hA with hA
        subst hA
        obtain ⟨d0, -, -, -⟩ := q_d19 hw
        rw [d0] at fr ⊢
        refine ⟨by rw [q_uq]; rfl, by rw [fr 21 (by decide) (by omega)]; exact e2, by rw [fr 21 (by decide) (by omega)]; exact e3, by rw [fr 21 (by decide) (by omega)]; exact e4, fun s hs => by rw [fr 22 (by decide) (by omega)]; exact e5 s hs, fun k hk => ((e6 k hk).sg (by omega)).of (fr _ (by omega) (by omega)), fun _ _ => ⟨fun f hf => ?_, by rw [q_ua (by omega), q_uk (by decide)]; exact hg.2.1, by rw [q_ua (by omega), q_uk (by decide)]; exact hg.2.2.1, by rw [q_ua (by omega), q_uk (by decide)]; exact hg.2.2.2⟩⟩
        by_cases hq : f = 2
        · subst hq
          rw [q_sg_e, q_ua (by omega), q_uq]
        · rw [q_sg_n G _ (by omega), q_ua (by omega), q_uk hq]
          exact hg.1 f (by omega)
      · rw [if_neg hw] at hA
        cases hA
  · have hng := h7 (by omega) (by omega)
    have hg := e7 (by omega) (by omega)
    rw [c_X8_goesOn, e1, if_neg (by decide), if_neg (by decide), if_neg (by decide), if_neg (by decide), if_neg (by decide), if_pos rfl, c_X8_digitOfGuest, e3, q_in hng (by decide), z_g_t, q_cl (by omega), e1, if_pos (show nI 5 = (5 : Int32) from rfl), q_g24 hng (by decide), z_g_t, q_ua (show 21 ≠ 24 + ng by omega), e3, nI_1, k_within]
    simp only [Option.bind_some, q_ts]
    rw [q_bb, z_g_t]
    simp only [Option.bind_some]
    rw [q_bb, z_g_t]
    have fr : ∀ a, a ≠ 20 → a ≠ 21 → a ≠ 24 + ng → z_up (z_up (z_up m (24 + ng) 3 (c - 48)) 21 3 (nI (ng + 1))) 20 1 6 a = m a := fun a q1 q2 q3 => by rw [z_up_ne q1, z_up_ne q2, z_up_ne q3]
    refine ⟨z_up (z_up (z_up m (24 + ng) 3 (c - 48)) 21 3 (nI (ng + 1))) 20 1 6, ?_, fun A' hA => ?_, fun a ha => fr a (by omega) (by omega) (by omega)⟩
    · by_cases hw : q_w 48 53 c = true
      · rw [if_pos hw, hw]
        rfl
      · rw [if_neg hw, Bool.eq_false_iff.mpr hw]
        rfl
    · by_cases hw : q_w 48 53 c = true
      · rw [if_pos hw] at hA
        injection hA with hA
        subst hA
        obtain ⟨d0, -⟩ := q_d05 hw
        rw [d0] at fr ⊢
        refine ⟨by rw [q_uq]; rfl, by rw [q_ua (by decide), q_uk (by decide), q_ua (by omega)]; exact e2, by rw [q_ua (by decide), q_uq], by rw [q_ua (by decide), q_uk (by decide), q_ua (by omega)]; exact e4, fun s hs => by rw [fr 22 (by decide) (by decide) (by omega)]; exact e5 s hs, fun k hk => ?_, fun _ q => by omega⟩
        by_cases hq : k = ng
        · subst hq
          refine ⟨fun f hf => ?_, by rw [q_ua (by omega), q_ua (by omega), q_uk (by decide)]; exact hg.2.1, by rw [q_ua (by omega), q_ua (by omega), q_uk (by decide)]; exact hg.2.2.1, by rw [q_ua (by omega), q_ua (by omega), q_uk (by decide)]; exact hg.2.2.2⟩
          by_cases hf3 : f = 3
          · subst hf3
            rw [q_sg_e, q_ua (by omega), q_ua (by omega), q_uq]
          · rw [q_sg_n G _ (by omega), q_ua (by omega), q_ua (by omega), q_uk hf3]
            exact hg.1 f (by omega)
        · exact ((e6 k (by omega)).sg (by omega)).of (fr _ (by omega) (by omega) (by omega))
      · rw [if_neg hw] at hA
        cases hA
  · rw [c_X8_goesOn, e1, if_neg (by decide), if_neg (by decide), if_neg (by decide), if_neg (by decide), if_neg (by decide), if_neg (by decide), if_pos rfl, k_nxg (d + 1) h2 e3]
    simp only [Option.bind_some, q_ts]
    by_cases hc : c = 59
    · rw [if_pos hc, q_if]
      by_cases hn : ng < 6
      · rw [if_pos (by simpa using hn), if_pos ⟨hc, hn⟩]
        refine ⟨z_up m 20 1 2, rfl, fun A' hA => ?_, fun a ha => z_up_ne (by omega)⟩
        injection hA with hA
        subst hA
        exact ⟨by rw [q_uq]; rfl, by rw [q_ua (by decide)]; exact e2, by rw [q_ua (by decide)]; exact e3, by rw [q_ua (by decide)]; exact e4, fun s hs => by rw [q_ua (by decide)]; exact e5 s hs, fun k hk => (e6 k hk).of (z_up_ne (by omega)), fun q => by omega⟩
      · rw [if_neg (by simpa using hn), if_neg (fun q => hn q.2)]
        exact ⟨z_up m 20 1 2, rfl, fun A' hA => (by cases hA), fun a ha => z_up_ne (by omega)⟩
    · rw [if_neg hc, if_neg (fun q => hc q.1)]
      exact ⟨m, rfl, fun A' hA => (by cases hA), fun _ _ => rfl⟩
def q_tr (c : Nat → Int32) : Nat → Nat → q_TA → Nat ⊕ q_TA
  | 0, i, A => if A.1 = 6 then .inr A else .inl i
  | r + 1, i, A => match q_ts A (c i) with
    | none => .inl i
    | some A' => q_tr c r (i + 1) A'
theorem q_tr_n {c : Nat → Int32} {r i : Nat} {A : q_TA} (h : q_ts A (c i) = none) : q_tr c (r + 1) i A = .inl i := by simp only [q_tr, h]
theorem q_tr_s {c : Nat → Int32} {r i : Nat} {A A' : q_TA} (h : q_ts A (c i) = some A') : q_tr c (r + 1) i A = q_tr c r (i + 1) A' := by simp only [q_tr, h]
theorem q_tr_l {c : Nat → Int32} {p : Nat} : ∀ (r i : Nat) (A : q_TA), q_tr c r i A = .inl p → p ≤ i + r
  | 0, i, A, h => by
    simp only [q_tr] at h
    by_cases h6 : A.1 = 6
    · rw [if_pos h6] at h
      cases h
    · rw [if_neg h6] at h
      injection h with h
      omega
  | r + 1, i, A, h => by
    cases hs : q_ts A (c i) with
    | none =>
      rw [q_tr_n hs] at h
      injection h with h
      omega
    | some A' =>
      rw [q_tr_s hs] at h
      have := q_tr_l r (i + 1) A' h
      omega
theorem q_tr_r {c : Nat → Int32} {A' : q_TA} : ∀ (r i : Nat) (A : q_TA), q_okT A → q_tr c r i A = .inr A' → q_okT A' ∧ A'.1 = 6
  | 0, i, A, ho, h => by
    simp only [q_tr] at h
    by_cases h6 : A.1 = 6
    · rw [if_pos h6] at h
      injection h with h
      subst h
      exact ⟨ho, h6⟩
    · rw [if_neg h6] at h
      cases h
  | r + 1, i, A, ho, h => by
    cases hs : q_ts A (c i) with
    | none =>
      rw [q_tr_n hs] at h
      cases h
    | some A1 =>
      rw [q_tr_s hs] at h
      exact q_tr_r r (i + 1) A1 (q_ts_ok ho hs) h
theorem k_ff {k i0 n : Nat} (hk : k < 4) (hn : i0 + n ≤ 60) {c : Nat → Int32} (d : Nat) : ∀ (r F i : Nat) (A : q_TA) (m : z_M), i + r = n → q_okT A → q_CT m A → (∀ j, j < n → m (52 + 2 * k) (i0 + j) = c j) → ∃ m1, z_lp z_SH 0 (fun _ => 0) (z_go z_SH z_P (d + 3)) me_X8_firstFault (F + r + 1) 15 [some (.ref 20), some (.ref (51 + 2 * k)), some (.int (nI i0)), some (.int (nI n)), some (.int (nI i))] [] m = some ((q_tr c r i A).elim nI (fun _ => -9), 0, m1) ∧ (∀ A', q_tr c r i A = .inr A' → q_CT m1 A') ∧ ∀ a, (a < 20 ∨ 30 ≤ a) → m1 a = m a := by
  intro r
  induction r with
  | zero =>
    intro F i A m hi ho hC hc
    obtain ⟨p, ns, H, ng, G⟩ := A
    have hp : p ≤ 6 := ho.1
    rw [e_X8_firstFault_15, q_nI_le (by omega) (by omega), if_pos (by omega), hC.1, show (6 : Int32) = nI 6 from rfl, q_nI_if (by omega) (by decide)]
    refine ⟨m, ?_, fun A' hA => ?_, fun _ _ => rfl⟩
    · by_cases h6 : p = 6
      · rw [if_pos h6, show q_tr c 0 i (p, ns, H, ng, G) = .inr (p, ns, H, ng, G) from if_pos h6]
        rfl
      · rw [if_neg h6, show q_tr c 0 i (p, ns, H, ng, G) = .inl i from if_neg h6, show i = n by omega]
        rfl
    · by_cases h6 : p = 6
      · rw [show q_tr c 0 i (p, ns, H, ng, G) = .inr (p, ns, H, ng, G) from if_pos h6] at hA
        injection hA with hA
        subst hA
        exact hC
      · rw [show q_tr c 0 i (p, ns, H, ng, G) = .inl i from if_neg h6] at hA
        cases hA
  | succ r ih =>
    intro F i A m hi ho hC hc
    obtain ⟨m1, e1, g1, f1⟩ := k_go (c := c i) ho hC d
    rw [show F + (r + 1) + 1 = (F + r + 1) + 1 by omega, e_X8_firstFault_15, q_nI_le (by omega) (by omega), if_neg (by omega), (q_s hk).2.2.2.2.1]
    simp only [Option.bind_some]
    rw [nI_add, q_sa hk (by omega), z_g_t, q_cl (by omega), hc i (by omega), e1]
    simp only [Option.bind_some]
    rw [q_if, nI_1]
    cases hs : q_ts A (c i) with
    | none =>
      rw [q_tr_n hs, if_neg (show ¬ (none : Option q_TA).isSome = true by decide)]
      exact ⟨m1, rfl, fun A' hA => (by cases hA), f1⟩
    | some A' =>
      rw [q_tr_s hs, if_pos (show (some A').isSome = true from rfl)]
      obtain ⟨m2, e2, g2, f2⟩ := ih F (i + 1) A' m1 (by omega) (q_ts_ok ho hs) (g1 A' hs) (fun j hj => by rw [f1 _ (by omega)]; exact hc j hj)
      exact ⟨m2, e2, g2, fun a ha => (f2 a ha).trans (f1 a ha)⟩
def q_T0 : q_TA := (0, 0, fun _ => 0, 0, fun _ _ => 0)
theorem q_T0_ok : q_okT q_T0 := ⟨by decide, by decide, by decide, fun s hs => absurd hs (Nat.not_lt_zero s), fun k hk => absurd hk (Nat.not_lt_zero k), fun _ => rfl, fun q => absurd q (by decide), fun q => absurd q (by decide), fun q => absurd q (by decide), fun q => absurd q (by decide)⟩
theorem k_ff0 {k i0 n : Nat} (hk : k < 4) (hn : i0 + n ≤ 60) {c : Nat → Int32} (d : Nat) {m : z_M} (hc : ∀ j, j < n → m (52 + 2 * k) (i0 + j) = c j) : ∃ m1, z_go z_SH z_P (d + 4) 55 [.ref 20, .ref (51 + 2 * k), .int (nI i0), .int (nI n)] m = some ((q_tr c n 0 q_T0).elim nI (fun _ => -9), 0, m1) ∧ (∀ A', q_tr c n 0 q_T0 = .inr A' → q_CT m1 A') ∧ ∀ a, (a < 20 ∨ 30 ≤ a) → m1 a = m a := by
  have hCT : q_CT (z_up (z_up (z_up (z_up m 21 2 0) 21 3 0) 21 4 0) 20 1 0) q_T0 := ⟨by rw [q_uq]; rfl, by rw [q_ua (by decide), q_uk (by decide), q_uk (by decide), q_uq]; rfl, by rw [q_ua (by decide), q_uk (by decide), q_uq]; rfl, by rw [q_ua (by decide), q_uq], fun s hs => absurd hs (Nat.not_lt_zero s), fun k hk => absurd hk (Nat.not_lt_zero k), fun q => absurd q (by decide)⟩
  obtain ⟨m1, e1, g1, f1⟩ := k_ff hk hn (c := c) d n (199999 - n - 1) 0 q_T0 (z_up (z_up (z_up (z_up m 21 2 0) 21 3 0) 21 4 0) 20 1 0) (Nat.zero_add _) q_T0_ok hCT (fun j hj => by rw [z_up_ne (by omega), z_up_ne (by omega), z_up_ne (by omega), z_up_ne (by omega)]; exact hc j hj)
  rw [show 199999 - n - 1 + n + 1 = 199999 by omega] at e1
  refine ⟨m1, ?_, g1, fun a ha => by rw [f1 a ha, z_up_ne (by omega), z_up_ne (by omega), z_up_ne (by omega), z_up_ne (by omega)]⟩
  rw [c_X8_firstFault, c_X2_clear (d + 2) (Or.inr (Or.inr (Or.inl rfl)))]
  simp only [Option.bind_some]
  exact e1
