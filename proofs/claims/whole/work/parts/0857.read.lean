/-! One house becomes another -/
theorem k_hb1 {h o : Nat} (hh : z_isH h) (ho : z_isH o) (hd : h + 9 ≤ o ∨ o + 9 ≤ h) (C : Nat → List Value → z_M → Option z_R) : ∀ (n F i : Nat) (m : z_M), i + n = 5 → ∃ m1, z_lp z_SH 0 (fun _ => 0) C me_X2_become (F + n + 1) 26 [some (.ref h), some (.ref o), some (.int (nI i))] [] m = z_lp z_SH 0 (fun _ => 0) C me_X2_become F 51 [some (.ref h), some (.ref o), some (.int 0)] [] m1 ∧ (∀ s, i ≤ s → s < 5 → m1 (h + 1) s = m (o + 1) s) ∧ (∀ s, s < i → m1 (h + 1) s = m (h + 1) s) ∧ ∀ a, a ≠ h + 1 → m1 a = m a := by
  intro n
  induction n with
  | zero =>
    intro F i m hi
    refine ⟨m, ?_, fun s h1 h2 => by omega, fun _ _ => rfl, fun _ _ => rfl⟩
    rw [e_X2_become_26 _ _ _ _ hh ho, show (5 : Int32) = nI 5 from rfl, q_nI_le (by decide) (by omega), if_pos (by omega)]
  | succ n ih =>
    intro F i m hi
    obtain ⟨m1, e1, g1, g2, f1⟩ := ih F (i + 1) (z_up m (h + 1) i (m (o + 1) i)) (by omega)
    refine ⟨m1, ?_, fun s h1 h2 => ?_, fun s hs => ?_, fun a ha => (f1 a ha).trans (z_up_ne ha)⟩
    · rw [show F + (n + 1) + 1 = (F + n + 1) + 1 by omega, e_X2_become_26 _ _ _ _ hh ho, show (5 : Int32) = nI 5 from rfl, q_nI_le (by decide) (by omega), if_neg (by omega), q_in (show i < 5 by omega) (by decide), z_g_t, z_g_t, q_cl (by omega), nI_1]
      exact e1
    · by_cases hq : s = i
      · subst hq
        rw [g2 s (by omega), q_uq]
      · rw [g1 s (by omega) h2, q_ua (by omega)]
    · rw [g2 s (by omega), q_uk (by omega)]
theorem k_hb2 {h o : Nat} (hh : z_isH h) (ho : z_isH o) (hd : h + 9 ≤ o ∨ o + 9 ≤ h) (d : Nat) : ∀ (n F i : Nat) (m : z_M), i + n = 6 → ∃ m1, z_lp z_SH 0 (fun _ => 0) (z_go z_SH z_P (d + 1)) me_X2_become (F + n + 1) 51 [some (.ref h), some (.ref o), some (.int (nI i))] [] m = some (0, 0, m1) ∧ (∀ k, i ≤ k → k < 6 → (∀ f, f < 5 → m1 (h + 3 + k) f = m (o + 3 + k) f) ∧ z_b (m1 (h + 3 + k) 5) = z_b (m (o + 3 + k) 5) ∧ z_b (m1 (h + 3 + k) 6) = z_b (m (o + 3 + k) 6)) ∧ ∀ a, (a < h + 3 + i ∨ h + 9 ≤ a) → m1 a = m a := by
  intro n
  induction n with
  | zero =>
    intro F i m hi
    refine ⟨m, ?_, fun s h1 h2 => by omega, fun _ _ => rfl⟩
    rw [e_X2_become_51 _ _ _ _ hh ho, show (6 : Int32) = nI 6 from rfl, q_nI_le (by decide) (by omega), if_pos (by omega)]
  | succ n ih =>
    intro F i m hi
    have hi6 : i < 6 := by omega
    obtain ⟨m0, e0, b0, b1, b2, f0⟩ := k_become (g := h + 3 + i) (x := o + 3 + i) (fun q hq => q_g hh hi6 hq) ⟨q_gb hh hi6 (by decide) (by decide), q_gb hh hi6 (by decide) (by decide)⟩ (fun q hq => q_g ho hi6 hq) ⟨q_gb ho hi6 (by decide) (by decide), q_gb ho hi6 (by decide) (by decide)⟩ (by omega) d m
    obtain ⟨m1, e1, g1, f1⟩ := ih F (i + 1) m0 (by omega)
    refine ⟨m1, ?_, fun k h1 h2 => ?_, fun a ha => (f1 a (by omega)).trans (f0 a (by omega))⟩
    · rw [show F + (n + 1) + 1 = (F + n + 1) + 1 by omega, e_X2_become_51 _ _ _ _ hh ho, show (6 : Int32) = nI 6 from rfl, q_nI_le (by decide) (by omega), if_neg (by omega), q_in hi6 (by decide), z_g_t, z_g_t, q_cl (by omega), q_gc hh hi6, z_g_t, e0, nI_1]
      exact e1
    · by_cases hq : k = i
      · subst hq
        rw [f1 (h + 3 + k) (by omega)]
        exact ⟨b0, b1, b2⟩
      · rw [← f0 (o + 3 + k) (by omega)]
        exact g1 k (by omega) h2
theorem k_hbec {h o : Nat} (hh : z_isH h) (ho : z_isH o) (hd : h + 9 ≤ o ∨ o + 9 ≤ h) {S : q_St} (h5 : S.1.1 ≤ 5) (h6 : S.1.2 ≤ 6) (d : Nat) {m : z_M} (hC : q_CS m o S) : ∃ m1, z_go z_SH z_P (d + 2) 14 [.ref h, .ref o] m = some (0, 0, m1) ∧ q_CS m1 h S ∧ m1 h 4 = m o 4 ∧ ∀ a, (a < h ∨ h + 9 ≤ a) → m1 a = m a := by
  have hne : o ≠ h := by omega
  obtain ⟨m1, e1, g1, g2, f1⟩ := k_hb1 hh ho hd (z_go z_SH z_P (d + 1)) 5 (199999 - 6) 0 (z_up (z_up (z_up m h 2 (m o 2)) h 3 (m o 3)) h 4 (m o 4)) (by decide)
  obtain ⟨m2, e2, g3, f2⟩ := k_hb2 hh ho hd d 6 (199999 - 13) 0 m1 (by decide)
  have fo : ∀ a, a ≠ h → a ≠ h + 1 → m1 a = m a := fun a h1 h2 => by rw [f1 a h2, z_up_ne h1, z_up_ne h1, z_up_ne h1]
  refine ⟨m2, ?_, ⟨?_, ?_, fun s hs => ?_, fun k hk => ?_⟩, ?_, fun a ha => by rw [f2 a (by omega), fo a (by omega) (by omega)]⟩
  · rw [c_X2_become (d + 1) hh ho]
    simp only [z_up_ne hne]
    exact e1.trans e2
  · rw [f2 h (by omega), f1 h (by omega), q_uk (by decide), q_uk (by decide), q_uq]
    exact hC.1
  · rw [f2 h (by omega), f1 h (by omega), q_uk (by decide), q_uq]
    exact hC.2.1
  · rw [f2 (h + 1) (by omega), g1 s (by omega) (by omega), z_up_ne (by omega), z_up_ne (by omega), z_up_ne (by omega)]
    exact hC.2.2.1 s hs
  · obtain ⟨a, b, c⟩ := g3 k (by omega) (by omega)
    obtain ⟨a', b', c'⟩ := hC.2.2.2 k hk
    refine ⟨fun f hf => ?_, ?_, ?_⟩
    · rw [a f hf, fo _ (by omega) (by omega)]
      exact a' f hf
    · rw [b, fo _ (by omega) (by omega)]
      exact b'
    · rw [c, fo _ (by omega) (by omega)]
      exact c'
  · rw [f2 h (by omega), f1 h (by omega), q_uq]
/-! readings -/
def q_so (S : q_St) (Q : q_Rd) : Nat → Nat → Bool
  | 0, _ => true
  | n + 1, i => (decide (S.2.2.1 1 (Q.2.2.1 i) < q_wt S (Q.2.1 i) (Q.2.2.1 i)) == Q.2.2.2 i) && q_so S Q n (i + 1)
theorem k_allSo {S : q_St} {Q : q_Rd} (hok : q_okS S) (hR : q_okR S Q) {m : z_M} (hC : q_CS m 11 S) (hQ : q_CR m Q) (d : Nat) : ∀ (n F i : Nat), i + n = Q.1 → z_lp z_SH 0 (fun _ => 0) (z_go z_SH z_P (d + 2)) me_X3_allSo (F + n + 1) 2 [some (.ref 40), some (.ref 11), some (.int (nI i))] [] m = some (q_b (q_so S Q n i), 0, m) := by
  have h8 := hR.1
  intro n
  induction n with
  | zero =>
    intro F i hi
    rw [e_X3_allSo_2, hQ.1, q_nI_le (by omega) (by omega), if_pos (by omega)]
    rfl
  | succ n ih =>
    intro F i hi
    have hi8 : i < 8 := by omega
    obtain ⟨a, b, c⟩ := hQ.2 i (by omega)
    obtain ⟨a', b'⟩ := hR.2 i (by omega)
    rw [show F + (n + 1) + 1 = (F + n + 1) + 1 by omega, e_X3_allSo_2, hQ.1, q_nI_le (by omega) (by omega), if_neg (by omega), q_in hi8 (by decide), z_g_t, z_g_t, q_cl (by omega), a, b, k_shocks (Or.inr (Or.inl rfl)) hC hok a' b']
    simp only [Option.bind_some]
    rw [z_g_t, c, nI_1, ih F (i + 1) (by omega)]
    simp only [q_so]
    generalize decide (S.2.2.1 1 (Q.2.2.1 i) < q_wt S (Q.2.1 i) (Q.2.2.1 i)) = u
    generalize Q.2.2.2 i = v
    cases u <;> cases v <;> simp [q_b]
theorem k_allSo0 {S : q_St} {Q : q_Rd} (hok : q_okS S) (hR : q_okR S Q) {m : z_M} (hC : q_CS m 11 S) (hQ : q_CR m Q) (d : Nat) : z_go z_SH z_P (d + 3) 30 [.ref 40, .ref 11] m = some (q_b (q_so S Q Q.1 0), 0, m) := by
  have h8 := hR.1
  have := k_allSo hok hR hC hQ d Q.1 (199999 - Q.1 - 1) 0 (Nat.zero_add _)
  rw [show 199999 - Q.1 - 1 + Q.1 + 1 = 199999 by omega] at this
  rw [c_X3_allSo]
  exact this
theorem k_mareSo {S : q_St} {Q : q_Rd} (hok : q_okS S) (hR : q_okR S Q) {m : z_M} (hM : q_MS m S) (hQ : q_MR m Q) (d : Nat) : ∀ (n F i : Nat), i + n = Q.1 → z_lp z_SH 0 (fun _ => 0) (z_go z_SH z_P (d + 1)) me_X10_areSo (F + n + 1) 2 [some (.ref 59), some (.int (nI i)), none] [] m = some (q_b (q_so S Q n i), 0, m) := by
  have h8 := hR.1
  have h6 := hok.2.1
  intro n
  induction n with
  | zero =>
    intro F i hi
    rw [e_X10_areSo_2, hQ.1, q_nI_le (by omega) (by omega), if_pos (by omega)]
    rfl
  | succ n ih =>
    intro F i hi
    have hi8 : i < 8 := by omega
    obtain ⟨a, b, c⟩ := hQ.2 i (by omega)
    obtain ⟨a', b'⟩ := hR.2 i (by omega)
    have hw := q_wt_le hok a' (Q.2.2.1 i)
    have hb := hok.k1 b'
    rw [show F + (n + 1) + 1 = (F + n + 1) + 1 by omega, e_X10_areSo_2, hQ.1, q_nI_le (by omega) (by omega), if_neg (by omega), q_in hi8 (by decide), z_g_t, z_g_t, q_cl (by omega), a, b, k_mweigh hM hok a' b']
    simp only [Option.bind_some]
    rw [z_g_t, b, q_in (show Q.2.2.1 i < 6 by omega) (by decide), z_g_t, q_cl (by omega), hM.g1 b', q_nI_le (by omega) (by omega), z_g_t, z_g_t, c, nI_1, ih F (i + 1) (by omega)]
    simp only [q_so]
    by_cases hq : q_wt S (Q.2.1 i) (Q.2.2.1 i) ≤ S.2.2.1 1 (Q.2.2.1 i)
    · rw [if_pos hq]
      rw [show decide (S.2.2.1 1 (Q.2.2.1 i) < q_wt S (Q.2.1 i) (Q.2.2.1 i)) = false by simp; omega]
      generalize Q.2.2.2 i = v
      cases v <;> simp [q_b]
    · rw [if_neg hq]
      rw [show decide (S.2.2.1 1 (Q.2.2.1 i) < q_wt S (Q.2.1 i) (Q.2.2.1 i)) = true by simp; omega]
      generalize Q.2.2.2 i = v
      cases v <;> simp [q_b]
theorem k_mareSo0 {S : q_St} {Q : q_Rd} (hok : q_okS S) (hR : q_okR S Q) {m : z_M} (hM : q_MS m S) (hQ : q_MR m Q) (d : Nat) : z_go z_SH z_P (d + 2) 158 [.ref 59] m = some (q_b (q_so S Q Q.1 0), 0, m) := by
  have h8 := hR.1
  have := k_mareSo hok hR hM hQ d Q.1 (199999 - Q.1 - 1) 0 (Nat.zero_add _)
  rw [show 199999 - Q.1 - 1 + Q.1 + 1 = 199999 by omega] at this
  rw [c_X10_areSo]
  exact this
def q_acc (P : Nat → Bool) : Nat → Nat → Int32 → Int32
  | 0, _, y => y
  | n + 1, v, y => q_acc P n (v + 1) (if P v = true then y ||| ((1 : Int32) <<< (nI v &&& 31)) else y ||| 0)
theorem q_sG_sG (S : q_St) (f k u v : Nat) : q_sG (q_sG S f k u) f k v = q_sG S f k v := by
  unfold q_sG
  refine Prod.ext rfl (Prod.ext rfl (Prod.ext ?_ rfl))
  funext f' k'
  by_cases h : f' = f ∧ k' = k
  · simp [h]
  · simp [h]
theorem q_sG_id (S : q_St) (f k : Nat) : q_sG S f k (S.2.2.1 f k) = S := by
  unfold q_sG
  refine Prod.ext rfl (Prod.ext rfl (Prod.ext ?_ rfl))
  funext f' k'
  by_cases h : f' = f ∧ k' = k
  · simp [h]
  · simp [h]
def q_sH (S : q_St) (s v : Nat) : q_St := (S.1, (fun i => if i = s then v else S.2.1 i), S.2.2)
theorem q_sH_sH (S : q_St) (s u v : Nat) : q_sH (q_sH S s u) s v = q_sH S s v := by
  unfold q_sH
  refine Prod.ext rfl (Prod.ext ?_ rfl)
  funext i
  by_cases h : i = s
  · simp [h]
  · simp [h]
theorem q_sH_id (S : q_St) (s : Nat) : q_sH S s (S.2.1 s) = S := by
  unfold q_sH
  refine Prod.ext rfl (Prod.ext ?_ rfl)
  funext i
  by_cases h : i = s
  · simp [h]
  · simp [h]
theorem q_sH_C {m : z_M} {h : Nat} {S : q_St} (hC : q_CS m h S) {s : Nat} (v : Nat) : q_CS (z_up m (h + 1) s (nI v)) h (q_sH S s v) := by
  refine ⟨by rw [q_ua (by omega)]; exact hC.1, by rw [q_ua (by omega)]; exact hC.2.1, fun i hi => ?_, fun k hk => by rw [z_up_ne (by omega)]; exact hC.2.2.2 k hk⟩
  show _ = nI (if i = s then v else S.2.1 i)
  by_cases hq : i = s
  · subst hq
    rw [q_uq, if_pos rfl]
  · rw [q_uk hq, if_neg hq]
    exact hC.2.2.1 i hi
theorem q_sH_M {m : z_M} {S : q_St} (hM : q_MS m S) {s : Nat} (v : Nat) : q_MS (z_up m 63 s (nI v)) (q_sH S s v) := by
  refine ⟨by rw [q_ua (by omega)]; exact hM.1, by rw [q_ua (by omega)]; exact hM.2.1, fun i hi => ?_, fun j hj f' hf' => by rw [q_ua (by omega)]; exact hM.gd hj hf', by rw [q_ua (by omega)]; exact hM.2.2.2.2.1, by rw [q_ua (by omega)]; exact hM.2.2.2.2.2⟩
  show _ = nI (if i = s then v else S.2.1 i)
  by_cases hq : i = s
  · subst hq
    rw [q_uq, if_pos rfl]
  · rw [q_uk hq, if_neg hq]
    exact hM.2.2.1 i hi
theorem q_sH_ok {S : q_St} (h : q_okS S) {s v : Nat} (h1 : 1 ≤ v) (h9 : v ≤ 9) : q_okS (q_sH S s v) := by
  obtain ⟨a, b, c, d, e⟩ := h
  refine ⟨a, b, c, fun i hi => ?_, e⟩
  show 1 ≤ (if i = s then v else S.2.1 i) ∧ (if i = s then v else S.2.1 i) ≤ 9
  split
  · exact ⟨h1, h9⟩
  · exact d i hi
theorem q_sG1_ok {S : q_St} (h : q_okS S) {k v : Nat} (h1 : 1 ≤ v) (h9 : v ≤ 9) : q_okS (q_sG S 1 k v) := by
  obtain ⟨a, b, c, d, e⟩ := h
  refine ⟨a, b, c, d, fun j hj => ?_⟩
  obtain ⟨e0, e1, e2, e3, e4, e5⟩ := e j hj
  refine ⟨by simpa [q_sG] using e0, ?_, by simpa [q_sG] using e2, by simpa [q_sG] using e3, by simpa [q_sG] using e4, by simpa [q_sG] using e5⟩
  by_cases hq : j = k
  · simp [q_sG, hq]
    omega
  · simpa [q_sG, hq] using e1
theorem q_sG0_ok {S : q_St} (h : q_okS S) {k v : Nat} (h9 : v ≤ 2) : q_okS (q_sG S 0 k v) := by
  obtain ⟨a, b, c, d, e⟩ := h
  refine ⟨a, b, c, d, fun j hj => ?_⟩
  obtain ⟨e0, e1, e2, e3, e4, e5⟩ := e j hj
  refine ⟨?_, by simpa [q_sG] using e1, by simpa [q_sG] using e2, by simpa [q_sG] using e3, by simpa [q_sG] using e4, by simpa [q_sG] using e5⟩
  by_cases hq : j = k
  · simp [q_sG, hq]
    omega
  · simpa [q_sG, hq] using e0
/-! bearings -/
theorem k_cbearings {S : q_St} {Q : q_Rd} (hok : q_okS S) (hR : q_okR S Q) {k : Nat} (hk : k < S.1.2) (d : Nat) : ∀ (n F v : Nat) (y : Int32) (m : z_M) (u : Nat), v + n = 10 → 1 ≤ v → q_CS m 11 (q_sG S 1 k u) → q_CR m Q → ∃ m1, z_lp z_SH 0 (fun _ => 0) (z_go z_SH z_P (d + 3)) me_X9_bearings (F + n + 1) 25 [some (.ref 0), some (.int (nI k)), some (.int y), some (.int (nI v))] [] m = some (q_acc (fun v => q_so (q_sG S 1 k v) Q Q.1 0) n v y, 0, m1) ∧ ∀ a, (a < 11 ∨ 20 ≤ a) → m1 a = m a := by
  have h6 := hok.2.1
  have h5 := hok.1
  have hk6 : k < 6 := by omega
  intro n
  induction n with
  | zero =>
    intro F v y m u hv hl hC hQ
    refine ⟨m, ?_, fun _ _ => rfl⟩
    rw [e_X9_bearings_25, show (9 : Int32) = nI 9 from rfl, q_nI_lt (by decide) (by omega), if_pos (by omega)]
    rfl
  | succ n ih =>
    intro F v y m u hv hl hC hQ
    have hC1 : q_CS (z_up m (14 + k) 1 (nI v)) 11 (q_sG S 1 k v) := by
      have := q_sG_C hC v (f := 1) (k := k) (by decide)
      rw [q_sG_sG] at this
      exact this
    have hQ1 : q_CR (z_up m (14 + k) 1 (nI v)) Q := hQ.of (fun a h1 h2 => z_up_ne (by omega))
    obtain ⟨m1, e1, f1⟩ := ih F (v + 1) (if q_so (q_sG S 1 k v) Q Q.1 0 = true then y ||| ((1 : Int32) <<< (nI v &&& 31)) else y ||| 0) (z_up m (14 + k) 1 (nI v)) v (by omega) (by omega) hC1 hQ1
    refine ⟨m1, ?_, fun a ha => (f1 a ha).trans (z_up_ne (by omega))⟩
    rw [show F + (n + 1) + 1 = (F + n + 1) + 1 by omega, e_X9_bearings_25, show (9 : Int32) = nI 9 from rfl, q_nI_lt (by decide) (by omega), if_neg (by omega), q_in hk6 (by decide), z_g_t, q_cl (by omega), q_g14 hk6 (by decide), z_g_t, k_allSo0 (q_sG1_ok hok (by omega) (by omega)) hR hC1 hQ1]
    simp only [Option.bind_some]
    rw [q_if, nI_1]
    simp only [q_acc]
    by_cases hq : q_so (q_sG S 1 k v) Q Q.1 0 = true
    · rw [if_pos hq] at e1 ⊢
      rw [if_pos hq]
      exact e1
    · rw [if_neg hq] at e1 ⊢
      rw [if_neg hq]
      exact e1
theorem k_mbearings {S : q_St} {Q : q_Rd} (hok : q_okS S) (hR : q_okR S Q) {k : Nat} (hk : k < S.1.2) (d : Nat) : ∀ (n F v : Nat) (y : Int32) (m : z_M) (u : Nat), v + n = 10 → 1 ≤ v → q_MS m (q_sG S 1 k u) → q_MR m Q → ∃ m1, z_lp z_SH 0 (fun _ => 0) (z_go z_SH z_P (d + 2)) me_X10_bearings (F + n + 1) 22 [some (.ref 59), some (.int (nI k)), some (.int (nI (S.2.2.1 1 k))), some (.int y), some (.int (nI v))] [] m = some (q_acc (fun v => q_so (q_sG S 1 k v) Q Q.1 0) n v y, 0, m1) ∧ q_MS m1 S ∧ ∀ a, a ≠ 65 → m1 a = m a := by
  have h6 := hok.2.1
  have h5 := hok.1
  have hk6 : k < 6 := by omega
  intro n
  induction n with
  | zero =>
    intro F v y m u hv hl hM hQ
    refine ⟨z_up m 65 k (nI (S.2.2.1 1 k)), ?_, ?_, fun a ha => z_up_ne ha⟩
    · rw [e_X10_bearings_22, show (9 : Int32) = nI 9 from rfl, q_nI_lt (by decide) (by omega), if_pos (by omega), q_in hk6 (by decide), z_g_t, q_cl (by omega)]
      rfl
    · have := q_sG_M hM (S.2.2.1 1 k) (f := 1) (k := k) (by decide)
      rw [q_sG_sG, q_sG_id] at this
      exact this
  | succ n ih =>
    intro F v y m u hv hl hM hQ
    have hM1 : q_MS (z_up m 65 k (nI v)) (q_sG S 1 k v) := by
      have := q_sG_M hM v (f := 1) (k := k) (by decide)
      rw [q_sG_sG] at this
      exact this
    have hQ1 : q_MR (z_up m 65 k (nI v)) Q := hQ.of (q_ua (by decide)) (fun a h1 h2 => z_up_ne (by omega))
    obtain ⟨m1, e1, c1, f1⟩ := ih F (v + 1) (if q_so (q_sG S 1 k v) Q Q.1 0 = true then y ||| ((1 : Int32) <<< (nI v &&& 31)) else y ||| 0) (z_up m 65 k (nI v)) v (by omega) (by omega) hM1 hQ1
    refine ⟨m1, ?_, c1, fun a ha => (f1 a ha).trans (z_up_ne ha)⟩
    rw [show F + (n + 1) + 1 = (F + n + 1) + 1 by omega, e_X10_bearings_22, show (9 : Int32) = nI 9 from rfl, q_nI_lt (by decide) (by omega), if_neg (by omega), q_in hk6 (by decide), z_g_t, q_cl (by omega), k_mareSo0 (q_sG1_ok hok (by omega) (by omega)) hR hM1 hQ1]
    simp only [Option.bind_some]
    rw [q_if, nI_1]
    simp only [q_acc]
    by_cases hq : q_so (q_sG S 1 k v) Q Q.1 0 = true
    · rw [if_pos hq] at e1 ⊢
      rw [if_pos hq]
      exact e1
    · rw [if_neg hq] at e1 ⊢
      rw [if_neg hq]
      exact e1
/-! kinds -/
theorem k_ckinds {S : q_St} {Q : q_Rd} (hok : q_okS S) (hR : q_okR S Q) {k : Nat} (hk : k < S.1.2) (d : Nat) : ∀ (n F v : Nat) (y : Int32) (m : z_M) (u : Nat), v + n = 3 → 0 ≤ v → q_CS m 11 (q_sG S 0 k u) → q_CR m Q → ∃ m1, z_lp z_SH 0 (fun _ => 0) (z_go z_SH z_P (d + 3)) me_X9_kinds (F + n + 1) 25 [some (.ref 0), some (.int (nI k)), some (.int y), some (.int (nI v))] [] m = some (q_acc (fun v => q_so (q_sG S 0 k v) Q Q.1 0) n v y, 0, m1) ∧ ∀ a, (a < 11 ∨ 20 ≤ a) → m1 a = m a := by
  have h6 := hok.2.1
  have h5 := hok.1
  have hk6 : k < 6 := by omega
  intro n
  induction n with
  | zero =>
    intro F v y m u hv hl hC hQ
    refine ⟨m, ?_, fun _ _ => rfl⟩
    rw [e_X9_kinds_25, show (2 : Int32) = nI 2 from rfl, q_nI_lt (by decide) (by omega), if_pos (by omega)]
    rfl
  | succ n ih =>
    intro F v y m u hv hl hC hQ
    have hC1 : q_CS (z_up m (14 + k) 0 (nI v)) 11 (q_sG S 0 k v) := by
      have := q_sG_C hC v (f := 0) (k := k) (by decide)
      rw [q_sG_sG] at this
      exact this
    have hQ1 : q_CR (z_up m (14 + k) 0 (nI v)) Q := hQ.of (fun a h1 h2 => z_up_ne (by omega))
    obtain ⟨m1, e1, f1⟩ := ih F (v + 1) (if q_so (q_sG S 0 k v) Q Q.1 0 = true then y ||| ((1 : Int32) <<< (nI v &&& 31)) else y ||| 0) (z_up m (14 + k) 0 (nI v)) v (by omega) (by omega) hC1 hQ1
    refine ⟨m1, ?_, fun a ha => (f1 a ha).trans (z_up_ne (by omega))⟩
    rw [show F + (n + 1) + 1 = (F + n + 1) + 1 by omega, e_X9_kinds_25, show (2 : Int32) = nI 2 from rfl, q_nI_lt (by decide) (by omega), if_neg (by omega), q_in hk6 (by decide), z_g_t, q_cl (by omega), q_g14 hk6 (by decide), z_g_t, k_allSo0 (q_sG0_ok hok (by omega)) hR hC1 hQ1]
    simp only [Option.bind_some]
    rw [q_if, nI_1]
    simp only [q_acc]
    by_cases hq : q_so (q_sG S 0 k v) Q Q.1 0 = true
    · rw [if_pos hq] at e1 ⊢
      rw [if_pos hq]
      exact e1
    · rw [if_neg hq] at e1 ⊢
      rw [if_neg hq]
      exact e1
theorem k_mkinds {S : q_St} {Q : q_Rd} (hok : q_okS S) (hR : q_okR S Q) {k : Nat} (hk : k < S.1.2) (d : Nat) : ∀ (n F v : Nat) (y : Int32) (m : z_M) (u : Nat), v + n = 3 → 0 ≤ v → q_MS m (q_sG S 0 k u) → q_MR m Q → ∃ m1, z_lp z_SH 0 (fun _ => 0) (z_go z_SH z_P (d + 2)) me_X10_kinds (F + n + 1) 22 [some (.ref 59), some (.int (nI k)), some (.int (nI (S.2.2.1 0 k))), some (.int y), some (.int (nI v))] [] m = some (q_acc (fun v => q_so (q_sG S 0 k v) Q Q.1 0) n v y, 0, m1) ∧ q_MS m1 S ∧ ∀ a, a ≠ 64 → m1 a = m a := by
  have h6 := hok.2.1
  have h5 := hok.1
  have hk6 : k < 6 := by omega
  intro n
  induction n with
  | zero =>
    intro F v y m u hv hl hM hQ
    refine ⟨z_up m 64 k (nI (S.2.2.1 0 k)), ?_, ?_, fun a ha => z_up_ne ha⟩
    · rw [e_X10_kinds_22, show (3 : Int32) = nI 3 from rfl, q_nI_le (by decide) (by omega), if_pos (by omega), q_in hk6 (by decide), z_g_t, q_cl (by omega)]
      rfl
    · have := q_sG_M hM (S.2.2.1 0 k) (f := 0) (k := k) (by decide)
      rw [q_sG_sG, q_sG_id] at this
      exact this
  | succ n ih =>
    intro F v y m u hv hl hM hQ
    have hM1 : q_MS (z_up m 64 k (nI v)) (q_sG S 0 k v) := by
      have := q_sG_M hM v (f := 0) (k := k) (by decide)
      rw [q_sG_sG] at this
      exact this
    have hQ1 : q_MR (z_up m 64 k (nI v)) Q := hQ.of (q_ua (by decide)) (fun a h1 h2 => z_up_ne (by omega))
    obtain ⟨m1, e1, c1, f1⟩ := ih F (v + 1) (if q_so (q_sG S 0 k v) Q Q.1 0 = true then y ||| ((1 : Int32) <<< (nI v &&& 31)) else y ||| 0) (z_up m 64 k (nI v)) v (by omega) (by omega) hM1 hQ1
    refine ⟨m1, ?_, c1, fun a ha => (f1 a ha).trans (z_up_ne ha)⟩
    rw [show F + (n + 1) + 1 = (F + n + 1) + 1 by omega, e_X10_kinds_22, show (3 : Int32) = nI 3 from rfl, q_nI_le (by decide) (by omega), if_neg (by omega), q_in hk6 (by decide), z_g_t, q_cl (by omega), k_mareSo0 (q_sG0_ok hok (by omega)) hR hM1 hQ1]
    simp only [Option.bind_some]
    rw [q_if, nI_1]
    simp only [q_acc]
    by_cases hq : q_so (q_sG S 0 k v) Q Q.1 0 = true
    · rw [if_pos hq] at e1 ⊢
      rw [if_pos hq]
      exact e1
    · rw [if_neg hq] at e1 ⊢
      rw [if_neg hq]
      exact e1
/-! hintings -/
theorem k_chintings {S : q_St} {Q : q_Rd} (hok : q_okS S) (hR : q_okR S Q) {k : Nat} (hk : k < S.1.1) (d : Nat) : ∀ (n F v : Nat) (y : Int32) (m : z_M) (u : Nat), v + n = 10 → 1 ≤ v → q_CS m 11 (q_sH S k u) → q_CR m Q → ∃ m1, z_lp z_SH 0 (fun _ => 0) (z_go z_SH z_P (d + 3)) me_X9_hintings (F + n + 1) 25 [some (.ref 0), some (.int (nI k)), some (.int y), some (.int (nI v))] [] m = some (q_acc (fun v => q_so (q_sH S k v) Q Q.1 0) n v y, 0, m1) ∧ ∀ a, (a < 11 ∨ 20 ≤ a) → m1 a = m a := by
  have h6 := hok.2.1
  have h5 := hok.1
  have hk6 : k < 5 := by omega
  intro n
  induction n with
  | zero =>
    intro F v y m u hv hl hC hQ
    refine ⟨m, ?_, fun _ _ => rfl⟩
    rw [e_X9_hintings_25, show (9 : Int32) = nI 9 from rfl, q_nI_lt (by decide) (by omega), if_pos (by omega)]
    rfl
  | succ n ih =>
    intro F v y m u hv hl hC hQ
    have hC1 : q_CS (z_up m 12 k (nI v)) 11 (q_sH S k v) := by
      have := q_sH_C hC (s := k) v
      rw [q_sH_sH] at this
      exact this
    have hQ1 : q_CR (z_up m 12 k (nI v)) Q := hQ.of (fun a h1 h2 => z_up_ne (by omega))
    obtain ⟨m1, e1, f1⟩ := ih F (v + 1) (if q_so (q_sH S k v) Q Q.1 0 = true then y ||| ((1 : Int32) <<< (nI v &&& 31)) else y ||| 0) (z_up m 12 k (nI v)) v (by omega) (by omega) hC1 hQ1
    refine ⟨m1, ?_, fun a ha => (f1 a ha).trans (z_up_ne (by omega))⟩
    rw [show F + (n + 1) + 1 = (F + n + 1) + 1 by omega, e_X9_hintings_25, show (9 : Int32) = nI 9 from rfl, q_nI_lt (by decide) (by omega), if_neg (by omega), q_in hk6 (by decide), z_g_t, q_cl (by omega), k_allSo0 (q_sH_ok hok (by omega) (by omega)) hR hC1 hQ1]
    simp only [Option.bind_some]
    rw [q_if, nI_1]
    simp only [q_acc]
    by_cases hq : q_so (q_sH S k v) Q Q.1 0 = true
    · rw [if_pos hq] at e1 ⊢
      rw [if_pos hq]
      exact e1
    · rw [if_neg hq] at e1 ⊢
      rw [if_neg hq]
      exact e1
theorem k_mhintings {S : q_St} {Q : q_Rd} (hok : q_okS S) (hR : q_okR S Q) {k : Nat} (hk : k < S.1.1) (d : Nat) : ∀ (n F v : Nat) (y : Int32) (m : z_M) (u : Nat), v + n = 10 → 1 ≤ v → q_MS m (q_sH S k u) → q_MR m Q → ∃ m1, z_lp z_SH 0 (fun _ => 0) (z_go z_SH z_P (d + 2)) me_X10_hintings (F + n + 1) 22 [some (.ref 59), some (.int (nI k)), some (.int (nI (S.2.1 k))), some (.int y), some (.int (nI v))] [] m = some (q_acc (fun v => q_so (q_sH S k v) Q Q.1 0) n v y, 0, m1) ∧ q_MS m1 S ∧ ∀ a, a ≠ 63 → m1 a = m a := by
  have h6 := hok.2.1
  have h5 := hok.1
  have hk6 : k < 5 := by omega
  intro n
  induction n with
  | zero =>
    intro F v y m u hv hl hM hQ
    refine ⟨z_up m 63 k (nI (S.2.1 k)), ?_, ?_, fun a ha => z_up_ne ha⟩
    · rw [e_X10_hintings_22, show (9 : Int32) = nI 9 from rfl, q_nI_lt (by decide) (by omega), if_pos (by omega), q_in hk6 (by decide), z_g_t, q_cl (by omega)]
      rfl
    · have := q_sH_M hM (s := k) (S.2.1 k)
      rw [q_sH_sH, q_sH_id] at this
      exact this
  | succ n ih =>
    intro F v y m u hv hl hM hQ
    have hM1 : q_MS (z_up m 63 k (nI v)) (q_sH S k v) := by
      have := q_sH_M hM (s := k) v
      rw [q_sH_sH] at this
      exact this
    have hQ1 : q_MR (z_up m 63 k (nI v)) Q := hQ.of (q_ua (by decide)) (fun a h1 h2 => z_up_ne (by omega))
    obtain ⟨m1, e1, c1, f1⟩ := ih F (v + 1) (if q_so (q_sH S k v) Q Q.1 0 = true then y ||| ((1 : Int32) <<< (nI v &&& 31)) else y ||| 0) (z_up m 63 k (nI v)) v (by omega) (by omega) hM1 hQ1
    refine ⟨m1, ?_, c1, fun a ha => (f1 a ha).trans (z_up_ne ha)⟩
    rw [show F + (n + 1) + 1 = (F + n + 1) + 1 by omega, e_X10_hintings_22, show (9 : Int32) = nI 9 from rfl, q_nI_lt (by decide) (by omega), if_neg (by omega), q_in hk6 (by decide), z_g_t, q_cl (by omega), k_mareSo0 (q_sH_ok hok (by omega) (by omega)) hR hM1 hQ1]
    simp only [Option.bind_some]
    rw [q_if, nI_1]
    simp only [q_acc]
    by_cases hq : q_so (q_sH S k v) Q Q.1 0 = true
    · rw [if_pos hq] at e1 ⊢
      rw [if_pos hq]
      exact e1
    · rw [if_neg hq] at e1 ⊢
      rw [if_neg hq]
      exact e1
