/-! the reference's reading: a guest, an hotel -/
theorem q_tr_0 {c : Nat → Int32} {i : Nat} {A : q_TA} (h : A.1 ≠ 6) : q_tr c 0 i A = .inl i := if_neg h
theorem q_ts_q {q : Nat} (h1 : 1 ≤ q) (h3 : q ≤ 3) (ns : Nat) (H : Nat → Nat) (ng : Nat) (G : Nat → Nat → Nat) (c : Int32) : q_ts (q + 2, ns, H, ng, G) c = if q_w (if q = 3 then 48 else 49) (if q = 3 then 53 else 57) c = true then some (q + 1 + 2, ns, H, (if q + 1 = 4 then ng + 1 else ng), q_sg G q ng (q_cd c)) else none := by
  rcases (show q = 1 ∨ q = 2 ∨ q = 3 by omega) with rfl | rfl | rfl <;> rfl
theorem k_mgl {b n ns ng : Nat} {H : Nat → Nat} (hb : b + n ≤ 240) (hng : ng < 6) {c : Nat → Int32} (d : Nat) : ∀ (j F q : Nat) (G : Nat → Nat → Nat) (i r : Nat) (m : z_M), q + j = 4 → 1 ≤ q → i + r = n → q_okT (q + 2, ns, H, (if q = 4 then ng + 1 else ng), G) → q_cel b n c m → m 59 16 = nI (b + i) → q_MT m ns H ng G → (∀ f, f < q → m 70 (4 * ng + f) = nI (G f ng)) → (∃ p m1, q_tr c r i (q + 2, ns, H, (if q = 4 then ng + 1 else ng), G) = .inl p ∧ z_lp z_SH 0 (fun _ => 0) (z_go z_SH z_P (d + 2)) me_X10_readGuest (F + j + 1) 93 [some (.ref 59), some (.int (nI (b + n))), none, some (.int (nI (4 * ng))), some (.int (nI q))] [] m = some (0, 0, m1) ∧ m1 59 16 = nI (b + p) ∧ q_fh m m1) ∨ (∃ G' i' r' m1, i' + r' = n ∧ q_tr c r i (q + 2, ns, H, (if q = 4 then ng + 1 else ng), G) = q_tr c r' i' (6, ns, H, ng + 1, G') ∧ q_okT (6, ns, H, ng + 1, G') ∧ z_lp z_SH 0 (fun _ => 0) (z_go z_SH z_P (d + 2)) me_X10_readGuest (F + j + 1) 93 [some (.ref 59), some (.int (nI (b + n))), none, some (.int (nI (4 * ng))), some (.int (nI q))] [] m = some (1, 0, m1) ∧ m1 59 16 = nI (b + i') ∧ q_MT m1 ns H (ng + 1) G' ∧ q_fh m m1) := by
  intro j
  induction j with
  | zero =>
    intro F q G i r m hj h1 hi ho hc h16 hM hf
    obtain rfl : q = 4 := by omega
    rw [if_pos rfl] at ho ⊢
    refine Or.inr ⟨G, i, r, z_up m 59 18 (nI (ng + 1)), hi, rfl, ho, ?_, by rw [q_uk (by decide)]; exact h16, ⟨by rw [q_uk (by decide)]; exact hM.1, by rw [q_uq], fun s hs => by rw [q_ua (by decide)]; exact hM.2.2.1 s hs, fun k hk f hf4 => ?_⟩, q_fh.u59 m (Or.inr (Or.inr rfl)) _⟩
    · rw [e_X10_readGuest_93, if_pos (show (4 : Int32) ≤ nI 4 by decide), hM.2.1, nI_1]
    · rw [q_ua (by decide)]
      by_cases hk' : k = ng
      · subst hk'
        exact hf f hf4
      · exact hM.2.2.2 k (by omega) f hf4
  | succ j ih =>
    intro F q G i r m hj h1 hi ho hc h16 hM hf
    have hq4 : (if q = 4 then ng + 1 else ng) = ng := if_neg (by omega)
    have hts := q_ts_q h1 (show q ≤ 3 by omega) ns H ng G (c i)
    rw [hq4] at ho ⊢
    rw [show F + (j + 1) + 1 = (F + j + 1) + 1 by omega, k_mg93 hb hng h1 (by omega) (by omega) hc h16]
    by_cases hd : i < n ∧ q_w (if q = 3 then 48 else 49) (if q = 3 then 53 else 57) (c i) = true
    · obtain ⟨r, rfl⟩ : ∃ r', r = r' + 1 := ⟨r - 1, by omega⟩
      rw [if_pos hd.2] at hts
      rw [if_pos hd, q_tr_s hts]
      have f0 : q_fh m (z_up (z_up m 59 16 (nI (b + (i + 1)))) 70 (4 * ng + q) (nI (q_cd (c i)))) := (q_fh.u59 m (Or.inl rfl) _).tr (q_fh.ua _ (Or.inr rfl) _)
      have hM' : q_MT (z_up (z_up m 59 16 (nI (b + (i + 1)))) 70 (4 * ng + q) (nI (q_cd (c i)))) ns H ng (q_sg G q ng (q_cd (c i))) := ⟨by rw [q_ua (by decide), q_uk (by decide)]; exact hM.1, by rw [q_ua (by decide), q_uk (by decide)]; exact hM.2.1, fun s hs => by rw [q_ua (by decide), q_ua (by decide)]; exact hM.2.2.1 s hs, fun k hk f hf4 => by rw [q_uk (by omega), q_ua (by decide), q_sg_n G _ (by omega)]; exact hM.2.2.2 k hk f hf4⟩
      have hf' : ∀ f, f < q + 1 → z_up (z_up m 59 16 (nI (b + (i + 1)))) 70 (4 * ng + q) (nI (q_cd (c i))) 70 (4 * ng + f) = nI (q_sg G q ng (q_cd (c i)) f ng) := by
        intro f hfq
        by_cases e : f = q
        · subst e
          rw [q_uq, q_sg_e]
        · rw [q_uk (by omega), q_ua (by decide), q_sg_n G _ (by omega)]
          exact hf f (by omega)
      rcases ih F (q + 1) (q_sg G q ng (q_cd (c i))) (i + 1) r _ (by omega) (by omega) (by omega) (q_ts_ok ho hts) (hc.of f0) (by rw [q_ua (by decide), q_uq]) hM' hf' with ⟨p, m1, g1, g2, g3, g4⟩ | ⟨G', i', r', m1, g1, g2, g3, g4, g5, g6, g7⟩
      · exact Or.inl ⟨p, m1, g1, g2, g3, f0.tr g4⟩
      · exact Or.inr ⟨G', i', r', m1, g1, g2, g3, g4, g5, g6, f0.tr g7⟩
    · rw [if_neg hd]
      refine Or.inl ⟨i, z_up m 70 (4 * ng + q) (-9), ?_, rfl, by rw [q_ua (by decide)]; exact h16, q_fh.ua m (Or.inr rfl) _⟩
      rcases r with _ | r
      · exact q_tr_0 (show q + 2 ≠ 6 by omega)
      · rw [if_neg (fun w => hd ⟨by omega, w⟩)] at hts
        exact q_tr_n hts
theorem k_mrg {b n ns ng : Nat} {H : Nat → Nat} (hb : b + n ≤ 240) (hng : ng < 6) {c : Nat → Int32} (d : Nat) (G : Nat → Nat → Nat) (i r : Nat) (m : z_M) (hi : i + r = n) (ho : q_okT (2, ns, H, ng, G)) (hc : q_cel b n c m) (h16 : m 59 16 = nI (b + i)) (hM : q_MT m ns H ng G) : (∃ p m1, q_tr c r i (2, ns, H, ng, G) = .inl p ∧ z_go z_SH z_P (d + 3) 123 [.ref 59, .int (nI (b + n))] m = some (0, 0, m1) ∧ m1 59 16 = nI (b + p) ∧ q_fh m m1) ∨ (∃ G' i' r' m1, i' + r' = n ∧ q_tr c r i (2, ns, H, ng, G) = q_tr c r' i' (6, ns, H, ng + 1, G') ∧ q_okT (6, ns, H, ng + 1, G') ∧ z_go z_SH z_P (d + 3) 123 [.ref 59, .int (nI (b + n))] m = some (1, 0, m1) ∧ m1 59 16 = nI (b + i') ∧ q_MT m1 ns H (ng + 1) G' ∧ q_fh m m1) := by
  have e4 : (4 : Int32) * nI ng = nI (4 * ng) := by rw [show (4 : Int32) = nI 4 from rfl, pk_mul]
  have h24 : z_in 24 (nI (4 * ng)) = true := q_in (by omega) (by decide)
  have c4 : (nI (4 * ng)).toNatClampNeg = 4 * ng := q_cl (by omega)
  rw [c_X10_readGuest, h16, q_nI_le (by omega) (by omega), hM.2.1, e4, c4, h24]
  simp only [z_g_t]
  by_cases hin : i < n
  · obtain ⟨r, rfl⟩ : ∃ r', r = r' + 1 := ⟨r - 1, by omega⟩
    have key : ∀ v, v ≤ 2 → q_ts (2, ns, H, ng, G) (c i) = some (3, ns, H, ng, q_sg G 0 ng v) → (∃ p m1, q_tr c (r + 1) i (2, ns, H, ng, G) = .inl p ∧ z_lp z_SH 0 (fun _ => 0) (z_go z_SH z_P (d + 2)) me_X10_readGuest 199999 93 [some (.ref 59), some (.int (nI (b + n))), none, some (.int (nI (4 * ng))), some (.int 1)] [] (z_up (z_up m 70 (4 * ng) (nI v)) 59 16 (nI (b + i) + 1)) = some (0, 0, m1) ∧ m1 59 16 = nI (b + p) ∧ q_fh m m1) ∨ (∃ G' i' r' m1, i' + r' = n ∧ q_tr c (r + 1) i (2, ns, H, ng, G) = q_tr c r' i' (6, ns, H, ng + 1, G') ∧ q_okT (6, ns, H, ng + 1, G') ∧ z_lp z_SH 0 (fun _ => 0) (z_go z_SH z_P (d + 2)) me_X10_readGuest 199999 93 [some (.ref 59), some (.int (nI (b + n))), none, some (.int (nI (4 * ng))), some (.int 1)] [] (z_up (z_up m 70 (4 * ng) (nI v)) 59 16 (nI (b + i) + 1)) = some (1, 0, m1) ∧ m1 59 16 = nI (b + i') ∧ q_MT m1 ns H (ng + 1) G' ∧ q_fh m m1) := by
      intro v hv hts
      have f0 : q_fh m (z_up (z_up m 70 (4 * ng) (nI v)) 59 16 (nI (b + (i + 1)))) := (q_fh.ua m (Or.inr rfl) _).tr (q_fh.u59 _ (Or.inl rfl) _)
      have hM' : q_MT (z_up (z_up m 70 (4 * ng) (nI v)) 59 16 (nI (b + (i + 1)))) ns H ng (q_sg G 0 ng v) := ⟨by rw [q_uk (by decide), q_ua (by decide)]; exact hM.1, by rw [q_uk (by decide), q_ua (by decide)]; exact hM.2.1, fun s hs => by rw [q_ua (by decide), q_ua (by decide)]; exact hM.2.2.1 s hs, fun k hk f hf4 => by rw [q_ua (by decide), q_uk (by omega), q_sg_n G _ (by omega)]; exact hM.2.2.2 k hk f hf4⟩
      rw [q_tr_s hts, nI_1, Nat.add_assoc b i 1]
      rcases k_mgl hb hng d 3 199995 1 (q_sg G 0 ng v) (i + 1) r (z_up (z_up m 70 (4 * ng) (nI v)) 59 16 (nI (b + (i + 1)))) (by decide) (by decide) (by omega) (q_ts_ok ho hts) (hc.of f0) (by rw [q_uq]) hM' (fun f hf => by
        obtain rfl : f = 0 := by omega
        rw [q_ua (by decide), q_sg_e]
        exact q_uq _ _ _ _) with ⟨p, m1, g1, g2, g3, g4⟩ | ⟨G', i', r', m1, g1, g2, g3, g4, g5, g6, g7⟩
      · exact Or.inl ⟨p, m1, g1, g2, g3, f0.tr g4⟩
      · exact Or.inr ⟨G', i', r', m1, g1, g2, g3, g4, g5, g6, f0.tr g7⟩
    rw [if_neg (by omega), q_in (show b + i < 240 by omega) (by decide), z_g_t, q_cl (by omega), hc i hin]
    by_cases c1 : c i = 109
    · rw [if_pos c1, q_uq, if_neg (show ¬ (0 : Int32) = -9 by decide), q_ua (show (59 : Nat) ≠ 70 by decide), h16]
      exact key 0 (by decide) (by simp only [q_ts]; rw [if_pos c1])
    rw [if_neg c1]
    by_cases c2 : c i = 99
    · rw [if_pos c2, q_uq, if_neg (show ¬ (1 : Int32) = -9 by decide), q_ua (show (59 : Nat) ≠ 70 by decide), h16]
      exact key 1 (by decide) (by simp only [q_ts]; rw [if_neg c1, if_pos c2])
    rw [if_neg c2]
    by_cases c3 : c i = 98
    · rw [if_pos c3, q_uq, if_neg (show ¬ (2 : Int32) = -9 by decide), q_ua (show (59 : Nat) ≠ 70 by decide), h16]
      exact key 2 (by decide) (by simp only [q_ts]; rw [if_neg c1, if_neg c2, if_pos c3])
    rw [if_neg c3, q_uq, if_pos rfl]
    exact Or.inl ⟨i, z_up m 70 (4 * ng) (-9), q_tr_n (by simp only [q_ts]; rw [if_neg c1, if_neg c2, if_neg c3]), rfl, by rw [q_ua (by decide)]; exact h16, q_fh.ua m (Or.inr rfl) _⟩
  · obtain rfl : r = 0 := by omega
    rw [if_pos (by omega), if_neg (show ¬ (0 : Int32) = 109 by decide), if_neg (show ¬ (0 : Int32) = 99 by decide), if_neg (show ¬ (0 : Int32) = 98 by decide), q_uq, if_pos rfl]
    exact Or.inl ⟨i, z_up m 70 (4 * ng) (-9), q_tr_0 (show (2 : Nat) ≠ 6 by decide), rfl, by rw [q_ua (by decide)]; exact h16, q_fh.ua m (Or.inr rfl) _⟩
theorem q_bnz {x : Option z_R} {v : Int32} {l : Int64} {m1 : z_M} (h : x = some (v, l, m1)) (hv : ¬ v = 0) (f g : z_R → Option z_R) : Option.bind x (fun r => if r.1 = 0 then f r else g r) = g (v, l, m1) := by
  subst h
  exact if_neg hv
def q_res (b : Nat) (R : Nat ⊕ q_TA) (m m1 : z_M) : Prop := (∀ p, R = .inl p → m1 59 16 = nI (b + p)) ∧ (∀ A, R = .inr A → q_MT m1 A.2.1 A.2.2.1 A.2.2.2.1 A.2.2.2.2) ∧ q_fh m m1
def q_rb (R : Nat ⊕ q_TA) : Bool := R.elim (fun _ => false) (fun _ => true)
theorem k_mrh6 {b n ns : Nat} {H : Nat → Nat} (hb : b + n ≤ 240) {c : Nat → Int32} (d : Nat) : ∀ (j F ng : Nat) (G : Nat → Nat → Nat) (i r : Nat) (m : z_M), ng + j = 6 → 0 < ng → i + r = n → q_okT (6, ns, H, ng, G) → q_cel b n c m → m 59 16 = nI (b + i) → q_MT m ns H ng G → ∃ m1, z_lp z_SH 0 (fun _ => 0) (z_go z_SH z_P (d + 3)) me_X10_readHotel (F + j + 1) 25 [some (.ref 59), some (.int (nI (b + n)))] [] m = some (q_b (q_rb (q_tr c r i (6, ns, H, ng, G))), 0, m1) ∧ q_res b (q_tr c r i (6, ns, H, ng, G)) m m1 := by
  intro j
  induction j with
  | zero =>
    intro F ng G i r m hj h0 hi ho hc h16 hM
    obtain rfl : ng = 6 := by omega
    refine ⟨m, ?_⟩
    rw [e_X10_readHotel_25, hM.2.1, if_neg (show ¬ nI 6 = (0 : Int32) by decide), if_pos (show (6 : Int32) ≤ nI 6 by decide), h16, q_nI_if (by omega) (by omega)]
    rcases r with _ | r
    · rw [if_pos (by omega), show q_tr c 0 i (6, ns, H, 6, G) = .inr (6, ns, H, 6, G) from if_pos rfl]
      exact ⟨rfl, fun p hp => (by cases hp), fun A hA => by injection hA with hA; subst hA; exact hM, q_fh.rf m⟩
    · rw [if_neg (by omega), q_tr_n (show q_ts (6, ns, H, 6, G) (c i) = none from if_neg (by omega))]
      exact ⟨rfl, fun p hp => by injection hp with hp; subst hp; exact h16, fun A hA => (by cases hA), q_fh.rf m⟩
  | succ j ih =>
    intro F ng G i r m hj h0 hi ho hc h16 hM
    rw [show F + (j + 1) + 1 = (F + j + 1) + 1 by omega, e_X10_readHotel_25, hM.2.1, if_neg (fun w => by have := (nI_eq (a := ng) (b := 0) (by omega) (by decide)).mp w; omega), show (6 : Int32) = nI 6 from rfl, q_nI_le (by decide) (by omega), if_neg (by omega), h16, q_nI_le (by omega) (by omega), q_nI_if (by omega) (by omega)]
    rcases r with _ | r
    · rw [if_pos (by omega), if_pos (by omega), show q_tr c 0 i (6, ns, H, ng, G) = .inr (6, ns, H, ng, G) from if_pos rfl]
      exact ⟨m, rfl, fun p hp => (by cases hp), fun A hA => by injection hA with hA; subst hA; exact hM, q_fh.rf m⟩
    · rw [if_neg (by omega), k_misg hb (by omega) hc h16]
      by_cases hx : c i = 59
      · have hts : q_ts (6, ns, H, ng, G) (c i) = some (2, ns, H, ng, G) := if_pos ⟨hx, by omega⟩
        have f0 : q_fh m (z_up m 59 16 (nI (b + (i + 1)))) := q_fh.u59 m (Or.inl rfl) _
        rw [if_pos ⟨by omega, hx⟩, q_tr_s hts]
        simp only [Option.bind_some]
        rw [if_neg (show ¬ (1 : Int32) = 0 by decide)]
        rcases k_mrg hb (show ng < 6 by omega) d G (i + 1) r (z_up m 59 16 (nI (b + (i + 1)))) (by omega) (q_ts_ok ho hts) (hc.of f0) (by rw [q_uq]) ⟨by rw [q_uk (by decide)]; exact hM.1, by rw [q_uk (by decide)]; exact hM.2.1, fun s hs => by rw [q_ua (by decide)]; exact hM.2.2.1 s hs, fun k hk f hf => by rw [q_ua (by decide)]; exact hM.2.2.2 k hk f hf⟩ with ⟨p, m1, g1, g2, g3, g4⟩ | ⟨G', i', r', m1, g1, g2, g3, g4, g5, g6, g7⟩
        · rw [g1, g2]
          simp only [Option.bind_some]
          rw [if_pos trivial]
          exact ⟨m1, rfl, fun p' hp => by injection hp with hp; subst hp; exact g3, fun A hA => (by cases hA), f0.tr g4⟩
        · rw [g2, q_bnz g4 (by decide)]
          obtain ⟨m2, k1, k2, k3, k4⟩ := ih F (ng + 1) G' i' r' m1 (by omega) (by omega) g1 g3 ((hc.of f0).of g7) g5 g6
          exact ⟨m2, k1, k2, k3, (f0.tr g7).tr k4⟩
      · rw [if_neg (fun w => hx w.2), q_tr_n (show q_ts (6, ns, H, ng, G) (c i) = none from if_neg (fun w => hx w.1))]
        simp only [Option.bind_some]
        rw [if_pos trivial]
        exact ⟨m, rfl, fun p hp => by injection hp with hp; subst hp; exact h16, fun A hA => (by cases hA), q_fh.rf m⟩
theorem k_mrh1 {b n ns : Nat} {H : Nat → Nat} (hb : b + n ≤ 240) {c : Nat → Int32} (d F : Nat) (G : Nat → Nat → Nat) (i r : Nat) (m : z_M) (hn : 0 < ns) (hi : i + r = n) (ho : q_okT (1, ns, H, 0, G)) (hc : q_cel b n c m) (h16 : m 59 16 = nI (b + i)) (hM : q_MT m ns H 0 G) (hd : r = 0 ∨ ¬ (ns < 5 ∧ q_w 49 57 (c i) = true)) : ∃ m1, z_lp z_SH 0 (fun _ => 0) (z_go z_SH z_P (d + 3)) me_X10_readHotel (F + 7) 25 [some (.ref 59), some (.int (nI (b + n)))] [] m = some (q_b (q_rb (q_tr c r i (1, ns, H, 0, G))), 0, m1) ∧ q_res b (q_tr c r i (1, ns, H, 0, G)) m m1 := by
  rw [e_X10_readHotel_25, hM.2.1, if_pos (show nI 0 = (0 : Int32) from rfl), k_misg hb (by omega) hc h16]
  by_cases hx : i < n ∧ c i = 59
  · obtain ⟨r, rfl⟩ : ∃ r', r = r' + 1 := ⟨r - 1, by omega⟩
    have hts : q_ts (1, ns, H, 0, G) (c i) = some (2, ns, H, 0, G) := by
      simp only [q_ts]
      rw [if_pos hx.2, if_pos hn]
    have f0 : q_fh m (z_up m 59 16 (nI (b + (i + 1)))) := q_fh.u59 m (Or.inl rfl) _
    rw [if_pos hx, q_tr_s hts]
    simp only [Option.bind_some]
    rw [if_neg (show ¬ (1 : Int32) = 0 by decide)]
    rcases k_mrg hb (show 0 < 6 by decide) d G (i + 1) r (z_up m 59 16 (nI (b + (i + 1)))) (by omega) (q_ts_ok ho hts) (hc.of f0) (by rw [q_uq]) ⟨by rw [q_uk (by decide)]; exact hM.1, by rw [q_uk (by decide)]; exact hM.2.1, fun s hs => by rw [q_ua (by decide)]; exact hM.2.2.1 s hs, fun k hk f hf => absurd hk (Nat.not_lt_zero k)⟩ with ⟨p, m1, g1, g2, g3, g4⟩ | ⟨G', i', r', m1, g1, g2, g3, g4, g5, g6, g7⟩
    · rw [g1, g2]
      simp only [Option.bind_some]
      rw [if_pos trivial]
      exact ⟨m1, rfl, fun p' hp => by injection hp with hp; subst hp; exact g3, fun A hA => (by cases hA), f0.tr g4⟩
    · rw [g2, q_bnz g4 (by decide)]
      obtain ⟨m2, k1, k2, k3, k4⟩ := k_mrh6 hb d 5 F 1 G' i' r' m1 (by decide) (by decide) g1 g3 ((hc.of f0).of g7) g5 g6
      exact ⟨m2, k1, k2, k3, (f0.tr g7).tr k4⟩
  · have hR : q_tr c r i (1, ns, H, 0, G) = .inl i := by
      rcases r with _ | r
      · exact q_tr_0 (show (1 : Nat) ≠ 6 by decide)
      · refine q_tr_n ?_
        simp only [q_ts]
        rw [if_neg (fun w => hx ⟨by omega, w⟩), if_neg (hd.resolve_left (by omega))]
    rw [if_neg hx, hR]
    simp only [Option.bind_some]
    rw [if_pos trivial]
    exact ⟨m, rfl, fun p hp => by injection hp with hp; subst hp; exact h16, fun A hA => (by cases hA), q_fh.rf m⟩
theorem k_mrh {b n : Nat} (hb : b + n ≤ 240) {c : Nat → Int32} (d : Nat) {m : z_M} (hc : q_cel b n c m) (h16 : m 59 16 = nI b) : ∃ m1, z_go z_SH z_P (d + 4) 121 [.ref 59, .int (nI (b + n))] m = some (q_b (q_rb (q_tr c n 0 q_T0)), 0, m1) ∧ q_res b (q_tr c n 0 q_T0) m m1 := by
  have f0 : q_fh m (z_up m 59 18 0) := q_fh.u59 m (Or.inr (Or.inr rfl)) _
  rw [c_X10_readHotel, k_misg hb (Nat.zero_le _) (hc.of f0) (i := 0) (by rw [q_uk (by decide)]; exact h16)]
  by_cases hx : 0 < n ∧ c 0 = 104
  · obtain ⟨r, rfl⟩ : ∃ r', n = r' + 1 := ⟨n - 1, by omega⟩
    have hts : q_ts q_T0 (c 0) = some (1, 0, fun _ => 0, 0, fun _ _ => 0) := if_pos hx.2
    have f1 : q_fh m (z_up (z_up (z_up m 59 18 0) 59 16 (nI (b + (0 + 1)))) 59 17 0) := (f0.tr (q_fh.u59 _ (Or.inl rfl) _)).tr (q_fh.u59 _ (Or.inr (Or.inl rfl)) _)
    rw [if_pos hx, q_tr_s hts]
    simp only [Option.bind_some]
    rw [if_neg (show ¬ (1 : Int32) = 0 by decide), c_X10_readTheSigns]
    obtain ⟨ns', H', i', r', m1, g1, g2, g3, g4, g5, g6, g7, g8⟩ := k_mrs hb (c := c) (fun _ _ => 0) d 5 199993 0 (fun _ => 0) (0 + 1) r (z_up (z_up (z_up m 59 18 0) 59 16 (nI (b + (0 + 1)))) 59 17 0) (by decide) (by omega) (q_ts_ok q_T0_ok hts) (hc.of f1) (by rw [q_uk (by decide), q_uq]) ⟨by rw [q_uq]; rfl, by rw [q_uk (by decide), q_uk (by decide), q_uq]; rfl, fun s hs => absurd hs (Nat.not_lt_zero s), fun k hk => absurd hk (Nat.not_lt_zero k)⟩
    have g6 : z_lp z_SH 0 (fun _ => 0) (z_go z_SH z_P (d + 2)) me_X10_readTheSigns 199999 5 [some (.ref 59), some (.int (nI (b + (r + 1)))), none] [] (z_up (z_up (z_up m 59 18 0) 59 16 (nI (b + (0 + 1)))) 59 17 0) = some (q_b (decide (0 < ns')), 0, m1) := g6
    rw [g2, g6]
    simp only [Option.bind_some]
    rw [q_if]
    by_cases hn : 0 < ns'
    · rw [if_pos (decide_eq_true hn)]
      obtain ⟨m2, k1, k2, k3, k4⟩ := k_mrh1 hb d 199992 (fun _ _ => 0) i' r' m1 hn g1 g3 ((hc.of f1).of g8) g4 g5 g7
      exact ⟨m2, k1, k2, k3, (f1.tr g8).tr k4⟩
    · obtain rfl : ns' = 0 := by omega
      have hR : q_tr c r' i' (1, 0, H', 0, fun _ _ => 0) = .inl i' := by
        rcases r' with _ | r'
        · exact q_tr_0 (show (1 : Nat) ≠ 6 by decide)
        · refine q_tr_n ?_
          simp only [q_ts]
          rw [if_neg (Nat.lt_irrefl 0), if_neg (g7.resolve_left (by omega)), ite_self]
      rw [if_neg (by simp), hR]
      exact ⟨m1, rfl, fun p hp => by injection hp with hp; subst hp; exact g4, fun A hA => (by cases hA), f1.tr g8⟩
  · have hR : q_tr c n 0 q_T0 = .inl 0 := by
      rcases n with _ | n
      · exact q_tr_0 (show (0 : Nat) ≠ 6 by decide)
      · exact q_tr_n (if_neg (fun w => hx ⟨by omega, w⟩))
    rw [if_neg hx, hR]
    simp only [Option.bind_some]
    rw [if_pos trivial]
    exact ⟨z_up m 59 18 0, rfl, fun p hp => by injection hp with hp; subst hp; rw [q_uk (by decide)]; exact h16, fun A hA => (by cases hA), f0⟩
