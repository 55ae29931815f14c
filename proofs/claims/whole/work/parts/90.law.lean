/-! The law's loop out of the pairs of calls -/
theorem q_rel0 : q_Rel z_m0 := by
  have s : ∀ k, k < 4 → (z_b (z_m0 (51 + 2 * k) 1) = q_b false ∧ z_m0 (51 + 2 * k) 2 = nI 0 ∧ z_m0 (51 + 2 * k) 3 = nI 0 ∧ ∀ i, i < 60 → z_m0 (52 + 2 * k) i = 0) ∧ (z_m0 60 k = (if false = true then nI 0 else -9) ∧ z_m0 61 k = nI 0 ∧ ∀ i, i < 60 → z_m0 (62) (60 * k + i) = 0) := by decide +kernel
  refine ⟨((0, 0, 0), ((0, 0), fun _ => 0, fun _ _ => 0, fun _ _ => false), (0, fun _ => 0, fun _ => 0, fun _ => false), (fun _ => false, fun _ => 0, fun _ => 0, fun _ _ => 0)), ⟨?_, ?_, ?_, fun k hk => (s k hk).1⟩, ⟨?_, ?_, ?_, fun k hk => (s k hk).2⟩, ?_⟩
  · exact ⟨by decide +kernel, by decide +kernel, by decide +kernel⟩
  · exact ⟨by decide +kernel, by decide +kernel, fun s hs => absurd hs (Nat.not_lt_zero s), fun k hk => absurd hk (Nat.not_lt_zero k)⟩
  · exact ⟨by decide +kernel, fun r hr => absurd hr (Nat.not_lt_zero r)⟩
  · exact ⟨by decide +kernel, by decide +kernel, by decide +kernel⟩
  · exact ⟨by decide +kernel, by decide +kernel, fun s hs => absurd hs (Nat.not_lt_zero s), fun k hk => absurd hk (Nat.not_lt_zero k), by decide +kernel, by decide +kernel⟩
  · exact ⟨by decide +kernel, fun r hr => absurd hr (Nat.not_lt_zero r)⟩
  · exact ⟨⟨by decide, by decide, fun h => absurd h (by decide), fun s hs => absurd hs (Nat.not_lt_zero s), fun k hk => absurd hk (Nat.not_lt_zero k)⟩, ⟨by decide, fun r hr => absurd hr (Nat.not_lt_zero r)⟩, fun k hk => ⟨Nat.zero_le _, Nat.zero_le _⟩⟩
theorem q_lcmp (x : Int64) : lg_cmp x x = 0 := by simp [lg_cmp]
set_option maxHeartbeats 4000000 in
set_option maxRecDepth 100000 in
theorem z_law_of (hp0 : ∀ a0 a1 a2 a3 : Int32, q_pr 62 119 [.int a0, .int a1, .int a2, .int a3]) (hp1 : ∀ a0 a1 : Int32, q_pr 63 125 [.int a0, .int a1]) (hp2 : ∀ a0 : Int32, q_pr 64 126 [.int a0]) (hp3 : ∀ a0 a1 : Int32, q_pr 65 127 [.int a0, .int a1]) (hp4 : ∀ a0 a1 : Int32, q_pr 66 128 [.int a0, .int a1]) (hp5 : ∀ a0 a1 : Int32, q_pr 67 129 [.int a0, .int a1]) (hp6 : ∀ a0 a1 : Int32, q_pr 68 133 [.int a0, .int a1]) (hp7 : ∀ a0 : Int32, q_pr 69 135 [.int a0]) (hp8 : ∀ a0 a1 a2 a3 : Int32, q_pr 70 136 [.int a0, .int a1, .int a2, .int a3]) (hp9 : ∀ a0 : Int32, q_pr 71 138 [.int a0]) (hp10 : ∀ a0 a1 a2 a3 a4 : Int32, q_pr 72 144 [.int a0, .int a1, .int a2, .int a3, .int a4]) (hp11 : ∀ a0 a1 : Int32, q_pr 73 148 [.int a0, .int a1]) (hp12 : ∀ a0 a1 a2 : Int32, q_pr 74 149 [.int a0, .int a1, .int a2]) (hp13 : ∀ a0 : Int32, q_pr 75 152 [.int a0]) (hp14 : ∀ a0 : Int32, q_pr 76 155 [.int a0]) (hp15 : ∀ a0 a1 a2 : Int32, q_pr 77 156 [.int a0, .int a1, .int a2]) (hp16 : ∀ a0 : Int32, q_pr 78 157 [.int a0]) (hp17 : ∀ a0 : Int32, q_pr 79 159 [.int a0]) (hp18 : ∀ a0 : Int32, q_pr 80 160 [.int a0]) (hp19 : ∀ a0 : Int32, q_pr 81 161 [.int a0]) (hp20 : ∀ a0 a1 : Int32, q_pr 82 163 [.int a0, .int a1]) (hp21 : ∀ a0 a1 a2 : Int32, q_pr 83 164 [.int a0, .int a1, .int a2]) (hp22 : ∀ a0 : Int32, q_pr 84 165 [.int a0]) (hp23 : ∀ a0 a1 a2 : Int32, q_pr 85 166 [.int a0, .int a1, .int a2]) (hp24 : ∀ a0 a1 a2 : Int32, q_pr 86 167 [.int a0, .int a1, .int a2]) (hp25 : ∀ a0 a1 a2 a3 a4 : Int32, q_pr 87 168 [.int a0, .int a1, .int a2, .int a3, .int a4]) (hp26 : ∀ a0 : Int32, q_pr 88 170 [.int a0]) (hp27 : ∀ a0 : Int32, q_pr 89 171 [.int a0]) (hp28 : ∀ a0 a1 : Int32, q_pr 90 172 [.int a0, .int a1]) (hp29 : q_pr 91 173 []) (hp30 : q_pr 92 174 []) (hp31 : ∀ a0 : Int32, q_pr 93 175 [.int a0]) (L : Nat) (xs : Nat → Int32) (hL : L ≤ 384) : ∀ (n i : Nat) (m : z_M), q_Rel m → i ≤ L + 6 → L + 6 < i + 6 * n → ∃ mF : z_M, z_lp z_SH L xs (z_go z_SH z_P 40) me_L_law (n + 1) 18 [some (.ref 1000), some (.ref 0), some (.ref 59), some (.int (nI i))] [] m = some (1, 0, mF) := by
  intro n
  induction n with
  | zero =>
    intro i m hR h1 h2
    omega
  | succ n ih =>
    intro i m hR h1 h2
    rw [e_L_law_18]
    by_cases hlt : L < i + 6
    · rw [if_pos]
      · exact ⟨m, rfl⟩
      · rw [Int32.lt_iff_toInt_lt, nI_toInt (by omega), show (6 : Int32) = nI 6 from rfl, pk_sub_toInt (by omega) (by decide)]
        omega
    · rw [if_neg]
      · have a0 : ∀ j, j < 6 → nI i + nI j = nI (i + j) := fun j _ => nI_add i j
        have i0 : z_in L (nI i) = true := q_in (by omega) (by omega)
        have e1 : nI i + 1 = nI (i + 1) := nI_add i 1
        have e2 : nI i + 2 = nI (i + 2) := nI_add i 2
        have e3 : nI i + 3 = nI (i + 3) := nI_add i 3
        have e4 : nI i + 4 = nI (i + 4) := nI_add i 4
        have e5 : nI i + 5 = nI (i + 5) := nI_add i 5
        have e6 : nI i + 6 = nI (i + 6) := nI_add i 6
        have i1 : z_in L (nI (i + 1)) = true := q_in (by omega) (by omega)
        have i2 : z_in L (nI (i + 2)) = true := q_in (by omega) (by omega)
        have i3 : z_in L (nI (i + 3)) = true := q_in (by omega) (by omega)
        have i4 : z_in L (nI (i + 4)) = true := q_in (by omega) (by omega)
        have i5 : z_in L (nI (i + 5)) = true := q_in (by omega) (by omega)
        simp only [e1, e2, e3, e4, e5, e6, i0, i1, i2, i3, i4, i5, z_g_t]
        have go : ∀ m' : z_M, q_Rel m' → ∃ mF : z_M, z_lp z_SH L xs (z_go z_SH z_P 40) me_L_law (n + 1) 18 [some (.ref 1000), some (.ref 0), some (.ref 59), some (.int (nI (i + 6)))] [] m' = some (1, 0, mF) := fun m' hR' => ih (i + 6) m' hR' (by omega) (by omega)
        generalize (xs (nI i).toNatClampNeg &&& 31) = op
        by_cases c0 : op = nI 0
        · rw [if_pos c0]
          obtain ⟨r, l, m1, m2, g1, g2, hR2⟩ := q_pr_run (hp0 (xs (nI (i + 1)).toNatClampNeg) (xs (nI (i + 2)).toNatClampNeg) (xs (nI (i + 3)).toNatClampNeg) (xs (nI (i + 4)).toNatClampNeg)) hR 20
          rw [g1]
          simp only [Option.bind_some]
          rw [g2]
          simp only [Option.bind_some]
          rw [if_pos trivial]
          exact go m2 hR2
        rw [if_neg c0]
        by_cases c1 : op = nI 1
        · rw [if_pos c1]
          obtain ⟨r, l, m1, m2, g1, g2, hR2⟩ := q_pr_run (hp1 (xs (nI (i + 1)).toNatClampNeg) (xs (nI (i + 2)).toNatClampNeg)) hR 20
          rw [g1]
          simp only [Option.bind_some]
          rw [g2]
          simp only [Option.bind_some]
          rw [if_pos trivial]
          exact go m2 hR2
        rw [if_neg c1]
        by_cases c2 : op = nI 2
        · rw [if_pos c2]
          obtain ⟨r, l, m1, m2, g1, g2, hR2⟩ := q_pr_run (hp2 (xs (nI (i + 1)).toNatClampNeg)) hR 20
          rw [g1]
          simp only [Option.bind_some]
          rw [g2]
          simp only [Option.bind_some]
          rw [if_pos trivial]
          exact go m2 hR2
        rw [if_neg c2]
        by_cases c3 : op = nI 3
        · rw [if_pos c3]
          obtain ⟨r, l, m1, m2, g1, g2, hR2⟩ := q_pr_run (hp3 (xs (nI (i + 1)).toNatClampNeg) (xs (nI (i + 2)).toNatClampNeg)) hR 20
          rw [g1]
          simp only [Option.bind_some]
          rw [g2]
          simp only [Option.bind_some]
          rw [if_pos trivial]
          exact go m2 hR2
        rw [if_neg c3]
        by_cases c4 : op = nI 4
        · rw [if_pos c4]
          obtain ⟨r, l, m1, m2, g1, g2, hR2⟩ := q_pr_run (hp4 (xs (nI (i + 1)).toNatClampNeg) (xs (nI (i + 2)).toNatClampNeg)) hR 20
          rw [g1]
          simp only [Option.bind_some]
          rw [g2]
          simp only [Option.bind_some]
          rw [if_pos trivial]
          exact go m2 hR2
        rw [if_neg c4]
        by_cases c5 : op = nI 5
        · rw [if_pos c5]
          obtain ⟨r, l, m1, m2, g1, g2, hR2⟩ := q_pr_run (hp5 (xs (nI (i + 1)).toNatClampNeg) (xs (nI (i + 2)).toNatClampNeg)) hR 20
          rw [g1]
          simp only [Option.bind_some]
          rw [g2]
          simp only [Option.bind_some]
          rw [if_pos trivial]
          exact go m2 hR2
        rw [if_neg c5]
        by_cases c6 : op = nI 6
        · rw [if_pos c6]
          obtain ⟨r, l, m1, m2, g1, g2, hR2⟩ := q_pr_run (hp6 (xs (nI (i + 1)).toNatClampNeg) (xs (nI (i + 2)).toNatClampNeg)) hR 20
          rw [g1]
          simp only [Option.bind_some]
          rw [g2]
          simp only [Option.bind_some]
          rw [if_pos trivial]
          exact go m2 hR2
        rw [if_neg c6]
        by_cases c7 : op = nI 7
        · rw [if_pos c7]
          obtain ⟨r, l, m1, m2, g1, g2, hR2⟩ := q_pr_run (hp7 (xs (nI (i + 1)).toNatClampNeg)) hR 20
          rw [g1]
          simp only [Option.bind_some]
          rw [g2]
          simp only [Option.bind_some]
          rw [if_pos trivial]
          exact go m2 hR2
        rw [if_neg c7]
        by_cases c8 : op = nI 8
        · rw [if_pos c8]
          obtain ⟨r, l, m1, m2, g1, g2, hR2⟩ := q_pr_run (hp8 (xs (nI (i + 1)).toNatClampNeg) (xs (nI (i + 2)).toNatClampNeg) (xs (nI (i + 3)).toNatClampNeg) (xs (nI (i + 4)).toNatClampNeg)) hR 20
          rw [g1]
          simp only [Option.bind_some]
          rw [g2]
          simp only [Option.bind_some]
          rw [if_pos trivial]
          exact go m2 hR2
        rw [if_neg c8]
        by_cases c9 : op = nI 9
        · rw [if_pos c9]
          obtain ⟨r, l, m1, m2, g1, g2, hR2⟩ := q_pr_run (hp9 (xs (nI (i + 1)).toNatClampNeg)) hR 20
          rw [g1]
          simp only [Option.bind_some]
          rw [g2]
          simp only [Option.bind_some]
          rw [if_pos trivial]
          exact go m2 hR2
        rw [if_neg c9]
        by_cases c10 : op = nI 10
        · rw [if_pos c10]
          obtain ⟨r, l, m1, m2, g1, g2, hR2⟩ := q_pr_run (hp10 (xs (nI (i + 1)).toNatClampNeg) (xs (nI (i + 2)).toNatClampNeg) (xs (nI (i + 3)).toNatClampNeg) (xs (nI (i + 4)).toNatClampNeg) (xs (nI (i + 5)).toNatClampNeg)) hR 20
          rw [g1]
          simp only [Option.bind_some]
          rw [g2]
          simp only [Option.bind_some]
          rw [if_pos trivial]
          exact go m2 hR2
        rw [if_neg c10]
        by_cases c11 : op = nI 11
        · rw [if_pos c11]
          obtain ⟨r, l, m1, m2, g1, g2, hR2⟩ := q_pr_run (hp11 (xs (nI (i + 1)).toNatClampNeg) (xs (nI (i + 2)).toNatClampNeg)) hR 20
          rw [g1]
          simp only [Option.bind_some]
          rw [g2]
          simp only [Option.bind_some]
          rw [if_pos trivial]
          exact go m2 hR2
        rw [if_neg c11]
        by_cases c12 : op = nI 12
        · rw [if_pos c12]
          obtain ⟨r, l, m1, m2, g1, g2, hR2⟩ := q_pr_run (hp12 (xs (nI (i + 1)).toNatClampNeg) (xs (nI (i + 2)).toNatClampNeg) (xs (nI (i + 3)).toNatClampNeg)) hR 20
          rw [g1]
          simp only [Option.bind_some]
          rw [g2]
          simp only [Option.bind_some]
          rw [if_pos trivial]
          exact go m2 hR2
        rw [if_neg c12]
        by_cases c13 : op = nI 13
        · rw [if_pos c13]
          obtain ⟨r, l, m1, m2, g1, g2, hR2⟩ := q_pr_run (hp13 (xs (nI (i + 1)).toNatClampNeg)) hR 20
          rw [g1]
          simp only [Option.bind_some]
          rw [g2]
          simp only [Option.bind_some]
          rw [if_pos trivial]
          exact go m2 hR2
        rw [if_neg c13]
        by_cases c14 : op = nI 14
        · rw [if_pos c14]
          obtain ⟨r, l, m1, m2, g1, g2, hR2⟩ := q_pr_run (hp14 (xs (nI (i + 1)).toNatClampNeg)) hR 20
          rw [g1]
          simp only [Option.bind_some]
          rw [g2]
          simp only [Option.bind_some]
          rw [if_pos trivial]
          exact go m2 hR2
        rw [if_neg c14]
        by_cases c15 : op = nI 15
        · rw [if_pos c15]
          obtain ⟨r, l, m1, m2, g1, g2, hR2⟩ := q_pr_run (hp15 (xs (nI (i + 1)).toNatClampNeg) (xs (nI (i + 2)).toNatClampNeg) (xs (nI (i + 3)).toNatClampNeg)) hR 20
          rw [g1]
          simp only [Option.bind_some]
          rw [g2]
          simp only [Option.bind_some]
          rw [if_pos trivial]
          exact go m2 hR2
        rw [if_neg c15]
        by_cases c16 : op = nI 16
        · rw [if_pos c16]
          obtain ⟨r, l, m1, m2, g1, g2, hR2⟩ := q_pr_run (hp16 (xs (nI (i + 1)).toNatClampNeg)) hR 20
          rw [g1]
          simp only [Option.bind_some]
          rw [g2]
          simp only [Option.bind_some]
          rw [if_pos trivial]
          exact go m2 hR2
        rw [if_neg c16]
        by_cases c17 : op = nI 17
        · rw [if_pos c17]
          obtain ⟨r, l, m1, m2, g1, g2, hR2⟩ := q_pr_run (hp17 (xs (nI (i + 1)).toNatClampNeg)) hR 20
          rw [g1]
          simp only [Option.bind_some]
          rw [g2]
          simp only [Option.bind_some]
          rw [if_pos trivial]
          exact go m2 hR2
        rw [if_neg c17]
        by_cases c18 : op = nI 18
        · rw [if_pos c18]
          obtain ⟨r, l, m1, m2, g1, g2, hR2⟩ := q_pr_run (hp18 (xs (nI (i + 1)).toNatClampNeg)) hR 20
          rw [g1]
          simp only [Option.bind_some]
          rw [g2]
          simp only [Option.bind_some]
          rw [if_pos trivial]
          exact go m2 hR2
        rw [if_neg c18]
        by_cases c19 : op = nI 19
        · rw [if_pos c19]
          obtain ⟨r, l, m1, m2, g1, g2, hR2⟩ := q_pr_run (hp19 (xs (nI (i + 1)).toNatClampNeg)) hR 20
          rw [g1]
          simp only [Option.bind_some]
          rw [g2]
          simp only [Option.bind_some]
          rw [if_pos trivial]
          exact go m2 hR2
        rw [if_neg c19]
        by_cases c20 : op = nI 20
        · rw [if_pos c20]
          obtain ⟨r, l, m1, m2, g1, g2, hR2⟩ := q_pr_run (hp20 (xs (nI (i + 1)).toNatClampNeg) (xs (nI (i + 2)).toNatClampNeg)) hR 20
          rw [g1]
          simp only [Option.bind_some]
          rw [g2]
          simp only [Option.bind_some, q_lcmp]
          rw [if_pos trivial]
          exact go m2 hR2
        rw [if_neg c20]
        by_cases c21 : op = nI 21
        · rw [if_pos c21]
          obtain ⟨r, l, m1, m2, g1, g2, hR2⟩ := q_pr_run (hp21 (xs (nI (i + 1)).toNatClampNeg) (xs (nI (i + 2)).toNatClampNeg) (xs (nI (i + 3)).toNatClampNeg)) hR 20
          rw [g1]
          simp only [Option.bind_some]
          rw [g2]
          simp only [Option.bind_some]
          rw [if_pos trivial]
          exact go m2 hR2
        rw [if_neg c21]
        by_cases c22 : op = nI 22
        · rw [if_pos c22]
          obtain ⟨r, l, m1, m2, g1, g2, hR2⟩ := q_pr_run (hp22 (xs (nI (i + 1)).toNatClampNeg)) hR 20
          rw [g1]
          simp only [Option.bind_some]
          rw [g2]
          simp only [Option.bind_some]
          rw [if_pos trivial]
          exact go m2 hR2
        rw [if_neg c22]
        by_cases c23 : op = nI 23
        · rw [if_pos c23]
          obtain ⟨r, l, m1, m2, g1, g2, hR2⟩ := q_pr_run (hp23 (xs (nI (i + 1)).toNatClampNeg) (xs (nI (i + 2)).toNatClampNeg) (xs (nI (i + 3)).toNatClampNeg)) hR 20
          rw [g1]
          simp only [Option.bind_some]
          rw [g2]
          simp only [Option.bind_some]
          rw [if_pos trivial]
          exact go m2 hR2
        rw [if_neg c23]
        by_cases c24 : op = nI 24
        · rw [if_pos c24]
          obtain ⟨r, l, m1, m2, g1, g2, hR2⟩ := q_pr_run (hp24 (xs (nI (i + 1)).toNatClampNeg) (xs (nI (i + 2)).toNatClampNeg) (xs (nI (i + 3)).toNatClampNeg)) hR 20
          rw [g1]
          simp only [Option.bind_some]
          rw [g2]
          simp only [Option.bind_some, q_lcmp]
          rw [if_pos trivial]
          exact go m2 hR2
        rw [if_neg c24]
        by_cases c25 : op = nI 25
        · rw [if_pos c25]
          obtain ⟨r, l, m1, m2, g1, g2, hR2⟩ := q_pr_run (hp25 (xs (nI (i + 1)).toNatClampNeg) (xs (nI (i + 2)).toNatClampNeg) (xs (nI (i + 3)).toNatClampNeg) (xs (nI (i + 4)).toNatClampNeg) (xs (nI (i + 5)).toNatClampNeg)) hR 20
          rw [g1]
          simp only [Option.bind_some]
          rw [g2]
          simp only [Option.bind_some]
          rw [if_pos trivial]
          exact go m2 hR2
        rw [if_neg c25]
        by_cases c26 : op = nI 26
        · rw [if_pos c26]
          obtain ⟨r, l, m1, m2, g1, g2, hR2⟩ := q_pr_run (hp26 (xs (nI (i + 1)).toNatClampNeg)) hR 20
          rw [g1]
          simp only [Option.bind_some]
          rw [g2]
          simp only [Option.bind_some]
          rw [if_pos trivial]
          exact go m2 hR2
        rw [if_neg c26]
        by_cases c27 : op = nI 27
        · rw [if_pos c27]
          obtain ⟨r, l, m1, m2, g1, g2, hR2⟩ := q_pr_run (hp27 (xs (nI (i + 1)).toNatClampNeg)) hR 20
          rw [g1]
          simp only [Option.bind_some]
          rw [g2]
          simp only [Option.bind_some]
          rw [if_pos trivial]
          exact go m2 hR2
        rw [if_neg c27]
        by_cases c28 : op = nI 28
        · rw [if_pos c28]
          obtain ⟨r, l, m1, m2, g1, g2, hR2⟩ := q_pr_run (hp28 (xs (nI (i + 1)).toNatClampNeg) (xs (nI (i + 2)).toNatClampNeg)) hR 20
          rw [g1]
          simp only [Option.bind_some]
          rw [g2]
          simp only [Option.bind_some]
          rw [if_pos trivial]
          exact go m2 hR2
        rw [if_neg c28]
        by_cases c29 : op = nI 29
        · rw [if_pos c29]
          obtain ⟨r, l, m1, m2, g1, g2, hR2⟩ := q_pr_run (hp29) hR 20
          rw [g1]
          simp only [Option.bind_some]
          rw [g2]
          simp only [Option.bind_some]
          rw [if_pos trivial]
          exact go m2 hR2
        rw [if_neg c29]
        by_cases c30 : op = nI 30
        · rw [if_pos c30]
          obtain ⟨r, l, m1, m2, g1, g2, hR2⟩ := q_pr_run (hp30) hR 20
          rw [g1]
          simp only [Option.bind_some]
          rw [g2]
          simp only [Option.bind_some]
          rw [if_pos trivial]
          exact go m2 hR2
        rw [if_neg c30]
        by_cases c31 : op = nI 31
        · rw [if_pos c31]
          obtain ⟨r, l, m1, m2, g1, g2, hR2⟩ := q_pr_run (hp31 (xs (nI (i + 1)).toNatClampNeg)) hR 20
          rw [g1]
          simp only [Option.bind_some]
          rw [g2]
          simp only [Option.bind_some]
          rw [if_pos trivial]
          exact go m2 hR2
        rw [if_neg c31]
        exact go m hR
      · rw [Int32.lt_iff_toInt_lt, nI_toInt (by omega), show (6 : Int32) = nI 6 from rfl, pk_sub_toInt (by omega) (by decide)]
        omega
