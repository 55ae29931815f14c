def z_CA (l : Launch) (D : va_G) (cl : List vw_C) (tys : List (ClassId × FieldType)) (A : Nat → Prop) (cid : Nat → ClassId) (Tb : List Jvm.Cond) (P : List z_Me) (d : Nat) (C : Nat → List Value → z_S → Option z_S) : Prop := ∀ (j : Nat) (as : List Value) (S S' : z_S), C j as S = some S' → z_TY tys cid S.1 → z_TY tys cid S'.1 ∧ ∃ me : z_Me, P[j]? = some me ∧ ∀ ad : Nat → Nat, Met l me.1 (z_wsm Tb me) (z_rma d (S'.1.length - S.1.length) (z_slo S'.1 - z_slo S.1)) (z_PcA D cl tys A ad cid Tb as S) (z_QcA D cl A ad cid S S') (S'.1.length - S.1.length) (z_slo S'.1 - z_slo S.1) A
def z_fix (ad : Nat → Nat) (n q : Nat) : Nat → Nat := fun i => if i = n then q else ad i
theorem z_fix_agr {ad : Nat → Nat} {n q : Nat} (h : n < 1000) : z_agr n ad (z_fix ad n q) := fun i hi => if_neg (by omega)
theorem z_agr_trans {n k : Nat} {a b c : Nat → Nat} (h1 : z_agr n a b) (h2 : z_agr k b c) (hk : n ≤ k) : z_agr n a c := fun i hi => (h2 i (by omega)).trans (h1 i hi)
theorem z_dsl_at {tyq : Nat → Nat → FieldType} {ci N k : Nat} {ad : Nat → Nat} (hk : k < N) (h4 : (match tyq ci k with
  | .int => true
  | .boolean => true
  | .object _ => true
  | .array _ => true
  | _ => false) = true) : defaultValue (tyq ci k) = vp_V ((z_dsl tyq ci N).mapIdx (fun j s => z_vl ad s 0)) k := by
  unfold vp_V z_dsl
  rw [List.getD_eq_getElem?_getD, List.getElem?_mapIdx, List.getElem?_map, List.getElem?_range hk]
  cases hq : tyq ci k <;> rw [hq] at h4 <;> first | (cases h4; done) | (simp [hq, z_vl, defaultValue, z_b])
section Ze
variable {p : Program} {l : Launch} {e : Env} {R : Room} {s : State} {M : MethodId} {args : Array Value} {below : List Frame} {meth : Method} {c : Code} {Q : State → Prop}
variable {cc : ByteArray} {own : String} {D : va_G} {cl : List vw_C} {tys : List (ClassId × FieldType)} {cid : Nat → ClassId} {A : Nat → Prop} {H0 : Heap} {Tb Ts : List Jvm.Cond} {tyq : Nat → Nat → FieldType} {nL : Nat} {P : List z_Me} {PX : List (List Nat)} {d : Nat} {FS : List Nat} {C : Nat → List Value → z_S → Option z_S} {L : Nat} {xs : Nat → Int32}
theorem z_callA {cells slots mc ms pc : Nat} {arr : Array Slot} {rest st0 : List Value} {a : Array Value} {ad : Nat → Nat} {S S' : z_S} {H : Heap} {locs : List Loc} (hr : va_Run p l e R s M args below meth c H locs cells slots mc ms (F0 M pc arr st0) rest (z_QcA D cl A ad cid S S' a) A) (hS : va_S A H0 H locs)
    (kk : ∀ (ad' : Nat → Nat) (H1 : Heap) (locs1 : List Loc), z_agr S.1.length ad ad' → va_P D cl (z_rd ad' cid S'.1 S'.2) H1 → va_D A (z_rd ad' cid S'.1 S'.2) → va_S A H0 H1 locs1 → W p l e R s M args below meth c H1 locs1 (cells + mc) (slots + ms) Q (F0 M (pc + 3) arr rest)) : W p l e R s M args below meth c H locs cells slots Q (F0 M pc arr st0) := by
  intro T hT X
  obtain ⟨v, st₀, t, T', L', h0, X', hL, e1, e2, ⟨hv, ⟨ad', ha, hp, hd⟩, hz, hk⟩, stp⟩ := hr T hT X
  have hv := Outcome.returned.inj hv
  subst hv
  rw [h0] at hz hk
  obtain ⟨t2, a1, b1⟩ := kk ad' T'.heap (locs ++ L') ha (by rw [e1]; exact hp) hd
    ⟨Nat.le_trans hS.1 (by rw [e1]; exact hz), fun q h1 h2 => by rw [e1, hk q (Nat.lt_of_lt_of_le h1 hS.1) h2]; exact hS.2.1 q h1 h2, fun q hq => by
      rcases List.mem_append.mp hq with h | h
      · exact hS.2.2 q h
      · exact hL q h⟩ T' rfl X'
  exact ⟨t2, stp t2 a1, b1⟩
set_option maxHeartbeats 8000000 in
set_option maxRecDepth 100000 in
theorem z_ablk_ok (hG : ∀ sh, z_TY tys cid sh → z_G p s M args c cc own D cl tys cid sh Tb Ts tyq) (hml : c.maxLocals = nL) (hNW : z_NW Tb s) (hAO : z_AO Tb s) (hA : ∀ q : Nat, H0.size ≤ q → A q) (h4 : z_ty4 cl tyq) (hFS : z_FSok cl tys cid FS) (hRm : d + 1 ≤ R.frames ∧ 60 * d + 60 ≤ R.locals) (hCM : z_CM C) (hCA : z_CA l D cl tys A cid Tb P d C)
    {code : List z_En} {stop : Nat} (hE : ∀ x ∈ code, z_ech Tb cl tyq P PX own cc x ∧ z_chka Tb cl tyq P PX own x.2.1 x.2.2.1 x.2.2.2.1 x.2.2.2.2.2 = true) (hch : z_chn code = true) (hSc : ∀ x ∈ code, x.2.1 = .arraylength ∨ x.2.1 = .iaload → own ≠ z_lawn) (hin : (∀ x ∈ code, ∀ i, x.2.1 ≠ .putfield i) ∨ meth.name = "<init>") {lsF : z_V} {stF : List Value} {SF : z_S} :
    ∀ (n : Nat) (cs : List z_En) (ls : z_V) (st : List Value) (S : z_S) (ad : Nat → Nat) (arr : Array Slot) (H : Heap) (locs : List Loc) (pc cells slots : Nat), cs <:+ code → (∀ x cs', cs = x :: cs' → x.1 = pc) → z_ablk L xs cl tyq FS code stop C n cs ls st S = some (lsF, stF, SF) → z_TY tys cid S.1 → z_L ad ls arr nL → z_H D cl A H0 ad cid S.1 S.2 H locs → cells + (SF.1.length - S.1.length) ≤ R.cells → slots + (z_slo SF.1 - z_slo S.1) ≤ R.slots →
      (∀ (ad' : Nat → Nat) (arr' : Array Slot) (H' : Heap) (locs' : List Loc), z_agr S.1.length ad ad' → z_TY tys cid SF.1 → z_L ad' lsF arr' nL → z_H D cl A H0 ad' cid SF.1 SF.2 H' locs' → W p l e R s M args below meth c H' locs' (cells + (SF.1.length - S.1.length)) (slots + (z_slo SF.1 - z_slo S.1)) Q (F0 M stop arr' (stF.map (z_cv ad')))) → W p l e R s M args below meth c H locs cells slots Q (F0 M pc arr (st.map (z_cv ad))) := by
  intro n
  induction n with
  | zero =>
    intro cs ls st S ad arr H locs pc cells slots _ _ h
    simp [z_ablk] at h
  | succ n ih =>
    intro cs ls st S ad arr H locs pc cells slots hsuf hpc h hTY hl hH hbc hbs kk
    cases cs with
    | nil => simp [z_ablk] at h
    | cons x cs =>
      obtain ⟨pc', ins, len, lk, cn, px⟩ := x
      obtain rfl : pc' = pc := hpc _ _ rfl
      have hmem := hsuf.subset List.mem_cons_self
      obtain ⟨⟨hc1, hc2, hdg⟩, hc3⟩ := hE _ hmem
      dsimp only at hc1 hc2 hdg hc3
      have hsuf' : cs <:+ code := (List.suffix_cons _ cs).trans hsuf
      have hnext : ∀ y cs', cs = y :: cs' → y.1 = pc' + len := by
        intro y cs' hy
        subst hy
        have h1 := z_chn_suf hsuf hch
        simp only [z_chn, Bool.and_eq_true] at h1
        exact Nat.eq_of_beq_eq_true h1.1
      have hGG := hG S.1 hTY
      obtain ⟨hx, hb, hown, hts, hK, hTb, hCK, -⟩ := hGG
      have hHH := hH
      obtain ⟨hP, hD, hS⟩ := hH
      -- a new cell
      have born : ∀ (cq : z_C) (q : Nat) (H1 : Heap) (st' : List Value), z_alo S.1.length ls st' S.1 = true → z_ablk L xs cl tyq FS code stop C n cs ls (.ref S.1.length :: st') (S.1 ++ [cq], z_clr S.2 S.1.length) = some (lsF, stF, SF) → z_TY tys cid (S.1 ++ [cq]) → va_P D cl (z_rd ad cid S.1 S.2 ++ [(q, z_re (z_fix ad S.1.length q) (cid S.1.length) cq (fun _ => 0))]) H1 → va_D A (z_rd ad cid S.1 S.2 ++ [(q, z_re (z_fix ad S.1.length q) (cid S.1.length) cq (fun _ => 0))]) → va_S A H0 H1 locs → W p l e R s M args below meth c H1 locs (cells + 1) (slots + z_csl cq) Q (F0 M (pc' + len) arr (.ref q :: st'.map (z_cv ad))) := by
        intro cq q H1 st' hal hrun hT g1 g2 g3
        simp only [z_alo, Bool.and_eq_true] at hal
        obtain ⟨⟨⟨a1, a2⟩, a3⟩, a4⟩ := hal
        have a4 := Nat.blt_eq.mp a4
        have hag : z_agr S.1.length ad (z_fix ad S.1.length q) := z_fix_agr a4
        have hn : z_fix ad S.1.length q S.1.length = q := if_pos rfl
        have hrd := z_rd_new (cid := cid) (m := S.2) (c := cq) a3 hag hn
        rw [← hrd] at g1 g2
        have hmono := z_ablk_mono hCM _ _ _ _ _ _ hrun
        dsimp only at hmono
        rw [z_slo_push, List.length_append] at hmono
        simp only [List.length_cons, List.length_nil] at hmono
        have key := ih cs ls (.ref S.1.length :: st') (S.1 ++ [cq], z_clr S.2 S.1.length) (z_fix ad S.1.length q) arr H1 locs (pc' + len) (cells + 1) (slots + z_csl cq) hsuf' hnext hrun hT (hl.ad hag a1) ⟨g1, g2, g3⟩ (by simp only [List.length_append, List.length_cons, List.length_nil]; omega) (by rw [z_slo_push]; omega) (fun ad' arr' H' locs' b1 b2 b3 b4 => by
          have e1 : cells + 1 + (SF.1.length - (S.1 ++ [cq]).length) = cells + (SF.1.length - S.1.length) := by
            simp only [List.length_append, List.length_cons, List.length_nil]
            omega
          have e2 : slots + z_csl cq + (z_slo SF.1 - z_slo (S.1 ++ [cq])) = slots + (z_slo SF.1 - z_slo S.1) := by
            rw [z_slo_push]
            omega
          rw [e1, e2]
          exact kk ad' arr' H' locs' (z_agr_trans hag b1 (by simp)) b2 b3 b4)
        rw [List.map_cons, z_rok_map hag a2] at key
        have e3 : z_cv (z_fix ad S.1.length q) (.ref S.1.length) = .ref q := by
          show Value.ref (z_fix ad S.1.length q S.1.length) = _
          rw [hn]
        rw [e3] at key
        exact key
      unfold z_ablk at h
      dsimp only at h
      split at h
      · rename_i hstop
        have hst := Nat.eq_of_beq_eq_true hstop
        subst hst
        simp only [Option.some.injEq, Prod.mk.injEq] at h
        obtain ⟨rfl, rfl, rfl⟩ := h
        have := kk ad arr H locs (fun _ _ => rfl) hTY hl hHH
        rw [Nat.sub_self, Nat.sub_self, Nat.add_zero, Nat.add_zero] at this
        exact this
      · split at h
        · -- new
          rename_i idx
          split at h
          · rename_i q hq
            obtain ⟨C', T, N⟩ := q
            obtain ⟨g1, h⟩ := z_g_some h
            simp only [z_chka, Bool.and_eq_true, decide_eq_true_eq, hq] at hc3
            obtain ⟨rfl, ⟨q1, q2⟩, q3⟩ := hc3
            have hmono := z_ablk_mono hCM _ _ _ _ _ _ h
            dsimp only at hmono
            rw [z_slo_push, List.length_append] at hmono
            simp only [List.length_cons, List.length_nil] at hmono
            have hN : z_csl (.inl (lk.getD 0 0, z_dsl tyq (lk.getD 0 0) N)) = N := by simp [z_csl, z_dsl]
            refine va_new hx hb hts (hCK _ _ hq).1 (tyq (lk.getD 0 0)) (hCK _ _ hq).2.1 hown (hts _ (z_w_in q1 hTb)) (hts _ (z_w_in q2 hTb)) (hts _ (z_w_in q3 hTb)) hK hP hD hS hA hq (fs := (z_dsl tyq (lk.getD 0 0) N).mapIdx (fun j s => z_vl ad s 0)) (fun j hj => z_dsl_at hj (h4 _ _ hq j hj)) (by omega) (by show slots + N ≤ R.slots; omega) hdg (fun q H1 k1 k2 k3 => ?_)
            have hre : ∀ q : Nat, z_re (z_fix ad S.1.length q) (cid S.1.length) (.inl (lk.getD 0 0, z_dsl tyq (lk.getD 0 0) N)) (fun _ => 0) = .inr (lk.getD 0 0, (z_dsl tyq (lk.getD 0 0) N).mapIdx (fun j s => z_vl ad s 0)) := by
              intro q
              have a4 : S.1.length < 1000 := by
                simp only [z_alo, Bool.and_eq_true] at g1
                exact Nat.blt_eq.mp g1.2
              refine (z_re_ad (z_fix_agr a4) ?_ _ _).trans rfl
              show (z_dsl tyq (lk.getD 0 0) N).all _ = true
              rw [List.all_eq_true]
              intro s0 hs0
              obtain ⟨k, -, rfl⟩ := List.mem_map.mp hs0
              cases tyq (lk.getD 0 0) k <;> rfl
            have := born (.inl (lk.getD 0 0, z_dsl tyq (lk.getD 0 0) N)) q H1 st g1 h (z_TY_push hTY (fun _ _ hh => by cases hh) (fun _ _ hh => by cases hh)) (by rw [hre]; exact k1) (by rw [hre]; exact k2) k3
            rw [hN] at this
            exact this
          · cases h
        · -- newarray
          rename_i at'
          split at h
          · rename_i x st'
            obtain ⟨g1, hrun⟩ := z_g_some h
            simp only [Bool.and_eq_true, decide_eq_true_eq] at g1
            obtain ⟨⟨⟨⟨g1, g2⟩, g3⟩, g4⟩, g5⟩ := g1
            simp only [z_chka, Bool.and_eq_true, decide_eq_true_eq] at hc3
            obtain ⟨⟨rfl, hty⟩, q1⟩ := hc3
            have g3 := Nat.le_of_ble_eq_true g3
            have g5 := Nat.le_of_ble_eq_true g5
            have hmono := z_ablk_mono hCM _ _ _ _ _ _ hrun
            dsimp only at hmono
            rw [z_slo_push, List.length_append] at hmono
            simp only [List.length_cons, List.length_nil, z_csl] at hmono
            obtain ⟨t0, ht0⟩ := hFS _ _ g4 (by omega)
            have hcA : ∀ (cA : ClassId) (ty : FieldType), z_fty cl (lk.getD 0 0) = ty → (ty = .int ∨ ty = .boolean) → va_K D cl (tys ++ [(cA, ty)]) s → cA = cid S.1.length := by
              intro cA ty hz hty' hKK
              have r1 := (hKK.2 tys.length (cA, ty) (by simp)).2
              have r2 := (hK.2 t0 _ ht0).2
              rw [hz] at r2
              rcases hty' with rfl | rfl <;> exact Option.some.inj (r1.symm.trans r2)
            rcases hty with ⟨rfl, hlk0⟩ | ⟨rfl, hlk0⟩
            · have hT2 : z_TY tys cid (S.1 ++ [.inr (.inl (lk.getD 0 0, x.toNatClampNeg))]) := z_TY_push hTY (fun n' t' hh => by
                cases hh
                rw [hlk0] at ht0 ⊢
                exact ⟨t0, ht0⟩) (fun _ _ hh => by cases hh)
              refine va_newa (ty := .int) hx hb (hts _ (z_w_in q1 hTb)) rfl hK hP hD hS hA (a0 := (x.toNatClampNeg, .inl (fun _ => 0))) (N' := x.toNatClampNeg) (fun cA => rfl) g2 rfl (by show x.toNatClampNeg * componentBytes .int ≤ _; simp [componentBytes]; omega) (by omega) (by omega) hdg (fun q cA H1 kK k1 k2 k3 => ?_)
              have hcid := hcA cA .int (by rw [hlk0]; rfl) (Or.inl rfl) kK
              subst hcid
              rw [hlk0] at hrun hT2
              exact born (.inr (.inl (0, x.toNatClampNeg))) q H1 st' g1 hrun hT2 k1 k2 k3
            · have hT2 : z_TY tys cid (S.1 ++ [.inr (.inl (lk.getD 0 0, x.toNatClampNeg))]) := z_TY_push hTY (fun n' t' hh => by
                cases hh
                rw [hlk0] at ht0 ⊢
                exact ⟨t0, ht0⟩) (fun _ _ hh => by cases hh)
              refine va_newa (ty := .boolean) hx hb (hts _ (z_w_in q1 hTb)) rfl hK hP hD hS hA (a0 := (x.toNatClampNeg, .inl (fun _ => 0))) (N' := x.toNatClampNeg) (fun cA => rfl) g2 rfl (by show x.toNatClampNeg * componentBytes .boolean ≤ _; simp [componentBytes]; omega) (by omega) (by omega) hdg (fun q cA H1 kK k1 k2 k3 => ?_)
              have hcid := hcA cA .boolean (by rw [hlk0]; rfl) (Or.inr rfl) kK
              subst hcid
              rw [hlk0] at hrun hT2
              exact born (.inr (.inl (1, x.toNatClampNeg))) q H1 st' g1 hrun hT2 k1 k2 k3
          · cases h
        · -- anewarray
          rename_i idx
          split at h
          · rename_i x st'
            obtain ⟨g1, hrun⟩ := z_g_some h
            simp only [Bool.and_eq_true, decide_eq_true_eq] at g1
            obtain ⟨⟨⟨⟨g1, g2⟩, g3⟩, g4⟩, g5⟩ := g1
            have g3 := Nat.le_of_ble_eq_true g3
            have g5 := Nat.blt_eq.mp g5
            simp only [z_chka, Bool.and_eq_true, decide_eq_true_eq] at hc3
            obtain ⟨rfl, hc3⟩ := hc3
            cases hq : cl[lk.getD 0 0]? with
            | none =>
              rw [hq] at hc3
              cases hc3
            | some qc =>
              rw [hq] at hc3
              simp only [Bool.and_eq_true, decide_eq_true_eq] at hc3
              obtain ⟨q1, q2⟩ := hc3
              have hmono := z_ablk_mono hCM _ _ _ _ _ _ hrun
              dsimp only at hmono
              rw [z_slo_push, List.length_append] at hmono
              simp only [List.length_cons, List.length_nil, z_csl, List.length_replicate] at hmono
              obtain ⟨t0, ht0⟩ : ∃ t0 : Nat, tys[t0]? = some (cid S.1.length, FieldType.object qc.1) := by
                obtain ⟨t0, ht0⟩ := hFS _ _ g4 (by omega)
                refine ⟨t0, ?_⟩
                rw [ht0]
                show some (cid S.1.length, FieldType.object ((cl[lk.getD 0 0]?.map (fun q => q.1)).getD "")) = _
                rw [hq]
                rfl
              refine va_newq hx hb hown (hts _ (z_w_in q1 hTb)) (hAO _ (List.mem_of_getElem? q2)) hK hP hD hS hA (N' := x.toNatClampNeg) g2 rfl (by omega) (by omega) (by omega) hdg (fun q cA H1 kK k1 k2 k3 => ?_)
              have hcid : cA = cid S.1.length := by
                obtain ⟨_, _, _, _, _, r1⟩ := (kK.2 tys.length (cA, .object qc.1) (by simp)).2
                obtain ⟨_, _, _, _, _, r2⟩ := (hK.2 t0 _ ht0).2
                exact Option.some.inj (r1.symm.trans r2)
              subst hcid
              have hre : ∀ q : Nat, z_re (z_fix ad S.1.length q) (cid S.1.length) (.inr (.inr (lk.getD 0 0, List.replicate x.toNatClampNeg none))) (fun _ => 0) = .inl (cid S.1.length, x.toNatClampNeg, .inr (.inr (.inr (.inr (fun _ => none))))) := by
                intro q
                show Sum.inl (cid S.1.length, (List.replicate x.toNatClampNeg (none : Option Nat)).length, Sum.inr (Sum.inr (Sum.inr (Sum.inr (z_rl (z_fix ad S.1.length q) (List.replicate x.toNatClampNeg none)))))) = _
                have hf : z_rl (z_fix ad S.1.length q) (List.replicate x.toNatClampNeg none) = fun _ => none := by
                  funext j
                  unfold z_rl
                  rw [List.getElem?_replicate]
                  by_cases hj : j < x.toNatClampNeg
                  · rw [if_pos hj]
                  · rw [if_neg hj]
                rw [List.length_replicate, hf]
              have := born (.inr (.inr (lk.getD 0 0, List.replicate x.toNatClampNeg none))) q H1 st' g1 hrun (z_TY_push hTY (fun _ _ hh => by cases hh) (fun _ _ hh => ⟨t0, _, ht0⟩)) (by rw [hre]; exact k1) (by rw [hre]; exact k2) k3
              simp only [z_csl, List.length_replicate] at this
              exact this
          · cases h
        · -- aastore
          have hlen : len = 1 := by simpa [z_chka] using hc3
          subst hlen
          split at h
          · rename_i v i a st'
            split at h
            · rename_i ci lq cv sl e1 e2
              obtain ⟨g1, hrun⟩ := z_g_some h
              simp only [Bool.and_eq_true, decide_eq_true_eq] at g1
              obtain ⟨⟨⟨⟨g1, g2⟩, g3⟩, g4⟩, g5⟩ := g1
              have g1 := Nat.eq_of_beq_eq_true g1
              subst g1
              have g4 := Nat.blt_eq.mp g4
              obtain ⟨rc, hrc⟩ := Option.isSome_iff_exists.mp g5
              have hin' := z_in_iff.mp g2
              have hlt : i.toNatClampNeg < lq.length := Nat.not_le.mp fun q => hin' (Or.inr q)
              obtain ⟨t0, ht0⟩ : ∃ t0 : Nat, tys[t0]? = some (cid a, FieldType.object rc.1) := by
                obtain ⟨t0, ht0⟩ := hFS _ _ g3 (by omega)
                refine ⟨t0, ?_⟩
                rw [ht0]
                simp [z_fty, hrc]
              refine va_astq hx hb hK hP hD hS a t0 v ci (z_rd_at e1) ht0 (z_rd_at e2) hrc hin' hdg (fun H1 locs1 k1 k2 k3 => ?_)
              have hset : (z_rd ad cid S.1 S.2).set a (ad a, .inl (cid a, lq.length, .inr (.inr (.inr (.inr (va_up (z_rl ad lq) i.toNatClampNeg (some (ad v)))))))) = z_rd ad cid (S.1.set a (.inr (.inr (ci, lq.set i.toNatClampNeg (some v))))) S.2 := by
                rw [← z_rd_setc e1]
                show _ = (z_rd ad cid S.1 S.2).set a (ad a, Sum.inl (cid a, (lq.set i.toNatClampNeg (some v)).length, Sum.inr (Sum.inr (Sum.inr (Sum.inr (z_rl ad (lq.set i.toNatClampNeg (some v))))))))
                have hf : va_up (z_rl ad lq) i.toNatClampNeg (some (ad v)) = z_rl ad (lq.set i.toNatClampNeg (some v)) := by
                  funext j
                  unfold va_up z_rl
                  by_cases hj : j = i.toNatClampNeg
                  · subst hj
                    rw [if_pos rfl, List.getElem?_set, if_pos rfl, if_pos hlt]
                  · rw [if_neg hj, List.getElem?_set, if_neg (Ne.symm hj)]
                rw [List.length_set, hf]
              have hsl : z_slo (S.1.set a (.inr (.inr (ci, lq.set i.toNatClampNeg (some v))))) = z_slo S.1 := z_slo_set e1 (by simp [z_csl])
              refine ih cs ls st' (S.1.set a (.inr (.inr (ci, lq.set i.toNatClampNeg (some v)))), S.2) ad arr H1 locs1 (pc' + 1) cells slots hsuf' hnext hrun (z_TY_set hTY (fun _ _ hh => by cases hh) (fun _ _ hh => ⟨t0, _, ht0⟩)) hl ⟨hset ▸ k1, hset ▸ k2, k3⟩ (by dsimp only; rw [List.length_set]; exact hbc) (by dsimp only; rw [hsl]; exact hbs) (fun ad' arr' H' locs' b1 b2 b3 b4 => ?_)
              dsimp only at b1 ⊢
              rw [List.length_set] at b1 ⊢
              rw [hsl]
              exact kk ad' arr' H' locs' b1 b2 b3 b4
            · cases h
          · cases h
        · -- invokespecial
          rename_i idx
          split at h
          · split at h
            · rename_i o st'
              obtain ⟨g1, h⟩ := z_g_some h
              have g1 := Nat.le_of_ble_eq_true g1
              simp only [z_chka, Bool.and_eq_true, decide_eq_true_eq] at hc3
              obtain ⟨rfl, ⟨q1, q2⟩, q3⟩ := hc3
              have hcat := z_cat_map ad st'
              refine W.objInit hx hb hown (hts _ (z_w_in q1 hTb)) (hts _ (z_w_in q2 hTb)) (hts _ (z_w_in q3 hTb)) (g := F0 M pc' arr (.ref (ad o) :: st'.map (z_cv ad))) rfl (hl.2.1.trans hml.symm) (a := ad o) (rest := st'.map (z_cv ad)) rfl hdg (by omega) (by show 2 * 0 + _ + 12 ≤ _; rw [hcat]; omega) ?_
              exact ih cs ls st' S ad arr H locs (pc' + 3) cells slots hsuf' hnext h hTY hl hHH hbc hbs kk
            · cases h
          · rename_i hlk
            split at h
            · rename_i o st'
              obtain ⟨g1, h⟩ := z_g_some h
              simp only [Bool.and_eq_true] at g1
              obtain ⟨⟨g1, g2⟩, g3⟩ := g1
              obtain ⟨S', h1, h2⟩ := Option.bind_eq_some_iff.mp h
              obtain ⟨hT', me, hme, hM⟩ := hCA _ _ _ _ h1 hTY
              have hm1 := hCM _ _ _ _ h1
              have hm2 := z_ablk_mono hCM _ _ _ _ _ _ h2
              dsimp only at hm2
              cases lk with
              | nil => exact absurd rfl hlk
              | cons a lk' =>
                simp only [z_chka, Bool.and_eq_true, decide_eq_true_eq, hme] at hc3
                obtain ⟨rfl, hc3⟩ := hc3
                cases hpx : PX[(a :: lk').getD 0 0]? with
                | none =>
                  rw [hpx] at hc3
                  cases hc3
                | some q =>
                  rw [hpx] at hc3
                  simp only [Bool.and_eq_true, decide_eq_true_eq, Bool.or_eq_true] at hc3
                  obtain ⟨⟨⟨⟨hlink, hcode⟩, hinst⟩, hini⟩, hm3, hm4, hpar, hnm, hret, hmx⟩ := hc3
                  have hGI := z_good hcode hTb
                  have hR2 : (z_rma d (S'.1.length - S.1.length) (z_slo S'.1 - z_slo S.1)).frames + 1 ≤ R.frames ∧ 8 + (me.2.2.1 + 11) + (z_rma d (S'.1.length - S.1.length) (z_slo S'.1 - z_slo S.1)).locals ≤ R.locals := ⟨hRm.1, by
                    show 8 + (me.2.2.1 + 11) + 60 * d ≤ R.locals
                    omega⟩
                  have hpre : PreS s H (z_PcA D cl tys A ad cid Tb [.ref o] S) (.ref (ad o) :: []) := ⟨z_PcA_blind, fun U hU hW => ⟨rfl, va_K.moved hW.alike hK, by rw [hU]; exact hP, hD, hNW.warm hW, fun C' hC' => va_AO.moved hW.alike (hAO C' hC'), fun q hq => hA q (Nat.le_trans hS.1 (by rw [hU] at hq; exact hq))⟩⟩
                  have hroom : 2 * (F0 M pc' arr ((.ref o :: st').map (z_cv ad))).monitorRoom + ((st'.map (z_cv ad)).map fun v => v.category).sum ≤ 8 := lv_room (by rw [z_cat_map]; exact Nat.le_of_ble_eq_true g1)
                  have hcs : cells + (S'.1.length - S.1.length) ≤ R.cells ∧ slots + (z_slo S'.1 - z_slo S.1) ≤ R.slots := ⟨by omega, by omega⟩
                  have hM' := hM ad
                  rw [show z_wsm Tb me = .code me.1 me.2.1 me.2.2.1 none :: Tb.filter goodWord from by rw [← hret]; rfl] at hM'
                  rw [show z_wsm Tb me = .code me.1 me.2.1 me.2.2.1 none :: Tb.filter goodWord from by rw [← hret]; rfl] at hGI
                  have run : va_Run p l e R s M args below meth c H locs cells slots (S'.1.length - S.1.length) (z_slo S'.1 - z_slo S.1) (F0 M pc' arr ((.ref o :: st').map (z_cv ad))) (st'.map (z_cv ad)) (z_QcA D cl A ad cid S S' (Value.ref (ad o) :: []).toArray) A := by
                    rcases hlink with hlink | hlink
                    · exact va_runI (Ts := Ts) (own := own) (nL := nL) ⟨hx, hb, hml, hown, hts⟩ hM' ⟨callB_of 0 hts hGI rfl rfl rfl (hts _ (z_w_in hini hTb)) (hts _ (z_w_in hlink hTb)) ⟨hm3, hm4, hpar⟩ hR2, hnm, hts _ (z_w_in hinst hTb)⟩ hpre rfl rfl hl.2.1 rfl hroom hdg hcs
                    · exact va_runIN (Ts := Ts) (own := own) (nL := nL) ⟨hx, hb, hml, hown, hts⟩ hM' ⟨va_cnB 0 hts hGI rfl rfl rfl (hNW _ (List.mem_of_getElem? hlink) rfl) (hts _ (z_w_in hini hTb)) ⟨hm3, hm4, hpar⟩ hR2, hnm, hts _ (z_w_in hinst hTb)⟩ hpre rfl rfl hl.2.1 rfl hroom hdg hcs
                  refine z_callA run hS (fun ad1 H1 locs1 k0 k1 k2 k3 => ?_)
                  have key := ih cs ls st' S' ad1 arr H1 locs1 (pc' + 3) (cells + (S'.1.length - S.1.length)) (slots + (z_slo S'.1 - z_slo S.1)) hsuf' hnext h2 hT' (hl.ad k0 g2) ⟨k1, k2, k3⟩ (by omega) (by omega) (fun ad' arr' H' locs' b1 b2 b3 b4 => by
                    have e1 : cells + (S'.1.length - S.1.length) + (SF.1.length - S'.1.length) = cells + (SF.1.length - S.1.length) := by omega
                    have e2 : slots + (z_slo S'.1 - z_slo S.1) + (z_slo SF.1 - z_slo S'.1) = slots + (z_slo SF.1 - z_slo S.1) := by omega
                    rw [e1, e2]
                    exact kk ad' arr' H' locs' (z_agr_trans k0 b1 hm1.1) b2 b3 b4)
                  rw [z_rok_map k0 g3] at key
                  exact key
            · cases h
        · -- putfield
          rename_i idx
          split at h
          · rename_i v a st' hkd
            split at h
            · rename_i ci sl e1
              split at h
              · rename_i r0 e2
                obtain ⟨g1, hrun⟩ := z_g_some h
                have g1 := Nat.eq_of_beq_eq_true g1
                subst g1
                simp only [z_chk, Bool.and_eq_true, decide_eq_true_eq] at hc1
                obtain ⟨rfl, hc1⟩ := hc1
                cases hcl : cl[lk.getD 0 0]? with
                | none =>
                  rw [hcl] at hc1
                  cases hc1
                | some q =>
                  obtain ⟨C', T, N⟩ := q
                  rw [hcl] at hc1
                  simp only [Bool.and_eq_true, decide_eq_true_eq] at hc1
                  obtain ⟨⟨hkN, hw⟩, -⟩ := hc1
                  simp only [z_chka, hcl, Bool.and_eq_true, decide_eq_true_eq] at hc3
                  obtain ⟨hc3, hty⟩ := hc3
                  obtain ⟨hfin, hdecl⟩ := hc3 hkd
                  have hname : meth.name = "<init>" := by
                    rcases hin with q | q
                    · exact absurd rfl (q _ hmem idx)
                    · exact q
                  have hlink := hts _ (z_w_in hw hTb)
                  have hlen : lk.getD 1 0 < (sl.mapIdx (fun j s => z_vl ad s (S.2 a j))).length := by
                    rw [List.length_mapIdx]
                    exact (List.getElem?_eq_some_iff.mp e2).1
                  have hnf : narrow (tyq (lk.getD 0 0) (lk.getD 1 0)) (.ref (ad v)) = .ref (ad v) ∧ fits (tyq (lk.getD 0 0) (lk.getD 1 0)) (.ref (ad v)) = true := by
                    revert hty
                    cases tyq (lk.getD 0 0) (lk.getD 1 0) <;> intro hty <;> first | exact ⟨rfl, rfl⟩ | exact absurd hkd (of_decide_eq_true hty)
                  have hset : (z_rd ad cid S.1 S.2).set a (ad a, .inr (lk.getD 0 0, (sl.mapIdx (fun j s => z_vl ad s (S.2 a j))).set (lk.getD 1 0) (.ref (ad v)))) = z_rd ad cid (S.1.set a (.inl (lk.getD 0 0, sl.set (lk.getD 1 0) (.inr (some v))))) S.2 := by
                    rw [← z_rd_setc e1]
                    congr 2
                    show Sum.inr (lk.getD 0 0, _) = Sum.inr (lk.getD 0 0, (sl.set (lk.getD 1 0) (.inr (some v))).mapIdx (fun j s => z_vl ad s (S.2 a j)))
                    congr 2
                    apply List.ext_getElem?
                    intro i
                    have hlt := (List.getElem?_eq_some_iff.mp e2).1
                    simp only [List.getElem?_set, List.getElem?_mapIdx, List.length_mapIdx]
                    by_cases hi : lk.getD 1 0 = i
                    · rw [if_pos hi, if_pos hi]
                      subst hi
                      rw [if_pos hlt, if_pos hlt]
                      rfl
                    · rw [if_neg hi, if_neg hi]
                  refine va_putF hx hb hts (hCK _ _ hcl).1 (tyq (lk.getD 0 0)) (hCK _ _ hcl).2.1 (hCK _ _ hcl).2.2 hown hK hP hD hS a (z_rd_at e1) hcl (lk.getD 1 0) hkN hlink (fun _ q => q) hfin hname hdecl (v := .ref (ad v)) (ty := tyq (lk.getD 0 0) (lk.getD 1 0)) ((hCK _ _ hcl).2.1 _ hkN) hnf.1 hnf.2 hlen hdg (fun H1 locs1 k1 k2 k3 => ?_)
                  have hsl : z_slo (S.1.set a (.inl (lk.getD 0 0, sl.set (lk.getD 1 0) (.inr (some v))))) = z_slo S.1 := z_slo_set e1 (by simp [z_csl])
                  refine ih cs ls st' (S.1.set a (.inl (lk.getD 0 0, sl.set (lk.getD 1 0) (.inr (some v)))), S.2) ad arr H1 locs1 (pc' + 3) cells slots hsuf' hnext hrun (z_TY_set hTY (fun _ _ hh => by cases hh) (fun _ _ hh => by cases hh)) hl ⟨hset ▸ k1, hset ▸ k2, k3⟩ (by dsimp only; rw [List.length_set]; exact hbc) (by dsimp only; rw [hsl]; exact hbs) (fun ad' arr' H' locs' b1 b2 b3 b4 => ?_)
                  dsimp only at b1 ⊢
                  rw [List.length_set] at b1 ⊢
                  rw [hsl]
                  exact kk ad' arr' H' locs' b1 b2 b3 b4
              · cases h
            · cases h
          · cases h
        · refine z_ins_ok (b := 0) (hG S.1 hTY) (fun hq1 hq2 => absurd hq2 (hSc _ hmem hq1)) hc1 hdg h hl hHH ?_
          · intro o ls' st' m' H' locs' arr' hk hl' hH'
            cases o with
            | none => exact ih cs ls' st' (S.1, m') ad arr' H' locs' (pc' + len) cells slots hsuf' hnext hk hTY hl' hH' hbc hbs kk
            | some t => exact ih (z_at code t) ls' st' (S.1, m') ad arr' H' locs' t cells slots (z_at_suf code t) (fun y cs' hy => z_at_pc code t y cs' hy) hk hTY hl' hH' hbc hbs kk
end Ze
