def z_chn : List z_En → Bool
  | e :: f :: r => Nat.beq f.1 (e.1 + e.2.2.1) && z_chn (f :: r)
  | _ => true
theorem z_chn_tail {e : z_En} {r : List z_En} (h : z_chn (e :: r) = true) : z_chn r = true := by
  cases r with
  | nil => rfl
  | cons f r =>
    simp only [z_chn, Bool.and_eq_true] at h
    exact h.2
theorem z_chn_suf {cs code : List z_En} (hs : cs <:+ code) (h : z_chn code = true) : z_chn cs = true := by
  obtain ⟨pre, rfl⟩ := hs
  induction pre with
  | nil => exact h
  | cons a pre ih => exact ih (z_chn_tail h)
theorem z_at_suf : ∀ (code : List z_En) (t : Nat), z_at code t <:+ code
  | [], _ => List.suffix_refl _
  | e :: r, t => by
    unfold z_at
    split
    · exact List.suffix_refl _
    · exact (z_at_suf r t).trans (List.suffix_cons e r)
theorem z_at_pc : ∀ (code : List z_En) (t : Nat) (e : z_En) (cs : List z_En), z_at code t = e :: cs → e.1 = t
  | [], _, _, _, h => by simp [z_at] at h
  | f :: r, t, e, cs, h => by
    unfold z_at at h
    split at h
    · rename_i hb
      cases h
      exact Nat.eq_of_beq_eq_true hb
    · exact z_at_pc r t e cs h
theorem z_copy_some {sh : List z_C} {a0 a : Nat} {sp dp n : Int32} (h : z_copy sh a0 a sp dp n = true) : ∃ n0 n1, sh[a0]? = some (.inr (.inl (0, n0))) ∧ sh[a]? = some (.inr (.inl (0, n1))) ∧ ¬ sp < 0 ∧ ¬ dp < 0 ∧ ¬ n < 0 ∧ sp.toNatClampNeg + n.toNatClampNeg ≤ n0 ∧ dp.toNatClampNeg + n.toNatClampNeg ≤ n1 := by
  unfold z_copy at h
  split at h
  · rename_i n0 n1 h1 h2
    simp only [Bool.and_eq_true, decide_eq_true_eq] at h
    exact ⟨n0, n1, h1, h2, h.1.1.1.1, h.1.1.1.2, h.1.1.2, Nat.le_of_ble_eq_true h.1.2, Nat.le_of_ble_eq_true h.2⟩
  · cases h
section Zc
variable {p : Program} {l : Launch} {e : Env} {R : Room} {s : State} {M : MethodId} {args : Array Value} {below : List Frame} {meth : Method} {c : Code} {cells slots : Nat} {Q : State → Prop}
variable {cc : ByteArray} {own : String} {D : va_G} {cl : List vw_C} {tys : List (ClassId × FieldType)} {cid : Nat → ClassId} {ad : Nat → Nat} {sh : List z_C} {A : Nat → Prop} {H0 : Heap} {Tb Ts : List Jvm.Cond} {tyq : Nat → Nat → FieldType} {L b nL : Nat} {xs : Nat → Int32} {P : List z_Me} {PX : List (List Nat)} {d : Nat} {C : Nat → List Value → z_M → Option z_R}
/-- what a method's return asks -/
def z_Ret (p : Program) (l : Launch) (e : Env) (R : Room) (s : State) (M : MethodId) (args : Array Value) (below : List Frame) (meth : Method) (c : Code) (cells slots : Nat) (Q : State → Prop) (cc : ByteArray) (D : va_G) (cl : List vw_C) (A : Nat → Prop) (H0 : Heap) (ad : Nat → Nat) (cid : Nat → ClassId) (sh : List z_C) (rk : Nat) (r : z_R) : Prop :=
  (∀ (pc : Nat) (v : Int32) (m : z_M) (H : Heap) (locs : List Loc) (arr : Array Slot), decode cc pc = .ok (.ireturn, 1) → (rk = 1 ∨ rk = 3 ∧ z_isb v = true) → r = (v, 0, m) → z_H D cl A H0 ad cid sh m H locs → W p l e R s M args below meth c H locs cells slots Q (F0 M pc arr [.int v])) ∧
  (∀ (pc : Nat) (v : Int64) (m : z_M) (H : Heap) (locs : List Loc) (arr : Array Slot), decode cc pc = .ok (.lreturn, 1) → rk = 2 → r = (0, v, m) → z_H D cl A H0 ad cid sh m H locs → W p l e R s M args below meth c H locs cells slots Q (F0 M pc arr [.long v])) ∧
  (∀ (pc : Nat) (m : z_M) (H : Heap) (locs : List Loc) (arr : Array Slot), decode cc pc = .ok (.return_, 1) → rk = 0 → r = (0, 0, m) → z_H D cl A H0 ad cid sh m H locs → W p l e R s M args below meth c H locs cells slots Q (F0 M pc arr []))
def z_ech (Tb : List Jvm.Cond) (cl : List vw_C) (tyq : Nat → Nat → FieldType) (P : List z_Me) (PX : List (List Nat)) (own : String) (cc : ByteArray) (e : z_En) : Prop := z_chk Tb cl tyq own e.1 e.2.1 e.2.2.1 e.2.2.2.1 e.2.2.2.2.1 e.2.2.2.2.2 = true ∧ z_chkc Tb cl P PX own e.2.1 e.2.2.1 e.2.2.2.1 e.2.2.2.2.2 = true ∧ decode cc e.1 = .ok (e.2.1, e.2.2.1)
set_option maxHeartbeats 4000000 in
set_option maxRecDepth 100000 in
theorem z_blk_ok (hG : z_G p s M args c cc own D cl tys cid sh Tb Ts tyq) (hSc : z_Sc own A s H0 ad b L xs) (hml : c.maxLocals = nL) (hNW : z_NW Tb s) (hRm : d + 1 ≤ R.frames ∧ 60 * d + 60 ≤ R.locals) (hcs : cells ≤ R.cells ∧ slots ≤ R.slots) (hC1 : z_C1 l D cl tys A ad cid sh Tb P d C)
    {code : List z_En} {hd : List (Nat × List Bool)} {rk : Nat} {K : Nat → z_V → List Value → z_M → Option z_R} {r : z_R} (hE : ∀ x ∈ code, z_ech Tb cl tyq P PX own cc x) (hch : z_chn code = true)
    (hK : ∀ (pc : Nat) (ls : z_V) (st : List Value) (m : z_M) (arr : Array Slot) (H : Heap) (locs : List Loc), K pc ls st m = some r → z_L ad ls arr nL → z_H D cl A H0 ad cid sh m H locs → W p l e R s M args below meth c H locs cells slots Q (F0 M pc arr (st.map (z_cv ad))))
    (hRet : z_Ret p l e R s M args below meth c cells slots Q cc D cl A H0 ad cid sh rk r) :
    ∀ (n : Nat) (cs : List z_En) (ls : z_V) (st : List Value) (m : z_M) (arr : Array Slot) (H : Heap) (locs : List Loc) (pc : Nat), cs <:+ code → (∀ x cs', cs = x :: cs' → x.1 = pc) → z_blk sh L xs code hd rk K C n cs ls st m = some r → z_L ad ls arr nL → z_H D cl A H0 ad cid sh m H locs → W p l e R s M args below meth c H locs cells slots Q (F0 M pc arr (st.map (z_cv ad))) := by
  intro n
  induction n with
  | zero =>
    intro cs ls st m arr H locs pc _ _ h
    simp [z_blk] at h
  | succ n ih =>
    intro cs ls st m arr H locs pc hsuf hpc h hl hH
    cases cs with
    | nil => simp [z_blk] at h
    | cons x cs =>
      obtain ⟨pc', ins, len, lk, cn, px⟩ := x
      obtain rfl : pc' = pc := hpc _ _ rfl
      obtain ⟨hc1, hc2, hdg⟩ := hE _ (hsuf.subset List.mem_cons_self)
      have hsuf' : cs <:+ code := (List.suffix_cons _ cs).trans hsuf
      have hnext : ∀ y cs', cs = y :: cs' → y.1 = pc' + len := by
        intro y cs' hy
        subst hy
        have h1 := z_chn_suf hsuf hch
        simp only [z_chn, Bool.and_eq_true] at h1
        exact Nat.eq_of_beq_eq_true h1.1
      have hnx : ∀ (o : Option Nat) (ls' : z_V) (st' : List Value) (m' : z_M) (H' : Heap) (locs' : List Loc) (arr' : Array Slot), (match o with
          | none => (match z_hd hd (pc' + len) with
            | some mq => K (pc' + len) (z_mask mq ls') st' m'
            | none => z_blk sh L xs code hd rk K C n cs ls' st' m')
          | some t => (match z_hd hd t with
            | some mq => K t (z_mask mq ls') st' m'
            | none => z_blk sh L xs code hd rk K C n (z_at code t) ls' st' m')) = some r → z_L ad ls' arr' nL → z_H D cl A H0 ad cid sh m' H' locs' → W p l e R s M args below meth c H' locs' cells slots Q (F0 M (o.getD (pc' + len)) arr' (st'.map (z_cv ad))) := by
        intro o ls' st' m' H' locs' arr' hk hl' hH'
        cases o with
        | none =>
          dsimp only at hk
          split at hk
          · exact hK _ _ _ _ _ _ _ hk (hl'.mask _) hH'
          · exact ih cs ls' st' m' arr' H' locs' (pc' + len) hsuf' hnext hk hl' hH'
        | some t =>
          dsimp only at hk
          split at hk
          · exact hK _ _ _ _ _ _ _ hk (hl'.mask _) hH'
          · exact ih (z_at code t) ls' st' m' arr' H' locs' t (z_at_suf code t) (fun y cs' hy => z_at_pc code t y cs' hy) hk hl' hH'
      dsimp only [z_ech] at hc1 hc2 hdg
      unfold z_blk at h
      dsimp only at h
      split at h
      · -- ireturn
        have hlen : len = 1 := by simpa [z_chk] using hc1
        subst hlen
        split at h
        · split at h
          · exact hRet.1 _ _ m H locs arr hdg (Or.inl rfl) (Option.some.inj h).symm hH
          · obtain ⟨g1, g2⟩ := z_g_some h
            exact hRet.1 _ _ m H locs arr hdg (Or.inr ⟨rfl, g1⟩) (Option.some.inj g2).symm hH
          · cases h
        · cases h
      · have hlen : len = 1 := by simpa [z_chk] using hc1
        subst hlen
        split at h
        · split at h
          · exact hRet.2.1 _ _ m H locs arr hdg rfl (Option.some.inj h).symm hH
          · cases h
        · cases h
      · have hlen : len = 1 := by simpa [z_chk] using hc1
        subst hlen
        split at h
        · split at h
          · exact hRet.2.2 _ m H locs arr hdg rfl (Option.some.inj h).symm hH
          · cases h
        · cases h
      · -- invokevirtual
        split at h
        · rename_i a as rest hp
          obtain ⟨g1, h⟩ := z_g_some h
          rw [Bool.and_eq_true] at g1
          obtain ⟨r0, g2, h⟩ := Option.bind_eq_some_iff.mp h
          exact z_virt hG hml hNW hRm hcs hC1 hc2 hdg hp g1.1 g1.2 g2 hl.2.1 hH (fun H' locs' hH' => hnx none ls _ _ H' locs' arr h hl hH')
        · cases h
      · -- invokestatic
        split at h
        · split at h
          · rename_i n' dp a sp a0 rest
            obtain ⟨g1, h⟩ := z_g_some h
            rw [Bool.and_eq_true] at g1
            obtain ⟨n0, n1, e1, e2, e3, e4, e5, e6, e7⟩ := z_copy_some g1.2
            simp only [z_chkc, Bool.and_eq_true, decide_eq_true_eq] at hc2
            obtain ⟨rfl, ⟨⟨q1, q2⟩, q3⟩, q4⟩ := hc2
            have hGG := hG
            obtain ⟨hx, hb, hown, hts, hKK, hTb, hCK, hTY⟩ := hG
            obtain ⟨hP, hD, hS⟩ := hH
            obtain ⟨t0, ht0⟩ := (hTY a0).1 n0 0 e1
            obtain ⟨t1, ht1⟩ := (hTY a).1 n1 0 e2
            have hnw : nativeFrameWords "java/lang/System" "arraycopy" 5 ≤ 30 := by decide +kernel
            have hcat := Nat.le_of_ble_eq_true g1.1
            have hrest := z_cat_map ad rest
            refine va_copyi hx hb (hml.trans hl.2.1.symm) hown (hts _ (z_w_in q1 hTb)) (hts _ (z_w_in q2 hTb)) (hts _ (z_w_in q3 hTb)) (hts _ (z_w_in q4 hTb)) hKK hP hD hS a0 a t0 t1 (z_rd_at e1) (z_rd_at e2) ht0 ht1 rfl e3 e4 e5 e6 e7 (fun _ _ => rfl) (by omega) (by rw [hrest]; omega) hdg (fun H1 locs1 k1 k2 k3 => ?_)
            have hset : (z_rd ad cid sh m).set a (ad a, .inl (cid a, n1, .inl (va_cpy (m a0) (m a) sp.toNatClampNeg dp.toNatClampNeg n'.toNatClampNeg))) = z_rd ad cid sh (fun q => if q = a then va_cpy (m a0) (m a) sp.toNatClampNeg dp.toNatClampNeg n'.toNatClampNeg else m q) := by
              rw [← z_rd_set e2 (m := m) (fun i hi => if_neg hi), if_pos rfl]
              rfl
            exact hnx none ls _ _ H1 locs1 arr h hl ⟨hset ▸ k1, hset ▸ k2, k3⟩
          · cases h
        · split at h
          · rename_i y x rest
            obtain ⟨g1, h⟩ := z_g_some h
            simp only [z_chkc, Bool.and_eq_true, decide_eq_true_eq] at hc2
            obtain ⟨rfl, ⟨⟨q1, q2⟩, q3⟩, q4⟩ := hc2
            obtain ⟨hx, hb, hown, hts, hKK, hTb, hCK, hTY⟩ := hG
            have hcat := Nat.le_of_ble_eq_true g1
            have hrest := z_cat_map ad rest
            exact va_mmax hx hb (hml.trans hl.2.1.symm) hown (hts _ (z_w_in q1 hTb)) (hts _ (z_w_in q2 hTb)) (hts _ (z_w_in q3 hTb)) (hts _ (z_w_in q4 hTb)) (by omega) (by rw [hrest]; omega) hcs.1 hcs.2 hdg (hnx none ls _ _ H locs arr h hl hH)
          · cases h
        · rename_i hlk hlk2
          split at h
          · rename_i as rest hp
            obtain ⟨g1, h⟩ := z_g_some h
            obtain ⟨r0, g2, h⟩ := Option.bind_eq_some_iff.mp h
            exact z_stat hG hml hNW hRm hcs hC1 hc2 (fun q => hlk q) (fun a q => hlk2 a q) hdg hp g1 g2 hl.2.1 hH (fun H' locs' hH' => hnx none ls _ _ H' locs' arr h hl hH')
          · cases h
      · exact z_ins_ok hG (fun _ => hSc) hc1 hdg h hl hH hnx
end Zc
