/-! One step of the small machine is one of the machine. -/
def z_w (Tb : List Jvm.Cond) (i : Nat) (x : Jvm.Cond) : Bool := decide (Tb[i]? = some x) && goodWord x
def z_tl (pc : Nat) : Nat → List Int → List Nat
  | _, [] => []
  | v, o :: r => v :: ((pc : Int) + o).toNat :: z_tl pc (v + 1) r
def z_ll (pc : Nat) : List (Int × Int) → List Nat
  | [] => []
  | q :: r => q.1.toNat :: ((pc : Int) + q.2).toNat :: z_ll pc r
def z_lawn : String := "StayingGuestsLaw"
def z_chk (Tb : List Jvm.Cond) (cl : List vw_C) (tyq : Nat → Nat → FieldType) (own : String) (pc : Nat) (ins : Instr) (len : Nat) (lk : List Nat) (cn : Int32) (px : List Nat) : Bool := match ins with
  | .aload i | .iload i | .lload i | .istore i | .astore i | .lstore i => decide (len = 2 ∧ lk.getD 0 0 = i)
  | .aload_n i | .iload_n i | .lload_n i | .istore_n i | .astore_n i => decide (len = 1 ∧ lk.getD 0 0 = (i : Nat))
  | .iinc i n => decide (len = 3 ∧ lk.getD 0 0 = i ∧ Int32.ofInt n = cn)
  | .iconst n => decide (len = 1 ∧ Int32.ofInt n = cn)
  | .bipush n => decide (len = 2 ∧ (Int8.ofInt n).toInt32 = cn)
  | .sipush n => decide (len = 3 ∧ (Int16.ofInt n).toInt32 = cn)
  | .ldc i => decide (len = 2) && z_w Tb (px.getD 0 0) (.constant own i cn)
  | .ldc_w i => decide (len = 3) && z_w Tb (px.getD 0 0) (.constant own i cn)
  | .ldc2_w i => decide (len = 3) && z_w Tb (px.getD 0 0) (.constantLong own i z_lost)
  | .lconst n => decide (len = 1 ∧ (n : Nat) = 0)
  | .iadd | .isub | .imul | .iand | .ior | .ixor | .idiv | .irem | .ishl | .ishr | .iushr | .i2l | .i2b | .i2s | .ldiv | .lrem | .lcmp | .dup | .dup2 | .pop | .iastore | .baload | .bastore | .aaload | .ireturn | .lreturn | .return_ => decide (len = 1)
  | .goto off => decide (len = 3 ∧ (pc : Int) + off = (lk.getD 0 0 : Nat))
  | .ifCond _ off => decide (len = 3 ∧ (pc : Int) + off = (lk.getD 0 0 : Nat))
  | .if_icmp _ off => decide (len = 3 ∧ (pc : Int) + off = (lk.getD 0 0 : Nat))
  | .tableswitch d lo hi offs => decide ((pc : Int) + d = (lk.getD 0 0 : Nat) ∧ 0 ≤ lo ∧ hi = lo + offs.size - 1 ∧ hi < 2147483647 ∧ lk.tail = z_tl pc lo.toNat offs.toList ∧ offs.toList.all (fun o => decide (0 ≤ (pc : Int) + o)) = true)
  | .lookupswitch d ps => decide ((pc : Int) + d = (lk.getD 0 0 : Nat) ∧ (ps.toList.zip (ps.toList.drop 1)).all (fun (a, next) => a.1 < next.1) = true ∧ lk.tail = z_ll pc ps.toList ∧ ps.toList.all (fun o => decide (0 ≤ (pc : Int) + o.2 ∧ 0 ≤ o.1 ∧ o.1 < 2147483648)) = true)
  | .getfield i => decide (len = 3) && (match cl[lk.getD 0 0]? with
    | some q => decide (lk.getD 1 0 < q.2.2) && z_w Tb (px.getD 0 0) (.fieldLink own i (q.2.1 (lk.getD 1 0)).1 (q.2.1 (lk.getD 1 0)).2.1 (q.2.1 (lk.getD 1 0)).2.2.1)
    | none => false)
  | .putfield i => decide (len = 3) && (match cl[lk.getD 0 0]? with
    | some q => decide (lk.getD 1 0 < q.2.2) && z_w Tb (px.getD 0 0) (.fieldLink own i (q.2.1 (lk.getD 1 0)).1 (q.2.1 (lk.getD 1 0)).2.1 (q.2.1 (lk.getD 1 0)).2.2.1) && decide ((lk.getD 2 0 = 2) ∨ (q.2.1 (lk.getD 1 0)).2.2.2 = false ∧ (lk.getD 2 0 = 0 ∧ tyq (lk.getD 0 0) (lk.getD 1 0) = .int ∨ lk.getD 2 0 = 1 ∧ tyq (lk.getD 0 0) (lk.getD 1 0) = .boolean))
    | none => false)
  | .iaload => decide (len = 1 ∧ (lk = [] ∨ own = z_lawn))
  | .arraylength => decide (len = 1 ∧ own = z_lawn)
  | _ => true
theorem z_in_iff {n : Nat} {i : Int32} : z_in n i = true ↔ vp_in i n := by
  unfold z_in vp_in
  rw [Bool.not_eq_true', Bool.or_eq_false_iff, decide_eq_false_iff_not, not_or]
  have hb : Nat.ble n i.toNatClampNeg = false ↔ ¬ n ≤ i.toNatClampNeg := by
    constructor
    · intro h q
      rw [Nat.ble_eq.mpr q] at h
      cases h
    · intro h
      cases hq : Nat.ble n i.toNatClampNeg with
      | false => rfl
      | true => exact absurd (Nat.ble_eq.mp hq) h
  rw [hb]
theorem z_okp_some {sh : List z_C} {a ci k t : Nat} (h : z_okp sh a ci k t = true) : ∃ sl, sh[a]? = some (.inl (ci, sl)) ∧ sl[k]? = some (.inl t) := by
  unfold z_okp at h
  split at h
  · rename_i c' sl hs
    rw [Bool.and_eq_true] at h
    have e1 := Nat.eq_of_beq_eq_true h.1
    subst e1
    have h2 := h.2
    split at h2
    · rename_i t' ht
      have e2 := Nat.eq_of_beq_eq_true h2
      subst e2
      exact ⟨sl, hs, ht⟩
    · cases h2
  · cases h
theorem z_okc_some {sh : List z_C} {a ci : Nat} (h : z_okc sh a ci = true) : ∃ sl, sh[a]? = some (.inl (ci, sl)) := by
  unfold z_okc at h
  split at h
  · rename_i c' sl hs
    have e1 := Nat.eq_of_beq_eq_true h
    subst e1
    exact ⟨sl, hs⟩
  · cases h
theorem z_ref_some {sh : List z_C} {a ci k r : Nat} (h : z_ref sh a ci k = some r) : ∃ sl, sh[a]? = some (.inl (ci, sl)) ∧ sl[k]? = some (.inr (some r)) := by
  unfold z_ref at h
  split at h
  · rename_i c' sl hs
    split at h
    · rename_i hb
      have e1 := Nat.eq_of_beq_eq_true hb
      subst e1
      split at h
      · rename_i r' hr
        subst h
        exact ⟨sl, hs, hr⟩
      · cases h
    · cases h
  · cases h
theorem z_ina_some {sh : List z_C} {a t : Nat} {i : Int32} (h : z_ina sh a t i = true) : ∃ n, sh[a]? = some (.inr (.inl (t, n))) ∧ vp_in i n := by
  unfold z_ina at h
  split at h
  · rename_i t' n hs
    rw [Bool.and_eq_true] at h
    have e1 := Nat.eq_of_beq_eq_true h.1
    subst e1
    exact ⟨n, hs, z_in_iff.mp h.2⟩
  · cases h
theorem z_ai_eq (a c0 c1 j : Nat) : z_ai a c0 c1 j = a + c0 + c1 * j := by
  unfold z_ai
  split <;> simp
theorem z_affl_some : ∀ (l : List (Option Nat)) (v c : Nat), z_affl l v c = true → ∀ j, j < l.length → l[j]? = some (some (v + c * j))
  | [], _, _, _, j, hj => by simp at hj
  | none :: _, _, _, h, _, _ => by simp [z_affl] at h
  | some x :: r, v, c, h, 0, _ => by
    simp [z_affl] at h
    simp [h.1]
  | some x :: r, v, c, h, j + 1, hj => by
    simp [z_affl] at h
    have := z_affl_some r (v + c) c h.2 j (by simpa using hj)
    simp only [List.getElem?_cons_succ, this]
    rw [Nat.mul_succ]
    congr 2
    omega
theorem z_aff_some {sh : List z_C} {a c0 c1 n : Nat} (h : z_aff sh a c0 c1 n = true) : ∃ ci l, sh[a]? = some (.inr (.inr (ci, l))) ∧ l.length = n ∧ ∀ j, j < n → l[j]? = some (some (z_ai a c0 c1 j)) := by
  unfold z_aff at h
  split at h
  · rename_i ci l hs
    rw [Bool.and_eq_true] at h
    have e1 := Nat.eq_of_beq_eq_true h.1
    exact ⟨ci, l, hs, e1, fun j hj => by rw [z_ai_eq]; exact z_affl_some l _ _ h.2 j (by omega)⟩
  · cases h
theorem z_fs_set {ad : Nat → Nat} {sl : List (Nat ⊕ Option Nat)} {f : Nat → Int32} {k : Nat} {s0 : Nat ⊕ Option Nat} {x : Int32} (h : sl[k]? = some s0) : (sl.mapIdx (fun j s => z_vl ad s (f j))).set k (z_vl ad s0 x) = sl.mapIdx (fun j s => z_vl ad s (upd f k x j)) := by
  apply List.ext_getElem?
  intro i
  have hlt := (List.getElem?_eq_some_iff.mp h).1
  simp only [List.getElem?_set, List.getElem?_mapIdx, List.length_mapIdx]
  by_cases hi : k = i
  · subst hi
    rw [if_pos rfl, if_pos hlt, h]
    simp [upd]
  · simp [hi, upd, Ne.symm hi]
theorem z_sw_tl {ρ : Type} {x : Int32} {k : Nat → Option ρ} {d pc : Nat} {r : ρ} : ∀ (offs : List Int) (v : Nat), z_sw x k d (z_tl pc v offs) = some r → (∃ j off, offs[j]? = some off ∧ x = nI (v + j) ∧ k ((pc : Int) + off).toNat = some r) ∨ ((∀ j, j < offs.length → x ≠ nI (v + j)) ∧ k d = some r)
  | [], v, h => Or.inr ⟨fun j hj => by simp at hj, h⟩
  | o :: offs, v, h => by
    simp only [z_tl, z_sw] at h
    split at h
    · rename_i hx
      exact Or.inl ⟨0, o, rfl, hx, h⟩
    · rename_i hx
      rcases z_sw_tl offs (v + 1) h with ⟨j, off, h1, h2, h3⟩ | ⟨h1, h2⟩
      · exact Or.inl ⟨j + 1, off, by simpa using h1, by rw [h2]; congr 1; omega, h3⟩
      · refine Or.inr ⟨fun j hj => ?_, h2⟩
        cases j with
        | zero => exact hx
        | succ j => rw [show v + (j + 1) = v + 1 + j by omega]; exact h1 j (by simpa using hj)
theorem z_nI_of {x : Int32} {n : Nat} (h : x.toInt = (n : Int)) (hn : n < 2147483648) : x = nI n := by
  apply Int32.toInt_inj.mp
  rw [nI_toInt (by omega), h]
theorem z_sw_ll {ρ : Type} {x : Int32} {k : Nat → Option ρ} {d pc : Nat} {dflt : Int} {r : ρ} (hd : (pc : Int) + dflt = (d : Nat)) : ∀ (ps : List (Int × Int)), ps.all (fun o => decide (0 ≤ (pc : Int) + o.2 ∧ 0 ≤ o.1 ∧ o.1 < 2147483648)) = true → z_sw x k d (z_ll pc ps) = some r → ∃ t : Nat, (pc : Int) + Op.lookupswitch.offset ps dflt x.toInt = (t : Int) ∧ k t = some r
  | [], _, h => ⟨d, hd, h⟩
  | q :: ps, hp, h => by
    obtain ⟨a, o⟩ := q
    simp only [List.all_cons, Bool.and_eq_true, decide_eq_true_eq] at hp
    obtain ⟨⟨h1, h2, h3⟩, hp⟩ := hp
    simp only [z_ll, z_sw] at h
    split at h
    · rename_i hx
      refine ⟨((pc : Int) + o).toNat, ?_, h⟩
      have : a = x.toInt := by rw [hx, nI_toInt (by omega)]; omega
      rw [Op.lookupswitch.offset_cons, if_pos this]
      omega
    · rename_i hx
      obtain ⟨t, e1, e2⟩ := z_sw_ll hd ps hp h
      refine ⟨t, ?_, e2⟩
      rw [Op.lookupswitch.offset_cons, if_neg (fun hq => hx (z_nI_of (by omega) (by omega)))]
      exact e1
def z_TY (tys : List (ClassId × FieldType)) (cid : Nat → ClassId) (sh : List z_C) : Prop := ∀ i : Nat, (∀ n t, sh[i]? = some (.inr (.inl (t, n))) → ∃ t0 : Nat, tys[t0]? = some (cid i, if t = 1 then FieldType.boolean else FieldType.int)) ∧ (∀ ci l, sh[i]? = some (.inr (.inr (ci, l))) → ∃ (t0 : Nat) (nm : String), tys[t0]? = some (cid i, FieldType.object nm))
def z_CK (cl : List vw_C) (Ts : List Jvm.Cond) (tyq : Nat → Nat → FieldType) : Prop := ∀ (ci : Nat) (q : vw_C), cl[ci]? = some q → (∀ x ∈ u_ws q.1 q.2.1 q.2.2, x ∈ Ts) ∧ (∀ k, k < q.2.2 → parseFieldDescriptor (q.2.1 k).2.2.1 = some (tyq ci k)) ∧ (∀ a, a < q.2.2 → ∀ b, b < q.2.2 → a ≠ b → (q.2.1 a).2.1 ≠ (q.2.1 b).2.1)
def z_G (p : Program) (s : State) (M : MethodId) (args : Array Value) (c : Code) (cc : ByteArray) (own : String) (D : va_G) (cl : List vw_C) (tys : List (ClassId × FieldType)) (cid : Nat → ClassId) (sh : List z_C) (Tb Ts : List Jvm.Cond) (tyq : Nat → Nat → FieldType) : Prop :=
  p.tables.exec = Jvm.exec ∧ c.code = cc ∧ s.vm.findClass own = some M.cls ∧ (∀ x ∈ Ts, x.before args s = true) ∧ va_K D cl tys s ∧ (∀ x ∈ Tb, goodWord x = true → x ∈ Ts) ∧ z_CK cl Ts tyq ∧ z_TY tys cid sh
def z_H (D : va_G) (cl : List vw_C) (A : Nat → Prop) (H0 : Heap) (ad : Nat → Nat) (cid : Nat → ClassId) (sh : List z_C) (m : z_M) (H : Heap) (locs : List Loc) : Prop := va_P D cl (z_rd ad cid sh m) H ∧ va_D A (z_rd ad cid sh m) ∧ va_S A H0 H locs
def z_Sc (own : String) (A : Nat → Prop) (s : State) (H0 : Heap) (ad : Nat → Nat) (b L : Nat) (xs : Nat → Int32) : Prop := own = z_lawn → va_X b L xs s H0 ∧ b < H0.size ∧ ¬ A b ∧ ad 1000 = b
theorem z_w_in {Tb Ts : List Jvm.Cond} {i : Nat} {x : Jvm.Cond} (h : z_w Tb i x = true) (hT : ∀ x ∈ Tb, goodWord x = true → x ∈ Ts) : x ∈ Ts := by
  unfold z_w at h
  rw [Bool.and_eq_true, decide_eq_true_eq] at h
  exact hT x (List.mem_of_getElem? h.1) h.2
section Zi
variable {p : Program} {l : Launch} {e : Env} {R : Room} {s : State} {M : MethodId} {args : Array Value} {below : List Frame} {meth : Method} {c : Code} {cells slots : Nat} {Q : State → Prop}
variable {cc : ByteArray} {own : String} {D : va_G} {cl : List vw_C} {tys : List (ClassId × FieldType)} {cid : Nat → ClassId} {ad : Nat → Nat} {sh : List z_C} {A : Nat → Prop} {H0 : Heap} {Tb Ts : List Jvm.Cond} {tyq : Nat → Nat → FieldType} {L b nL : Nat} {xs : Nat → Int32}
set_option maxHeartbeats 4000000 in
set_option maxRecDepth 100000 in
theorem z_ins_ok {ρ : Type} (hG : z_G p s M args c cc own D cl tys cid sh Tb Ts tyq) {ins : Instr} (hSc : ins = .arraylength ∨ ins = .iaload → z_Sc own A s H0 ad b L xs) {pc : Nat} {len : Nat} {lk : List Nat} {cn : Int32} {px : List Nat} (hc : z_chk Tb cl tyq own pc ins len lk cn px = true) (hdg : decode cc pc = .ok (ins, len))
    {ls : z_V} {st : List Value} {m : z_M} {k : z_K ρ} {r : ρ} (h : z_ins sh L xs ins lk cn ls st m k = some r) {arr : Array Slot} {H : Heap} {locs : List Loc} (hl : z_L ad ls arr nL) (hH : z_H D cl A H0 ad cid sh m H locs)
    (kk : ∀ (o : Option Nat) (ls' : z_V) (st' : List Value) (m' : z_M) (H' : Heap) (locs' : List Loc) (arr' : Array Slot), k o ls' st' m' = some r → z_L ad ls' arr' nL → z_H D cl A H0 ad cid sh m' H' locs' → W p l e R s M args below meth c H' locs' cells slots Q (F0 M (o.getD (pc + len)) arr' (st'.map (z_cv ad)))) :
    W p l e R s M args below meth c H locs cells slots Q (F0 M pc arr (st.map (z_cv ad))) := by
  obtain ⟨hx, hb, hown, hts, hK, hTb, hCK, hTY⟩ := hG
  obtain ⟨hP, hD, hS⟩ := hH
  have hHH : z_H D cl A H0 ad cid sh m H locs := ⟨hP, hD, hS⟩
  cases ins
  case aload i =>
    simp only [z_chk, decide_eq_true_eq] at hc
    obtain ⟨rfl, hi⟩ := hc
    dsimp only [z_ins] at h
    split at h
    · rename_i x h1
      rw [hi] at h1
      exact lv_aload hx hb hdg (hl.2.2.2 _ _ h1) (kk none ls _ m H locs arr h hl hHH)
    · cases h
  case iload i =>
    simp only [z_chk, decide_eq_true_eq] at hc
    obtain ⟨rfl, hi⟩ := hc
    dsimp only [z_ins] at h
    split at h
    · rename_i x h1
      rw [hi] at h1
      exact lv_iload hx hb hdg (hl.2.2.2 _ _ h1) (kk none ls _ m H locs arr h hl hHH)
    · cases h
  case lload i =>
    simp only [z_chk, decide_eq_true_eq] at hc
    obtain ⟨rfl, hi⟩ := hc
    dsimp only [z_ins] at h
    split at h
    · rename_i x h1
      rw [hi] at h1
      exact lv_lload hx hb hdg (hl.2.2.2 _ _ h1) (kk none ls _ m H locs arr h hl hHH)
    · cases h
  case aload_n i =>
    simp only [z_chk, decide_eq_true_eq] at hc
    obtain ⟨rfl, hi⟩ := hc
    dsimp only [z_ins] at h
    split at h
    · rename_i x h1
      rw [hi] at h1
      exact lv_aload_n hx hb hdg rfl (hl.2.2.2 _ _ h1) (kk none ls _ m H locs arr h hl hHH)
    · cases h
  case iload_n i =>
    simp only [z_chk, decide_eq_true_eq] at hc
    obtain ⟨rfl, hi⟩ := hc
    dsimp only [z_ins] at h
    split at h
    · rename_i x h1
      rw [hi] at h1
      exact lv_iload_n hx hb hdg rfl (hl.2.2.2 _ _ h1) (kk none ls _ m H locs arr h hl hHH)
    · cases h
  case lload_n i =>
    simp only [z_chk, decide_eq_true_eq] at hc
    obtain ⟨rfl, hi⟩ := hc
    dsimp only [z_ins] at h
    split at h
    · rename_i x h1
      rw [hi] at h1
      exact lv_lload_n hx hb hdg rfl (hl.2.2.2 _ _ h1) (kk none ls _ m H locs arr h hl hHH)
    · cases h
  case istore i =>
    simp only [z_chk, decide_eq_true_eq] at hc
    obtain ⟨rfl, hi⟩ := hc
    dsimp only [z_ins] at h
    split at h
    · rename_i x st'
      obtain ⟨h1, h⟩ := z_g_some h
      rw [hi] at h h1
      have h1 := Nat.blt_eq.mp h1
      rw [hl.1] at h1
      exact lv_istore hx hb hdg hl.has h1 rfl (fun ls' h' => kk none _ _ m H locs ls' h (hl.st1 (v := .int x) h') hHH)
    · cases h
  case astore i =>
    simp only [z_chk, decide_eq_true_eq] at hc
    obtain ⟨rfl, hi⟩ := hc
    dsimp only [z_ins] at h
    split at h
    · rename_i x st'
      obtain ⟨h1, h⟩ := z_g_some h
      rw [hi] at h h1
      have h1 := Nat.blt_eq.mp h1
      rw [hl.1] at h1
      exact lv_astore hx hb hdg hl.has h1 rfl (fun ls' h' => kk none _ _ m H locs ls' h (hl.st1 (v := .ref x) h') hHH)
    · cases h
  case istore_n i =>
    simp only [z_chk, decide_eq_true_eq] at hc
    obtain ⟨rfl, hi⟩ := hc
    dsimp only [z_ins] at h
    split at h
    · rename_i x st'
      obtain ⟨h1, h⟩ := z_g_some h
      rw [hi] at h h1
      have h1 := Nat.blt_eq.mp h1
      rw [hl.1] at h1
      exact lv_istore_n hx hb hdg rfl hl.has h1 rfl (fun ls' h' => kk none _ _ m H locs ls' h (hl.st1 (v := .int x) h') hHH)
    · cases h
  case astore_n i =>
    simp only [z_chk, decide_eq_true_eq] at hc
    obtain ⟨rfl, hi⟩ := hc
    dsimp only [z_ins] at h
    split at h
    · rename_i x st'
      obtain ⟨h1, h⟩ := z_g_some h
      rw [hi] at h h1
      have h1 := Nat.blt_eq.mp h1
      rw [hl.1] at h1
      exact lv_astore_n hx hb hdg rfl hl.has h1 rfl (fun ls' h' => kk none _ _ m H locs ls' h (hl.st1 (v := .ref x) h') hHH)
    · cases h
  case lstore i =>
    simp only [z_chk, decide_eq_true_eq] at hc
    obtain ⟨rfl, hi⟩ := hc
    dsimp only [z_ins] at h
    split at h
    · rename_i x st'
      obtain ⟨h1, h⟩ := z_g_some h
      rw [hi] at h h1
      have h1 := Nat.blt_eq.mp h1
      rw [hl.1] at h1
      exact lv_lstore hx hb hdg hl.has h1 rfl (fun ls' h' => kk none _ _ m H locs ls' h (hl.st2 (v := .long x) h1 h') hHH)
    · cases h
  case iinc i n =>
    simp only [z_chk, decide_eq_true_eq] at hc
    obtain ⟨rfl, hi, hn⟩ := hc
    dsimp only [z_ins] at h
    split at h
    · rename_i x h1
      rw [hi] at h1 h
      obtain ⟨q, hq⟩ := List.getElem?_of_mem (z_as_mem (ad := ad).mpr ⟨_, h1, rfl⟩)
      have h2 : i < nL := by
        rw [← hl.1]
        exact (List.getElem?_eq_some_iff.mp h1).1
      exact lv_iinc hx hb hdg hl.has hq (by rw [hn]) h2 rfl (fun ls' h' => kk none _ _ m H locs ls' h (hl.st1 (v := .int (x + cn)) h') hHH)
    · cases h
  case iconst n =>
    simp only [z_chk, decide_eq_true_eq] at hc
    obtain ⟨rfl, hn⟩ := hc
    exact lv_iconst hx hb hdg hn (kk none ls _ m H locs arr h hl hHH)
  case bipush n =>
    simp only [z_chk, decide_eq_true_eq] at hc
    obtain ⟨rfl, hn⟩ := hc
    exact lv_bipush hx hb hdg hn (kk none ls _ m H locs arr h hl hHH)
  case sipush n =>
    simp only [z_chk, decide_eq_true_eq] at hc
    obtain ⟨rfl, hn⟩ := hc
    exact lv_sipush hx hb hdg hn (kk none ls _ m H locs arr h hl hHH)
  case ldc n =>
    simp only [z_chk, Bool.and_eq_true, decide_eq_true_eq] at hc
    obtain ⟨rfl, hn⟩ := hc
    exact lv_ldc hx hb hown (hts _ (z_w_in hn hTb)) hdg (kk none ls _ m H locs arr h hl hHH)
  case ldc_w n =>
    simp only [z_chk, Bool.and_eq_true, decide_eq_true_eq] at hc
    obtain ⟨rfl, hn⟩ := hc
    exact lv_ldcw hx hb hown (hts _ (z_w_in hn hTb)) hdg (kk none ls _ m H locs arr h hl hHH)
  case ldc2_w n =>
    simp only [z_chk, Bool.and_eq_true, decide_eq_true_eq] at hc
    obtain ⟨rfl, hn⟩ := hc
    exact lv_ldc2 hx hb hown (hts _ (z_w_in hn hTb)) hdg (kk none ls _ m H locs arr h hl hHH)
  case lconst n =>
    simp only [z_chk, decide_eq_true_eq] at hc
    obtain ⟨rfl, hn⟩ := hc
    exact lv_lconst hx hb hdg (by rw [hn]; rfl) (kk none ls _ m H locs arr h hl hHH)
  case iadd =>
    simp only [z_chk, decide_eq_true_eq] at hc
    subst hc
    dsimp only [z_ins] at h
    split at h
    · exact lv_iadd hx hb hdg (kk none ls _ m H locs arr h hl hHH)
    · cases h
  case isub =>
    simp only [z_chk, decide_eq_true_eq] at hc
    subst hc
    dsimp only [z_ins] at h
    split at h
    · exact lv_isub hx hb hdg (kk none ls _ m H locs arr h hl hHH)
    · cases h
  case imul =>
    simp only [z_chk, decide_eq_true_eq] at hc
    subst hc
    dsimp only [z_ins] at h
    split at h
    · exact lv_imul hx hb hdg (kk none ls _ m H locs arr h hl hHH)
    · cases h
  case iand =>
    simp only [z_chk, decide_eq_true_eq] at hc
    subst hc
    dsimp only [z_ins] at h
    split at h
    · exact lv_iand hx hb hdg (kk none ls _ m H locs arr h hl hHH)
    · cases h
  case ior =>
    simp only [z_chk, decide_eq_true_eq] at hc
    subst hc
    dsimp only [z_ins] at h
    split at h
    · exact lv_ior hx hb hdg (kk none ls _ m H locs arr h hl hHH)
    · cases h
  case ixor =>
    simp only [z_chk, decide_eq_true_eq] at hc
    subst hc
    dsimp only [z_ins] at h
    split at h
    · exact lv_ixor hx hb hdg (kk none ls _ m H locs arr h hl hHH)
    · cases h
  case ishl =>
    simp only [z_chk, decide_eq_true_eq] at hc
    subst hc
    dsimp only [z_ins] at h
    split at h
    · exact lv_ishl hx hb hdg (kk none ls _ m H locs arr h hl hHH)
    · cases h
  case ishr =>
    simp only [z_chk, decide_eq_true_eq] at hc
    subst hc
    dsimp only [z_ins] at h
    split at h
    · exact lv_ishr hx hb hdg (kk none ls _ m H locs arr h hl hHH)
    · cases h
  case lcmp =>
    simp only [z_chk, decide_eq_true_eq] at hc
    subst hc
    dsimp only [z_ins] at h
    split at h
    · exact W.lcmp hx hb hdg (kk none ls _ m H locs arr h hl hHH)
    · cases h
  case idiv =>
    simp only [z_chk, decide_eq_true_eq] at hc
    subst hc
    dsimp only [z_ins] at h
    split at h
    · obtain ⟨h1, h⟩ := z_g_some h
      exact lv_idiv hx hb hdg (of_decide_eq_true h1) (kk none ls _ m H locs arr h hl hHH)
    · cases h
  case irem =>
    simp only [z_chk, decide_eq_true_eq] at hc
    subst hc
    dsimp only [z_ins] at h
    split at h
    · obtain ⟨h1, h⟩ := z_g_some h
      exact lv_irem hx hb hdg (of_decide_eq_true h1) (kk none ls _ m H locs arr h hl hHH)
    · cases h
  case ldiv =>
    simp only [z_chk, decide_eq_true_eq] at hc
    subst hc
    dsimp only [z_ins] at h
    split at h
    · obtain ⟨h1, h⟩ := z_g_some h
      exact lv_ldiv hx hb hdg (of_decide_eq_true h1) (kk none ls _ m H locs arr h hl hHH)
    · cases h
  case lrem =>
    simp only [z_chk, decide_eq_true_eq] at hc
    subst hc
    dsimp only [z_ins] at h
    split at h
    · obtain ⟨h1, h⟩ := z_g_some h
      exact lv_lrem hx hb hdg (of_decide_eq_true h1) (kk none ls _ m H locs arr h hl hHH)
    · cases h
  case iushr =>
    simp only [z_chk, decide_eq_true_eq] at hc
    subst hc
    dsimp only [z_ins] at h
    split at h
    · exact lv_iushr hx hb hdg rfl (kk none ls _ m H locs arr h hl hHH)
    · cases h
  case i2l =>
    simp only [z_chk, decide_eq_true_eq] at hc
    subst hc
    dsimp only [z_ins] at h
    split at h
    · exact lv_i2l hx hb hdg rfl (kk none ls _ m H locs arr h hl hHH)
    · cases h
  case i2b =>
    simp only [z_chk, decide_eq_true_eq] at hc
    subst hc
    dsimp only [z_ins] at h
    split at h
    · exact lv_i2b hx hb hdg rfl (kk none ls _ m H locs arr h hl hHH)
    · cases h
  case i2s =>
    simp only [z_chk, decide_eq_true_eq] at hc
    subst hc
    dsimp only [z_ins] at h
    split at h
    · exact lv_i2s hx hb hdg rfl (kk none ls _ m H locs arr h hl hHH)
    · cases h
  case dup =>
    simp only [z_chk, decide_eq_true_eq] at hc
    subst hc
    dsimp only [z_ins] at h
    split at h
    · exact lv_dup (va := .int _) hx hb hdg rfl (kk none ls _ m H locs arr h hl hHH)
    · exact lv_dup (va := .ref _) hx hb hdg rfl (kk none ls _ m H locs arr h hl hHH)
    · cases h
  case dup2 =>
    simp only [z_chk, decide_eq_true_eq] at hc
    subst hc
    dsimp only [z_ins] at h
    split at h
    · exact lv_dup2_11 (va := .int _) (vb := .ref _) hx hb hdg rfl rfl (kk none ls _ m H locs arr h hl hHH)
    · cases h
  case pop =>
    simp only [z_chk, decide_eq_true_eq] at hc
    subst hc
    dsimp only [z_ins] at h
    split at h
    · exact lv_pop (va := .int _) hx hb hdg rfl (kk none ls _ m H locs arr h hl hHH)
    · cases h
  case goto off =>
    simp only [z_chk, decide_eq_true_eq] at hc
    obtain ⟨rfl, ht⟩ := hc
    exact lv_goto hx hb hdg ht (kk (some _) ls _ m H locs arr h hl hHH)
  case ifCond cd off =>
    simp only [z_chk, decide_eq_true_eq] at hc
    obtain ⟨rfl, ht⟩ := hc
    dsimp only [z_ins] at h
    split at h
    · cases cd
      case eq =>
        dsimp only [z_br] at h
        exact lv_if_eq hx hb hdg ht (fun q => kk (some _) ls _ m H locs arr (by rw [if_pos q] at h; exact h) hl hHH) (fun q => kk none ls _ m H locs arr (by rw [if_neg q] at h; exact h) hl hHH)
      case ne =>
        dsimp only [z_br] at h
        exact lv_if_ne hx hb hdg ht (fun q => kk (some _) ls _ m H locs arr (by rw [if_neg q] at h; exact h) hl hHH) (fun q => kk none ls _ m H locs arr (by rw [if_pos q] at h; exact h) hl hHH)
      case lt =>
        dsimp only [z_br] at h
        exact lv_if_lt hx hb hdg ht (fun q => kk (some _) ls _ m H locs arr (by rw [if_pos q] at h; exact h) hl hHH) (fun q => kk none ls _ m H locs arr (by rw [if_neg q] at h; exact h) hl hHH)
      case ge =>
        dsimp only [z_br] at h
        exact lv_if_ge hx hb hdg ht (fun q => kk (some _) ls _ m H locs arr (by rw [if_pos q] at h; exact h) hl hHH) (fun q => kk none ls _ m H locs arr (by rw [if_neg q] at h; exact h) hl hHH)
      case gt =>
        dsimp only [z_br] at h
        exact lv_if_gt hx hb hdg ht (fun q => kk (some _) ls _ m H locs arr (by rw [if_pos q] at h; exact h) hl hHH) (fun q => kk none ls _ m H locs arr (by rw [if_neg q] at h; exact h) hl hHH)
      case le =>
        dsimp only [z_br] at h
        exact lv_if_le hx hb hdg ht (fun q => kk (some _) ls _ m H locs arr (by rw [if_pos q] at h; exact h) hl hHH) (fun q => kk none ls _ m H locs arr (by rw [if_neg q] at h; exact h) hl hHH)
    · cases h
  case if_icmp cd off =>
    simp only [z_chk, decide_eq_true_eq] at hc
    obtain ⟨rfl, ht⟩ := hc
    dsimp only [z_ins] at h
    split at h
    · cases cd
      case eq =>
        dsimp only [z_br] at h
        exact lv_icmp_eq hx hb hdg ht (fun q => kk (some _) ls _ m H locs arr (by rw [if_pos q] at h; exact h) hl hHH) (fun q => kk none ls _ m H locs arr (by rw [if_neg q] at h; exact h) hl hHH)
      case ne =>
        dsimp only [z_br] at h
        exact lv_icmp_ne hx hb hdg ht (fun q => kk (some _) ls _ m H locs arr (by rw [if_neg q] at h; exact h) hl hHH) (fun q => kk none ls _ m H locs arr (by rw [if_pos q] at h; exact h) hl hHH)
      case lt =>
        dsimp only [z_br] at h
        exact lv_icmp_lt hx hb hdg ht (fun q => kk (some _) ls _ m H locs arr (by rw [if_pos q] at h; exact h) hl hHH) (fun q => kk none ls _ m H locs arr (by rw [if_neg q] at h; exact h) hl hHH)
      case ge =>
        dsimp only [z_br] at h
        exact lv_icmp_ge hx hb hdg ht (fun q => kk (some _) ls _ m H locs arr (by rw [if_pos q] at h; exact h) hl hHH) (fun q => kk none ls _ m H locs arr (by rw [if_neg q] at h; exact h) hl hHH)
      case gt =>
        dsimp only [z_br] at h
        exact lv_icmp_gt hx hb hdg ht (fun q => kk (some _) ls _ m H locs arr (by rw [if_pos q] at h; exact h) hl hHH) (fun q => kk none ls _ m H locs arr (by rw [if_neg q] at h; exact h) hl hHH)
      case le =>
        dsimp only [z_br] at h
        exact lv_icmp_le hx hb hdg ht (fun q => kk (some _) ls _ m H locs arr (by rw [if_pos q] at h; exact h) hl hHH) (fun q => kk none ls _ m H locs arr (by rw [if_neg q] at h; exact h) hl hHH)
    · cases h
  case tableswitch d lo hi offs =>
    simp only [z_chk, decide_eq_true_eq] at hc
    obtain ⟨hd, h0, h1, h2, h3, h4⟩ := hc
    dsimp only [z_ins] at h
    split at h
    · rename_i x st'
      rw [h3] at h
      have hsz : offs.toList.length = offs.size := Array.length_toList
      rcases z_sw_tl offs.toList lo.toNat h with ⟨j, off, e1, e2, e3⟩ | ⟨e1, e2⟩
      · have hj : j < offs.size := by rw [← hsz]; exact (List.getElem?_eq_some_iff.mp e1).1
        have hxi : x.toInt = lo + j := by
          rw [e2, nI_toInt (by omega)]
          omega
        have hoff := of_decide_eq_true (List.all_eq_true.mp h4 off (List.mem_of_getElem? e1))
        exact lv_tableIn (off := off) (tgt := ((pc : Int) + off).toNat) hx hb hdg (by omega) (by omega) (by rw [show (x.toInt - lo).toNat = j by omega, ← Array.getElem?_toList]; exact e1) (by omega) (kk (some _) ls _ m H locs arr e3 hl hHH)
      · refine lv_tableOut (tgt := lk.getD 0 0) hx hb hdg ?_ hd (kk (some _) ls _ m H locs arr e2 hl hHH)
        by_cases q1 : x.toInt < lo
        · exact Or.inl q1
        · by_cases q2 : hi < x.toInt
          · exact Or.inr q2
          · refine absurd (z_nI_of (n := lo.toNat + (x.toInt - lo).toNat) (by omega) (by omega)) (e1 _ (by omega))
    · cases h
  case lookupswitch d ps =>
    simp only [z_chk, decide_eq_true_eq] at hc
    obtain ⟨hd, h1, h3, h4⟩ := hc
    dsimp only [z_ins] at h
    split at h
    · rename_i x st'
      rw [h3] at h
      obtain ⟨t, e1, e2⟩ := z_sw_ll hd ps.toList h4 h
      exact lv_lookup (tgt := t) hx hb hdg h1 rfl e1 (kk (some _) ls _ m H locs arr e2 hl hHH)
    · cases h
  case getfield idx =>
    simp only [z_chk, Bool.and_eq_true, decide_eq_true_eq] at hc
    obtain ⟨rfl, hc⟩ := hc
    cases hcl : cl[lk.getD 0 0]? with
    | none =>
      rw [hcl] at hc
      cases hc
    | some q =>
      obtain ⟨C, T, N⟩ := q
      rw [hcl] at hc
      simp only [Bool.and_eq_true, decide_eq_true_eq] at hc
      obtain ⟨hkN, hw⟩ := hc
      have hlink := hts _ (z_w_in hw hTb)
      dsimp only [z_ins] at h
      split at h
      · rename_i a st'
        split at h
        · obtain ⟨h1, h⟩ := z_g_some h
          obtain ⟨sl, e1, e2⟩ := z_okp_some h1
          exact va_get hx hb hts (hCK _ _ hcl).1 hown hK hP a (z_rd_at e1) hcl (lk.getD 1 0) hkN hlink (fun _ q => q) (v := .int (m a (lk.getD 1 0))) (by simp only [List.getElem?_mapIdx, e2]; rfl) hdg (kk none ls _ m H locs arr h hl hHH)
        · obtain ⟨h1, h⟩ := z_g_some h
          obtain ⟨sl, e1, e2⟩ := z_okp_some h1
          exact va_get hx hb hts (hCK _ _ hcl).1 hown hK hP a (z_rd_at e1) hcl (lk.getD 1 0) hkN hlink (fun _ q => q) (v := .int (z_b (m a (lk.getD 1 0)))) (by simp only [List.getElem?_mapIdx, e2]; rfl) hdg (kk none ls _ m H locs arr h hl hHH)
        · obtain ⟨rr, h1, h⟩ := Option.bind_eq_some_iff.mp h
          obtain ⟨sl, e1, e2⟩ := z_ref_some h1
          exact va_get hx hb hts (hCK _ _ hcl).1 hown hK hP a (z_rd_at e1) hcl (lk.getD 1 0) hkN hlink (fun _ q => q) (v := .ref (ad rr)) (by simp only [List.getElem?_mapIdx, e2]; rfl) hdg (kk none ls _ m H locs arr h hl hHH)
      · cases h
  case putfield idx =>
    simp only [z_chk, Bool.and_eq_true, decide_eq_true_eq] at hc
    obtain ⟨rfl, hc⟩ := hc
    cases hcl : cl[lk.getD 0 0]? with
    | none =>
      rw [hcl] at hc
      cases hc
    | some q =>
      obtain ⟨C, T, N⟩ := q
      rw [hcl] at hc
      simp only [Bool.and_eq_true, decide_eq_true_eq] at hc
      obtain ⟨⟨hkN, hw⟩, hty⟩ := hc
      have hlink := hts _ (z_w_in hw hTb)
      dsimp only [z_ins] at h
      split at h
      · rename_i x a st'
        split at h
        · rename_i hkd
          obtain ⟨h1, h⟩ := z_g_some h
          obtain ⟨sl, e1, e2⟩ := z_okp_some h1
          have hfin : (T (lk.getD 1 0)).2.2.2 = false := by
            rcases hty with q | q
            · rw [hkd] at q; cases q
            · exact q.1
          have hty : tyq (lk.getD 0 0) (lk.getD 1 0) = .int := by
            rcases hty with q | ⟨-, q | q⟩
            · rw [hkd] at q; cases q
            · exact q.2
            · rw [hkd] at q; cases q.1
          have hlen : lk.getD 1 0 < (sl.mapIdx (fun j s => z_vl ad s (m a j))).length := by
            rw [List.length_mapIdx]
            exact (List.getElem?_eq_some_iff.mp e2).1
          have hset : (z_rd ad cid sh m).set a (ad a, .inr (lk.getD 0 0, (sl.mapIdx (fun j s => z_vl ad s (m a j))).set (lk.getD 1 0) (.int x))) = z_rd ad cid sh (z_up m a (lk.getD 1 0) x) := by
            rw [← z_rd_set e1 (m := m) (fun i hi => z_up_ne hi), z_up_same]
            show _ = (z_rd ad cid sh m).set a (ad a, .inr (lk.getD 0 0, sl.mapIdx (fun j s => z_vl ad s (upd (m a) (lk.getD 1 0) x j))))
            rw [← z_fs_set e2]
            rfl
          refine va_put hx hb hts (hCK _ _ hcl).1 (tyq (lk.getD 0 0)) (hCK _ _ hcl).2.1 (hCK _ _ hcl).2.2 hown hK hP hD hS a (z_rd_at e1) hcl (lk.getD 1 0) hkN hlink (fun _ q => q) hfin (v := .int x) (ty := .int) (by rw [← hty]; exact (hCK _ _ hcl).2.1 _ hkN) (vp_nar_int x) rfl hlen hdg (fun H1 locs1 g1 g2 g3 => ?_)
          rw [show (ad a, (Sum.inr (lk.getD 0 0, (sl.mapIdx (fun j s => z_vl ad s (m a j))).set (lk.getD 1 0) (.int x)) : va_E)) = (ad a, .inr (lk.getD 0 0, (sl.mapIdx (fun j s => z_vl ad s (m a j))).set (lk.getD 1 0) (.int x))) from rfl] at g1 g2
          exact kk none ls _ _ H1 locs1 arr h hl ⟨hset ▸ g1, hset ▸ g2, g3⟩
        · rename_i hkd
          obtain ⟨h1, h⟩ := z_g_some h
          rw [Bool.and_eq_true] at h1
          obtain ⟨h1, hbit⟩ := h1
          obtain ⟨sl, e1, e2⟩ := z_okp_some h1
          have hfin : (T (lk.getD 1 0)).2.2.2 = false := by
            rcases hty with q | q
            · rw [hkd] at q; cases q
            · exact q.1
          have hty : tyq (lk.getD 0 0) (lk.getD 1 0) = .boolean := by
            rcases hty with q | ⟨-, q | q⟩
            · rw [hkd] at q; cases q
            · rw [hkd] at q; cases q.1
            · exact q.2
          have hlen : lk.getD 1 0 < (sl.mapIdx (fun j s => z_vl ad s (m a j))).length := by
            rw [List.length_mapIdx]
            exact (List.getElem?_eq_some_iff.mp e2).1
          have hset : (z_rd ad cid sh m).set a (ad a, .inr (lk.getD 0 0, (sl.mapIdx (fun j s => z_vl ad s (m a j))).set (lk.getD 1 0) (.int x))) = z_rd ad cid sh (z_up m a (lk.getD 1 0) x) := by
            rw [← z_rd_set e1 (m := m) (fun i hi => z_up_ne hi), z_up_same]
            show _ = (z_rd ad cid sh m).set a (ad a, .inr (lk.getD 0 0, sl.mapIdx (fun j s => z_vl ad s (upd (m a) (lk.getD 1 0) x j))))
            rw [← z_fs_set e2]
            show _ = (z_rd ad cid sh m).set a (ad a, .inr (lk.getD 0 0, (sl.mapIdx (fun j s => z_vl ad s (m a j))).set (lk.getD 1 0) (.int (z_b x))))
            rw [z_b_of hbit]
          refine va_put hx hb hts (hCK _ _ hcl).1 (tyq (lk.getD 0 0)) (hCK _ _ hcl).2.1 (hCK _ _ hcl).2.2 hown hK hP hD hS a (z_rd_at e1) hcl (lk.getD 1 0) hkN hlink (fun _ q => q) hfin (v := .int x) (ty := .boolean) (by rw [← hty]; exact (hCK _ _ hcl).2.1 _ hkN) (by rcases z_isb_iff.mp hbit with rfl | rfl <;> decide) (by rcases z_isb_iff.mp hbit with rfl | rfl <;> decide) hlen hdg (fun H1 locs1 g1 g2 g3 => ?_)
          rw [show (ad a, (Sum.inr (lk.getD 0 0, (sl.mapIdx (fun j s => z_vl ad s (m a j))).set (lk.getD 1 0) (.int x)) : va_E)) = (ad a, .inr (lk.getD 0 0, (sl.mapIdx (fun j s => z_vl ad s (m a j))).set (lk.getD 1 0) (.int x))) from rfl] at g1 g2
          exact kk none ls _ _ H1 locs1 arr h hl ⟨hset ▸ g1, hset ▸ g2, g3⟩
        · cases h
      · cases h
  case iaload =>
    simp only [z_chk, decide_eq_true_eq] at hc
    obtain ⟨rfl, hlaw⟩ := hc
    dsimp only [z_ins] at h
    split at h
    · rename_i i a st'
      split at h
      · obtain ⟨h1, h⟩ := z_g_some h
        obtain ⟨n, e1, e2⟩ := z_ina_some h1
        obtain ⟨t0, ht⟩ := (hTY a).1 n 0 e1
        exact va_iald hx hb hK hP a t0 (z_rd_at e1) ht e2 hdg (kk none ls _ m H locs arr h hl hHH)
      · rename_i hne
        obtain ⟨h1, h2⟩ := z_g_some h
        rw [Bool.and_eq_true] at h1
        have ea := Nat.eq_of_beq_eq_true h1.1
        subst ea
        rcases hlaw with q | q
        · exact absurd q (by simpa using hne)
        · obtain ⟨g1, g2, g3, g4⟩ := hSc (Or.inr rfl) q
          show W p l e R s M args below meth c H locs cells slots Q (F0 M pc arr (.int i :: .ref (ad 1000) :: st'.map (z_cv ad)))
          rw [g4]
          exact va_sld hx hb g1 g2 g3 hS (z_in_iff.mp h1.2) hdg (kk none ls _ m H locs arr h2 hl hHH)
    · cases h
  case arraylength =>
    simp only [z_chk, decide_eq_true_eq] at hc
    obtain ⟨rfl, hlaw⟩ := hc
    dsimp only [z_ins] at h
    split at h
    · rename_i a st'
      obtain ⟨h1, h2⟩ := z_g_some h
      have ea := Nat.eq_of_beq_eq_true h1
      subst ea
      obtain ⟨g1, g2, g3, g4⟩ := hSc (Or.inl rfl) hlaw
      show W p l e R s M args below meth c H locs cells slots Q (F0 M pc arr (.ref (ad 1000) :: st'.map (z_cv ad)))
      rw [g4]
      exact va_slen hx hb g1 g2 g3 hS hdg (kk none ls _ m H locs arr h2 hl hHH)
    · cases h
  case iastore =>
    simp only [z_chk, decide_eq_true_eq] at hc
    subst hc
    dsimp only [z_ins] at h
    split at h
    · rename_i x i a st'
      obtain ⟨h1, h⟩ := z_g_some h
      obtain ⟨n, e1, e2⟩ := z_ina_some h1
      obtain ⟨t0, ht⟩ := (hTY a).1 n 0 e1
      refine va_iast hx hb hK hP hD hS a t0 (z_rd_at e1) ht e2 hdg (fun H1 locs1 g1 g2 g3 => ?_)
      have hset : (z_rd ad cid sh m).set a (ad a, .inl (cid a, n, .inl (upd (m a) i.toNatClampNeg x))) = z_rd ad cid sh (z_up m a i.toNatClampNeg x) := by
        rw [← z_rd_set e1 (m := m) (fun i hi => z_up_ne hi), z_up_same]
        rfl
      exact kk none ls _ _ H1 locs1 arr h hl ⟨hset ▸ g1, hset ▸ g2, g3⟩
    · cases h
  case baload =>
    simp only [z_chk, decide_eq_true_eq] at hc
    subst hc
    dsimp only [z_ins] at h
    split at h
    · rename_i i a st'
      obtain ⟨h1, h⟩ := z_g_some h
      obtain ⟨n, e1, e2⟩ := z_ina_some h1
      obtain ⟨t0, ht⟩ := (hTY a).1 n 1 e1
      exact va_zald hx hb hK hP a t0 (z_rd_at e1) ht e2 hdg (kk none ls _ m H locs arr h hl hHH)
    · cases h
  case bastore =>
    simp only [z_chk, decide_eq_true_eq] at hc
    subst hc
    dsimp only [z_ins] at h
    split at h
    · rename_i x i a st'
      obtain ⟨h1, h⟩ := z_g_some h
      rw [Bool.and_eq_true] at h1
      obtain ⟨h1, hbit⟩ := h1
      obtain ⟨n, e1, e2⟩ := z_ina_some h1
      obtain ⟨t0, ht⟩ := (hTY a).1 n 1 e1
      refine va_zast hx hb hK hP hD hS a t0 (z_rd_at e1) ht e2 hdg (fun H1 locs1 g1 g2 g3 => ?_)
      have hset : (z_rd ad cid sh m).set a (ad a, .inl (cid a, n, .inl (upd (fun j => z_b (m a j)) i.toNatClampNeg (vp_nar .boolean x)))) = z_rd ad cid sh (z_up m a i.toNatClampNeg x) := by
        rw [← z_rd_set e1 (m := m) (fun i hi => z_up_ne hi), z_up_same]
        show _ = (z_rd ad cid sh m).set a (ad a, .inl (cid a, n, .inl (fun j => z_b (upd (m a) i.toNatClampNeg x j))))
        congr 6
        funext j
        have hn : vp_nar .boolean x = x := by rcases z_isb_iff.mp hbit with rfl | rfl <;> decide
        unfold upd
        split
        · rw [hn, z_b_of hbit]
        · rfl
      exact kk none ls _ _ H1 locs1 arr h hl ⟨hset ▸ g1, hset ▸ g2, g3⟩
    · cases h
  case aaload =>
    simp only [z_chk, decide_eq_true_eq] at hc
    subst hc
    dsimp only [z_ins] at h
    split at h
    · rename_i i a st'
      obtain ⟨h1, h⟩ := z_g_some h
      rw [Bool.and_eq_true] at h1
      obtain ⟨ci, lq, e1, e2, e3⟩ := z_aff_some h1.1
      have hin := z_in_iff.mp h1.2
      obtain ⟨t0, nm, ht⟩ := (hTY a).2 ci lq e1
      have hlt : i.toNatClampNeg < lk.getD 2 0 := Nat.not_le.mp fun q => hin (Or.inr q)
      refine va_aldq hx hb hK hP a t0 (z_rd_at e1) ht (by rw [e2]; exact hin) hdg ?_
      have hrl : z_rl ad lq i.toNatClampNeg = some (ad (z_ai a (lk.getD 0 0) (lk.getD 1 0) i.toNatClampNeg)) := by
        unfold z_rl
        rw [e3 _ hlt]
      rw [hrl]
      exact kk none ls _ m H locs arr h hl hHH
    · cases h
  all_goals (first | (exact absurd h (by simp [z_ins])) | (dsimp only [z_ins] at h; cases h))
end Zi
