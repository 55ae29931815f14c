theorem z_sw_k {ρ : Type} {x : Int32} {k : Nat → Option ρ} {d : Nat} {r : ρ} : ∀ l : List Nat, z_sw x k d l = some r → ∃ t, k t = some r
  | [], h => ⟨d, h⟩
  | [_], h => ⟨d, h⟩
  | v :: t :: l, h => by
    simp only [z_sw] at h
    split at h
    · exact ⟨t, h⟩
    · exact z_sw_k l h
theorem z_br_k {ρ : Type} {c : ClassFile.Cond} {x y : Int32} {t f : Option ρ} {r : ρ} (h : z_br c x y t f = some r) : t = some r ∨ f = some r := by
  unfold z_br at h
  split at h <;> split at h <;> first | exact Or.inl h | exact Or.inr h
set_option maxHeartbeats 4000000 in
theorem z_ins_k {ρ : Type} {sh : List z_C} {L : Nat} {xs : Nat → Int32} {ins : Instr} {lk : List Nat} {cn : Int32} {ls : z_V} {st : List Value} {m : z_M} {k : z_K ρ} {r : ρ} (h : z_ins sh L xs ins lk cn ls st m k = some r) : ∃ o ls' st' m', k o ls' st' m' = some r := by
  unfold z_ins at h
  split at h
  all_goals first
    | (cases h; done)
    | exact ⟨_, _, _, _, h⟩
    | (split at h <;> first
      | (cases h; done)
      | exact ⟨_, _, _, _, h⟩
      | exact ⟨_, _, _, _, (z_g_some h).2⟩
      | (obtain ⟨t, h⟩ := z_sw_k _ h; exact ⟨_, _, _, _, h⟩)
      | (rcases z_br_k h with h | h <;> exact ⟨_, _, _, _, h⟩)
      | (split at h <;> first
        | (cases h; done)
        | exact ⟨_, _, _, _, h⟩
        | exact ⟨_, _, _, _, (z_g_some h).2⟩
        | (obtain ⟨t, _, h⟩ := Option.bind_eq_some_iff.mp h; exact ⟨_, _, _, _, h⟩)))
def z_CM (C : Nat → List Value → z_S → Option z_S) : Prop := ∀ (j : Nat) (as : List Value) (S S' : z_S), C j as S = some S' → S.1.length ≤ S'.1.length ∧ z_slo S.1 ≤ z_slo S'.1
set_option maxHeartbeats 4000000 in
theorem z_ablk_mono {L : Nat} {xs : Nat → Int32} {cl : List vw_C} {tyq : Nat → Nat → FieldType} {FS : List Nat} {code : List z_En} {stop : Nat} {C : Nat → List Value → z_S → Option z_S} (hC : z_CM C) : ∀ (n : Nat) (cs : List z_En) (ls : z_V) (st : List Value) (S : z_S) (q : z_V × List Value × z_S), z_ablk L xs cl tyq FS code stop C n cs ls st S = some q → S.1.length ≤ q.2.2.1.length ∧ z_slo S.1 ≤ z_slo q.2.2.1 := by
  intro n
  induction n with
  | zero =>
    intro cs ls st S q h
    simp [z_ablk] at h
  | succ n ih =>
    intro cs ls st S q h
    cases cs with
    | nil => simp [z_ablk] at h
    | cons e cs =>
      have push : ∀ (c : z_C) (cs' : List z_En) (ls' : z_V) (st' : List Value) (m' : z_M), z_ablk L xs cl tyq FS code stop C n cs' ls' st' (S.1 ++ [c], m') = some q → S.1.length ≤ q.2.2.1.length ∧ z_slo S.1 ≤ z_slo q.2.2.1 := by
        intro c cs' ls' st' m' hq
        have := ih _ _ _ _ _ hq
        rw [z_slo_push, List.length_append] at this
        exact ⟨by simp at this; omega, by omega⟩
      unfold z_ablk at h
      split at h
      · cases h
        exact ⟨Nat.le_refl _, Nat.le_refl _⟩
      · split at h
        · split at h
          · exact push _ _ _ _ _ (z_g_some h).2
          · cases h
        · split at h
          · exact push _ _ _ _ _ (z_g_some h).2
          · cases h
        · split at h
          · exact push _ _ _ _ _ (z_g_some h).2
          · cases h
        · split at h
          · split at h
            · rename_i ci l cv sl h1 h2
              have := ih _ _ _ _ _ (z_g_some h).2
              rw [z_slo_set h1 (by simp [z_csl]), List.length_set] at this
              exact this
            · cases h
          · cases h
        · split at h
          · split at h
            · exact ih _ _ _ _ _ (z_g_some h).2
            · cases h
          · split at h
            · obtain ⟨S', h1, h2⟩ := Option.bind_eq_some_iff.mp (z_g_some h).2
              have a1 := hC _ _ _ _ h1
              have a2 := ih _ _ _ _ _ h2
              exact ⟨Nat.le_trans a1.1 a2.1, Nat.le_trans a1.2 a2.2⟩
            · cases h
        · split at h
          · split at h
            · split at h
              · rename_i ci sl h1 _ s0 h2
                have := ih _ _ _ _ _ (z_g_some h).2
                rw [z_slo_set h1 (by simp [z_csl]), List.length_set] at this
                exact this
              · cases h
            · cases h
          · cases h
        · obtain ⟨o, ls', st', m', h⟩ := z_ins_k h
          cases o with
          | none => exact ih cs ls' st' (S.1, m') q h
          | some t => exact ih (z_at code t) ls' st' (S.1, m') q h
def z_AO (Tb : List Jvm.Cond) (U : State) : Prop := ∀ C : String, Jvm.Cond.arrayOver (.object C) ∈ Tb → va_AO C U
def z_rma (d mc ms : Nat) : Room := { frames := d, cells := mc, slots := ms, locals := 60 * d }
def z_PcA (D : va_G) (cl : List vw_C) (tys : List (ClassId × FieldType)) (A : Nat → Prop) (ad : Nat → Nat) (cid : Nat → ClassId) (Tb : List Jvm.Cond) (as : List Value) (S : z_S) : Array Value → State → Prop := fun v U => v = (as.map (z_cv ad)).toArray ∧ va_K D cl tys U ∧ va_P D cl (z_rd ad cid S.1 S.2) U.heap ∧ va_D A (z_rd ad cid S.1 S.2) ∧ z_NW Tb U ∧ z_AO Tb U ∧ ∀ q : Nat, U.heap.size ≤ q → A q
def z_QcA (D : va_G) (cl : List vw_C) (A : Nat → Prop) (ad : Nat → Nat) (cid : Nat → ClassId) (S S' : z_S) : Array Value → State → Outcome → State → Prop := fun _ st oc t => oc = .returned none ∧ (∃ ad' : Nat → Nat, z_agr S.1.length ad ad' ∧ va_P D cl (z_rd ad' cid S'.1 S'.2) t.heap ∧ va_D A (z_rd ad' cid S'.1 S'.2)) ∧ va_F A st t
theorem z_PcA_blind {D : va_G} {cl : List vw_C} {tys : List (ClassId × FieldType)} {A : Nat → Prop} {ad : Nat → Nat} {cid : Nat → ClassId} {Tb : List Jvm.Cond} {as : List Value} {S : z_S} : FrameBlind (z_PcA D cl tys A ad cid Tb as S) := by
  intro a U g mk q
  obtain ⟨q1, q2, q3, q4, q5, q6, q7⟩ := q
  exact ⟨q1, va_K.moved (u := U) (U := U.calling g mk a) (Vm.Alike.refl U.vm) q2, q3, q4, z_NW.same (s := U) rfl q5, fun C hC => va_AO.moved (u := U) (U := U.calling g mk a) (Vm.Alike.refl U.vm) (q6 C hC), q7⟩
def z_chka (Tb : List Jvm.Cond) (cl : List vw_C) (tyq : Nat → Nat → FieldType) (P : List z_Me) (PX : List (List Nat)) (own : String) (ins : Instr) (len : Nat) (lk : List Nat) (px : List Nat) : Bool := match ins with
  | .new i => decide (len = 3) && (match cl[lk.getD 0 0]? with
    | some q => z_w Tb (px.getD 0 0) (.classLink own i q.1) && z_w Tb (px.getD 1 0) (.instantiable q.1 q.2.2) && z_w Tb (px.getD 2 0) (.initialized q.1)
    | none => false)
  | .newarray t => decide (len = 2 ∧ (t = .int ∧ lk.getD 0 0 = 0 ∨ t = .boolean ∧ lk.getD 0 0 = 1)) && z_w Tb (px.getD 0 0) (.arrayClass (newarray.typeOf t))
  | .anewarray i => decide (len = 3) && (match cl[lk.getD 0 0]? with
    | some q => z_w Tb (px.getD 0 0) (.classLink own i q.1) && decide (Tb[px.getD 1 0]? = some (.arrayOver (.object q.1)))
    | none => false)
  | .aastore => decide (len = 1)
  | .putfield _ => (match cl[lk.getD 0 0]? with
    | some q => decide (lk.getD 2 0 = 2 → (q.2.1 (lk.getD 1 0)).2.2.2 = true ∧ (q.2.1 (lk.getD 1 0)).1 = own) && (match tyq (lk.getD 0 0) (lk.getD 1 0) with
      | .object _ => true
      | .array _ => true
      | _ => decide (lk.getD 2 0 ≠ 2))
    | none => false)
  | .invokespecial i => decide (len = 3) && (match lk with
    | [] => z_w Tb (px.getD 0 0) (.methodLink own i objectInit) && z_w Tb (px.getD 1 0) (.instanceMethod objectInit) && z_w Tb (px.getD 2 0) (.code objectInit ⟨#[0xb1]⟩ 1 none)
    | lk => (match P[lk.getD 0 0]?, PX[lk.getD 0 0]? with
      | some me, some q => (z_w Tb (px.getD 0 0) (.methodLink own i me.1) || decide (Tb[px.getD 0 0]? = some (.methodLinkNest own i me.1 z_cho))) && z_w Tb (q.getD 0 0) (.code me.1 me.2.1 me.2.2.1 me.2.2.2.1) && z_w Tb (q.getD 1 0) (.instanceMethod me.1) && z_w Tb (q.getD 2 0) (.initialized me.1.cls) && decide (me.1.cls ≠ "java/lang/invoke/MethodHandle" ∧ me.1.cls ≠ "java/lang/invoke/VarHandle" ∧ (parseMethodDescriptor me.1.desc).map (fun d => d.parameters.length) = some 0 ∧ me.1.name = "<init>" ∧ me.2.2.2.1 = none ∧ me.2.2.1 ≤ 40)
      | _, _ => false))
  | _ => true
def z_ty4 (cl : List vw_C) (tyq : Nat → Nat → FieldType) : Prop := ∀ (ci : Nat) (q : vw_C), cl[ci]? = some q → ∀ k, k < q.2.2 → (match tyq ci k with
  | .int => true
  | .boolean => true
  | .object _ => true
  | .array _ => true
  | _ => false) = true
def z_FSok (cl : List vw_C) (tys : List (ClassId × FieldType)) (cid : Nat → ClassId) (FS : List Nat) : Prop := ∀ (k t : Nat), FS[k]? = some t → t ≠ 99 → ∃ t0 : Nat, tys[t0]? = some (cid k, z_fty cl t)
