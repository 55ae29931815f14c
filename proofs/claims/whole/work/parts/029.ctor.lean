/-! Makers: contracts -/
def z_moka (Tb : List Jvm.Cond) (cl : List vw_C) (tyq : Nat → Nat → FieldType) (P : List z_Me) (PX : List (List Nat)) (me : z_Me) : Prop :=
  plainName me.1.cls = true ∧ (∀ x ∈ me.2.2.2.2.1, z_ech Tb cl tyq P PX me.1.cls me.2.1 x ∧ z_chka Tb cl tyq P PX me.1.cls x.2.1 x.2.2.1 x.2.2.2.1 x.2.2.2.2.2 = true) ∧ z_chn me.2.2.2.2.1 = true ∧ me.2.2.2.1 = none ∧ me.1.cls ≠ z_lawn ∧ me.1.name = "<init>" ∧ decode me.2.1 (z_stop me.2.2.2.2.1) = .ok (.return_, 1)
theorem z_ago_mono {cl : List vw_C} {tyq : Nat → Nat → FieldType} {FS : List Nat} {P : List z_Me} : ∀ d : Nat, z_CM (z_ago cl tyq FS P d) := by
  intro d
  induction d with
  | zero =>
    intro j as S S' h
    simp [z_ago] at h
  | succ d ih =>
    intro j as S S' h
    unfold z_ago at h
    split at h
    · obtain ⟨q, h1, h2⟩ := Option.bind_eq_some_iff.mp (z_g_some h).2
      have := z_ablk_mono ih _ _ _ _ _ _ h1
      split at h2
      · cases h2
        exact this
      · cases h2
    · cases h
section Zf
variable {l : Launch} {D : va_G} {cl : List vw_C} {tys : List (ClassId × FieldType)} {cid : Nat → ClassId} {A : Nat → Prop} {Tb : List Jvm.Cond} {tyq : Nat → Nat → FieldType} {P : List z_Me} {PX : List (List Nat)} {FS : List Nat}
/-- the shape's kinds stay along a run of makers -/
def z_CT (tys : List (ClassId × FieldType)) (cid : Nat → ClassId) (C : Nat → List Value → z_S → Option z_S) : Prop := ∀ (j : Nat) (as : List Value) (S S' : z_S), C j as S = some S' → z_TY tys cid S.1 → z_TY tys cid S'.1
set_option maxHeartbeats 4000000 in
theorem z_ablk_ty {L : Nat} {xs : Nat → Int32} {code : List z_En} {stop : Nat} {C : Nat → List Value → z_S → Option z_S} (hFS : z_FSok cl tys cid FS) (hC : z_CT tys cid C) : ∀ (n : Nat) (cs : List z_En) (ls : z_V) (st : List Value) (S : z_S) (q : z_V × List Value × z_S), z_ablk L xs cl tyq FS code stop C n cs ls st S = some q → z_TY tys cid S.1 → z_TY tys cid q.2.2.1 := by
  intro n
  induction n with
  | zero =>
    intro cs ls st S q h
    simp [z_ablk] at h
  | succ n ih =>
    intro cs ls st S q h hT
    cases cs with
    | nil => simp [z_ablk] at h
    | cons e cs =>
      unfold z_ablk at h
      split at h
      · cases h
        exact hT
      · split at h
        · split at h
          · exact ih _ _ _ _ _ (z_g_some h).2 (z_TY_push hT (fun _ _ hh => by cases hh) (fun _ _ hh => by cases hh))
          · cases h
        · split at h
          · obtain ⟨g1, h⟩ := z_g_some h
            simp only [Bool.and_eq_true, decide_eq_true_eq] at g1
            have g5 := Nat.le_of_ble_eq_true g1.2
            obtain ⟨t0, ht0⟩ := hFS _ _ g1.1.2 (by omega)
            refine ih _ _ _ _ _ h (z_TY_push hT (fun n' t' hh => ?_) (fun _ _ hh => by cases hh))
            simp only [Sum.inr.injEq, Sum.inl.injEq, Prod.mk.injEq] at hh
            obtain ⟨rfl, rfl⟩ := hh
            refine ⟨t0, ?_⟩
            rw [ht0]
            rcases (show e.2.2.2.1.getD 0 0 = 0 ∨ e.2.2.2.1.getD 0 0 = 1 by omega) with q | q <;> rw [q] <;> rfl
          · cases h
        · split at h
          · obtain ⟨g1, h⟩ := z_g_some h
            simp only [Bool.and_eq_true, decide_eq_true_eq] at g1
            have g5 := Nat.blt_eq.mp g1.2
            obtain ⟨t0, ht0⟩ := hFS _ _ g1.1.2 (by omega)
            exact ih _ _ _ _ _ h (z_TY_push hT (fun n' t' hh => by cases hh) (fun _ _ hh => ⟨t0, _, ht0⟩))
          · cases h
        · split at h
          · split at h
            · rename_i ci l cv sl h1 h2
              obtain ⟨g1, h⟩ := z_g_some h
              exact ih _ _ _ _ _ h (z_TY_set hT (fun _ _ hh => by cases hh) (fun _ _ hh => (hT _).2 _ _ h1))
            · cases h
          · cases h
        · split at h
          · split at h
            · exact ih _ _ _ _ _ (z_g_some h).2 hT
            · cases h
          · split at h
            · obtain ⟨S', h1, h2⟩ := Option.bind_eq_some_iff.mp (z_g_some h).2
              exact ih _ _ _ _ _ h2 (hC _ _ _ _ h1 hT)
            · cases h
        · split at h
          · split at h
            · split at h
              · exact ih _ _ _ _ _ (z_g_some h).2 (z_TY_set hT (fun _ _ hh => by cases hh) (fun _ _ hh => by cases hh))
              · cases h
            · cases h
          · cases h
        · obtain ⟨o, ls', st', m', h⟩ := z_ins_k h
          cases o with
          | none => exact ih cs ls' st' (S.1, m') q h hT
          | some t => exact ih (z_at code t) ls' st' (S.1, m') q h hT
theorem z_ago_ty (hFS : z_FSok cl tys cid FS) : ∀ d : Nat, z_CT tys cid (z_ago cl tyq FS P d) := by
  intro d
  induction d with
  | zero =>
    intro j as S S' h
    simp [z_ago] at h
  | succ d ih =>
    intro j as S S' h hT
    unfold z_ago at h
    split at h
    · obtain ⟨q, h1, h2⟩ := Option.bind_eq_some_iff.mp (z_g_some h).2
      have := z_ablk_ty hFS ih _ _ _ _ _ _ h1 hT
      split at h2
      · cases h2
        exact this
      · cases h2
    · cases h
set_option maxHeartbeats 4000000 in
theorem z_ago_ok (hM : ∀ (j : Nat) (me : z_Me), P[j]? = some me → me.1.name = "<init>" → z_moka Tb cl tyq P PX me) (hCK : z_CK cl (Tb.filter goodWord) tyq) (h4 : z_ty4 cl tyq) (hFS : z_FSok cl tys cid FS) :
    ∀ d : Nat, z_CA l D cl tys A cid Tb P d (z_ago cl tyq FS P d) := by
  intro d
  induction d with
  | zero =>
    intro j as S S' h
    simp [z_ago] at h
  | succ d ih =>
    intro j as S S' h hT
    refine ⟨z_ago_ty hFS _ _ _ _ _ h hT, ?_⟩
    unfold z_ago at h
    cases hme : P[j]? with
    | none =>
      rw [hme] at h
      cases h
    | some me =>
    rw [hme] at h
    dsimp only at h
    obtain ⟨g1, h⟩ := z_g_some h
    rw [Bool.and_eq_true, Bool.and_eq_true, decide_eq_true_eq] at g1
    refine ⟨me, rfl, fun ad => ?_⟩
    obtain ⟨hpl, hE, hch, hret, hlaw, hname, hdr⟩ := hM j me hme g1.2
    obtain ⟨⟨lsF, stF, SF⟩, h1, h2⟩ := Option.bind_eq_some_iff.mp h
    dsimp only at h2
    split at h2
    · have h2 := Option.some.inj h2
      subst h2
      refine Met.ofW (cc := me.2.1) (maxL := me.2.2.1) (ret := me.2.2.2.1) hpl rfl ?_
      intro p e s M args below meth c s₁ B hml hv
      obtain ⟨rfl, hK, hP, hD, hNW, hAO, hA⟩ := hv
      have hts := atoms_spec (ws := z_wsm Tb me) B.pre
      have hown : s.vm.findClass me.1.cls = some M.cls := findClass_of_methodNamed B.named
      have hTb : ∀ x ∈ Tb, goodWord x = true → x ∈ z_wsm Tb me := fun x hx hg => List.mem_cons_of_mem _ (List.mem_filter.mpr ⟨hx, hg⟩)
      have hin : meth.name = "<init>" := (name_of_methodNamed B.named B.method).1.trans hname
      have hlocks := B.notSynchronized
      have hr := B.returns
      rw [hret] at hr
      rw [lg_entry_eq]
      have hm := z_ablk_mono (z_ago_mono d) _ _ _ _ _ _ h1
      dsimp only at hm
      refine z_ablk_ok (H0 := s.heap) (Ts := z_wsm Tb me) (cc := me.2.1) (own := me.1.cls) (d := d) (fun sh hsh => ⟨B.exec, B.bytes, hown, hts, hK, hTb, fun ci q hq => ⟨fun x hx => List.mem_cons_of_mem _ ((hCK ci q hq).1 x hx), (hCK ci q hq).2⟩, hsh⟩) hml hNW hAO hA h4 hFS ⟨Nat.le_refl _, by show 60 * d + 60 ≤ 60 * (d + 1); omega⟩ (z_ago_mono d) ih hE hch (fun _ _ _ => hlaw) (Or.inr hin) 2000 _ _ [] S ad _ s.heap [] 0 0 0 (z_at_suf _ _) (fun y cs' hy => z_at_pc _ _ y cs' hy) h1 hT (z_L_entry (Nat.le_of_ble_eq_true g1.1.1)) ⟨hP, hD, va_S.rf⟩ (by show 0 + _ ≤ SF.1.length - S.1.length; omega) (by show 0 + _ ≤ z_slo SF.1 - z_slo S.1; omega) (fun ad' arr' H' locs' b1 b2 b3 b4 => ?_)
      rw [Nat.zero_add, Nat.zero_add]
      exact W.vret B.exec B.bytes hr (fun t ht hW => ⟨rfl, ⟨ad', b1, by rw [ht]; exact b4.1, b4.2.1⟩, b4.2.2.F ht⟩) b4.2.2.2.2 hdr
    · cases h2
end Zf
