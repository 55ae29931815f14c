/-! Methods: what the small machine answers, the machine answers. -/
def z_mok (Tb : List Jvm.Cond) (cl : List vw_C) (tyq : Nat → Nat → FieldType) (P : List z_Me) (PX : List (List Nat)) (me : z_Me) : Prop :=
  plainName me.1.cls = true ∧ (∀ x ∈ me.2.2.2.2.1, z_ech Tb cl tyq P PX me.1.cls me.2.1 x) ∧ z_chn me.2.2.2.2.1 = true ∧ (me.2.2.2.1 = none ∨ me.2.2.2.1 = some .int ∨ me.2.2.2.1 = some .long ∨ me.2.2.2.1 = some .boolean) ∧ me.1.cls ≠ z_lawn
section Zd
variable {p : Program} {l : Launch} {e : Env} {R : Room} {s : State} {M : MethodId} {args : Array Value} {below : List Frame} {meth : Method} {c : Code} {cells slots : Nat} {Q : State → Prop}
variable {own : String} {D : va_G} {cl : List vw_C} {tys : List (ClassId × FieldType)} {cid : Nat → ClassId} {ad : Nat → Nat} {sh : List z_C} {A : Nat → Prop} {H0 : Heap} {Tb Ts : List Jvm.Cond} {tyq : Nat → Nat → FieldType} {L b nL : Nat} {xs : Nat → Int32} {P : List z_Me} {PX : List (List Nat)} {d : Nat} {C : Nat → List Value → z_M → Option z_R}
theorem z_lp_ok {me : z_Me} (hG : z_G p s M args c me.2.1 me.1.cls D cl tys cid sh Tb Ts tyq) (hSc : z_Sc me.1.cls A s H0 ad b L xs) (hml : c.maxLocals = nL) (hNW : z_NW Tb s) (hRm : d + 1 ≤ R.frames ∧ 60 * d + 60 ≤ R.locals) (hcs : cells ≤ R.cells ∧ slots ≤ R.slots) (hC1 : z_C1 l D cl tys A ad cid sh Tb P d C)
    (hE : ∀ x ∈ me.2.2.2.2.1, z_ech Tb cl tyq P PX me.1.cls me.2.1 x) (hch : z_chn me.2.2.2.2.1 = true) {r : z_R} (hRet : z_Ret p l e R s M args below meth c cells slots Q me.2.1 D cl A H0 ad cid sh (z_rk me.2.2.2.1) r) :
    ∀ (F pc : Nat) (ls : z_V) (st : List Value) (m : z_M) (arr : Array Slot) (H : Heap) (locs : List Loc), z_lp sh L xs C me F pc ls st m = some r → z_L ad ls arr nL → z_H D cl A H0 ad cid sh m H locs → W p l e R s M args below meth c H locs cells slots Q (F0 M pc arr (st.map (z_cv ad))) := by
  intro F
  induction F with
  | zero =>
    intro pc ls st m arr H locs h
    simp [z_lp] at h
  | succ F ih =>
    intro pc ls st m arr H locs h hl hH
    unfold z_lp at h
    exact z_blk_ok hG hSc hml hNW hRm hcs hC1 hE hch (fun pc ls st m arr H locs hk hl hH => ih pc ls st m arr H locs hk hl hH) hRet 1000 _ ls st m arr H locs pc (z_at_suf _ _) (fun y cs' hy => z_at_pc _ _ y cs' hy) h hl hH
theorem z_loc_get : ∀ (as : List Value) (n i0 i : Nat) (v : Value), (z_loc n as)[i]? = some (some v) → (i0 + i, z_cv ad v) ∈ lv_args i0 (as.map (z_cv ad))
  | [], n, i0, i, v, h => by
    simp only [z_loc] at h
    have := List.mem_of_getElem? h
    simp at this
  | w :: r, n, i0, i, v, h => by
    have two : ∀ w : Value, w.category = 2 → (some w :: none :: z_loc (n - 2) r)[i]? = some (some v) → (i0 + i, z_cv ad v) ∈ lv_args i0 ((w :: r).map (z_cv ad)) := by
      intro w hw h
      simp only [List.map_cons, lv_args, z_cv_cat, hw, if_true]
      match i, h with
      | 0, h =>
        simp at h
        subst h
        exact List.mem_cons_self
      | 1, h => simp at h
      | i + 2, h =>
        have := z_loc_get r (n - 2) (i0 + 2) i v (by simpa using h)
        rw [show i0 + 2 + i = i0 + (i + 2) by omega] at this
        exact List.mem_cons_of_mem _ this
    have one : w.category = 1 → (some w :: z_loc (n - 1) r)[i]? = some (some v) → (i0 + i, z_cv ad v) ∈ lv_args i0 ((w :: r).map (z_cv ad)) := by
      intro hw h
      simp only [List.map_cons, lv_args, z_cv_cat, hw]
      match i, h with
      | 0, h =>
        simp at h
        subst h
        exact List.mem_cons_self
      | i + 1, h =>
        have := z_loc_get r (n - 1) (i0 + 1) i v (by simpa using h)
        rw [show i0 + 1 + i = i0 + (i + 1) by omega] at this
        exact List.mem_cons_of_mem _ this
    cases w <;> first | exact one rfl h | exact two _ rfl h
theorem z_loc_len : ∀ (as : List Value) (n : Nat), z_cat as ≤ n → (z_loc n as).length = n
  | [], n, _ => by simp [z_loc]
  | w :: r, n, h => by
    have hc : z_cat (w :: r) = w.category + z_cat r := by simp [z_cat]
    rw [hc] at h
    have h1 := z_loc_len r (n - 1)
    have h2 := z_loc_len r (n - 2)
    cases w <;> simp only [Value.category] at h <;> simp only [z_loc, List.length_cons] <;> first | (rw [h1 (by omega)]; omega) | (rw [h2 (by omega)]; omega)
theorem z_sl_len : ∀ as : List Value, (lg_sl as).length = z_cat as
  | [] => rfl
  | w :: r => by
    have h := z_sl_len r
    simp only [lg_sl, List.flatMap_cons, List.length_append] at h ⊢
    rw [h]
    have hc : z_cat (w :: r) = w.category + z_cat r := by simp [z_cat]
    rw [hc]
    rcases lv_cat w with q | q <;> simp [q]
theorem z_L_entry {n : Nat} {as : List Value} (h : z_cat as ≤ n) : z_L ad (z_loc n as) ((lg_sl (as.map (z_cv ad)) ++ List.replicate (n - (lg_sl (as.map (z_cv ad))).length) Slot.unset).toArray) n := by
  have hc : z_cat (as.map (z_cv ad)) = z_cat as := z_cat_map ad as
  have hl := lv_entry (as.map (z_cv ad)) (n := n) (by rw [z_sl_len, hc]; exact h)
  refine ⟨z_loc_len as n h, hl.1, hl.2.1, fun i v hv => ?_⟩
  have := z_loc_get (ad := ad) as n 0 i v hv
  rw [Nat.zero_add] at this
  exact hl.2.2 _ this
set_option maxHeartbeats 4000000 in
theorem z_go_ok (hM : ∀ (j : Nat) (me : z_Me), P[j]? = some me → z_mok Tb cl tyq P PX me) (hCK : z_CK cl (Tb.filter goodWord) tyq) (hTY : z_TY tys cid sh) :
    ∀ d : Nat, z_C1 l D cl tys A ad cid sh Tb P d (z_go sh P d) := by
  intro d
  induction d with
  | zero =>
    intro j as m r h
    simp [z_go] at h
  | succ d ih =>
    intro j as m r h
    unfold z_go at h
    split at h
    · rename_i me hme
      obtain ⟨g1, h⟩ := z_g_some h
      refine ⟨me, hme, ?_⟩
      obtain ⟨hpl, hE, hch, hret, hlaw⟩ := hM j me hme
      refine Met.ofW (cc := me.2.1) (maxL := me.2.2.1) (ret := me.2.2.2.1) hpl rfl ?_
      intro p e s M args below meth c s₁ B hml hv
      obtain ⟨rfl, hK, hP, hD, hNW⟩ := hv
      have hts := atoms_spec (ws := z_wsm Tb me) B.pre
      have hown : s.vm.findClass me.1.cls = some M.cls := findClass_of_methodNamed B.named
      have hTb : ∀ x ∈ Tb, goodWord x = true → x ∈ z_wsm Tb me := fun x hx hg => List.mem_cons_of_mem _ (List.mem_filter.mpr ⟨hx, hg⟩)
      have hG : z_G p s M ((as.map (z_cv ad)).toArray) c me.2.1 me.1.cls D cl tys cid sh Tb (z_wsm Tb me) tyq := ⟨B.exec, B.bytes, hown, hts, hK, hTb, fun ci q hq => ⟨fun x hx => List.mem_cons_of_mem _ ((hCK ci q hq).1 x hx), (hCK ci q hq).2⟩, hTY⟩
      have hlocks := B.notSynchronized
      have hr := B.returns
      rw [lg_entry_eq]
      have hRet : z_Ret p l e (headSpec (z_wsm Tb me) (z_rm (d + 1))).room s M ((as.map (z_cv ad)).toArray) below meth c 0 0 (MQ below (z_Qc D cl A ad cid sh (z_rk me.2.2.2.1) r) ((as.map (z_cv ad)).toArray) s 0 0 A) me.2.1 D cl A s.heap ad cid sh (z_rk me.2.2.2.1) r := by
        refine ⟨fun pc v m' H locs arr hdg hk hrr hH => ?_, fun pc v m' H locs arr hdg hk hrr hH => ?_, fun pc m' H locs arr hdg hk hrr hH => ?_⟩
        · subst hrr
          rcases hret with q | q | q | q
          · rw [q] at hk
            rcases hk with hk | hk
            · exact absurd hk (by decide)
            · exact absurd hk.1 (by decide)
          · rw [q]
            exact W.iret B.exec B.bytes (by rw [hr, q]) (fun t ht hW => ⟨rfl, by rw [ht]; exact hH.1, hH.2.2.F ht⟩) hH.2.2.2.2 hdg
          · rw [q] at hk
            rcases hk with hk | hk
            · exact absurd hk (by decide)
            · exact absurd hk.1 (by decide)
          · rw [q] at hk
            rcases hk with hk | hk
            · exact absurd hk (by decide)
            · rw [q]
              exact W.zret (ty := .boolean) B.exec B.bytes (by rw [hr, q]) (by rcases z_isb_iff.mp hk.2 with rfl | rfl <;> decide) (fun t ht hW => ⟨rfl, by rw [ht]; exact hH.1, hH.2.2.F ht⟩) hH.2.2.2.2 hdg
        · subst hrr
          rcases hret with q | q | q | q
          · rw [q] at hk
            exact absurd hk (by decide)
          · rw [q] at hk
            exact absurd hk (by decide)
          · rw [q]
            exact W.lret B.exec B.bytes (by rw [hr, q]) (fun t ht hW => ⟨rfl, by rw [ht]; exact hH.1, hH.2.2.F ht⟩) hH.2.2.2.2 hdg
          · rw [q] at hk
            exact absurd hk (by decide)
        · subst hrr
          rcases hret with q | q | q | q
          · rw [q]
            exact W.vret B.exec B.bytes (by rw [hr, q]) (fun t ht hW => ⟨rfl, by rw [ht]; exact hH.1, hH.2.2.F ht⟩) hH.2.2.2.2 hdg
          · rw [q] at hk
            exact absurd hk (by decide)
          · rw [q] at hk
            exact absurd hk (by decide)
          · rw [q] at hk
            exact absurd hk (by decide)
      exact z_lp_ok (b := 0) (st := []) hG (fun q => absurd q hlaw) hml hNW ⟨Nat.le_refl _, by show 60 * d + 60 ≤ 60 * (d + 1); omega⟩ ⟨Nat.zero_le _, Nat.zero_le _⟩ ih hE hch hRet z_F 0 _ m _ s.heap [] h (z_L_entry (Nat.le_of_ble_eq_true g1)) ⟨hP, hD, va_S.rf⟩
    · cases h
end Zd
