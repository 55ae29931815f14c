/-! Calls, blocks, methods of the small machine: contracts of the machine's methods. -/
def z_nest (x : Jvm.Cond) : Bool := match x with
  | .methodLinkNest _ _ _ _ => true
  | _ => false
def z_NW (Tb : List Jvm.Cond) (U : State) : Prop := ∀ x ∈ Tb, z_nest x = true → va_Nw x U
theorem z_NW.warm {Tb : List Jvm.Cond} {s U : State} (hW : s.WarmedH U.vm) (h : z_NW Tb s) : z_NW Tb U := by
  intro x hx hn
  have h1 := h x hx hn
  cases x <;> first | exact va_Nw.warmM hW h1 | (exact absurd hn (by simp [z_nest]))
theorem z_NW.same {Tb : List Jvm.Cond} {s U : State} (hv : s.vm = U.vm) (h : z_NW Tb s) : z_NW Tb U := by
  intro x hx hn
  have h1 := h x hx hn
  cases x <;> first | (exact absurd hn (by decide)) | exact va_Nw.same rfl hv h1 | (exact absurd hn (by simp [z_nest]))
def z_wsm (Tb : List Jvm.Cond) (me : z_Me) : List Jvm.Cond := .code me.1 me.2.1 me.2.2.1 me.2.2.2.1 :: Tb.filter goodWord
def z_rm (d : Nat) : Room := { frames := d, cells := 0, slots := 0, locals := 60 * d }
def z_rv (rk : Nat) (r : z_R) : Option Value := match rk with
  | 0 => none
  | 2 => some (.long r.2.1)
  | _ => some (.int r.1)
def z_Pc (D : va_G) (cl : List vw_C) (tys : List (ClassId × FieldType)) (A : Nat → Prop) (ad : Nat → Nat) (cid : Nat → ClassId) (sh : List z_C) (Tb : List Jvm.Cond) (as : List Value) (m : z_M) : Array Value → State → Prop := fun v U => v = (as.map (z_cv ad)).toArray ∧ va_K D cl tys U ∧ va_P D cl (z_rd ad cid sh m) U.heap ∧ va_D A (z_rd ad cid sh m) ∧ z_NW Tb U
def z_Qc (D : va_G) (cl : List vw_C) (A : Nat → Prop) (ad : Nat → Nat) (cid : Nat → ClassId) (sh : List z_C) (rk : Nat) (r : z_R) : Array Value → State → Outcome → State → Prop := fun _ st oc t => oc = .returned (z_rv rk r) ∧ va_P D cl (z_rd ad cid sh r.2.2) t.heap ∧ va_F A st t
theorem z_Pc_blind {D : va_G} {cl : List vw_C} {tys : List (ClassId × FieldType)} {A : Nat → Prop} {ad : Nat → Nat} {cid : Nat → ClassId} {sh : List z_C} {Tb : List Jvm.Cond} {as : List Value} {m : z_M} : FrameBlind (z_Pc D cl tys A ad cid sh Tb as m) := by
  intro a U g mk q
  obtain ⟨q1, q2, q3, q4, q5⟩ := q
  exact ⟨q1, va_K.moved (u := U) (U := U.calling g mk a) (Vm.Alike.refl U.vm) q2, q3, q4, z_NW.same (s := U) rfl q5⟩
theorem z_D_any {A : Nat → Prop} {ad : Nat → Nat} {cid : Nat → ClassId} {sh : List z_C} {m m' : z_M} (h : va_D A (z_rd ad cid sh m)) : va_D A (z_rd ad cid sh m') := by
  have key : ∀ (i : Nat) (q : Nat × va_E), (z_rd ad cid sh m')[i]? = some q → ∃ q', (z_rd ad cid sh m)[i]? = some q' ∧ q'.1 = q.1 := by
    intro i q hq
    simp only [z_rd, List.getElem?_mapIdx, Option.map_eq_some_iff] at hq ⊢
    obtain ⟨x, hx, rfl⟩ := hq
    exact ⟨_, ⟨x, hx, rfl⟩, rfl⟩
  refine ⟨fun i j q1 q2 h1 h2 he => ?_, fun k q hq => ?_⟩
  · obtain ⟨q1', e1, f1⟩ := key i q1 h1
    obtain ⟨q2', e2, f2⟩ := key j q2 h2
    exact h.1 i j q1' q2' e1 e2 (by rw [f1, f2, he])
  · obtain ⟨q', e1, f1⟩ := key k q hq
    rw [← f1]
    exact h.2 k q' e1
theorem z_pop_some : ∀ (n : Nat) (st acc as rest : List Value), z_pop n st acc = some (as, rest) → ∃ bs, as = bs ++ acc ∧ bs.length = n ∧ st = bs.reverse ++ rest
  | 0, st, acc, as, rest, h => by
    simp only [z_pop, Option.some.injEq, Prod.mk.injEq] at h
    exact ⟨[], by simp [h.1], rfl, by simp [h.2]⟩
  | n + 1, [], acc, as, rest, h => by simp [z_pop] at h
  | n + 1, v :: st, acc, as, rest, h => by
    simp only [z_pop] at h
    obtain ⟨bs, e1, e2, e3⟩ := z_pop_some n st (v :: acc) as rest h
    exact ⟨bs ++ [v], by simp [e1], by simp [e2], by simp [e3]⟩
theorem z_cat_map (ad : Nat → Nat) (st : List Value) : ((st.map (z_cv ad)).map fun v => v.category).sum = z_cat st := by
  unfold z_cat
  rw [List.map_map]
  congr 1
  apply List.map_congr_left
  intro v _
  exact z_cv_cat ad v
theorem z_rs_map (ad : Nat → Nat) (rk : Nat) (r : z_R) (rest : List Value) : (z_rv rk r).toList ++ rest.map (z_cv ad) = (z_rs rk r rest).map (z_cv ad) := by
  match rk with
  | 0 => rfl
  | 1 => rfl
  | 2 => rfl
  | n + 3 => rfl
def z_cho : String := "StayingGuests"
def z_chkc (Tb : List Jvm.Cond) (cl : List vw_C) (P : List z_Me) (PX : List (List Nat)) (own : String) (ins : Instr) (len : Nat) (lk : List Nat) (px : List Nat) : Bool := match ins with
  | .invokevirtual i => decide (len = 3) && (match P[lk.getD 0 0]?, PX[lk.getD 0 0]?, cl[lk.getD 3 0]? with
    | some me, some q, some w => z_w Tb (px.getD 0 0) (.methodLink own i me.1) && z_w Tb (q.getD 0 0) (.code me.1 me.2.1 me.2.2.1 me.2.2.2.1) && z_w Tb (q.getD 1 0) (.instanceMethod me.1) && z_w Tb (q.getD 2 0) (.initialized me.1.cls) && z_w Tb (q.getD 3 0) (.selects me.1.cls me.1 me.1) && decide (me.1.cls ≠ "java/lang/invoke/MethodHandle" ∧ me.1.cls ≠ "java/lang/invoke/VarHandle" ∧ (parseMethodDescriptor me.1.desc).map (fun d => d.parameters.length) = some (lk.getD 1 0 - 1) ∧ 1 ≤ lk.getD 1 0 ∧ lk.getD 2 0 = z_rk me.2.2.2.1 ∧ me.2.2.1 ≤ 40 ∧ w.1 = me.1.cls)
    | _, _, _ => false)
  | .invokestatic i => decide (len = 3) && (match lk with
    | [] => z_w Tb (px.getD 0 0) (.methodLink own i arraycopyName) && z_w Tb (px.getD 1 0) (.native arraycopyName) && z_w Tb (px.getD 2 0) (.static arraycopyName) && z_w Tb (px.getD 3 0) (.initialized "java/lang/System")
    | [_] => z_w Tb (px.getD 0 0) (.methodLink own i Lib.Math.max.name) && z_w Tb (px.getD 1 0) (.static Lib.Math.max.name) && z_w Tb (px.getD 2 0) (.initialized "java/lang/Math") && z_w Tb (px.getD 3 0) (.code Lib.Math.max.name Lib.Math.max.code 2 (some .int))
    | lk => (match P[lk.getD 0 0]?, PX[lk.getD 0 0]? with
      | some me, some q => (z_w Tb (px.getD 0 0) (.methodLink own i me.1) || decide (Tb[px.getD 0 0]? = some (.methodLinkNest own i me.1 z_cho))) && z_w Tb (q.getD 0 0) (.code me.1 me.2.1 me.2.2.1 me.2.2.2.1) && z_w Tb (q.getD 1 0) (.static me.1) && z_w Tb (q.getD 2 0) (.initialized me.1.cls) && decide (me.1.cls ≠ "java/lang/invoke/MethodHandle" ∧ me.1.cls ≠ "java/lang/invoke/VarHandle" ∧ (parseMethodDescriptor me.1.desc).map (fun d => d.parameters.length) = some (lk.getD 1 0) ∧ lk.getD 2 0 = z_rk me.2.2.2.1 ∧ me.2.2.1 ≤ 40)
      | _, _ => false))
  | _ => true
def z_C1 (l : Launch) (D : va_G) (cl : List vw_C) (tys : List (ClassId × FieldType)) (A : Nat → Prop) (ad : Nat → Nat) (cid : Nat → ClassId) (sh : List z_C) (Tb : List Jvm.Cond) (P : List z_Me) (d : Nat) (C : Nat → List Value → z_M → Option z_R) : Prop := ∀ (j : Nat) (as : List Value) (m : z_M) (r : z_R), C j as m = some r → ∃ me : z_Me, P[j]? = some me ∧ Met l me.1 (z_wsm Tb me) (z_rm d) (z_Pc D cl tys A ad cid sh Tb as m) (z_Qc D cl A ad cid sh (z_rk me.2.2.2.1) r) 0 0 A
theorem z_good {Tb Ts : List Jvm.Cond} {me : z_Me} {i : Nat} (hw : z_w Tb i (.code me.1 me.2.1 me.2.2.1 me.2.2.2.1) = true) (hTb : ∀ x ∈ Tb, goodWord x = true → x ∈ Ts) : GoodIn Ts (z_wsm Tb me) := by
  intro x hx
  rcases List.mem_cons.mp hx with rfl | hx
  · refine ⟨z_w_in hw hTb, good_of_word ?_⟩
    unfold z_w at hw
    rw [Bool.and_eq_true] at hw
    exact hw.2
  · obtain ⟨h1, h2⟩ := List.mem_filter.mp hx
    exact ⟨hTb x h1 h2, good_of_word h2⟩
section Zb
variable {p : Program} {l : Launch} {e : Env} {R : Room} {s : State} {M : MethodId} {args : Array Value} {below : List Frame} {meth : Method} {c : Code} {cells slots : Nat} {Q : State → Prop}
variable {cc : ByteArray} {own : String} {D : va_G} {cl : List vw_C} {tys : List (ClassId × FieldType)} {cid : Nat → ClassId} {ad : Nat → Nat} {sh : List z_C} {A : Nat → Prop} {H0 : Heap} {Tb Ts : List Jvm.Cond} {tyq : Nat → Nat → FieldType} {L b nL : Nat} {xs : Nat → Int32} {P : List z_Me} {PX : List (List Nat)} {d : Nat} {C : Nat → List Value → z_M → Option z_R}
theorem z_callk {pc : Nat} {arr : Array Slot} {rest st0 : List Value} {a : Array Value} {rk : Nat} {r : z_R} {H : Heap} {locs : List Loc} (hr : va_Run p l e R s M args below meth c H locs cells slots 0 0 (F0 M pc arr st0) rest (z_Qc D cl A ad cid sh rk r a) A) (hS : va_S A H0 H locs)
    (kk : ∀ (H1 : Heap) (locs1 : List Loc), va_P D cl (z_rd ad cid sh r.2.2) H1 → va_S A H0 H1 locs1 → W p l e R s M args below meth c H1 locs1 cells slots Q (F0 M (pc + 3) arr ((z_rv rk r).toList ++ rest))) : W p l e R s M args below meth c H locs cells slots Q (F0 M pc arr st0) := by
  intro T hT X
  obtain ⟨v, st₀, t, T', L', h0, X', hL, e1, e2, ⟨hv, hp, hz, hk⟩, stp⟩ := hr T hT X
  have hv := Outcome.returned.inj hv
  subst hv
  rw [h0] at hz hk
  obtain ⟨t2, a1, b1⟩ := kk T'.heap (locs ++ L') (by rw [e1]; exact hp)
    ⟨Nat.le_trans hS.1 (by rw [e1]; exact hz), fun q h1 h2 => by rw [e1, hk q (Nat.lt_of_lt_of_le h1 hS.1) h2]; exact hS.2.1 q h1 h2, fun q hq => by
      rcases List.mem_append.mp hq with h | h
      · exact hS.2.2 q h
      · exact hL q h⟩ T' rfl X'
  exact ⟨t2, stp t2 a1, b1⟩
set_option maxHeartbeats 4000000 in
set_option maxRecDepth 100000 in
theorem z_stat (hG : z_G p s M args c cc own D cl tys cid sh Tb Ts tyq) (hml : c.maxLocals = nL) (hNW : z_NW Tb s) (hRm : d + 1 ≤ R.frames ∧ 60 * d + 60 ≤ R.locals) (hcs : cells ≤ R.cells ∧ slots ≤ R.slots) (hC1 : z_C1 l D cl tys A ad cid sh Tb P d C)
    {pc idx : Nat} {len : Nat} {lk px : List Nat} (hc : z_chkc Tb cl P PX own (.invokestatic idx) len lk px = true) (hlk : lk ≠ []) (hlk2 : ∀ a, lk ≠ [a]) (hdg : decode cc pc = .ok (.invokestatic idx, len)) {st as rest : List Value} {m : z_M} {r0 : z_R} (hp : z_pop (lk.getD 1 0) st [] = some (as, rest)) (hcat : Nat.ble (z_cat rest) 8 = true) (hc2 : C (lk.getD 0 0) as m = some r0)
    {arr : Array Slot} {H : Heap} {locs : List Loc} (hsz : arr.size = nL) (hH : z_H D cl A H0 ad cid sh m H locs)
    (kk : ∀ (H' : Heap) (locs' : List Loc), z_H D cl A H0 ad cid sh r0.2.2 H' locs' → W p l e R s M args below meth c H' locs' cells slots Q (F0 M (pc + len) arr ((z_rs (lk.getD 2 0) r0 rest).map (z_cv ad)))) : W p l e R s M args below meth c H locs cells slots Q (F0 M pc arr (st.map (z_cv ad))) := by
  obtain ⟨hx, hb, hown, hts, hK, hTb, hCK, hTY⟩ := hG
  obtain ⟨hP, hD, hS⟩ := hH
  obtain ⟨me, hme, hM⟩ := hC1 _ _ _ _ hc2
  obtain ⟨bs, e1, e2, e3⟩ := z_pop_some _ _ _ _ _ hp
  rw [List.append_nil] at e1
  subst e1
  match lk, hlk, hlk2 with
  | [], hlk, _ => exact absurd rfl hlk
  | [a], _, hlk2 => exact absurd rfl (hlk2 a)
  | a :: b' :: lk'', _, _ =>
    simp only [z_chkc, Bool.and_eq_true, decide_eq_true_eq, hme] at hc
    obtain ⟨rfl, hc⟩ := hc
    cases hpx : PX[(a :: b' :: lk'').getD 0 0]? with
    | none =>
      rw [hpx] at hc
      cases hc
    | some q =>
      rw [hpx] at hc
      simp only [Bool.and_eq_true, decide_eq_true_eq, Bool.or_eq_true] at hc
      obtain ⟨⟨⟨⟨hlink, hcode⟩, hstat⟩, hini⟩, hm1, hm2, hpar, hrk, hmx⟩ := hc
      have hGI := z_good hcode hTb
      have hR2 : (z_rm d).frames + 1 ≤ R.frames ∧ 8 + (me.2.2.1 + 11) + (z_rm d).locals ≤ R.locals := ⟨hRm.1, by
        show 8 + (me.2.2.1 + 11) + 60 * d ≤ R.locals
        omega⟩
      have hpre : PreS s H (z_Pc D cl tys A ad cid sh Tb as m) (as.map (z_cv ad)) := ⟨z_Pc_blind, fun U hU hW => ⟨rfl, va_K.moved hW.alike hK, by rw [hU]; exact hP, hD, hNW.warm hW⟩⟩
      have hroom : 2 * (F0 M pc arr (st.map (z_cv ad))).monitorRoom + ((rest.map (z_cv ad)).map fun v => v.category).sum ≤ 8 := lv_room (by rw [z_cat_map]; exact Nat.le_of_ble_eq_true hcat)
      have hstk : (F0 M pc arr (st.map (z_cv ad))).stack = (as.map (z_cv ad)).reverse ++ rest.map (z_cv ad) := by
        show st.map (z_cv ad) = _
        rw [e3, List.map_append, List.map_reverse]
      have hlen : (as.map (z_cv ad)).length = (a :: b' :: lk'').getD 1 0 := by rw [List.length_map, e2]
      have run : va_Run p l e R s M args below meth c H locs cells slots 0 0 (F0 M pc arr (st.map (z_cv ad))) (rest.map (z_cv ad)) (z_Qc D cl A ad cid sh (z_rk me.2.2.2.1) r0 (as.map (z_cv ad)).toArray) A := by
        rcases hlink with hlink | hlink
        · exact va_runS (Ts := Ts) (own := own) (nL := nL) ⟨hx, hb, hml, hown, hts⟩ hM ⟨callB_of ((a :: b' :: lk'').getD 1 0) hts hGI rfl rfl rfl (hts _ (z_w_in hini hTb)) (hts _ (z_w_in hlink hTb)) ⟨hm1, hm2, hpar⟩ hR2, hts _ (z_w_in hstat hTb)⟩ hpre rfl hlen hsz hstk hroom hdg hcs
        · exact va_runSN (Ts := Ts) (own := own) (nL := nL) ⟨hx, hb, hml, hown, hts⟩ hM ⟨va_cnB ((a :: b' :: lk'').getD 1 0) hts hGI rfl rfl rfl (hNW _ (List.mem_of_getElem? hlink) rfl) (hts _ (z_w_in hini hTb)) ⟨hm1, hm2, hpar⟩ hR2, hts _ (z_w_in hstat hTb), trivial⟩ hpre rfl hlen hsz hstk hroom hdg hcs
      refine z_callk run hS (fun H1 locs1 g1 g2 => ?_)
      rw [z_rs_map, ← hrk]
      exact kk H1 locs1 ⟨g1, z_D_any hD, g2⟩
set_option maxHeartbeats 4000000 in
set_option maxRecDepth 100000 in
theorem z_virt (hG : z_G p s M args c cc own D cl tys cid sh Tb Ts tyq) (hml : c.maxLocals = nL) (hNW : z_NW Tb s) (hRm : d + 1 ≤ R.frames ∧ 60 * d + 60 ≤ R.locals) (hcs : cells ≤ R.cells ∧ slots ≤ R.slots) (hC1 : z_C1 l D cl tys A ad cid sh Tb P d C)
    {pc idx : Nat} {len : Nat} {lk px : List Nat} (hc : z_chkc Tb cl P PX own (.invokevirtual idx) len lk px = true) (hdg : decode cc pc = .ok (.invokevirtual idx, len)) {st as rest : List Value} {o : Nat} {m : z_M} {r0 : z_R} (hp : z_pop (lk.getD 1 0) st [] = some (.ref o :: as, rest)) (hcat : Nat.ble (z_cat rest) 8 = true) (hoc : z_okc sh o (lk.getD 3 0) = true) (hc2 : C (lk.getD 0 0) (.ref o :: as) m = some r0)
    {arr : Array Slot} {H : Heap} {locs : List Loc} (hsz : arr.size = nL) (hH : z_H D cl A H0 ad cid sh m H locs)
    (kk : ∀ (H' : Heap) (locs' : List Loc), z_H D cl A H0 ad cid sh r0.2.2 H' locs' → W p l e R s M args below meth c H' locs' cells slots Q (F0 M (pc + len) arr ((z_rs (lk.getD 2 0) r0 rest).map (z_cv ad)))) : W p l e R s M args below meth c H locs cells slots Q (F0 M pc arr (st.map (z_cv ad))) := by
  obtain ⟨hx, hb, hown, hts, hK, hTb, hCK, hTY⟩ := hG
  obtain ⟨hP, hD, hS⟩ := hH
  obtain ⟨me, hme, hM⟩ := hC1 _ _ _ _ hc2
  obtain ⟨bs, e1, e2, e3⟩ := z_pop_some _ _ _ _ _ hp
  rw [List.append_nil] at e1
  subst e1
  simp only [z_chkc, Bool.and_eq_true, decide_eq_true_eq, hme] at hc
  obtain ⟨rfl, hc⟩ := hc
  cases hpx : PX[lk.getD 0 0]? with
  | none =>
    rw [hpx] at hc
    cases hc
  | some q =>
    cases hcw : cl[lk.getD 3 0]? with
    | none =>
      rw [hpx, hcw] at hc
      cases hc
    | some w =>
      rw [hpx, hcw] at hc
      simp only [Bool.and_eq_true, decide_eq_true_eq] at hc
      obtain ⟨⟨⟨⟨⟨hlink, hcode⟩, hinst⟩, hini⟩, hsel⟩, hm1, hm2, hpar, hna, hrk, hmx, hwc⟩ := hc
      have hGI := z_good hcode hTb
      have hR2 : (z_rm d).frames + 1 ≤ R.frames ∧ 8 + (me.2.2.1 + 11) + (z_rm d).locals ≤ R.locals := ⟨hRm.1, by
        show 8 + (me.2.2.1 + 11) + 60 * d ≤ R.locals
        omega⟩
      obtain ⟨sl, hso⟩ := z_okc_some hoc
      have hrec := va_recv hK hP hcw (z_rd_at hso)
      rw [hwc] at hrec
      have hpre : PreV s H me.1.cls (ad o) (z_Pc D cl tys A ad cid sh Tb (.ref o :: as) m) (as.map (z_cv ad)) := ⟨z_Pc_blind, hrec, fun U hU hW => ⟨rfl, va_K.moved hW.alike hK, by rw [hU]; exact hP, hD, hNW.warm hW⟩⟩
      have hroom : 2 * (F0 M pc arr (st.map (z_cv ad))).monitorRoom + ((rest.map (z_cv ad)).map fun v => v.category).sum ≤ 8 := lv_room (by rw [z_cat_map]; exact Nat.le_of_ble_eq_true hcat)
      have hstk : (F0 M pc arr (st.map (z_cv ad))).stack = (as.map (z_cv ad)).reverse ++ .ref (ad o) :: rest.map (z_cv ad) := by
        show st.map (z_cv ad) = _
        rw [e3, List.map_append, List.map_reverse, List.map_cons, List.reverse_cons, List.append_assoc]
        rfl
      have hlen : (as.map (z_cv ad)).length = lk.getD 1 0 - 1 := by
        rw [List.length_map]
        rw [List.length_cons] at e2
        omega
      have run : va_Run p l e R s M args below meth c H locs cells slots 0 0 (F0 M pc arr (st.map (z_cv ad))) (rest.map (z_cv ad)) (z_Qc D cl A ad cid sh (z_rk me.2.2.2.1) r0 (Value.ref (ad o) :: as.map (z_cv ad)).toArray) A :=
        va_runV (Ts := Ts) (own := own) (nL := nL) ⟨hx, hb, hml, hown, hts⟩ hM ⟨callB_of (lk.getD 1 0 - 1) hts hGI rfl rfl rfl (hts _ (z_w_in hini hTb)) (hts _ (z_w_in hlink hTb)) ⟨hm1, hm2, hpar⟩ hR2, hts _ (z_w_in hinst hTb), hts _ (z_w_in hsel hTb)⟩ hpre rfl hlen hsz hstk hroom hdg hcs
      refine z_callk run hS (fun H1 locs1 g1 g2 => ?_)
      rw [z_rs_map, ← hrk]
      exact kk H1 locs1 ⟨g1, z_D_any hD, g2⟩
end Zb
