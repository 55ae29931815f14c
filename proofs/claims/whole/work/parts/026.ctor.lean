/-! The makers: a machine whose shape grows. -/
abbrev z_S : Type := List z_C × z_M
def z_dsl (tyq : Nat → Nat → FieldType) (ci N : Nat) : List (Nat ⊕ Option Nat) := (List.range N).map (fun k => match tyq ci k with
  | .int => .inl 0
  | .boolean => .inl 1
  | _ => .inr none)
def z_rok (n : Nat) (v : Value) : Bool := match v with
  | .ref a => Nat.blt a n || Nat.beq a 1000
  | _ => true
def z_lok (n : Nat) (ls : z_V) : Bool := ls.all (fun o => match o with
  | some v => z_rok n v
  | none => true)
def z_crf (n : Nat) (q : z_C) : Bool := match q with
  | .inl (_, sl) => sl.all (fun s => match s with
    | .inr (some r) => Nat.blt r n
    | _ => true)
  | .inr (.inr (_, l)) => l.all (fun o => match o with
    | some r => Nat.blt r n
    | none => true)
  | _ => true
def z_clr (m : z_M) (n : Nat) : z_M := fun a => if a = n then (fun _ => 0) else m a
def z_fty (cl : List vw_C) (t : Nat) : FieldType := match t with
  | 0 => .int
  | 1 => .boolean
  | t + 2 => .object ((cl[t]?.map (fun q => q.1)).getD "")
def z_alo (n : Nat) (ls : z_V) (st : List Value) (sh : List z_C) : Bool := z_lok n ls && st.all (z_rok n) && sh.all (z_crf n) && Nat.blt n 1000
def z_ablk (L : Nat) (xs : Nat → Int32) (cl : List vw_C) (tyq : Nat → Nat → FieldType) (FS : List Nat) (code : List z_En) (stop : Nat) (C : Nat → List Value → z_S → Option z_S) : Nat → List z_En → z_V → List Value → z_S → Option (z_V × List Value × z_S)
  | 0, _, _, _, _ => none
  | _ + 1, [], _, _, _ => none
  | n + 1, e :: cs, ls, st, S => match Nat.beq e.1 stop with
    | true => some (ls, st, S)
    | false => match e.2.1 with
      | .new _ => (match cl[e.2.2.2.1.getD 0 0]? with
        | some q => z_g (z_alo S.1.length ls st S.1) (z_ablk L xs cl tyq FS code stop C n cs ls (.ref S.1.length :: st) (S.1 ++ [.inl (e.2.2.2.1.getD 0 0, z_dsl tyq (e.2.2.2.1.getD 0 0) q.2.2)], z_clr S.2 S.1.length))
        | none => none)
      | .newarray _ => (match st with
        | .int x :: st => z_g (z_alo S.1.length ls st S.1 && decide (¬ x < 0) && Nat.ble x.toNatClampNeg 1000 && decide (FS[S.1.length]? = some (e.2.2.2.1.getD 0 0)) && Nat.ble (e.2.2.2.1.getD 0 0) 1) (z_ablk L xs cl tyq FS code stop C n cs ls (.ref S.1.length :: st) (S.1 ++ [.inr (.inl (e.2.2.2.1.getD 0 0, x.toNatClampNeg))], z_clr S.2 S.1.length))
        | _ => none)
      | .anewarray _ => (match st with
        | .int x :: st => z_g (z_alo S.1.length ls st S.1 && decide (¬ x < 0) && Nat.ble x.toNatClampNeg 1000 && decide (FS[S.1.length]? = some (e.2.2.2.1.getD 0 0 + 2)) && Nat.blt (e.2.2.2.1.getD 0 0) 50) (z_ablk L xs cl tyq FS code stop C n cs ls (.ref S.1.length :: st) (S.1 ++ [.inr (.inr (e.2.2.2.1.getD 0 0, List.replicate x.toNatClampNeg none))], z_clr S.2 S.1.length))
        | _ => none)
      | .aastore => (match st with
        | .ref v :: .int i :: .ref a :: st => (match S.1[a]?, S.1[v]? with
          | some (.inr (.inr (ci, l))), some (.inl (cv, _)) => z_g (Nat.beq ci cv && z_in l.length i && decide (FS[a]? = some (ci + 2)) && Nat.blt ci 50 && (cl[ci]?).isSome) (z_ablk L xs cl tyq FS code stop C n cs ls st (S.1.set a (.inr (.inr (ci, l.set i.toNatClampNeg (some v)))), S.2))
          | _, _ => none)
        | _ => none)
      | .invokespecial _ => (match e.2.2.2.1 with
        | [] => (match st with
          | .ref _ :: st => z_g (Nat.ble (z_cat st) 8) (z_ablk L xs cl tyq FS code stop C n cs ls st S)
          | _ => none)
        | lk => (match st with
          | .ref o :: st => z_g (Nat.ble (z_cat st) 8 && z_lok S.1.length ls && st.all (z_rok S.1.length)) (Option.bind (C (lk.getD 0 0) [.ref o] S) (fun S' => z_ablk L xs cl tyq FS code stop C n cs ls st S'))
          | _ => none))
      | .putfield i => (match e.2.2.2.1.getD 2 0, st with
        | 2, .ref v :: .ref a :: st => (match S.1[a]? with
          | some (.inl (ci, sl)) => (match sl[e.2.2.2.1.getD 1 0]? with
            | some (.inr _) => z_g (Nat.beq ci (e.2.2.2.1.getD 0 0)) (z_ablk L xs cl tyq FS code stop C n cs ls st (S.1.set a (.inl (ci, sl.set (e.2.2.2.1.getD 1 0) (.inr (some v)))), S.2))
            | _ => none)
          | _ => none)
        | _, _ => none)
      | ins => z_ins S.1 L xs ins e.2.2.2.1 e.2.2.2.2.1 ls st S.2 (fun o ls' st' m' => match o with
        | none => z_ablk L xs cl tyq FS code stop C n cs ls' st' (S.1, m')
        | some t => z_ablk L xs cl tyq FS code stop C n (z_at code t) ls' st' (S.1, m'))
def z_stop : List z_En → Nat
  | [] => 0
  | [e] => e.1
  | _ :: r => z_stop r
def z_ago (cl : List vw_C) (tyq : Nat → Nat → FieldType) (FS : List Nat) (P : List z_Me) : Nat → Nat → List Value → z_S → Option z_S
  | 0, _, _, _ => none
  | d + 1, j, as, S => match P[j]? with
    | some me => z_g (Nat.ble (z_cat as) me.2.2.1 && as.all (z_rok S.1.length) && decide (me.1.name = "<init>")) (Option.bind (z_ablk 0 (fun _ => 0) cl tyq FS me.2.2.2.2.1 (z_stop me.2.2.2.2.1) (z_ago cl tyq FS P d) 2000 (z_at me.2.2.2.2.1 0) (z_loc me.2.2.1 as) [] S) (fun q => match q.2.1 with
      | [] => some q.2.2
      | _ => none))
    | none => none
/-! addresses that grow -/
def z_agr (n : Nat) (ad ad' : Nat → Nat) : Prop := ∀ i, i < n ∨ i = 1000 → ad' i = ad i
theorem z_rok_cv {n : Nat} {ad ad' : Nat → Nat} (h : z_agr n ad ad') {v : Value} (hv : z_rok n v = true) : z_cv ad' v = z_cv ad v := by
  cases v <;> try rfl
  rename_i a
  simp only [z_rok, Bool.or_eq_true] at hv
  show Value.ref (ad' a) = Value.ref (ad a)
  rw [h a (hv.elim (fun q => Or.inl (Nat.blt_eq.mp q)) (fun q => Or.inr (Nat.eq_of_beq_eq_true q)))]
theorem z_rok_map {n : Nat} {ad ad' : Nat → Nat} (h : z_agr n ad ad') {st : List Value} (hv : st.all (z_rok n) = true) : st.map (z_cv ad') = st.map (z_cv ad) :=
  List.map_congr_left (fun v hq => z_rok_cv h (List.all_eq_true.mp hv v hq))
theorem z_L.ad {n : Nat} {ad ad' : Nat → Nat} (h : z_agr n ad ad') {ls : z_V} {arr : Array Slot} {nL : Nat} (hv : z_lok n ls = true) (hl : z_L ad ls arr nL) : z_L ad' ls arr nL := by
  refine ⟨hl.1, hl.2.1, hl.2.2.1, fun i v hi => ?_⟩
  have h1 := List.all_eq_true.mp hv _ (List.mem_of_getElem? hi)
  rw [z_rok_cv h h1]
  exact hl.2.2.2 i v hi
theorem z_re_ad {n : Nat} {ad ad' : Nat → Nat} (h : z_agr n ad ad') {q : z_C} (hq : z_crf n q = true) (cA : ClassId) (f : Nat → Int32) : z_re ad' cA q f = z_re ad cA q f := by
  rcases q with ⟨ci, sl⟩ | ⟨t, k⟩ | ⟨ci, l⟩
  · show Sum.inr (ci, sl.mapIdx (fun k s => z_vl ad' s (f k))) = Sum.inr (ci, sl.mapIdx (fun k s => z_vl ad s (f k)))
    congr 2
    apply List.ext_getElem?
    intro i
    simp only [List.getElem?_mapIdx]
    cases hs : sl[i]? with
    | none => rfl
    | some s0 =>
      have h1 := List.all_eq_true.mp hq s0 (List.mem_of_getElem? hs)
      rcases s0 with t | r
      · rcases t with _ | _ | t <;> rfl
      · cases r with
        | none => rfl
        | some r =>
          show some (Value.ref (ad' r)) = some (Value.ref (ad r))
          rw [h r (Or.inl (Nat.blt_eq.mp h1))]
  · rcases t with _ | _ | t <;> rfl
  · show Sum.inl (cA, l.length, Sum.inr (Sum.inr (Sum.inr (Sum.inr (z_rl ad' l))))) = Sum.inl (cA, l.length, Sum.inr (Sum.inr (Sum.inr (Sum.inr (z_rl ad l)))))
    have hf : z_rl ad' l = z_rl ad l := by
      funext j
      unfold z_rl
      cases hs : l[j]? with
      | none => rfl
      | some o =>
        cases o with
        | none => rfl
        | some r =>
          have h1 := List.all_eq_true.mp hq (some r) (List.mem_of_getElem? hs)
          show some (ad' r) = some (ad r)
          rw [h r (Or.inl (Nat.blt_eq.mp h1))]
    rw [hf]
theorem z_rd_ad {ad ad' : Nat → Nat} {cid : Nat → ClassId} {sh : List z_C} {m m' : z_M} (h : z_agr sh.length ad ad') (hq : sh.all (z_crf sh.length) = true) (hm : ∀ i, i < sh.length → m' i = m i) : z_rd ad' cid sh m' = z_rd ad cid sh m := by
  apply List.ext_getElem?
  intro i
  simp only [z_rd, List.getElem?_mapIdx]
  cases hs : sh[i]? with
  | none => rfl
  | some c =>
    have hi := (List.getElem?_eq_some_iff.mp hs).1
    have h1 := List.all_eq_true.mp hq c (List.mem_of_getElem? hs)
    simp only [Option.map_some]
    rw [z_re_ad h h1, hm i hi, h i (Or.inl hi)]
theorem z_rd_new {ad ad' : Nat → Nat} {cid : Nat → ClassId} {sh : List z_C} {m : z_M} {q : Nat} {c : z_C} (hq : sh.all (z_crf sh.length) = true) (h : z_agr sh.length ad ad') (hn : ad' sh.length = q) : z_rd ad' cid (sh ++ [c]) (z_clr m sh.length) = z_rd ad cid sh m ++ [(q, z_re ad' (cid sh.length) c (fun _ => 0))] := by
  have h1 : z_rd ad' cid sh (z_clr m sh.length) = z_rd ad cid sh m := z_rd_ad h hq (fun i hi => if_neg (Nat.ne_of_lt hi))
  rw [← h1]
  unfold z_rd
  rw [List.mapIdx_append]
  simp [z_clr, hn]
theorem z_rd_setc {ad : Nat → Nat} {cid : Nat → ClassId} {sh : List z_C} {m : z_M} {a : Nat} {q c : z_C} (h : sh[a]? = some q) : (z_rd ad cid sh m).set a (ad a, z_re ad (cid a) c (m a)) = z_rd ad cid (sh.set a c) m := by
  apply List.ext_getElem?
  intro i
  have hlt := (List.getElem?_eq_some_iff.mp h).1
  simp only [z_rd, List.getElem?_set, List.getElem?_mapIdx, List.length_mapIdx]
  by_cases hi : a = i
  · subst hi
    rw [if_pos rfl, if_pos hlt, if_pos rfl, if_pos hlt]
    rfl
  · simp [hi]
def z_csl (c : z_C) : Nat := match c with
  | .inl (_, sl) => sl.length
  | .inr (.inl (_, n)) => n
  | .inr (.inr (_, l)) => l.length
def z_slo (sh : List z_C) : Nat := (sh.map z_csl).sum
theorem z_slo_push (sh : List z_C) (c : z_C) : z_slo (sh ++ [c]) = z_slo sh + z_csl c := by simp [z_slo]
theorem z_slo_set {sh : List z_C} {a : Nat} {q c : z_C} (h : sh[a]? = some q) (hc : z_csl c = z_csl q) : z_slo (sh.set a c) = z_slo sh := by
  unfold z_slo
  congr 1
  apply List.ext_getElem?
  intro i
  have hlt := (List.getElem?_eq_some_iff.mp h).1
  simp only [List.getElem?_map, List.getElem?_set]
  by_cases hi : a = i
  · subst hi
    rw [if_pos rfl, if_pos hlt, h]
    simp [hc]
  · simp [hi]
theorem z_TY_push {tys : List (ClassId × FieldType)} {cid : Nat → ClassId} {sh : List z_C} {c : z_C} (h : z_TY tys cid sh) (h1 : ∀ n t, c = .inr (.inl (t, n)) → ∃ t0 : Nat, tys[t0]? = some (cid sh.length, if t = 1 then FieldType.boolean else FieldType.int)) (h2 : ∀ ci l, c = .inr (.inr (ci, l)) → ∃ (t0 : Nat) (nm : String), tys[t0]? = some (cid sh.length, FieldType.object nm)) : z_TY tys cid (sh ++ [c]) := by
  intro i
  rcases Nat.lt_trichotomy i sh.length with hi | hi | hi
  · rw [List.getElem?_append_left hi]
    exact h i
  · subst hi
    rw [List.getElem?_append_right (Nat.le_refl _), Nat.sub_self]
    exact ⟨fun n t e => h1 n t (Option.some.inj e), fun ci l e => h2 ci l (Option.some.inj e)⟩
  · rw [List.getElem?_eq_none (by simp; omega)]
    exact ⟨fun n t e => (by cases e), fun ci l e => (by cases e)⟩
theorem z_TY_set {tys : List (ClassId × FieldType)} {cid : Nat → ClassId} {sh : List z_C} {c : z_C} {a : Nat} (h : z_TY tys cid sh) (h1 : ∀ n t, c ≠ .inr (.inl (t, n))) (h2 : ∀ ci l, c = .inr (.inr (ci, l)) → ∃ (t0 : Nat) (nm : String), tys[t0]? = some (cid a, FieldType.object nm)) : z_TY tys cid (sh.set a c) := by
  intro i
  rw [List.getElem?_set]
  by_cases hi : a = i
  · subst hi
    rw [if_pos rfl]
    by_cases hl : a < sh.length
    · rw [if_pos hl]
      exact ⟨fun n t e => absurd (Option.some.inj e) (h1 n t), fun ci l e => h2 ci l (Option.some.inj e)⟩
    · rw [if_neg hl]
      exact ⟨fun n t e => (by cases e), fun ci l e => (by cases e)⟩
  · rw [if_neg hi]
    exact h i
