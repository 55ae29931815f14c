/-! The small machine's values, locals and heap against the machine's. -/
def z_cv (ad : Nat → Nat) (v : Value) : Value := match v with
  | .ref a => .ref (ad a)
  | v => v
def z_vl (ad : Nat → Nat) (s : Nat ⊕ Option Nat) (x : Int32) : Value := match s with
  | .inl 1 => .int (z_b x)
  | .inl _ => .int x
  | .inr none => .null
  | .inr (some r) => .ref (ad r)
def z_rl (ad : Nat → Nat) (l : List (Option Nat)) : Nat → Option Nat := fun j => match l[j]? with
  | some (some r) => some (ad r)
  | _ => none
def z_re (ad : Nat → Nat) (cA : ClassId) (q : z_C) (f : Nat → Int32) : va_E := match q with
  | .inl (ci, sl) => .inr (ci, sl.mapIdx (fun k s => z_vl ad s (f k)))
  | .inr (.inl (1, n)) => .inl (cA, n, .inl (fun j => z_b (f j)))
  | .inr (.inl (_, n)) => .inl (cA, n, .inl f)
  | .inr (.inr (_, l)) => .inl (cA, l.length, .inr (.inr (.inr (.inr (z_rl ad l)))))
def z_rd (ad : Nat → Nat) (cid : Nat → ClassId) (sh : List z_C) (m : z_M) : va_W := sh.mapIdx (fun i q => (ad i, z_re ad (cid i) q (m i)))
theorem z_rd_at {ad : Nat → Nat} {cid : Nat → ClassId} {sh : List z_C} {m : z_M} {i : Nat} {q : z_C} (h : sh[i]? = some q) : (z_rd ad cid sh m)[i]? = some (ad i, z_re ad (cid i) q (m i)) := by
  simp [z_rd, List.getElem?_mapIdx, h]
theorem z_rd_set {ad : Nat → Nat} {cid : Nat → ClassId} {sh : List z_C} {m m' : z_M} {a : Nat} {q : z_C} (h : sh[a]? = some q) (hm : ∀ i, i ≠ a → m' i = m i) : (z_rd ad cid sh m).set a (ad a, z_re ad (cid a) q (m' a)) = z_rd ad cid sh m' := by
  apply List.ext_getElem?
  intro i
  have hlt := (List.getElem?_eq_some_iff.mp h).1
  simp only [z_rd, List.getElem?_set, List.getElem?_mapIdx, List.length_mapIdx]
  by_cases hi : a = i
  · subst hi
    rw [if_pos rfl, if_pos hlt, h]
    rfl
  · simp [hi, hm i (Ne.symm hi)]
theorem z_up_same (m : z_M) (a k : Nat) (v : Int32) : z_up m a k v a = upd (m a) k v := by simp [z_up]
theorem z_up_ne {m : z_M} {a k i : Nat} {v : Int32} (h : i ≠ a) : z_up m a k v i = m i := by simp [z_up, h]
theorem z_up_at (m : z_M) (a k a' k' : Nat) (v : Int32) : z_up m a k v a' k' = if a' = a ∧ k' = k then v else m a' k' := by
  unfold z_up upd
  by_cases h1 : a' = a
  · subst h1
    by_cases h2 : k' = k <;> simp [h2]
  · simp [h1]
theorem z_g_some {ρ : Type} {c : Bool} {x : Option ρ} {r : ρ} (h : z_g c x = some r) : c = true ∧ x = some r := by
  cases c with
  | true => exact ⟨rfl, h⟩
  | false => cases h
theorem z_g_t {ρ : Type} (x : Option ρ) : z_g true x = x := rfl
theorem z_isb_iff {x : Int32} : z_isb x = true ↔ x = 0 ∨ x = 1 := by simp [z_isb]
theorem z_b_of {x : Int32} (h : z_isb x = true) : z_b x = x := by
  rcases z_isb_iff.mp h with rfl | rfl <;> decide
theorem z_isb_b (x : Int32) : z_isb (z_b x) = true := by
  unfold z_b
  split <;> decide
/-! locals -/
def z_as (ad : Nat → Nat) (ls : z_V) : List (Nat × Value) := (List.range ls.length).filterMap (fun i => match ls[i]? with
  | some (some v) => some (i, z_cv ad v)
  | _ => none)
theorem z_as_mem {ad : Nat → Nat} {ls : z_V} {i : Nat} {w : Value} : (i, w) ∈ z_as ad ls ↔ ∃ v, ls[i]? = some (some v) ∧ w = z_cv ad v := by
  unfold z_as
  rw [List.mem_filterMap]
  constructor
  · rintro ⟨j, hj, h⟩
    split at h
    · rename_i v hv
      simp only [Option.some.injEq, Prod.mk.injEq] at h
      obtain ⟨rfl, rfl⟩ := h
      exact ⟨v, hv, rfl⟩
    · cases h
  · rintro ⟨v, hv, rfl⟩
    exact ⟨i, List.mem_range.mpr (List.getElem?_eq_some_iff.mp hv).1, by rw [hv]⟩
def z_L (ad : Nat → Nat) (ls : z_V) (arr : Array Slot) (nL : Nat) : Prop := ls.length = nL ∧ arr.size = nL ∧ lv_wf arr ∧ ∀ (i : Nat) (v : Value), ls[i]? = some (some v) → arr[i]? = some (.val (z_cv ad v))
theorem z_L.has {ad : Nat → Nat} {ls : z_V} {arr : Array Slot} {nL : Nat} (h : z_L ad ls arr nL) : lv_has arr nL (z_as ad ls) := by
  refine ⟨h.2.1, h.2.2.1, fun q hq => ?_⟩
  obtain ⟨i, w⟩ := q
  obtain ⟨v, hv, rfl⟩ := z_as_mem.mp hq
  exact h.2.2.2 i v hv
theorem z_k2_some {o : Option Value} {w : Value} (h : z_k2 o = some w) : o = some w ∧ w.category = 1 := by
  cases o with
  | none => cases h
  | some v => cases v <;> simp [z_k2] at h <;> subst h <;> exact ⟨rfl, rfl⟩
theorem z_st1_len : ∀ (ls : z_V) (i : Nat) (v : Value), (z_st1 ls i v).length = ls.length
  | [], _, _ => rfl
  | _ :: _, 0, _ => rfl
  | _ :: r, 1, v => by simp [z_st1, z_st1_len r 0 v]
  | _ :: r, i + 2, v => by simp [z_st1, z_st1_len r (i + 1) v]
theorem z_st1_get : ∀ (ls : z_V) (i j : Nat) (v w : Value), (z_st1 ls i v)[j]? = some (some w) → (j = i ∧ w = v) ∨ (j ≠ i ∧ ls[j]? = some (some w) ∧ ¬ (j + 1 = i ∧ w.category = 2))
  | [], _, _, _, _, h => by simp [z_st1] at h
  | _ :: r, 0, 0, v, w, h => by
    simp [z_st1] at h
    exact Or.inl ⟨rfl, h.symm⟩
  | _ :: r, 0, j + 1, v, w, h => by
    simp [z_st1] at h
    exact Or.inr ⟨by omega, by simpa using h, by omega⟩
  | o :: r, 1, 0, v, w, h => by
    simp [z_st1] at h
    obtain ⟨rfl, hc⟩ := z_k2_some h
    exact Or.inr ⟨by omega, rfl, fun q => by rw [hc] at q; omega⟩
  | o :: r, 1, j + 1, v, w, h => by
    simp [z_st1] at h
    rcases z_st1_get r 0 j v w h with ⟨rfl, rfl⟩ | ⟨h1, h2, h3⟩
    · exact Or.inl ⟨rfl, rfl⟩
    · exact Or.inr ⟨by omega, by simpa using h2, by omega⟩
  | o :: r, i + 2, 0, v, w, h => by
    simp [z_st1] at h
    exact Or.inr ⟨by omega, by simp [h], by omega⟩
  | o :: r, i + 2, j + 1, v, w, h => by
    simp [z_st1] at h
    rcases z_st1_get r (i + 1) j v w h with ⟨rfl, rfl⟩ | ⟨h1, h2, h3⟩
    · exact Or.inl ⟨rfl, rfl⟩
    · exact Or.inr ⟨by omega, by simpa using h2, fun q => h3 ⟨by omega, q.2⟩⟩
theorem z_cv_cat (ad : Nat → Nat) (v : Value) : (z_cv ad v).category = v.category := by cases v <;> rfl
theorem z_L.st1 {ad : Nat → Nat} {ls : z_V} {arr arr' : Array Slot} {nL i : Nat} {v : Value} (h : z_L ad ls arr nL) (h' : lv_has arr' nL ((i, z_cv ad v) :: (z_as ad ls).filter (fun q => !(q.1 == i) && !(q.1 + 1 == i && q.2.category == 2)))) : z_L ad (z_st1 ls i v) arr' nL := by
  refine ⟨(z_st1_len ls i v).trans h.1, h'.1, h'.2.1, fun j w hj => ?_⟩
  rcases z_st1_get ls i j v w hj with ⟨rfl, rfl⟩ | ⟨h1, h2, h3⟩
  · exact h'.2.2 (j, z_cv ad w) List.mem_cons_self
  · refine h'.2.2 (j, z_cv ad w) (List.mem_cons_of_mem _ (List.mem_filter.mpr ⟨z_as_mem.mpr ⟨w, h2, rfl⟩, ?_⟩))
    have e1 : (j == i) = false := by simp [h1]
    simp only [e1, Bool.not_false, Bool.true_and, Bool.not_eq_true']
    by_cases hq : j + 1 = i
    · have h4 : ¬ w.category = 2 := fun q => h3 ⟨hq, q⟩
      simp [hq, z_cv_cat, h4]
    · simp [hq]
theorem z_st2_len : ∀ (ls : z_V) (i : Nat) (v : Value), (z_st2 ls i v).length = ls.length
  | [], _, _ => rfl
  | _ :: [], 0, _ => rfl
  | _ :: _ :: _, 0, _ => rfl
  | _ :: r, 1, v => by simp [z_st2, z_st2_len r 0 v]
  | _ :: r, i + 2, v => by simp [z_st2, z_st2_len r (i + 1) v]
theorem z_st2_get : ∀ (ls : z_V) (i j : Nat) (v w : Value), i + 1 < ls.length → (z_st2 ls i v)[j]? = some (some w) → (j = i ∧ w = v) ∨ (j ≠ i ∧ j ≠ i + 1 ∧ ls[j]? = some (some w) ∧ ¬ (j + 1 = i ∧ w.category = 2))
  | [], _, _, _, _, hl, h => by simp [z_st2] at h
  | _ :: [], 0, _, _, _, hl, h => by simp at hl
  | _ :: _ :: r, 0, 0, v, w, hl, h => by
    simp [z_st2] at h
    exact Or.inl ⟨rfl, h.symm⟩
  | _ :: _ :: r, 0, 1, v, w, hl, h => by simp [z_st2] at h
  | _ :: _ :: r, 0, j + 2, v, w, hl, h => by
    simp [z_st2] at h
    exact Or.inr ⟨by omega, by omega, by simpa using h, by omega⟩
  | o :: r, 1, 0, v, w, hl, h => by
    simp [z_st2] at h
    obtain ⟨rfl, hc⟩ := z_k2_some h
    exact Or.inr ⟨by omega, by omega, rfl, fun q => by rw [hc] at q; omega⟩
  | o :: r, 1, j + 1, v, w, hl, h => by
    simp [z_st2] at h
    rcases z_st2_get r 0 j v w (by simp at hl; omega) h with ⟨rfl, rfl⟩ | ⟨h1, h1', h2, h3⟩
    · exact Or.inl ⟨rfl, rfl⟩
    · exact Or.inr ⟨by omega, by omega, by simpa using h2, by omega⟩
  | o :: r, i + 2, 0, v, w, hl, h => by
    simp [z_st2] at h
    exact Or.inr ⟨by omega, by omega, by simp [h], by omega⟩
  | o :: r, i + 2, j + 1, v, w, hl, h => by
    simp [z_st2] at h
    rcases z_st2_get r (i + 1) j v w (by simp at hl; omega) h with ⟨rfl, rfl⟩ | ⟨h1, h1', h2, h3⟩
    · exact Or.inl ⟨rfl, rfl⟩
    · exact Or.inr ⟨by omega, by omega, by simpa using h2, fun q => h3 ⟨by omega, q.2⟩⟩
theorem z_L.st2 {ad : Nat → Nat} {ls : z_V} {arr arr' : Array Slot} {nL i : Nat} {v : Value} (h : z_L ad ls arr nL) (hi : i + 1 < nL) (h' : lv_has arr' nL ((i, z_cv ad v) :: (z_as ad ls).filter (fun q => !(q.1 == i) && (!(q.1 == i + 1) && !(q.1 + 1 == i && q.2.category == 2))))) : z_L ad (z_st2 ls i v) arr' nL := by
  refine ⟨(z_st2_len ls i v).trans h.1, h'.1, h'.2.1, fun j w hj => ?_⟩
  rcases z_st2_get ls i j v w (by rw [h.1]; exact hi) hj with ⟨rfl, rfl⟩ | ⟨h1, h1', h2, h3⟩
  · exact h'.2.2 (j, z_cv ad w) List.mem_cons_self
  · refine h'.2.2 (j, z_cv ad w) (List.mem_cons_of_mem _ (List.mem_filter.mpr ⟨z_as_mem.mpr ⟨w, h2, rfl⟩, ?_⟩))
    have e1 : (j == i) = false := by simp [h1]
    have e2 : (j == i + 1) = false := by simp [h1']
    simp only [e1, e2, Bool.not_false, Bool.true_and, Bool.not_eq_true']
    by_cases hq : j + 1 = i
    · have h4 : ¬ w.category = 2 := fun q => h3 ⟨hq, q⟩
      simp [hq, z_cv_cat, h4]
    · simp [hq]
theorem z_mask_len : ∀ (mk : List Bool) (ls : z_V), (z_mask mk ls).length = ls.length
  | [], _ => by simp [z_mask]
  | _ :: _, [] => by simp [z_mask]
  | b :: bs, o :: r => by simp [z_mask, z_mask_len bs r]
theorem z_mask_get : ∀ (mk : List Bool) (ls : z_V) (j : Nat) (w : Value), (z_mask mk ls)[j]? = some (some w) → ls[j]? = some (some w)
  | [], _, _, _, h => by simpa [z_mask] using h
  | _ :: _, [], _, _, h => by simp [z_mask] at h
  | b :: bs, o :: r, 0, w, h => by
    cases b <;> simp [z_mask] at h ⊢
    exact h
  | b :: bs, o :: r, j + 1, w, h => by
    simp [z_mask] at h
    simpa using z_mask_get bs r j w h
theorem z_L.mask {ad : Nat → Nat} {ls : z_V} {arr : Array Slot} {nL : Nat} (mk : List Bool) (h : z_L ad ls arr nL) : z_L ad (z_mask mk ls) arr nL :=
  ⟨(z_mask_len mk ls).trans h.1, h.2.1, h.2.2.1, fun i v hv => h.2.2.2 i v (z_mask_get mk ls i v hv)⟩
