/-! THE CLAIM OUT OF ONE WALK OF THE LAW'S BODY. Your part is whole_start (and what it stands on); all else here is the same for every law, but numbers. -/
def R_law : String := "StayingGuestsLaw"
def lw_P (b : Addr) (xs : List Int32) (args : Array Value) (s : State) : Prop := args = #[.ref b] ∧ s.IntsAt b xs ∧ xs.length ≤ 384 ∧ (Jvm.Cond.and given_1 narrow_1).before args s = true
def lw_Q (_ : Array Value) (s : State) (o : Outcome) (t : State) : Prop := o = .returned (some (.int 1)) ∧ Framed s o t [] 600000 7302250
def lw_Z (below : List Frame) (a : Array Value) (s : State) : State → Prop := fun t => ∃ o, t.status = .running ∧ Ended t below o ∧ lw_Q a s o t
/-- the law's own end, with 1 on the stack, nothing written that was there before, its room as the claim has it -/
theorem lw_ret {p : Program} {l : Launch} {e : Env} {s : State} {m : MethodId} {below : List Frame} {meth : Method} {c : Code} {b : Nat} (hx : p.tables.exec = Jvm.exec) (hb : c.code = code) (hr : meth.sig.returnType = ret) (hlocks : meth.locks = false) {pc : Nat} {H : Heap} {ls : Array Slot} (hdg : decode code pc = .ok (.ireturn, 1)) : W p l e room_1 s m #[Value.ref b] below meth c H [] 600000 7302250 (lw_Z below #[Value.ref b] s) (F0 m pc ls [.int 1]) := by
  intro T hT X
  obtain ⟨fs, hret, hrun, hended, hW, hframe⟩ := X.leave (v := some (.int 1)) (hlocks := hlocks) (fun h => by rw [hr] at h; cases h)
  have hmeth' : T.vm.method? m = some meth := X.method'
  refine ⟨T.setFrames fs, ?_, .returned (some (.int 1)), hrun, hended, rfl, ⟨_, rfl⟩, hW, hframe⟩
  jvm_step X.here [X.here.top, hx, hb, hdg, hmeth', hr, ret, narrow_b1]
  (try refine ⟨rfl, ?_⟩); (try refine ⟨rfl, ?_⟩)
  first | (intro acts; rw [hret _ acts rfl rfl rfl]) | rw [hret _ _ rfl rfl rfl]
  exact Steps.refl _
/-- what holds at the law's entry: the machine, the code, the tables' words (any of lw_tbl by 'hts w (by decide +kernel)'), the script of L ints xs at the cell b, what the Statement gives of the start (any of its parts by flat_of_before) -/
def lw_At (p : Program) (s : State) (m : MethodId) (meth : Method) (c : Code) (b L : Nat) (xs : Nat → Int32) : Prop :=
  p.tables.exec = Jvm.exec ∧ c.code = code ∧ meth.sig.returnType = ret ∧ c.maxLocals = 4 ∧ s.vm.findClass R_law = some m.cls ∧ (∀ w ∈ lw_tbl, w.before #[Value.ref b] s = true) ∧ va_X b L xs s s.heap ∧ b < s.heap.size ∧ meth.locks = false ∧ (Jvm.Cond.and given_1 narrow_1).before #[Value.ref b] s = true
/-! The law's body out of the small machine. -/
theorem z_qck_of {R : String} {T : u_T} {n : Nat} (h : (u_ws R T n).all (fun x => decide (x ∈ lw_tbl) && goodWord x) = true) : ∀ x ∈ u_ws R T n, x ∈ lw_tbl.filter goodWord := by
  intro x hx
  have h1 := List.all_eq_true.mp h x hx
  simp only [Bool.and_eq_true, decide_eq_true_eq] at h1
  exact List.mem_filter.mpr h1
set_option maxRecDepth 100000 in
theorem z_qck0 : (u_ws RX0 TX0 4).all (fun x => decide (x ∈ lw_tbl) && goodWord x) = true := by decide +kernel
set_option maxRecDepth 100000 in
theorem z_qck1 : (u_ws RX1 TX1 7).all (fun x => decide (x ∈ lw_tbl) && goodWord x) = true := by decide +kernel
set_option maxRecDepth 100000 in
theorem z_qck2 : (u_ws RX2 TX2 5).all (fun x => decide (x ∈ lw_tbl) && goodWord x) = true := by decide +kernel
set_option maxRecDepth 100000 in
theorem z_qck3 : (u_ws RX3 TX3 4).all (fun x => decide (x ∈ lw_tbl) && goodWord x) = true := by decide +kernel
set_option maxRecDepth 100000 in
theorem z_qck4 : (u_ws RX4 TX4 4).all (fun x => decide (x ∈ lw_tbl) && goodWord x) = true := by decide +kernel
set_option maxRecDepth 100000 in
theorem z_qck5 : (u_ws RX5 TX5 1).all (fun x => decide (x ∈ lw_tbl) && goodWord x) = true := by decide +kernel
set_option maxRecDepth 100000 in
theorem z_qck6 : (u_ws RX6 TX6 4).all (fun x => decide (x ∈ lw_tbl) && goodWord x) = true := by decide +kernel
set_option maxRecDepth 100000 in
theorem z_qck7 : (u_ws RX7 TX7 1).all (fun x => decide (x ∈ lw_tbl) && goodWord x) = true := by decide +kernel
set_option maxRecDepth 100000 in
theorem z_qck8 : (u_ws RX8 TX8 2).all (fun x => decide (x ∈ lw_tbl) && goodWord x) = true := by decide +kernel
set_option maxRecDepth 100000 in
theorem z_qck9 : (u_ws RX9 TX9 11).all (fun x => decide (x ∈ lw_tbl) && goodWord x) = true := by decide +kernel
set_option maxRecDepth 100000 in
theorem z_qck10 : (u_ws RX10 TX10 37).all (fun x => decide (x ∈ lw_tbl) && goodWord x) = true := by decide +kernel
theorem z_ck : z_CK vwCl (lw_tbl.filter goodWord) z_tyq := by
  intro ci q hq
  match ci, hq with
  | 0, hq =>
    have hq' : some (RX0, TX0, 4) = some q := hq
    cases hq'
    exact ⟨z_qck_of z_qck0, tyX0_ok, nmX0⟩
  | 1, hq =>
    have hq' : some (RX1, TX1, 7) = some q := hq
    cases hq'
    exact ⟨z_qck_of z_qck1, tyX1_ok, nmX1⟩
  | 2, hq =>
    have hq' : some (RX2, TX2, 5) = some q := hq
    cases hq'
    exact ⟨z_qck_of z_qck2, tyX2_ok, nmX2⟩
  | 3, hq =>
    have hq' : some (RX3, TX3, 4) = some q := hq
    cases hq'
    exact ⟨z_qck_of z_qck3, tyX3_ok, nmX3⟩
  | 4, hq =>
    have hq' : some (RX4, TX4, 4) = some q := hq
    cases hq'
    exact ⟨z_qck_of z_qck4, tyX4_ok, nmX4⟩
  | 5, hq =>
    have hq' : some (RX5, TX5, 1) = some q := hq
    cases hq'
    exact ⟨z_qck_of z_qck5, tyX5_ok, nmX5⟩
  | 6, hq =>
    have hq' : some (RX6, TX6, 4) = some q := hq
    cases hq'
    exact ⟨z_qck_of z_qck6, tyX6_ok, nmX6⟩
  | 7, hq =>
    have hq' : some (RX7, TX7, 1) = some q := hq
    cases hq'
    exact ⟨z_qck_of z_qck7, tyX7_ok, nmX7⟩
  | 8, hq =>
    have hq' : some (RX8, TX8, 2) = some q := hq
    cases hq'
    exact ⟨z_qck_of z_qck8, tyX8_ok, nmX8⟩
  | 9, hq =>
    have hq' : some (RX9, TX9, 11) = some q := hq
    cases hq'
    exact ⟨z_qck_of z_qck9, tyX9_ok, nmX9⟩
  | 10, hq =>
    have hq' : some (RX10, TX10, 37) = some q := hq
    cases hq'
    exact ⟨z_qck_of z_qck10, tyX10_ok, nmX10⟩
  | ci + 11, hq => simp [vwCl] at hq
theorem z_q4 : z_ty4 vwCl z_tyq := by
  intro ci q hq k hk
  match ci, hq with
  | 0, hq =>
    have hq' : some (RX0, TX0, 4) = some q := hq
    cases hq'
    revert k
    decide +kernel
  | 1, hq =>
    have hq' : some (RX1, TX1, 7) = some q := hq
    cases hq'
    revert k
    decide +kernel
  | 2, hq =>
    have hq' : some (RX2, TX2, 5) = some q := hq
    cases hq'
    revert k
    decide +kernel
  | 3, hq =>
    have hq' : some (RX3, TX3, 4) = some q := hq
    cases hq'
    revert k
    decide +kernel
  | 4, hq =>
    have hq' : some (RX4, TX4, 4) = some q := hq
    cases hq'
    revert k
    decide +kernel
  | 5, hq =>
    have hq' : some (RX5, TX5, 1) = some q := hq
    cases hq'
    revert k
    decide +kernel
  | 6, hq =>
    have hq' : some (RX6, TX6, 4) = some q := hq
    cases hq'
    revert k
    decide +kernel
  | 7, hq =>
    have hq' : some (RX7, TX7, 1) = some q := hq
    cases hq'
    revert k
    decide +kernel
  | 8, hq =>
    have hq' : some (RX8, TX8, 2) = some q := hq
    cases hq'
    revert k
    decide +kernel
  | 9, hq =>
    have hq' : some (RX9, TX9, 11) = some q := hq
    cases hq'
    revert k
    decide +kernel
  | 10, hq =>
    have hq' : some (RX10, TX10, 37) = some q := hq
    cases hq'
    revert k
    decide +kernel
  | ci + 11, hq => simp [vwCl] at hq
theorem z_qin : ∀ (ci : Nat) (q : vw_C), vwCl[ci]? = some q → Jvm.Cond.instantiable q.1 q.2.2 ∈ lw_tbl := by
  intro ci q hq
  match ci, hq with
  | 0, hq =>
    have hq' : some (RX0, TX0, 4) = some q := hq
    cases hq'
    exact List.mem_of_getElem? (i := 189) (by decide +kernel)
  | 1, hq =>
    have hq' : some (RX1, TX1, 7) = some q := hq
    cases hq'
    exact List.mem_of_getElem? (i := 85) (by decide +kernel)
  | 2, hq =>
    have hq' : some (RX2, TX2, 5) = some q := hq
    cases hq'
    exact List.mem_of_getElem? (i := 78) (by decide +kernel)
  | 3, hq =>
    have hq' : some (RX3, TX3, 4) = some q := hq
    cases hq'
    exact List.mem_of_getElem? (i := 210) (by decide +kernel)
  | 4, hq =>
    have hq' : some (RX4, TX4, 4) = some q := hq
    cases hq'
    exact List.mem_of_getElem? (i := 272) (by decide +kernel)
  | 5, hq =>
    have hq' : some (RX5, TX5, 1) = some q := hq
    cases hq'
    exact List.mem_of_getElem? (i := 231) (by decide +kernel)
  | 6, hq =>
    have hq' : some (RX6, TX6, 4) = some q := hq
    cases hq'
    exact List.mem_of_getElem? (i := 252) (by decide +kernel)
  | 7, hq =>
    have hq' : some (RX7, TX7, 1) = some q := hq
    cases hq'
    exact List.mem_of_getElem? (i := 241) (by decide +kernel)
  | 8, hq =>
    have hq' : some (RX8, TX8, 2) = some q := hq
    cases hq'
    exact List.mem_of_getElem? (i := 173) (by decide +kernel)
  | 9, hq =>
    have hq' : some (RX9, TX9, 11) = some q := hq
    cases hq'
    exact List.mem_of_getElem? (i := 68) (by decide +kernel)
  | 10, hq =>
    have hq' : some (RX10, TX10, 37) = some q := hq
    cases hq'
    exact List.mem_of_getElem? (i := 731) (by decide +kernel)
  | ci + 11, hq => simp [vwCl] at hq
theorem z_qm : ∀ (j : Nat) (me : z_Me), z_P[j]? = some me → z_mok lw_tbl vwCl z_tyq z_P z_PX me := by
  intro j me h
  have hm : me ∈ z_P := List.mem_of_getElem? h
  revert me
  have key : ∀ me ∈ z_P, z_mok lw_tbl vwCl z_tyq z_P z_PX me := by
    unfold z_P
    refine List.forall_mem_cons.mpr ⟨z_mok_of mk_X0_init (by decide +kernel), ?_⟩
    refine List.forall_mem_cons.mpr ⟨z_mok_of mk_X0_refusal (by decide +kernel), ?_⟩
    refine List.forall_mem_cons.mpr ⟨z_mok_of mk_X0_play (by decide +kernel), ?_⟩
    refine List.forall_mem_cons.mpr ⟨z_mok_of mk_X0_serve (by decide +kernel), ?_⟩
    refine List.forall_mem_cons.mpr ⟨z_mok_of mk_X0_answer (by decide +kernel), ?_⟩
    refine List.forall_mem_cons.mpr ⟨z_mok_of mk_X0_gatheredOf (by decide +kernel), ?_⟩
    refine List.forall_mem_cons.mpr ⟨z_mok_of mk_X0_isSignAct (by decide +kernel), ?_⟩
    refine List.forall_mem_cons.mpr ⟨z_mok_of mk_X0_isSeatAct (by decide +kernel), ?_⟩
    refine List.forall_mem_cons.mpr ⟨z_mok_of mk_X1_init (by decide +kernel), ?_⟩
    refine List.forall_mem_cons.mpr ⟨z_mok_of mk_X1_checkIn (by decide +kernel), ?_⟩
    refine List.forall_mem_cons.mpr ⟨z_mok_of mk_X1_become (by decide +kernel), ?_⟩
    refine List.forall_mem_cons.mpr ⟨z_mok_of mk_X2_init (by decide +kernel), ?_⟩
    refine List.forall_mem_cons.mpr ⟨z_mok_of mk_X2_stands (by decide +kernel), ?_⟩
    refine List.forall_mem_cons.mpr ⟨z_mok_of mk_X2_clear (by decide +kernel), ?_⟩
    refine List.forall_mem_cons.mpr ⟨z_mok_of mk_X2_become (by decide +kernel), ?_⟩
    refine List.forall_mem_cons.mpr ⟨z_mok_of mk_X2_weight (by decide +kernel), ?_⟩
    refine List.forall_mem_cons.mpr ⟨z_mok_of mk_X2_shocks (by decide +kernel), ?_⟩
    refine List.forall_mem_cons.mpr ⟨z_mok_of mk_X2_isSoft (by decide +kernel), ?_⟩
    refine List.forall_mem_cons.mpr ⟨z_mok_of mk_X2_lack (by decide +kernel), ?_⟩
    refine List.forall_mem_cons.mpr ⟨z_mok_of mk_X2_offer (by decide +kernel), ?_⟩
    refine List.forall_mem_cons.mpr ⟨z_mok_of mk_X2_dawn (by decide +kernel), ?_⟩
    refine List.forall_mem_cons.mpr ⟨z_mok_of mk_X2_firstReady (by decide +kernel), ?_⟩
    refine List.forall_mem_cons.mpr ⟨z_mok_of mk_X2_stir (by decide +kernel), ?_⟩
    refine List.forall_mem_cons.mpr ⟨z_mok_of mk_X2_sleep (by decide +kernel), ?_⟩
    refine List.forall_mem_cons.mpr ⟨z_mok_of mk_X2_gatheredByUnknowing (by decide +kernel), ?_⟩
    refine List.forall_mem_cons.mpr ⟨z_mok_of mk_X2_checkOut (by decide +kernel), ?_⟩
    refine List.forall_mem_cons.mpr ⟨z_mok_of mk_X2_knowing (by decide +kernel), ?_⟩
    refine List.forall_mem_cons.mpr ⟨z_mok_of mk_X2_shockedOnes (by decide +kernel), ?_⟩
    refine List.forall_mem_cons.mpr ⟨z_mok_of mk_X3_init (by decide +kernel), ?_⟩
    refine List.forall_mem_cons.mpr ⟨z_mok_of mk_X3_note (by decide +kernel), ?_⟩
    refine List.forall_mem_cons.mpr ⟨z_mok_of mk_X3_allSo (by decide +kernel), ?_⟩
    refine List.forall_mem_cons.mpr ⟨z_mok_of mk_X4_init (by decide +kernel), ?_⟩
    refine List.forall_mem_cons.mpr ⟨z_mok_of mk_X4_renew (by decide +kernel), ?_⟩
    refine List.forall_mem_cons.mpr ⟨z_mok_of mk_X4_write (by decide +kernel), ?_⟩
    refine List.forall_mem_cons.mpr ⟨z_mok_of mk_X4_faultAs (by decide +kernel), ?_⟩
    refine List.forall_mem_cons.mpr ⟨z_mok_of mk_X4_faultAt (by decide +kernel), ?_⟩
    refine List.forall_mem_cons.mpr ⟨z_mok_of mk_X4_faultOfCells (by decide +kernel), ?_⟩
    refine List.forall_mem_cons.mpr ⟨z_mok_of mk_X5_init (by decide +kernel), ?_⟩
    refine List.forall_mem_cons.mpr ⟨z_mok_of mk_X5_fewest (by decide +kernel), ?_⟩
    refine List.forall_mem_cons.mpr ⟨z_mok_of mk_X5_signOfRow (by decide +kernel), ?_⟩
    refine List.forall_mem_cons.mpr ⟨z_mok_of mk_X5_heaviest (by decide +kernel), ?_⟩
    refine List.forall_mem_cons.mpr ⟨z_mok_of mk_X5_firstOfAtLeast (by decide +kernel), ?_⟩
    refine List.forall_mem_cons.mpr ⟨z_mok_of mk_X5_thatWeigh (by decide +kernel), ?_⟩
    refine List.forall_mem_cons.mpr ⟨z_mok_of mk_X5_waysByOneMore (by decide +kernel), ?_⟩
    refine List.forall_mem_cons.mpr ⟨z_mok_of mk_X6_init (by decide +kernel), ?_⟩
    refine List.forall_mem_cons.mpr ⟨z_mok_of mk_X6_choose (by decide +kernel), ?_⟩
    refine List.forall_mem_cons.mpr ⟨z_mok_of mk_X6_signFor (by decide +kernel), ?_⟩
    refine List.forall_mem_cons.mpr ⟨z_mok_of mk_X6_tryFrom (by decide +kernel), ?_⟩
    refine List.forall_mem_cons.mpr ⟨z_mok_of mk_X6_keepIfBetter (by decide +kernel), ?_⟩
    refine List.forall_mem_cons.mpr ⟨z_mok_of mk_X7_init (by decide +kernel), ?_⟩
    refine List.forall_mem_cons.mpr ⟨z_mok_of mk_X7_lay (by decide +kernel), ?_⟩
    refine List.forall_mem_cons.mpr ⟨z_mok_of mk_X7_sitsFrom (by decide +kernel), ?_⟩
    refine List.forall_mem_cons.mpr ⟨z_mok_of mk_X7_isFree (by decide +kernel), ?_⟩
    refine List.forall_mem_cons.mpr ⟨z_mok_of mk_X7_clash (by decide +kernel), ?_⟩
    refine List.forall_mem_cons.mpr ⟨z_mok_of mk_X8_init (by decide +kernel), ?_⟩
    refine List.forall_mem_cons.mpr ⟨z_mok_of mk_X8_firstFault (by decide +kernel), ?_⟩
    refine List.forall_mem_cons.mpr ⟨z_mok_of mk_X8_goesOn (by decide +kernel), ?_⟩
    refine List.forall_mem_cons.mpr ⟨z_mok_of mk_X8_nextSign (by decide +kernel), ?_⟩
    refine List.forall_mem_cons.mpr ⟨z_mok_of mk_X8_nextGuest (by decide +kernel), ?_⟩
    refine List.forall_mem_cons.mpr ⟨z_mok_of mk_X8_letter (by decide +kernel), ?_⟩
    refine List.forall_mem_cons.mpr ⟨z_mok_of mk_X8_digitOfGuest (by decide +kernel), ?_⟩
    refine List.forall_mem_cons.mpr ⟨z_mok_of mk_X9_init (by decide +kernel), ?_⟩
    refine List.forall_mem_cons.mpr ⟨z_mok_of mk_X9_hotel (by decide +kernel), ?_⟩
    refine List.forall_mem_cons.mpr ⟨z_mok_of mk_X9_ofGuest (by decide +kernel), ?_⟩
    refine List.forall_mem_cons.mpr ⟨z_mok_of mk_X9_hint (by decide +kernel), ?_⟩
    refine List.forall_mem_cons.mpr ⟨z_mok_of mk_X9_word (by decide +kernel), ?_⟩
    refine List.forall_mem_cons.mpr ⟨z_mok_of mk_X9_weighs (by decide +kernel), ?_⟩
    refine List.forall_mem_cons.mpr ⟨z_mok_of mk_X9_seat (by decide +kernel), ?_⟩
    refine List.forall_mem_cons.mpr ⟨z_mok_of mk_X9_give (by decide +kernel), ?_⟩
    refine List.forall_mem_cons.mpr ⟨z_mok_of mk_X9_nights (by decide +kernel), ?_⟩
    refine List.forall_mem_cons.mpr ⟨z_mok_of mk_X9_arrive (by decide +kernel), ?_⟩
    refine List.forall_mem_cons.mpr ⟨z_mok_of mk_X9_leave (by decide +kernel), ?_⟩
    refine List.forall_mem_cons.mpr ⟨z_mok_of mk_X9_dinner (by decide +kernel), ?_⟩
    refine List.forall_mem_cons.mpr ⟨z_mok_of mk_X9_softly (by decide +kernel), ?_⟩
    refine List.forall_mem_cons.mpr ⟨z_mok_of mk_X9_just (by decide +kernel), ?_⟩
    refine List.forall_mem_cons.mpr ⟨z_mok_of mk_X9_apart (by decide +kernel), ?_⟩
    refine List.forall_mem_cons.mpr ⟨z_mok_of mk_X9_best (by decide +kernel), ?_⟩
    refine List.forall_mem_cons.mpr ⟨z_mok_of mk_X9_reading (by decide +kernel), ?_⟩
    refine List.forall_mem_cons.mpr ⟨z_mok_of mk_X9_back (by decide +kernel), ?_⟩
    refine List.forall_mem_cons.mpr ⟨z_mok_of mk_X9_bearings (by decide +kernel), ?_⟩
    refine List.forall_mem_cons.mpr ⟨z_mok_of mk_X9_kinds (by decide +kernel), ?_⟩
    refine List.forall_mem_cons.mpr ⟨z_mok_of mk_X9_hintings (by decide +kernel), ?_⟩
    refine List.forall_mem_cons.mpr ⟨z_mok_of mk_X9_odds (by decide +kernel), ?_⟩
    refine List.forall_mem_cons.mpr ⟨z_mok_of mk_X9_sheet (by decide +kernel), ?_⟩
    refine List.forall_mem_cons.mpr ⟨z_mok_of mk_X9_lose (by decide +kernel), ?_⟩
    refine List.forall_mem_cons.mpr ⟨z_mok_of mk_X9_put (by decide +kernel), ?_⟩
    refine List.forall_mem_cons.mpr ⟨z_mok_of mk_X9_cell (by decide +kernel), ?_⟩
    refine List.forall_mem_cons.mpr ⟨z_mok_of mk_X9_copy (by decide +kernel), ?_⟩
    refine List.forall_mem_cons.mpr ⟨z_mok_of mk_X9_tell (by decide +kernel), ?_⟩
    refine List.forall_mem_cons.mpr ⟨z_mok_of mk_X9_bow (by decide +kernel), ?_⟩
    refine List.forall_mem_cons.mpr ⟨z_mok_of mk_X9_as (by decide +kernel), ?_⟩
    refine List.forall_mem_cons.mpr ⟨z_mok_of mk_X9_trace (by decide +kernel), ?_⟩
    refine List.forall_mem_cons.mpr ⟨z_mok_of mk_X9_fault (by decide +kernel), ?_⟩
    refine List.forall_mem_cons.mpr ⟨z_mok_of mk_X9_many (by decide +kernel), ?_⟩
    refine List.forall_mem_cons.mpr ⟨z_mok_of mk_X9_within (by decide +kernel), ?_⟩
    refine List.forall_mem_cons.mpr ⟨z_mok_of mk_X9_isSheet (by decide +kernel), ?_⟩
    refine List.forall_mem_cons.mpr ⟨z_mok_of mk_X9_isSign (by decide +kernel), ?_⟩
    refine List.forall_mem_cons.mpr ⟨z_mok_of mk_X9_isGuest (by decide +kernel), ?_⟩
    refine List.forall_mem_cons.mpr ⟨z_mok_of mk_X9_isDinnerQuestion (by decide +kernel), ?_⟩
    refine List.forall_mem_cons.mpr ⟨z_mok_of mk_X9_failed (by decide +kernel), ?_⟩
    refine List.forall_mem_cons.mpr ⟨z_mok_of mk_X9_commonDivisor (by decide +kernel), ?_⟩
    refine List.forall_mem_cons.mpr ⟨z_mok_of mk_X9_begin (by decide +kernel), ?_⟩
    refine List.forall_mem_cons.mpr ⟨z_mok_of mk_X9_missTells (by decide +kernel), ?_⟩
    refine List.forall_mem_cons.mpr ⟨z_mok_of mk_X9_colonelTells (by decide +kernel), ?_⟩
    refine List.forall_mem_cons.mpr ⟨z_mok_of mk_X9_brokerTells (by decide +kernel), ?_⟩
    refine List.forall_mem_cons.mpr ⟨z_mok_of mk_X10_init (by decide +kernel), ?_⟩
    refine List.forall_mem_cons.mpr ⟨z_mok_of mk_X10_fails (by decide +kernel), ?_⟩
    refine List.forall_mem_cons.mpr ⟨z_mok_of mk_X10_lost (by decide +kernel), ?_⟩
    refine List.forall_mem_cons.mpr ⟨z_mok_of mk_X10_within (by decide +kernel), ?_⟩
    refine List.forall_mem_cons.mpr ⟨z_mok_of mk_X10_isSheet (by decide +kernel), ?_⟩
    refine List.forall_mem_cons.mpr ⟨z_mok_of mk_X10_isSort (by decide +kernel), ?_⟩
    refine List.forall_mem_cons.mpr ⟨z_mok_of mk_X10_against (by decide +kernel), ?_⟩
    refine List.forall_mem_cons.mpr ⟨z_mok_of mk_X10_isSignOf (by decide +kernel), ?_⟩
    refine List.forall_mem_cons.mpr ⟨z_mok_of mk_X10_isGuest (by decide +kernel), ?_⟩
    refine List.forall_mem_cons.mpr ⟨z_mok_of mk_X10_isTable (by decide +kernel), ?_⟩
    refine List.forall_mem_cons.mpr ⟨z_mok_of mk_X10_isOf (by decide +kernel), ?_⟩
    refine List.forall_mem_cons.mpr ⟨z_mok_of mk_X10_size (by decide +kernel), ?_⟩
    refine List.forall_mem_cons.mpr ⟨z_mok_of mk_X10_digit (by decide +kernel), ?_⟩
    refine List.forall_mem_cons.mpr ⟨z_mok_of mk_X10_isSign (by decide +kernel), ?_⟩
    refine List.forall_mem_cons.mpr ⟨z_mok_of mk_X10_hotel (by decide +kernel), ?_⟩
    refine List.forall_mem_cons.mpr ⟨z_mok_of mk_X10_takeHotel (by decide +kernel), ?_⟩
    refine List.forall_mem_cons.mpr ⟨z_mok_of mk_X10_readHotel (by decide +kernel), ?_⟩
    refine List.forall_mem_cons.mpr ⟨z_mok_of mk_X10_readTheSigns (by decide +kernel), ?_⟩
    refine List.forall_mem_cons.mpr ⟨z_mok_of mk_X10_readGuest (by decide +kernel), ?_⟩
    refine List.forall_mem_cons.mpr ⟨z_mok_of mk_X10_weighsOf (by decide +kernel), ?_⟩
    refine List.forall_mem_cons.mpr ⟨z_mok_of mk_X10_ofGuest (by decide +kernel), ?_⟩
    refine List.forall_mem_cons.mpr ⟨z_mok_of mk_X10_hint (by decide +kernel), ?_⟩
    refine List.forall_mem_cons.mpr ⟨z_mok_of mk_X10_word (by decide +kernel), ?_⟩
    refine List.forall_mem_cons.mpr ⟨z_mok_of mk_X10_weighs (by decide +kernel), ?_⟩
    refine List.forall_mem_cons.mpr ⟨z_mok_of mk_X10_seat (by decide +kernel), ?_⟩
    refine List.forall_mem_cons.mpr ⟨z_mok_of mk_X10_nextToKnow (by decide +kernel), ?_⟩
    refine List.forall_mem_cons.mpr ⟨z_mok_of mk_X10_dawns (by decide +kernel), ?_⟩
    refine List.forall_mem_cons.mpr ⟨z_mok_of mk_X10_isGiven (by decide +kernel), ?_⟩
    refine List.forall_mem_cons.mpr ⟨z_mok_of mk_X10_give (by decide +kernel), ?_⟩
    refine List.forall_mem_cons.mpr ⟨z_mok_of mk_X10_oneNight (by decide +kernel), ?_⟩
    refine List.forall_mem_cons.mpr ⟨z_mok_of mk_X10_nights (by decide +kernel), ?_⟩
    refine List.forall_mem_cons.mpr ⟨z_mok_of mk_X10_arrive (by decide +kernel), ?_⟩
    refine List.forall_mem_cons.mpr ⟨z_mok_of mk_X10_without (by decide +kernel), ?_⟩
    refine List.forall_mem_cons.mpr ⟨z_mok_of mk_X10_leave (by decide +kernel), ?_⟩
    refine List.forall_mem_cons.mpr ⟨z_mok_of mk_X10_keep (by decide +kernel), ?_⟩
    refine List.forall_mem_cons.mpr ⟨z_mok_of mk_X10_putBack (by decide +kernel), ?_⟩
    refine List.forall_mem_cons.mpr ⟨z_mok_of mk_X10_does (by decide +kernel), ?_⟩
    refine List.forall_mem_cons.mpr ⟨z_mok_of mk_X10_goDinner (by decide +kernel), ?_⟩
    refine List.forall_mem_cons.mpr ⟨z_mok_of mk_X10_refusesPair (by decide +kernel), ?_⟩
    refine List.forall_mem_cons.mpr ⟨z_mok_of mk_X10_dinner (by decide +kernel), ?_⟩
    refine List.forall_mem_cons.mpr ⟨z_mok_of mk_X10_tellDinner (by decide +kernel), ?_⟩
    refine List.forall_mem_cons.mpr ⟨z_mok_of mk_X10_isSoft (by decide +kernel), ?_⟩
    refine List.forall_mem_cons.mpr ⟨z_mok_of mk_X10_heaviest (by decide +kernel), ?_⟩
    refine List.forall_mem_cons.mpr ⟨z_mok_of mk_X10_softly (by decide +kernel), ?_⟩
    refine List.forall_mem_cons.mpr ⟨z_mok_of mk_X10_just (by decide +kernel), ?_⟩
    refine List.forall_mem_cons.mpr ⟨z_mok_of mk_X10_canSit (by decide +kernel), ?_⟩
    refine List.forall_mem_cons.mpr ⟨z_mok_of mk_X10_findTables (by decide +kernel), ?_⟩
    refine List.forall_mem_cons.mpr ⟨z_mok_of mk_X10_apart (by decide +kernel), ?_⟩
    refine List.forall_mem_cons.mpr ⟨z_mok_of mk_X10_canGive (by decide +kernel), ?_⟩
    refine List.forall_mem_cons.mpr ⟨z_mok_of mk_X10_tryRow (by decide +kernel), ?_⟩
    refine List.forall_mem_cons.mpr ⟨z_mok_of mk_X10_best (by decide +kernel), ?_⟩
    refine List.forall_mem_cons.mpr ⟨z_mok_of mk_X10_reading (by decide +kernel), ?_⟩
    refine List.forall_mem_cons.mpr ⟨z_mok_of mk_X10_back (by decide +kernel), ?_⟩
    refine List.forall_mem_cons.mpr ⟨z_mok_of mk_X10_areSo (by decide +kernel), ?_⟩
    refine List.forall_mem_cons.mpr ⟨z_mok_of mk_X10_bearings (by decide +kernel), ?_⟩
    refine List.forall_mem_cons.mpr ⟨z_mok_of mk_X10_kinds (by decide +kernel), ?_⟩
    refine List.forall_mem_cons.mpr ⟨z_mok_of mk_X10_hintings (by decide +kernel), ?_⟩
    refine List.forall_mem_cons.mpr ⟨z_mok_of mk_X10_inLeastTerms (by decide +kernel), ?_⟩
    refine List.forall_mem_cons.mpr ⟨z_mok_of mk_X10_odds (by decide +kernel), ?_⟩
    refine List.forall_mem_cons.mpr ⟨z_mok_of mk_X10_sheet (by decide +kernel), ?_⟩
    refine List.forall_mem_cons.mpr ⟨z_mok_of mk_X10_lose (by decide +kernel), ?_⟩
    refine List.forall_mem_cons.mpr ⟨z_mok_of mk_X10_put (by decide +kernel), ?_⟩
    refine List.forall_mem_cons.mpr ⟨z_mok_of mk_X10_cell (by decide +kernel), ?_⟩
    refine List.forall_mem_cons.mpr ⟨z_mok_of mk_X10_copy (by decide +kernel), ?_⟩
    refine List.forall_mem_cons.mpr ⟨z_mok_of mk_X10_begins (by decide +kernel), ?_⟩
    refine List.forall_mem_cons.mpr ⟨z_mok_of mk_X10_tell (by decide +kernel), ?_⟩
    refine List.forall_mem_cons.mpr ⟨z_mok_of mk_X10_bow (by decide +kernel), ?_⟩
    refine List.forall_mem_cons.mpr ⟨z_mok_of mk_X10_as (by decide +kernel), ?_⟩
    refine List.forall_mem_cons.mpr ⟨z_mok_of mk_X10_trace (by decide +kernel), ?_⟩
    refine List.forall_mem_cons.mpr ⟨z_mok_of mk_X10_fault (by decide +kernel), ?_⟩
    refine List.forall_mem_cons.mpr ⟨z_mok_of mk_X10_many (by decide +kernel), ?_⟩
    refine List.forall_mem_cons.mpr ⟨z_mok_of mk_X1_init (by decide +kernel), ?_⟩
    refine List.forall_mem_cons.mpr ⟨z_mok_of mk_X1_init (by decide +kernel), ?_⟩
    refine List.forall_mem_cons.mpr ⟨z_mok_of mk_Integer_bitCount (by decide +kernel), ?_⟩
    exact fun _ h => absurd h List.not_mem_nil
  exact fun me _ hm => key me hm
theorem z_qma : ∀ (j : Nat) (me : z_Me), z_P[j]? = some me → me.1.name = "<init>" → z_moka lw_tbl vwCl z_tyq z_P z_PX me := by
  intro j me h
  have hm : me ∈ z_P := List.mem_of_getElem? h
  revert me
  have key : ∀ me ∈ z_P, me.1.name = "<init>" → z_moka lw_tbl vwCl z_tyq z_P z_PX me := by
    unfold z_P
    refine List.forall_mem_cons.mpr ⟨fun _ => z_moka_of mk_X0_init mka_X0_init (by decide +kernel), ?_⟩
    refine List.forall_mem_cons.mpr ⟨fun hn => absurd hn (by decide +kernel), ?_⟩
    refine List.forall_mem_cons.mpr ⟨fun hn => absurd hn (by decide +kernel), ?_⟩
    refine List.forall_mem_cons.mpr ⟨fun hn => absurd hn (by decide +kernel), ?_⟩
    refine List.forall_mem_cons.mpr ⟨fun hn => absurd hn (by decide +kernel), ?_⟩
    refine List.forall_mem_cons.mpr ⟨fun hn => absurd hn (by decide +kernel), ?_⟩
    refine List.forall_mem_cons.mpr ⟨fun hn => absurd hn (by decide +kernel), ?_⟩
    refine List.forall_mem_cons.mpr ⟨fun hn => absurd hn (by decide +kernel), ?_⟩
    refine List.forall_mem_cons.mpr ⟨fun _ => z_moka_of mk_X1_init mka_X1_init (by decide +kernel), ?_⟩
    refine List.forall_mem_cons.mpr ⟨fun hn => absurd hn (by decide +kernel), ?_⟩
    refine List.forall_mem_cons.mpr ⟨fun hn => absurd hn (by decide +kernel), ?_⟩
    refine List.forall_mem_cons.mpr ⟨fun _ => z_moka_of mk_X2_init mka_X2_init (by decide +kernel), ?_⟩
    refine List.forall_mem_cons.mpr ⟨fun hn => absurd hn (by decide +kernel), ?_⟩
    refine List.forall_mem_cons.mpr ⟨fun hn => absurd hn (by decide +kernel), ?_⟩
    refine List.forall_mem_cons.mpr ⟨fun hn => absurd hn (by decide +kernel), ?_⟩
    refine List.forall_mem_cons.mpr ⟨fun hn => absurd hn (by decide +kernel), ?_⟩
    refine List.forall_mem_cons.mpr ⟨fun hn => absurd hn (by decide +kernel), ?_⟩
    refine List.forall_mem_cons.mpr ⟨fun hn => absurd hn (by decide +kernel), ?_⟩
    refine List.forall_mem_cons.mpr ⟨fun hn => absurd hn (by decide +kernel), ?_⟩
    refine List.forall_mem_cons.mpr ⟨fun hn => absurd hn (by decide +kernel), ?_⟩
    refine List.forall_mem_cons.mpr ⟨fun hn => absurd hn (by decide +kernel), ?_⟩
    refine List.forall_mem_cons.mpr ⟨fun hn => absurd hn (by decide +kernel), ?_⟩
    refine List.forall_mem_cons.mpr ⟨fun hn => absurd hn (by decide +kernel), ?_⟩
    refine List.forall_mem_cons.mpr ⟨fun hn => absurd hn (by decide +kernel), ?_⟩
    refine List.forall_mem_cons.mpr ⟨fun hn => absurd hn (by decide +kernel), ?_⟩
    refine List.forall_mem_cons.mpr ⟨fun hn => absurd hn (by decide +kernel), ?_⟩
    refine List.forall_mem_cons.mpr ⟨fun hn => absurd hn (by decide +kernel), ?_⟩
    refine List.forall_mem_cons.mpr ⟨fun hn => absurd hn (by decide +kernel), ?_⟩
    refine List.forall_mem_cons.mpr ⟨fun _ => z_moka_of mk_X3_init mka_X3_init (by decide +kernel), ?_⟩
    refine List.forall_mem_cons.mpr ⟨fun hn => absurd hn (by decide +kernel), ?_⟩
    refine List.forall_mem_cons.mpr ⟨fun hn => absurd hn (by decide +kernel), ?_⟩
    refine List.forall_mem_cons.mpr ⟨fun _ => z_moka_of mk_X4_init mka_X4_init (by decide +kernel), ?_⟩
    refine List.forall_mem_cons.mpr ⟨fun hn => absurd hn (by decide +kernel), ?_⟩
    refine List.forall_mem_cons.mpr ⟨fun hn => absurd hn (by decide +kernel), ?_⟩
    refine List.forall_mem_cons.mpr ⟨fun hn => absurd hn (by decide +kernel), ?_⟩
    refine List.forall_mem_cons.mpr ⟨fun hn => absurd hn (by decide +kernel), ?_⟩
    refine List.forall_mem_cons.mpr ⟨fun hn => absurd hn (by decide +kernel), ?_⟩
    refine List.forall_mem_cons.mpr ⟨fun _ => z_moka_of mk_X5_init mka_X5_init (by decide +kernel), ?_⟩
    refine List.forall_mem_cons.mpr ⟨fun hn => absurd hn (by decide +kernel), ?_⟩
    refine List.forall_mem_cons.mpr ⟨fun hn => absurd hn (by decide +kernel), ?_⟩
    refine List.forall_mem_cons.mpr ⟨fun hn => absurd hn (by decide +kernel), ?_⟩
    refine List.forall_mem_cons.mpr ⟨fun hn => absurd hn (by decide +kernel), ?_⟩
    refine List.forall_mem_cons.mpr ⟨fun hn => absurd hn (by decide +kernel), ?_⟩
    refine List.forall_mem_cons.mpr ⟨fun hn => absurd hn (by decide +kernel), ?_⟩
    refine List.forall_mem_cons.mpr ⟨fun _ => z_moka_of mk_X6_init mka_X6_init (by decide +kernel), ?_⟩
    refine List.forall_mem_cons.mpr ⟨fun hn => absurd hn (by decide +kernel), ?_⟩
    refine List.forall_mem_cons.mpr ⟨fun hn => absurd hn (by decide +kernel), ?_⟩
    refine List.forall_mem_cons.mpr ⟨fun hn => absurd hn (by decide +kernel), ?_⟩
    refine List.forall_mem_cons.mpr ⟨fun hn => absurd hn (by decide +kernel), ?_⟩
    refine List.forall_mem_cons.mpr ⟨fun _ => z_moka_of mk_X7_init mka_X7_init (by decide +kernel), ?_⟩
    refine List.forall_mem_cons.mpr ⟨fun hn => absurd hn (by decide +kernel), ?_⟩
    refine List.forall_mem_cons.mpr ⟨fun hn => absurd hn (by decide +kernel), ?_⟩
    refine List.forall_mem_cons.mpr ⟨fun hn => absurd hn (by decide +kernel), ?_⟩
    refine List.forall_mem_cons.mpr ⟨fun hn => absurd hn (by decide +kernel), ?_⟩
    refine List.forall_mem_cons.mpr ⟨fun _ => z_moka_of mk_X8_init mka_X8_init (by decide +kernel), ?_⟩
    refine List.forall_mem_cons.mpr ⟨fun hn => absurd hn (by decide +kernel), ?_⟩
    refine List.forall_mem_cons.mpr ⟨fun hn => absurd hn (by decide +kernel), ?_⟩
    refine List.forall_mem_cons.mpr ⟨fun hn => absurd hn (by decide +kernel), ?_⟩
    refine List.forall_mem_cons.mpr ⟨fun hn => absurd hn (by decide +kernel), ?_⟩
    refine List.forall_mem_cons.mpr ⟨fun hn => absurd hn (by decide +kernel), ?_⟩
    refine List.forall_mem_cons.mpr ⟨fun hn => absurd hn (by decide +kernel), ?_⟩
    refine List.forall_mem_cons.mpr ⟨fun _ => z_moka_of mk_X9_init mka_X9_init (by decide +kernel), ?_⟩
    refine List.forall_mem_cons.mpr ⟨fun hn => absurd hn (by decide +kernel), ?_⟩
    refine List.forall_mem_cons.mpr ⟨fun hn => absurd hn (by decide +kernel), ?_⟩
    refine List.forall_mem_cons.mpr ⟨fun hn => absurd hn (by decide +kernel), ?_⟩
    refine List.forall_mem_cons.mpr ⟨fun hn => absurd hn (by decide +kernel), ?_⟩
    refine List.forall_mem_cons.mpr ⟨fun hn => absurd hn (by decide +kernel), ?_⟩
    refine List.forall_mem_cons.mpr ⟨fun hn => absurd hn (by decide +kernel), ?_⟩
    refine List.forall_mem_cons.mpr ⟨fun hn => absurd hn (by decide +kernel), ?_⟩
    refine List.forall_mem_cons.mpr ⟨fun hn => absurd hn (by decide +kernel), ?_⟩
    refine List.forall_mem_cons.mpr ⟨fun hn => absurd hn (by decide +kernel), ?_⟩
    refine List.forall_mem_cons.mpr ⟨fun hn => absurd hn (by decide +kernel), ?_⟩
    refine List.forall_mem_cons.mpr ⟨fun hn => absurd hn (by decide +kernel), ?_⟩
    refine List.forall_mem_cons.mpr ⟨fun hn => absurd hn (by decide +kernel), ?_⟩
    refine List.forall_mem_cons.mpr ⟨fun hn => absurd hn (by decide +kernel), ?_⟩
    refine List.forall_mem_cons.mpr ⟨fun hn => absurd hn (by decide +kernel), ?_⟩
    refine List.forall_mem_cons.mpr ⟨fun hn => absurd hn (by decide +kernel), ?_⟩
    refine List.forall_mem_cons.mpr ⟨fun hn => absurd hn (by decide +kernel), ?_⟩
    refine List.forall_mem_cons.mpr ⟨fun hn => absurd hn (by decide +kernel), ?_⟩
    refine List.forall_mem_cons.mpr ⟨fun hn => absurd hn (by decide +kernel), ?_⟩
    refine List.forall_mem_cons.mpr ⟨fun hn => absurd hn (by decide +kernel), ?_⟩
    refine List.forall_mem_cons.mpr ⟨fun hn => absurd hn (by decide +kernel), ?_⟩
    refine List.forall_mem_cons.mpr ⟨fun hn => absurd hn (by decide +kernel), ?_⟩
    refine List.forall_mem_cons.mpr ⟨fun hn => absurd hn (by decide +kernel), ?_⟩
    refine List.forall_mem_cons.mpr ⟨fun hn => absurd hn (by decide +kernel), ?_⟩
    refine List.forall_mem_cons.mpr ⟨fun hn => absurd hn (by decide +kernel), ?_⟩
    refine List.forall_mem_cons.mpr ⟨fun hn => absurd hn (by decide +kernel), ?_⟩
    refine List.forall_mem_cons.mpr ⟨fun hn => absurd hn (by decide +kernel), ?_⟩
    refine List.forall_mem_cons.mpr ⟨fun hn => absurd hn (by decide +kernel), ?_⟩
    refine List.forall_mem_cons.mpr ⟨fun hn => absurd hn (by decide +kernel), ?_⟩
    refine List.forall_mem_cons.mpr ⟨fun hn => absurd hn (by decide +kernel), ?_⟩
    refine List.forall_mem_cons.mpr ⟨fun hn => absurd hn (by decide +kernel), ?_⟩
    refine List.forall_mem_cons.mpr ⟨fun hn => absurd hn (by decide +kernel), ?_⟩
    refine List.forall_mem_cons.mpr ⟨fun hn => absurd hn (by decide +kernel), ?_⟩
    refine List.forall_mem_cons.mpr ⟨fun hn => absurd hn (by decide +kernel), ?_⟩
    refine List.forall_mem_cons.mpr ⟨fun hn => absurd hn (by decide +kernel), ?_⟩
    refine List.forall_mem_cons.mpr ⟨fun hn => absurd hn (by decide +kernel), ?_⟩
    refine List.forall_mem_cons.mpr ⟨fun hn => absurd hn (by decide +kernel), ?_⟩
    refine List.forall_mem_cons.mpr ⟨fun hn => absurd hn (by decide +kernel), ?_⟩
    refine List.forall_mem_cons.mpr ⟨fun hn => absurd hn (by decide +kernel), ?_⟩
    refine List.forall_mem_cons.mpr ⟨fun hn => absurd hn (by decide +kernel), ?_⟩
    refine List.forall_mem_cons.mpr ⟨fun hn => absurd hn (by decide +kernel), ?_⟩
    refine List.forall_mem_cons.mpr ⟨fun hn => absurd hn (by decide +kernel), ?_⟩
    refine List.forall_mem_cons.mpr ⟨fun hn => absurd hn (by decide +kernel), ?_⟩
    refine List.forall_mem_cons.mpr ⟨fun hn => absurd hn (by decide +kernel), ?_⟩
    refine List.forall_mem_cons.mpr ⟨fun _ => z_moka_of mk_X10_init mka_X10_init (by decide +kernel), ?_⟩
    refine List.forall_mem_cons.mpr ⟨fun hn => absurd hn (by decide +kernel), ?_⟩
    refine List.forall_mem_cons.mpr ⟨fun hn => absurd hn (by decide +kernel), ?_⟩
    refine List.forall_mem_cons.mpr ⟨fun hn => absurd hn (by decide +kernel), ?_⟩
    refine List.forall_mem_cons.mpr ⟨fun hn => absurd hn (by decide +kernel), ?_⟩
    refine List.forall_mem_cons.mpr ⟨fun hn => absurd hn (by decide +kernel), ?_⟩
    refine List.forall_mem_cons.mpr ⟨fun hn => absurd hn (by decide +kernel), ?_⟩
    refine List.forall_mem_cons.mpr ⟨fun hn => absurd hn (by decide +kernel), ?_⟩
    refine List.forall_mem_cons.mpr ⟨fun hn => absurd hn (by decide +kernel), ?_⟩
    refine List.forall_mem_cons.mpr ⟨fun hn => absurd hn (by decide +kernel), ?_⟩
    refine List.forall_mem_cons.mpr ⟨fun hn => absurd hn (by decide +kernel), ?_⟩
    refine List.forall_mem_cons.mpr ⟨fun hn => absurd hn (by decide +kernel), ?_⟩
    refine List.forall_mem_cons.mpr ⟨fun hn => absurd hn (by decide +kernel), ?_⟩
    refine List.forall_mem_cons.mpr ⟨fun hn => absurd hn (by decide +kernel), ?_⟩
    refine List.forall_mem_cons.mpr ⟨fun hn => absurd hn (by decide +kernel), ?_⟩
    refine List.forall_mem_cons.mpr ⟨fun hn => absurd hn (by decide +kernel), ?_⟩
    refine List.forall_mem_cons.mpr ⟨fun hn => absurd hn (by decide +kernel), ?_⟩
    refine List.forall_mem_cons.mpr ⟨fun hn => absurd hn (by decide +kernel), ?_⟩
    refine List.forall_mem_cons.mpr ⟨fun hn => absurd hn (by decide +kernel), ?_⟩
    refine List.forall_mem_cons.mpr ⟨fun hn => absurd hn (by decide +kernel), ?_⟩
    refine List.forall_mem_cons.mpr ⟨fun hn => absurd hn (by decide +kernel), ?_⟩
    refine List.forall_mem_cons.mpr ⟨fun hn => absurd hn (by decide +kernel), ?_⟩
    refine List.forall_mem_cons.mpr ⟨fun hn => absurd hn (by decide +kernel), ?_⟩
    refine List.forall_mem_cons.mpr ⟨fun hn => absurd hn (by decide +kernel), ?_⟩
    refine List.forall_mem_cons.mpr ⟨fun hn => absurd hn (by decide +kernel), ?_⟩
    refine List.forall_mem_cons.mpr ⟨fun hn => absurd hn (by decide +kernel), ?_⟩
    refine List.forall_mem_cons.mpr ⟨fun hn => absurd hn (by decide +kernel), ?_⟩
    refine List.forall_mem_cons.mpr ⟨fun hn => absurd hn (by decide +kernel), ?_⟩
    refine List.forall_mem_cons.mpr ⟨fun hn => absurd hn (by decide +kernel), ?_⟩
    refine List.forall_mem_cons.mpr ⟨fun hn => absurd hn (by decide +kernel), ?_⟩
    refine List.forall_mem_cons.mpr ⟨fun hn => absurd hn (by decide +kernel), ?_⟩
    refine List.forall_mem_cons.mpr ⟨fun hn => absurd hn (by decide +kernel), ?_⟩
    refine List.forall_mem_cons.mpr ⟨fun hn => absurd hn (by decide +kernel), ?_⟩
    refine List.forall_mem_cons.mpr ⟨fun hn => absurd hn (by decide +kernel), ?_⟩
    refine List.forall_mem_cons.mpr ⟨fun hn => absurd hn (by decide +kernel), ?_⟩
    refine List.forall_mem_cons.mpr ⟨fun hn => absurd hn (by decide +kernel), ?_⟩
    refine List.forall_mem_cons.mpr ⟨fun hn => absurd hn (by decide +kernel), ?_⟩
    refine List.forall_mem_cons.mpr ⟨fun hn => absurd hn (by decide +kernel), ?_⟩
    refine List.forall_mem_cons.mpr ⟨fun hn => absurd hn (by decide +kernel), ?_⟩
    refine List.forall_mem_cons.mpr ⟨fun hn => absurd hn (by decide +kernel), ?_⟩
    refine List.forall_mem_cons.mpr ⟨fun hn => absurd hn (by decide +kernel), ?_⟩
    refine List.forall_mem_cons.mpr ⟨fun hn => absurd hn (by decide +kernel), ?_⟩
    refine List.forall_mem_cons.mpr ⟨fun hn => absurd hn (by decide +kernel), ?_⟩
    refine List.forall_mem_cons.mpr ⟨fun hn => absurd hn (by decide +kernel), ?_⟩
    refine List.forall_mem_cons.mpr ⟨fun hn => absurd hn (by decide +kernel), ?_⟩
    refine List.forall_mem_cons.mpr ⟨fun hn => absurd hn (by decide +kernel), ?_⟩
    refine List.forall_mem_cons.mpr ⟨fun hn => absurd hn (by decide +kernel), ?_⟩
    refine List.forall_mem_cons.mpr ⟨fun hn => absurd hn (by decide +kernel), ?_⟩
    refine List.forall_mem_cons.mpr ⟨fun hn => absurd hn (by decide +kernel), ?_⟩
    refine List.forall_mem_cons.mpr ⟨fun hn => absurd hn (by decide +kernel), ?_⟩
    refine List.forall_mem_cons.mpr ⟨fun hn => absurd hn (by decide +kernel), ?_⟩
    refine List.forall_mem_cons.mpr ⟨fun hn => absurd hn (by decide +kernel), ?_⟩
    refine List.forall_mem_cons.mpr ⟨fun hn => absurd hn (by decide +kernel), ?_⟩
    refine List.forall_mem_cons.mpr ⟨fun hn => absurd hn (by decide +kernel), ?_⟩
    refine List.forall_mem_cons.mpr ⟨fun hn => absurd hn (by decide +kernel), ?_⟩
    refine List.forall_mem_cons.mpr ⟨fun hn => absurd hn (by decide +kernel), ?_⟩
    refine List.forall_mem_cons.mpr ⟨fun hn => absurd hn (by decide +kernel), ?_⟩
    refine List.forall_mem_cons.mpr ⟨fun hn => absurd hn (by decide +kernel), ?_⟩
    refine List.forall_mem_cons.mpr ⟨fun hn => absurd hn (by decide +kernel), ?_⟩
    refine List.forall_mem_cons.mpr ⟨fun hn => absurd hn (by decide +kernel), ?_⟩
    refine List.forall_mem_cons.mpr ⟨fun hn => absurd hn (by decide +kernel), ?_⟩
    refine List.forall_mem_cons.mpr ⟨fun hn => absurd hn (by decide +kernel), ?_⟩
    refine List.forall_mem_cons.mpr ⟨fun hn => absurd hn (by decide +kernel), ?_⟩
    refine List.forall_mem_cons.mpr ⟨fun hn => absurd hn (by decide +kernel), ?_⟩
    refine List.forall_mem_cons.mpr ⟨fun hn => absurd hn (by decide +kernel), ?_⟩
    refine List.forall_mem_cons.mpr ⟨fun hn => absurd hn (by decide +kernel), ?_⟩
    refine List.forall_mem_cons.mpr ⟨fun hn => absurd hn (by decide +kernel), ?_⟩
    refine List.forall_mem_cons.mpr ⟨fun hn => absurd hn (by decide +kernel), ?_⟩
    refine List.forall_mem_cons.mpr ⟨fun hn => absurd hn (by decide +kernel), ?_⟩
    refine List.forall_mem_cons.mpr ⟨fun hn => absurd hn (by decide +kernel), ?_⟩
    refine List.forall_mem_cons.mpr ⟨fun hn => absurd hn (by decide +kernel), ?_⟩
    refine List.forall_mem_cons.mpr ⟨fun _ => z_moka_of mk_X1_init mka_X1_init (by decide +kernel), ?_⟩
    refine List.forall_mem_cons.mpr ⟨fun _ => z_moka_of mk_X1_init mka_X1_init (by decide +kernel), ?_⟩
    refine List.forall_mem_cons.mpr ⟨fun hn => absurd hn (by decide +kernel), ?_⟩
    exact fun _ h => absurd h List.not_mem_nil
  exact fun me _ hm => key me hm
def z_leq {α : Type} (f : α → α → Bool) : List α → List α → Bool
  | [], [] => true
  | a :: l, b :: r => f a b && z_leq f l r
  | _, _ => false
theorem z_leq_of {α : Type} {f : α → α → Bool} (hf : ∀ a b, f a b = true → a = b) : ∀ l r : List α, z_leq f l r = true → l = r
  | [], [], _ => rfl
  | [], _ :: _, h => by simp [z_leq] at h
  | _ :: _, [], h => by simp [z_leq] at h
  | a :: l, b :: r, h => by
    simp only [z_leq, Bool.and_eq_true] at h
    rw [hf a b h.1, z_leq_of hf l r h.2]
def z_seq (a b : Nat ⊕ Option Nat) : Bool := match a, b with
  | .inl x, .inl y => decide (x = y)
  | .inr x, .inr y => decide (x = y)
  | _, _ => false
theorem z_seq_of {a b : Nat ⊕ Option Nat} (h : z_seq a b = true) : a = b := by
  rcases a with x | x <;> rcases b with y | y <;> simp [z_seq] at h <;> rw [h]
def z_ceq (a b : z_C) : Bool := match a, b with
  | .inl (c, l), .inl (c', l') => decide (c = c') && z_leq z_seq l l'
  | .inr (.inl x), .inr (.inl y) => decide (x = y)
  | .inr (.inr x), .inr (.inr y) => decide (x = y)
  | _, _ => false
theorem z_ceq_of {a b : z_C} (h : z_ceq a b = true) : a = b := by
  rcases a with ⟨c, l⟩ | x | x <;> rcases b with ⟨c', l'⟩ | y | y
  · simp only [z_ceq, Bool.and_eq_true, decide_eq_true_eq] at h
    rw [h.1, z_leq_of (fun _ _ => z_seq_of) _ _ h.2]
  · cases h
  · cases h
  · cases h
  · simp only [z_ceq, decide_eq_true_eq] at h
    rw [h]
  · cases h
  · cases h
  · cases h
  · simp only [z_ceq, decide_eq_true_eq] at h
    rw [h]
def z_pre : Option (z_V × List Value × z_S) := z_ablk 0 (fun _ => 0) vwCl z_tyq z_FS (cd_L_law.take 11) 18 (z_ago vwCl z_tyq z_FS z_P 8) 2000 (z_at (cd_L_law.take 11) 0) (z_loc 4 [.ref 1000]) [] ([], fun _ _ => 0)
def z_m0 : z_M := (z_pre.map (fun q => q.2.2.2)).getD (fun _ _ => 0)
def z_ls0 : z_V := [some (.ref 1000), some (.ref 0), some (.ref 59), some (.int 0)]
set_option maxRecDepth 100000 in
theorem z_pre_ok : (match z_pre with
  | some q => decide (q.1 = z_ls0) && decide (q.2.1 = []) && z_leq z_ceq q.2.2.1 z_SH
  | none => false) = true := by decide +kernel
theorem z_pre_eq : z_pre = some (z_ls0, [], (z_SH, z_m0)) := by
  have h := z_pre_ok
  unfold z_m0
  cases hz : z_pre with
  | none =>
    rw [hz] at h
    cases h
  | some q =>
    obtain ⟨a, b, c, d⟩ := q
    rw [hz] at h
    simp only [Bool.and_eq_true, decide_eq_true_eq] at h
    obtain ⟨⟨rfl, rfl⟩, h3⟩ := h
    have h3 := z_leq_of (fun _ _ => z_ceq_of) _ _ h3
    subst h3
    rfl
set_option maxRecDepth 100000 in
theorem z_law_all : z_lawb lw_tbl vwCl z_tyq z_P z_PX me_L_law cd_L_law = true := by
  unfold z_lawb
  have t8 : (cd_L_law.drop 800).take 100 = cd_L_law.drop 800 := List.take_of_length_le (by decide +kernel)
  have h8 := mkl_8
  rw [t8] at h8
  have h7 := z_law_split (cd_L_law.drop 700) 100 _ mkl_7 (by rw [List.drop_drop, show (700 + 100 : Nat) = 800 from rfl]; exact h8)
  have h6 := z_law_split (cd_L_law.drop 600) 100 _ mkl_6 (by rw [List.drop_drop, show (600 + 100 : Nat) = 700 from rfl]; exact h7)
  have h5 := z_law_split (cd_L_law.drop 500) 100 _ mkl_5 (by rw [List.drop_drop, show (500 + 100 : Nat) = 600 from rfl]; exact h6)
  have h4 := z_law_split (cd_L_law.drop 400) 100 _ mkl_4 (by rw [List.drop_drop, show (400 + 100 : Nat) = 500 from rfl]; exact h5)
  have h3 := z_law_split (cd_L_law.drop 300) 100 _ mkl_3 (by rw [List.drop_drop, show (300 + 100 : Nat) = 400 from rfl]; exact h4)
  have h2 := z_law_split (cd_L_law.drop 200) 100 _ mkl_2 (by rw [List.drop_drop, show (200 + 100 : Nat) = 300 from rfl]; exact h3)
  have h1 := z_law_split (cd_L_law.drop 100) 100 _ mkl_1 (by rw [List.drop_drop, show (100 + 100 : Nat) = 200 from rfl]; exact h2)
  have h0 := z_law_split (cd_L_law.drop 0) 100 _ mkl_0 (by rw [List.drop_drop, show (0 + 100 : Nat) = 100 from rfl]; exact h1)
  exact h0
theorem z_law_e : ∀ x ∈ cd_L_law, z_ech lw_tbl vwCl z_tyq z_P z_PX z_lawn code x ∧ z_chka lw_tbl vwCl z_tyq z_P z_PX z_lawn x.2.1 x.2.2.1 x.2.2.2.1 x.2.2.2.2.2 = true := by
  intro x hx
  have h := List.all_eq_true.mp z_law_all x hx
  simp only [Bool.and_eq_true, decide_eq_true_eq] at h
  exact ⟨⟨h.1.1.1, h.1.1.2, h.1.2⟩, h.2⟩
theorem z_law_no : ((cd_L_law.take 11).all (fun x => match x.2.1 with
  | .arraylength => false
  | .iaload => false
  | .putfield _ => false
  | _ => true)) = true := by decide +kernel
set_option maxHeartbeats 8000000 in
set_option maxRecDepth 100000 in
/-- the law, out of a run of the small machine -/
theorem z_start {p : Program} {e : Env} {s : State} {m : MethodId} {below : List Frame} {meth : Method} {c : Code} (l : Launch) {b L : Nat} {xs : Nat → Int32} (C0 : lw_At p s m meth c b L xs) (hrun : ∃ (F : Nat) (mF : z_M), z_lp z_SH L xs (z_go z_SH z_P 40) me_L_law F 18 z_ls0 [] z_m0 = some (1, 0, mF)) : W p l e room_1 s m #[Value.ref b] below meth c s.heap [] 0 0 (lw_Z below #[Value.ref b] s) (entryFrame m ([Value.ref b] : List Value).toArray 4) := by
  obtain ⟨hx, hb, hr, hml, hown, hts, hX, hbl, hlocks, hgv⟩ := id C0
  have hA : ∀ q : Nat, s.heap.size ≤ q → (fun q : Nat => s.heap.size ≤ q) q := fun _ h => h
  have hkn : ∀ ci : Nat, ∃ x : ClassId × (Nat → Nat), ∀ q : vw_C, vwCl[ci]? = some q → u_Kn s q.1 q.2.1 q.2.2 x.1 x.2 := by
    intro ci
    cases hq : vwCl[ci]? with
    | none => exact ⟨(0, fun _ => 0), fun q h => by cases h⟩
    | some q =>
      obtain ⟨cC, iS, hK⟩ := u_known (C := q.1) (T := q.2.1) (N := q.2.2) hts (fun w hw => (List.mem_filter.mp ((z_ck ci q hq).1 w hw)).1) (hts _ (z_qin ci q hq))
      exact ⟨(cC, iS), fun q' h => by cases h; exact hK⟩
  have hD := Classical.axiomOfChoice hkn
  obtain ⟨fD, hfD⟩ := hD
  obtain ⟨cI, kI, oI, i1, i2, i3⟩ := Cond.arrayClass_spec (hts (.arrayClass .int) (List.mem_of_getElem? (i := 136) (by decide +kernel)))
  obtain ⟨cB, kB, oB, j1, j2, j3⟩ := Cond.arrayClass_spec (hts (.arrayClass .boolean) (List.mem_of_getElem? (i := 229) (by decide +kernel)))
  have hoS := hts (.arrayOver (.object RX4)) (List.mem_of_getElem? (i := 76) (by decide +kernel))
  have hoG := hts (.arrayOver (.object RX1)) (List.mem_of_getElem? (i := 84) (by decide +kernel))
  obtain ⟨oS, cS, kS, s1, s2, s3, s4, s5⟩ := Cond.arrayOver_spec hoS
  obtain ⟨oG, cG, kG, g1, g2, g3, g4, g5⟩ := Cond.arrayOver_spec hoG
  have hK : va_K (fun ci => (fD ci).1, fun ci => (fD ci).2) vwCl [(cI, .int), (cB, .boolean), (cS, .object RX4), (cG, .object RX1)] s := by
    refine ⟨fun ci q hq => hfD ci q hq, fun k q hq => ?_⟩
    match k, hq with
    | 0, hq => cases hq; exact ⟨fun N z => ⟨(fun k h => by cases h), kI, i2, oI, i3⟩, i1⟩
    | 1, hq => cases hq; exact ⟨fun N z => ⟨(fun k h => by cases h), kB, j2, oB, j3⟩, j1⟩
    | 2, hq => cases hq; exact ⟨fun N z => ⟨(fun k h => by cases h), kS, s3, oS, s4⟩, kS, oS, s3, s4, s1, s5⟩
    | 3, hq => cases hq; exact ⟨fun N z => ⟨(fun k h => by cases h), kG, g3, oG, g4⟩, kG, oG, g3, g4, g1, g5⟩
    | k + 4, hq => simp at hq
  generalize hcid : (fun k : Nat => match z_FS[k]? with
    | some 0 => cI
    | some 1 => cB
    | some 6 => cS
    | some 3 => cG
    | _ => 0) = cid
  have hFS : z_FSok vwCl [(cI, .int), (cB, .boolean), (cS, .object RX4), (cG, .object RX1)] cid z_FS := by
    intro k t hk ht
    have hmem : ∀ t ∈ z_FS, t = 99 ∨ t = 0 ∨ t = 1 ∨ t = 6 ∨ t = 3 := by decide +kernel
    rw [← hcid]
    dsimp only
    rw [hk]
    rcases hmem t (List.mem_of_getElem? hk) with rfl | rfl | rfl | rfl | rfl
    · exact absurd rfl ht
    · exact ⟨0, rfl⟩
    · exact ⟨1, rfl⟩
    · exact ⟨2, rfl⟩
    · exact ⟨3, rfl⟩
  have hTY0 : z_TY [(cI, .int), (cB, .boolean), (cS, .object RX4), (cG, .object RX1)] cid [] := fun i => ⟨fun n t h => by simp at h, fun ci l h => by simp at h⟩
  have hNW : z_NW lw_tbl s := fun x hx hn => by
    have h1 := hts x hx
    cases x <;> first | exact va_Nw.of rfl h1 | (exact absurd hn (by simp [z_nest]))
  have hAO : z_AO lw_tbl s := fun C hC => va_AO.of (hts _ hC)
  have hG : ∀ sh, z_TY [(cI, .int), (cB, .boolean), (cS, .object RX4), (cG, .object RX1)] cid sh → z_G p s m #[Value.ref b] c code z_lawn (fun ci => (fD ci).1, fun ci => (fD ci).2) vwCl [(cI, .int), (cB, .boolean), (cS, .object RX4), (cG, .object RX1)] cid sh lw_tbl lw_tbl z_tyq := fun sh hsh => ⟨hx, hb, hown, hts, hK, fun x h _ => h, fun ci q hq => ⟨fun x h => (List.mem_filter.mp ((z_ck ci q hq).1 x h)).1, (z_ck ci q hq).2⟩, hsh⟩
  have hpre : z_ablk 0 (fun _ => 0) vwCl z_tyq z_FS (cd_L_law.take 11) 18 (z_ago vwCl z_tyq z_FS z_P 8) 2000 (z_at (cd_L_law.take 11) 0) (z_loc 4 [.ref 1000]) [] ([], fun _ _ => 0) = some (z_ls0, [], (z_SH, z_m0)) := z_pre_eq
  have hsub : ∀ x ∈ cd_L_law.take 11, x ∈ cd_L_law := fun x h => List.mem_of_mem_take h
  have hno : ∀ x ∈ cd_L_law.take 11, (x.2.1 ≠ .arraylength ∧ x.2.1 ≠ .iaload) ∧ ∀ i, x.2.1 ≠ .putfield i := by
    intro x hx
    have h := List.all_eq_true.mp z_law_no x hx
    refine ⟨⟨fun q => ?_, fun q => ?_⟩, fun i q => ?_⟩ <;> rw [q] at h <;> cases h
  have hcells : (0 : Nat) + (z_SH.length - 0) ≤ room_1.cells := by decide +kernel
  have hslots : (0 : Nat) + (z_slo z_SH - z_slo []) ≤ room_1.slots := by decide +kernel
  rw [lg_entry_eq]
  have hent := z_L_entry (ad := fun i => if i = 1000 then b else 0) (n := 4) (as := [.ref 1000]) (by decide)
  refine z_ablk_ok (l := l) (H0 := s.heap) (A := fun q : Nat => s.heap.size ≤ q) (PX := z_PX) (P := z_P) (d := 8) hG hml hNW hAO hA z_q4 hFS ⟨by decide, by decide⟩ (z_ago_mono 8) (z_ago_ok z_qma z_ck z_q4 hFS 8) (fun x h => z_law_e x (hsub x h)) (by decide +kernel) (fun x h q => absurd q (by rintro (q | q) <;> first | exact (hno x h).1.1 q | exact (hno x h).1.2 q)) (Or.inl (fun x h => (hno x h).2)) 2000 _ _ [] ([], fun _ _ => 0) (fun i => if i = 1000 then b else 0) _ s.heap [] 0 0 0 (z_at_suf _ _) (fun y cs' hy => z_at_pc _ _ y cs' hy) hpre hTY0 hent ⟨fun k q h => by simp [z_rd] at h, ⟨fun i j p q h => by simp [z_rd] at h, fun k q h => by simp [z_rd] at h⟩, va_S.rf⟩ hcells hslots (fun ad' arr' H' locs' b1 b2 b3 b4 => ?_)
  refine W.widen (k := 600000) (n := 7302250) hcells hslots ?_
  obtain ⟨F, mF, hrun⟩ := hrun
  have had : ad' 1000 = b := b1 1000 (Or.inr rfl)
  refine z_lp_ok (me := me_L_law) (b := b) (PX := z_PX) (d := 40) (hG z_SH b2) (fun _ => ⟨hX, hbl, Nat.not_le.mpr hbl, had⟩) hml hNW ⟨by decide, by decide⟩ ⟨by decide, by decide⟩ (z_go_ok z_qm z_ck b2 40) (fun x h => (z_law_e x h).1) mkl_c (r := (1, 0, mF)) ⟨fun pc v m' H1 locs1 arr1 hdg hk hrr hH1 => ?_, fun pc v m' H1 locs1 arr1 hdg hk hrr hH1 => ?_, fun pc m' H1 locs1 arr1 hdg hk hrr hH1 => ?_⟩ F 18 z_ls0 [] z_m0 arr' H' locs' hrun b3 b4
  · simp only [Prod.mk.injEq] at hrr
    obtain ⟨rfl, -, rfl⟩ := hrr
    refine va_forget hH1.2.2.2.2 ?_
    exact lw_ret hx hb hr hlocks hdg
  · exact absurd hk (by decide)
  · exact absurd hk (by decide)
