/-! THE CLAIM OUT OF ONE WALK OF THE LAW'S BODY. Your part is whole_start (and what it stands on); all else here is the same for every law, but numbers. -/
def R_law : String := "JobShopLaw"
def lw_P (b : Addr) (xs : List Int32) (args : Array Value) (s : State) : Prop := args = #[.ref b] ∧ s.IntsAt b xs ∧ xs.length ≤ 2048 ∧ (Jvm.Cond.and given_1 narrow_1).before args s = true
def lw_Q (_ : Array Value) (s : State) (o : Outcome) (t : State) : Prop := o = .returned (some (.int 1)) ∧ Framed s o t [] 600000 7302250
def lw_Z (below : List Frame) (a : Array Value) (s : State) : State → Prop := fun t => ∃ o, t.status = .running ∧ Ended t below o ∧ lw_Q a s o t
/-- the law's own end, with 1 on the stack, nothing written that was there before, its room as the claim has it -/
theorem lw_ret {p : Program} {l : Launch} {e : Env} {s : State} {m : MethodId} {below : List Frame} {meth : Method} {c : Code} {b : Nat} (hx : p.tables.exec = Jvm.exec) (hb : c.code = code) (hr : meth.sig.returnType = ret) (hlocks : meth.locks = false) {pc : Nat} {H : Heap} {ls : Array Slot} (hdg : decode code pc = .ok (.ireturn, 1)) : W p l e room_1 s m #[Value.ref b] below meth c H [] 600000 7302250 (lw_Z below #[Value.ref b] s) (F0 m pc ls [.int 1]) := by
  intro T hT X
  obtain ⟨fs, hret, hrun, hended, hW, hframe⟩ := X.leave (v := some (.int 1)) (hlocks := hlocks) (fun h => by rw [hr] at h; cases h)
  have hmeth' : T.vm.method? m = some meth := X.method'
  refine ⟨T.setFrames fs, ?_, .returned (some (.int 1)), hrun, hended, rfl, ⟨_, rfl⟩, hW, hframe⟩
  jvm_step X.here [X.here.top, hx, hb, hdg, hmeth', hr, ret, narrow_b1]
  (try refine ⟨rfl, ?_⟩); (try refine ⟨rfl, ?_⟩)
  first | (intro acts; rw [hret _ acts rfl rfl rfl]) | rw [hret _ _ rfl rfl rfl]
  exact Steps.refl _
/-- what holds at the law's entry: the machine, the code, the tables' words (any of lw_tbl by 'hts w (by decide +kernel)'), the script of L ints xs at the cell b, what the Statement gives of the start (any of its parts by flat_of_before) -/
def lw_At (p : Program) (s : State) (m : MethodId) (meth : Method) (c : Code) (b L : Nat) (xs : Nat → Int32) : Prop :=
  p.tables.exec = Jvm.exec ∧ c.code = code ∧ meth.sig.returnType = ret ∧ c.maxLocals = 4 ∧ s.vm.findClass R_law = some m.cls ∧ (∀ w ∈ lw_tbl, w.before #[Value.ref b] s = true) ∧ va_X b L xs s s.heap ∧ b < s.heap.size ∧ meth.locks = false ∧ (Jvm.Cond.and given_1 narrow_1).before #[Value.ref b] s = true

/-- what stays as it is while the law runs -/
def LCtx (p : Program) (s : State) (m : MethodId) (meth : Method) (c : Code) (b L : Nat) (xs : Nat → Int32) (dC : Nat → ClassId) (dI : Nat → Nat → Nat) (cI cZ : ClassId) : Prop := lw_At p s m meth c b L xs ∧ va_K (dC, dI) vwCl [(cI, .int), (cZ, .boolean)] s ∧ nw s
/-- at a place of the law, class and reference side by side -/
def LStt (p : Program) (l : Launch) (e : Env) (s : State) (m : MethodId) (below : List Frame) (meth : Method) (c : Code) (b : Nat) (dC : Nat → ClassId) (dI : Nat → Nat → Nat) (h_M h_M_jobOf h_M_machineOf h_M_durations h_M_arcs h_M_drafts h_M_starts h_M_heads h_M_tails h_M_chosen h_M_orders h_M_sizes h_J h_J_drafted h_S h_S_plan h_S_start h_S_needs h_S_turn h_S_jobFree h_S_machineFree h_S_workLeft h_S_waiting h_F h_F_firstOf h_F_lastOf h_F_jobOf h_F_machineOf h_F_duration h_F_nextOf h_F_arcs h_F_head h_F_tail h_F_kept : Nat) (cI cZ : ClassId) (i pc : Nat) : Prop :=
  ∀ (M_jobs : Int32) (M_many : Int32) (M_isPlanned : Int32) (M_least : Int32) (M_optima : Int32) (M_jobOf : Nat → Int32) (M_machineOf : Nat → Int32) (M_durations : Nat → Int32) (M_arcs : Nat → Int32) (M_drafts : Nat → Int32) (M_starts : Nat → Int32) (M_heads : Nat → Int32) (M_tails : Nat → Int32) (M_chosen : Nat → Int32) (M_orders : Nat → Int32) (M_sizes : Nat → Int32) (J_planned : Int32) (J_drafted : Nat → Int32) (S_least : Int32) (S_found : Int32) (S_placed : Int32) (S_plan : Nat → Int32) (S_start : Nat → Int32) (S_needs : Nat → Int32) (S_turn : Nat → Int32) (S_jobFree : Nat → Int32) (S_machineFree : Nat → Int32) (S_workLeft : Nat → Int32) (S_waiting : Nat → Int32) (F_jobs : Int32) (F_size : Int32) (F_firstOf : Nat → Int32) (F_lastOf : Nat → Int32) (F_jobOf : Nat → Int32) (F_machineOf : Nat → Int32) (F_duration : Nat → Int32) (F_nextOf : Nat → Int32) (F_arcs : Nat → Int32) (F_head : Nat → Int32) (F_tail : Nat → Int32) (F_kept : Nat → Int32) (H : Heap) (locs : List Loc) (ls : Array Slot), Ia J_planned J_drafted S_least S_found S_plan F_jobs F_size F_firstOf F_lastOf F_jobOf F_machineOf F_duration F_nextOf F_arcs F_head F_tail M_jobs M_many M_isPlanned M_least M_optima M_jobOf M_machineOf M_durations M_arcs M_drafts M_starts → va_P (dC, dI) vwCl ((wM h_M h_M_jobOf h_M_machineOf h_M_durations h_M_arcs h_M_drafts h_M_starts h_M_heads h_M_tails h_M_chosen h_M_orders h_M_sizes cI cZ M_jobs M_many M_isPlanned M_least M_optima M_jobOf M_machineOf M_durations M_arcs M_drafts M_starts M_heads M_tails M_chosen M_orders M_sizes) ++ (wJ h_J h_J_drafted h_S h_S_plan h_S_start h_S_needs h_S_turn h_S_jobFree h_S_machineFree h_S_workLeft h_S_waiting h_F h_F_firstOf h_F_lastOf h_F_jobOf h_F_machineOf h_F_duration h_F_nextOf h_F_arcs h_F_head h_F_tail h_F_kept cI J_planned J_drafted S_least S_found S_placed S_plan S_start S_needs S_turn S_jobFree S_machineFree S_workLeft S_waiting F_jobs F_size F_firstOf F_lastOf F_jobOf F_machineOf F_duration F_nextOf F_arcs F_head F_tail F_kept)) H → va_D (fun q : Nat => s.heap.size ≤ q) ((wM h_M h_M_jobOf h_M_machineOf h_M_durations h_M_arcs h_M_drafts h_M_starts h_M_heads h_M_tails h_M_chosen h_M_orders h_M_sizes cI cZ M_jobs M_many M_isPlanned M_least M_optima M_jobOf M_machineOf M_durations M_arcs M_drafts M_starts M_heads M_tails M_chosen M_orders M_sizes) ++ (wJ h_J h_J_drafted h_S h_S_plan h_S_start h_S_needs h_S_turn h_S_jobFree h_S_machineFree h_S_workLeft h_S_waiting h_F h_F_firstOf h_F_lastOf h_F_jobOf h_F_machineOf h_F_duration h_F_nextOf h_F_arcs h_F_head h_F_tail h_F_kept cI J_planned J_drafted S_least S_found S_placed S_plan S_start S_needs S_turn S_jobFree S_machineFree S_workLeft S_waiting F_jobs F_size F_firstOf F_lastOf F_jobOf F_machineOf F_duration F_nextOf F_arcs F_head F_tail F_kept)) → va_S (fun q : Nat => s.heap.size ≤ q) s.heap H locs → lv_has ls 4 [(3, .int (nI i)), (0, .ref b), (1, .ref h_J), (2, .ref h_M)] → W p l e room_1 s m #[Value.ref b] below meth c H locs 34 608 (lw_Z below #[Value.ref b] s) (F0 m pc ls [])
theorem kc_swap {A0 : Nat → Prop} {D : va_G} {cl : List vw_C} {wa wb : va_W} {H : Heap} (hP : va_P D cl (wa ++ wb) H) (hD : va_D A0 (wa ++ wb)) : va_P D cl (wb ++ wa) H ∧ va_D A0 (wb ++ wa) := by
  obtain ⟨h1, h2⟩ := kc_left hP hD
  have key : ∀ (k : Nat) (q : Nat × va_E), wb[k]? = some q → (wa ++ wb)[wa.length + k]? = some q := fun k q h => by
    rw [List.getElem?_append_right (Nat.le_add_right _ _), Nat.add_sub_cancel_left]; exact h
  have key1 : ∀ (k : Nat) (q : Nat × va_E), wa[k]? = some q → (wa ++ wb)[k]? = some q := fun k q h => by
    rw [List.getElem?_append_left (List.getElem?_eq_some_iff.mp h).1]; exact h
  have h3 : va_P D cl wb H := fun k q h => hP _ q (key k q h)
  have h4 : va_D A0 wb := ⟨fun i j x y hi hj hxy => by
    have := hD.1 _ _ x y (key i x hi) (key j y hj) hxy
    omega, fun k q h => hD.2 _ q (key k q h)⟩
  refine ⟨va_P.app h3 h1, va_D.app h4 h2 (fun i j x y hx hy hxy => ?_)⟩
  have h5 := hD.1 _ _ x y (key i x hx) (key1 j y hy) hxy
  have h6 := (List.getElem?_eq_some_iff.mp hy).1
  omega
theorem sc_in {L i : Nat} (hL : L ≤ 2048) (hi : i + 4 ≤ L) {k : Int32} (n : Nat) (hk : k = nI n) (hn : n < 4) : vp_in (nI i + k) L := by
  rw [hk, nI_add]; exact vp_in_nI (by omega) (by omega)
theorem Ia_0 : Ia 0 z0 0 0 z0 0 0 z0 z0 z0 z0 z0 z0 z0 z0 z0 0 0 0 (-1) 0 z0 z0 z0 z0 z0 z0 := by
  have no : ∀ {P : Prop} (i : Nat), i < 0 → P := fun i hi => absurd hi (Nat.not_lt_zero i)
  have S : Shop 0 0 (fun _ => 0) (fun _ => 0) (fun _ => 0) (fun _ _ => false) := ⟨by omega, by omega, fun i hi => no i hi, fun i hi => no i hi, fun i hi => no i hi, fun i _ hi => no i hi, fun _ _ h => absurd h Bool.false_ne_true, fun _ => 0, fun i _ hi => no i hi⟩
  obtain ⟨hs, ts, h1, h2⟩ := S.heads
  exact ⟨0, 0, fun _ => 0, fun _ => 0, fun _ => 0, fun _ _ => false, fun _ => 0, rfl, rfl, rfl, rfl, ⟨S, fun i hi => no i hi, hs, ts, h1, h2, fun i hi => no i hi, fun i hi => no i hi⟩, fun i hi => no i hi, fun i hi => no i hi, fun i hi => no i hi, fun i hi => no i hi, fun i hi => no i hi, fun i hi => no i hi, fun i hi => no i hi, fun i hi => no i hi, fun i hi => no i hi, fun i hi => no i hi, fun i hi => no i hi, fun a b ha hb => rfl, fun i hi => no i hi, Or.inl ⟨rfl, rfl⟩⟩
