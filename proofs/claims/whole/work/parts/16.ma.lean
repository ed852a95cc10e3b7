set_option maxHeartbeats 4000000 in
set_option maxRecDepth 100000 in
theorem c_X3_in (l : Launch) (dC : Nat → ClassId) (dI : Nat → Nat → Nat) (sz : Nat)  (a0 a1 a2 : Int32) (post : Int32 → Prop) (hw : wp_X3_in a0 a1 a2 post) : Met l yX3_in wsX3_in ({ frames := 0, cells := 0, slots := 0, locals := 0 }) (va_Pc [.int a0, .int a1, .int a2] (fun U => U.heap.size = sz ∧ va_P (dC, dI) vwCl ([] : va_W) U.heap ∧ va_K (dC, dI) vwCl [] U ∧ va_D (fun _ => True) ([] : va_W))) (va_Qi (fun (r : Int32) (u : Unit) => post r ) (fun u t => va_P (dC, dI) vwCl ([] : va_W) t.heap ∧ va_K (dC, dI) vwCl [] t ∧ va_D (va_A ([] : va_W) sz) ([] : va_W)) (va_A ([] : va_W) sz)) 0 0 (va_A ([] : va_W) sz) := by
  refine Met.ofW (cc := cX3_in) (maxL := 3) (ret := (some .boolean)) (by decide) rfl ?_
  intro p e s m args below meth c s₁ B hml hv
  obtain ⟨rfl, hsz, hP, hK, hD0⟩ := hv
  have hx := B.exec
  have hb := B.bytes
  have hr := B.returns
  have hts := atoms_spec (ws := wsX3_in) B.pre
  have hown : s.vm.findClass RX3 = some m.cls := findClass_of_methodNamed B.named
  have hlocks := B.notSynchronized
  subst hsz
  have hD := hD0.self (sz := s.heap.size)
  generalize hAe : va_A ([] : va_W) s.heap.size = A at hD ⊢
  have hA : ∀ q : Nat, s.heap.size ≤ q → A q := fun q h => by rw [← hAe]; exact Or.inr h
  have hS : va_S A s.heap s.heap [] := va_S.rf
  have hP : va_P (dC, dI) vwCl ([] : va_W) s.heap := hP
  have hl := lv_entry ([.int a0, .int a1, .int a2]) (n := 3) (Nat.le_of_ble_eq_true rfl)
  rw [lg_entry_eq]
  generalize (lg_sl ([.int a0, .int a1, .int a2]) ++ List.replicate (3 - (lg_sl ([.int a0, .int a1, .int a2])).length) Slot.unset).toArray = ls at hl ⊢
  have hl : lv_has ls 3 [(0, .int a0), (1, .int a1), (2, .int a2)] := hl
  obtain ⟨H, hH⟩ : ∃ H, H = s.heap := ⟨_, rfl⟩
  rw [← hH] at hP
  have hS : va_S A s.heap H [] := by rw [hH]; exact hS
  refine W_heap hH ?_
  unfold wp_X3_in at hw
  refine lv_iload_n (pc := 0) hx hb dX3_in_0 rfl (lv_at hl 0 rfl) ?_
  refine lv_iload_n (pc := 1) hx hb dX3_in_1 rfl (lv_at hl 1 rfl) ?_
  refine lv_icmp_lt (tgt := 14) (pc := 2) hx hb dX3_in_2 (by decide) (fun c_1 => ?_) (fun c_1 => ?_)
  · have hw := hw.1 c_1
    refine lv_iconst (v := 0) (pc := 14) hx hb dX3_in_14 (by decide) ?_
    exact W.zret (v := 0) hx hb hr rfl (fun t ht hW => ⟨⟨0, (), rfl, hw, by rw [ht]; exact hP, va_K.moved hW.alike hK, hD⟩, hS.F ht⟩) hS.2.2 dX3_in_15
  · have hw := hw.2 c_1
    refine lv_iload_n (pc := 5) hx hb dX3_in_5 rfl (lv_at hl 0 rfl) ?_
    refine lv_iload_n (pc := 6) hx hb dX3_in_6 rfl (lv_at hl 2 rfl) ?_
    refine lv_icmp_gt (tgt := 14) (pc := 7) hx hb dX3_in_7 (by decide) (fun c_2 => ?_) (fun c_2 => ?_)
    · have hw := hw.1 c_2
      refine lv_iconst (v := 0) (pc := 14) hx hb dX3_in_14 (by decide) ?_
      exact W.zret (v := 0) hx hb hr rfl (fun t ht hW => ⟨⟨0, (), rfl, hw, by rw [ht]; exact hP, va_K.moved hW.alike hK, hD⟩, hS.F ht⟩) hS.2.2 dX3_in_15
    · have hw := hw.2 c_2
      refine lv_iconst (v := 1) (pc := 10) hx hb dX3_in_10 (by decide) ?_
      refine lv_goto (tgt := 15) (pc := 11) hx hb dX3_in_11 (by decide) ?_
      exact W.zret (v := 1) hx hb hr rfl (fun t ht hW => ⟨⟨1, (), rfl, hw, by rw [ht]; exact hP, va_K.moved hW.alike hK, hD⟩, hS.F ht⟩) hS.2.2 dX3_in_15
set_option maxHeartbeats 4000000 in
set_option maxRecDepth 100000 in
theorem c_X3_isOperation (l : Launch) (dC : Nat → ClassId) (dI : Nat → Nat → Nat) (h_M h_M_jobOf h_M_machineOf h_M_durations h_M_arcs h_M_drafts h_M_starts h_M_heads h_M_tails h_M_chosen h_M_orders h_M_sizes : Nat) (sz : Nat) (cI cZ : ClassId) (M_jobs : Int32) (M_many : Int32) (M_isPlanned : Int32) (M_least : Int32) (M_optima : Int32) (M_jobOf : Nat → Int32) (M_machineOf : Nat → Int32) (M_durations : Nat → Int32) (M_arcs : Nat → Int32) (M_drafts : Nat → Int32) (M_starts : Nat → Int32) (M_heads : Nat → Int32) (M_tails : Nat → Int32) (M_chosen : Nat → Int32) (M_orders : Nat → Int32) (M_sizes : Nat → Int32) (a0 : Int32) (post : Int32 → Prop) (hw : wp_X3_isOperation M_many a0 post) : Met l yX3_isOperation wsX3_isOperation ({ frames := 1, cells := 0, slots := 0, locals := 22 }) (va_Pc [.ref h_M, .int a0] (fun U => U.heap.size = sz ∧ va_P (dC, dI) vwCl (wM h_M h_M_jobOf h_M_machineOf h_M_durations h_M_arcs h_M_drafts h_M_starts h_M_heads h_M_tails h_M_chosen h_M_orders h_M_sizes cI cZ M_jobs M_many M_isPlanned M_least M_optima M_jobOf M_machineOf M_durations M_arcs M_drafts M_starts M_heads M_tails M_chosen M_orders M_sizes) U.heap ∧ va_K (dC, dI) vwCl [(cI, .int), (cZ, .boolean)] U ∧ va_D (fun _ => True) (wM h_M h_M_jobOf h_M_machineOf h_M_durations h_M_arcs h_M_drafts h_M_starts h_M_heads h_M_tails h_M_chosen h_M_orders h_M_sizes cI cZ M_jobs M_many M_isPlanned M_least M_optima M_jobOf M_machineOf M_durations M_arcs M_drafts M_starts M_heads M_tails M_chosen M_orders M_sizes))) (va_Qi (fun (r : Int32) (u : Unit) => post r ) (fun u t => va_P (dC, dI) vwCl (wM h_M h_M_jobOf h_M_machineOf h_M_durations h_M_arcs h_M_drafts h_M_starts h_M_heads h_M_tails h_M_chosen h_M_orders h_M_sizes cI cZ M_jobs M_many M_isPlanned M_least M_optima M_jobOf M_machineOf M_durations M_arcs M_drafts M_starts M_heads M_tails M_chosen M_orders M_sizes) t.heap ∧ va_K (dC, dI) vwCl [(cI, .int), (cZ, .boolean)] t ∧ va_D (va_A (wM h_M h_M_jobOf h_M_machineOf h_M_durations h_M_arcs h_M_drafts h_M_starts h_M_heads h_M_tails h_M_chosen h_M_orders h_M_sizes cI cZ M_jobs M_many M_isPlanned M_least M_optima M_jobOf M_machineOf M_durations M_arcs M_drafts M_starts M_heads M_tails M_chosen M_orders M_sizes) sz) (wM h_M h_M_jobOf h_M_machineOf h_M_durations h_M_arcs h_M_drafts h_M_starts h_M_heads h_M_tails h_M_chosen h_M_orders h_M_sizes cI cZ M_jobs M_many M_isPlanned M_least M_optima M_jobOf M_machineOf M_durations M_arcs M_drafts M_starts M_heads M_tails M_chosen M_orders M_sizes)) (va_A (wM h_M h_M_jobOf h_M_machineOf h_M_durations h_M_arcs h_M_drafts h_M_starts h_M_heads h_M_tails h_M_chosen h_M_orders h_M_sizes cI cZ M_jobs M_many M_isPlanned M_least M_optima M_jobOf M_machineOf M_durations M_arcs M_drafts M_starts M_heads M_tails M_chosen M_orders M_sizes) sz)) 0 0 (va_A (wM h_M h_M_jobOf h_M_machineOf h_M_durations h_M_arcs h_M_drafts h_M_starts h_M_heads h_M_tails h_M_chosen h_M_orders h_M_sizes cI cZ M_jobs M_many M_isPlanned M_least M_optima M_jobOf M_machineOf M_durations M_arcs M_drafts M_starts M_heads M_tails M_chosen M_orders M_sizes) sz) := by
  refine Met.ofW (cc := cX3_isOperation) (maxL := 2) (ret := (some .boolean)) (by decide) rfl ?_
  intro p e s m args below meth c s₁ B hml hv
  obtain ⟨rfl, hsz, hP, hK, hD0⟩ := hv
  have hx := B.exec
  have hb := B.bytes
  have hr := B.returns
  have hts := atoms_spec (ws := wsX3_isOperation) B.pre
  have hown : s.vm.findClass RX3 = some m.cls := findClass_of_methodNamed B.named
  have hlocks := B.notSynchronized
  subst hsz
  have hD := hD0.self (sz := s.heap.size)
  generalize hAe : va_A (wM h_M h_M_jobOf h_M_machineOf h_M_durations h_M_arcs h_M_drafts h_M_starts h_M_heads h_M_tails h_M_chosen h_M_orders h_M_sizes cI cZ M_jobs M_many M_isPlanned M_least M_optima M_jobOf M_machineOf M_durations M_arcs M_drafts M_starts M_heads M_tails M_chosen M_orders M_sizes) s.heap.size = A at hD ⊢
  have hA : ∀ q : Nat, s.heap.size ≤ q → A q := fun q h => by rw [← hAe]; exact Or.inr h
  have hS : va_S A s.heap s.heap [] := va_S.rf
  have hP : va_P (dC, dI) vwCl (wM h_M h_M_jobOf h_M_machineOf h_M_durations h_M_arcs h_M_drafts h_M_starts h_M_heads h_M_tails h_M_chosen h_M_orders h_M_sizes cI cZ M_jobs M_many M_isPlanned M_least M_optima M_jobOf M_machineOf M_durations M_arcs M_drafts M_starts M_heads M_tails M_chosen M_orders M_sizes) s.heap := hP
  have hl := lv_entry ([.ref h_M, .int a0]) (n := 2) (Nat.le_of_ble_eq_true rfl)
  rw [lg_entry_eq]
  generalize (lg_sl ([.ref h_M, .int a0]) ++ List.replicate (2 - (lg_sl ([.ref h_M, .int a0])).length) Slot.unset).toArray = ls at hl ⊢
  have hl : lv_has ls 2 [(0, .ref h_M), (1, .int a0)] := hl
  obtain ⟨H, hH⟩ : ∃ H, H = s.heap := ⟨_, rfl⟩
  rw [← hH] at hP
  have hS : va_S A s.heap H [] := by rw [hH]; exact hS
  refine W_heap hH ?_
  unfold wp_X3_isOperation at hw
  have hin_X3 : ∀ w ∈ u_ws RX3 TX3 16, w ∈ wsX3_isOperation := by decide +kernel
  refine lv_iload_n (pc := 0) hx hb dX3_isOperation_0 rfl (lv_at hl 1 rfl) ?_
  refine lv_iconst (v := 0) (pc := 1) hx hb dX3_isOperation_1 (by decide) ?_
  refine lv_aload_n (pc := 2) hx hb dX3_isOperation_2 rfl (lv_at hl 0 rfl) ?_
  refine va_get (D := (dC, dI)) (ci := 3) (v := .int M_many) (C := RX3) (T := TX3) (N := 16) (pc := 3) hx hb hts hin_X3 hown hK hP 0 rfl rfl 1 (by decide) (hts (.fieldLink RX3 48 "JobShopModel" "many" "I") (by decide +kernel)) (fun _ h9 => h9) rfl dX3_isOperation_3 ?_
  refine lv_iconst (v := 1) (pc := 6) hx hb dX3_isOperation_6 (by decide) ?_
  refine lv_isub (pc := 7) hx hb dX3_isOperation_7 ?_
  have hPx : va_P (dC, dI) vwCl ([(h_M, .inr (3, [.int M_jobs, .int M_many, .ref h_M_jobOf, .ref h_M_machineOf, .ref h_M_durations, .ref h_M_arcs, .ref h_M_drafts, .int M_isPlanned, .ref h_M_starts, .int M_least, .int M_optima, .ref h_M_heads, .ref h_M_tails, .ref h_M_chosen, .ref h_M_orders, .ref h_M_sizes])), (h_M_jobOf, .inl (cI, 12, .inl M_jobOf)), (h_M_machineOf, .inl (cI, 12, .inl M_machineOf)), (h_M_durations, .inl (cI, 12, .inl M_durations)), (h_M_arcs, .inl (cZ, 144, .inl M_arcs)), (h_M_drafts, .inl (cI, 12, .inl M_drafts)), (h_M_starts, .inl (cI, 12, .inl M_starts)), (h_M_heads, .inl (cI, 12, .inl M_heads)), (h_M_tails, .inl (cI, 12, .inl M_tails)), (h_M_chosen, .inl (cZ, 144, .inl M_chosen)), (h_M_orders, .inl (cI, 16, .inl M_orders)), (h_M_sizes, .inl (cI, 4, .inl M_sizes))] ++ ([] : va_W)) H := hP
  have hDx : va_D A ([(h_M, .inr (3, [.int M_jobs, .int M_many, .ref h_M_jobOf, .ref h_M_machineOf, .ref h_M_durations, .ref h_M_arcs, .ref h_M_drafts, .int M_isPlanned, .ref h_M_starts, .int M_least, .int M_optima, .ref h_M_heads, .ref h_M_tails, .ref h_M_chosen, .ref h_M_orders, .ref h_M_sizes])), (h_M_jobOf, .inl (cI, 12, .inl M_jobOf)), (h_M_machineOf, .inl (cI, 12, .inl M_machineOf)), (h_M_durations, .inl (cI, 12, .inl M_durations)), (h_M_arcs, .inl (cZ, 144, .inl M_arcs)), (h_M_drafts, .inl (cI, 12, .inl M_drafts)), (h_M_starts, .inl (cI, 12, .inl M_starts)), (h_M_heads, .inl (cI, 12, .inl M_heads)), (h_M_tails, .inl (cI, 12, .inl M_tails)), (h_M_chosen, .inl (cZ, 144, .inl M_chosen)), (h_M_orders, .inl (cI, 16, .inl M_orders)), (h_M_sizes, .inl (cI, 4, .inl M_sizes))] ++ ([] : va_W)) := hD
  refine kc_i (pc := 8) (w1 := (fun u : Unit => ([] : va_W))) (va_runS (As := [.int a0, .int 0, .int (M_many - 1)]) (rest := []) ⟨hx, hb, hml, hown, hts⟩ (c_X3_in l dC dI H.size  a0 0 (M_many - 1) _ hw) (va_cwS 3 hts gX3_isOperation_X3_in rfl rfl rfl (by decide +kernel) ⟨Nat.le_of_ble_eq_true rfl, Nat.le_of_ble_eq_true rfl⟩) (kc_preS hK hPx hDx [] rfl) rfl rfl hl.1 rfl (lv_room (Nat.le_of_ble_eq_true rfl)) dX3_isOperation_8 ⟨Nat.zero_le _, Nat.zero_le _⟩) hPx hDx hS hA (fun r_8 u H locs hw hP hD hS => ?_)
  have hP : va_P (dC, dI) vwCl (wM h_M h_M_jobOf h_M_machineOf h_M_durations h_M_arcs h_M_drafts h_M_starts h_M_heads h_M_tails h_M_chosen h_M_orders h_M_sizes cI cZ M_jobs M_many M_isPlanned M_least M_optima M_jobOf M_machineOf M_durations M_arcs M_drafts M_starts M_heads M_tails M_chosen M_orders M_sizes) H := hP
  have hD : va_D A (wM h_M h_M_jobOf h_M_machineOf h_M_durations h_M_arcs h_M_drafts h_M_starts h_M_heads h_M_tails h_M_chosen h_M_orders h_M_sizes cI cZ M_jobs M_many M_isPlanned M_least M_optima M_jobOf M_machineOf M_durations M_arcs M_drafts M_starts M_heads M_tails M_chosen M_orders M_sizes) := hD
  exact W.zret (v := r_8) hx hb hr (nar_b hw.1) (fun t ht hW => ⟨⟨r_8, (), rfl, hw.2, by rw [ht]; exact hP, va_K.moved hW.alike hK, hD⟩, hS.F ht⟩) hS.2.2 dX3_isOperation_11
set_option maxHeartbeats 4000000 in
set_option maxRecDepth 100000 in
theorem c_X3_isPair (l : Launch) (dC : Nat → ClassId) (dI : Nat → Nat → Nat) (h_M h_M_jobOf h_M_machineOf h_M_durations h_M_arcs h_M_drafts h_M_starts h_M_heads h_M_tails h_M_chosen h_M_orders h_M_sizes : Nat) (sz : Nat) (cI cZ : ClassId) (M_jobs : Int32) (M_many : Int32) (M_isPlanned : Int32) (M_least : Int32) (M_optima : Int32) (M_jobOf : Nat → Int32) (M_machineOf : Nat → Int32) (M_durations : Nat → Int32) (M_arcs : Nat → Int32) (M_drafts : Nat → Int32) (M_starts : Nat → Int32) (M_heads : Nat → Int32) (M_tails : Nat → Int32) (M_chosen : Nat → Int32) (M_orders : Nat → Int32) (M_sizes : Nat → Int32) (a0 a1 : Int32) (post : Int32 → Prop) (hw : wp_X3_isPair M_many M_machineOf a0 a1 post) : Met l yX3_isPair wsX3_isPair ({ frames := 2, cells := 0, slots := 0, locals := 43 }) (va_Pc [.ref h_M, .int a0, .int a1] (fun U => U.heap.size = sz ∧ va_P (dC, dI) vwCl (wM h_M h_M_jobOf h_M_machineOf h_M_durations h_M_arcs h_M_drafts h_M_starts h_M_heads h_M_tails h_M_chosen h_M_orders h_M_sizes cI cZ M_jobs M_many M_isPlanned M_least M_optima M_jobOf M_machineOf M_durations M_arcs M_drafts M_starts M_heads M_tails M_chosen M_orders M_sizes) U.heap ∧ va_K (dC, dI) vwCl [(cI, .int), (cZ, .boolean)] U ∧ va_D (fun _ => True) (wM h_M h_M_jobOf h_M_machineOf h_M_durations h_M_arcs h_M_drafts h_M_starts h_M_heads h_M_tails h_M_chosen h_M_orders h_M_sizes cI cZ M_jobs M_many M_isPlanned M_least M_optima M_jobOf M_machineOf M_durations M_arcs M_drafts M_starts M_heads M_tails M_chosen M_orders M_sizes))) (va_Qi (fun (r : Int32) (u : Unit) => post r ) (fun u t => va_P (dC, dI) vwCl (wM h_M h_M_jobOf h_M_machineOf h_M_durations h_M_arcs h_M_drafts h_M_starts h_M_heads h_M_tails h_M_chosen h_M_orders h_M_sizes cI cZ M_jobs M_many M_isPlanned M_least M_optima M_jobOf M_machineOf M_durations M_arcs M_drafts M_starts M_heads M_tails M_chosen M_orders M_sizes) t.heap ∧ va_K (dC, dI) vwCl [(cI, .int), (cZ, .boolean)] t ∧ va_D (va_A (wM h_M h_M_jobOf h_M_machineOf h_M_durations h_M_arcs h_M_drafts h_M_starts h_M_heads h_M_tails h_M_chosen h_M_orders h_M_sizes cI cZ M_jobs M_many M_isPlanned M_least M_optima M_jobOf M_machineOf M_durations M_arcs M_drafts M_starts M_heads M_tails M_chosen M_orders M_sizes) sz) (wM h_M h_M_jobOf h_M_machineOf h_M_durations h_M_arcs h_M_drafts h_M_starts h_M_heads h_M_tails h_M_chosen h_M_orders h_M_sizes cI cZ M_jobs M_many M_isPlanned M_least M_optima M_jobOf M_machineOf M_durations M_arcs M_drafts M_starts M_heads M_tails M_chosen M_orders M_sizes)) (va_A (wM h_M h_M_jobOf h_M_machineOf h_M_durations h_M_arcs h_M_drafts h_M_starts h_M_heads h_M_tails h_M_chosen h_M_orders h_M_sizes cI cZ M_jobs M_many M_isPlanned M_least M_optima M_jobOf M_machineOf M_durations M_arcs M_drafts M_starts M_heads M_tails M_chosen M_orders M_sizes) sz)) 0 0 (va_A (wM h_M h_M_jobOf h_M_machineOf h_M_durations h_M_arcs h_M_drafts h_M_starts h_M_heads h_M_tails h_M_chosen h_M_orders h_M_sizes cI cZ M_jobs M_many M_isPlanned M_least M_optima M_jobOf M_machineOf M_durations M_arcs M_drafts M_starts M_heads M_tails M_chosen M_orders M_sizes) sz) := by
  refine Met.ofW (cc := cX3_isPair) (maxL := 3) (ret := (some .boolean)) (by decide) rfl ?_
  intro p e s m args below meth c s₁ B hml hv
  obtain ⟨rfl, hsz, hP, hK, hD0⟩ := hv
  have hx := B.exec
  have hb := B.bytes
  have hr := B.returns
  have hts := atoms_spec (ws := wsX3_isPair) B.pre
  have hown : s.vm.findClass RX3 = some m.cls := findClass_of_methodNamed B.named
  have hlocks := B.notSynchronized
  subst hsz
  have hD := hD0.self (sz := s.heap.size)
  generalize hAe : va_A (wM h_M h_M_jobOf h_M_machineOf h_M_durations h_M_arcs h_M_drafts h_M_starts h_M_heads h_M_tails h_M_chosen h_M_orders h_M_sizes cI cZ M_jobs M_many M_isPlanned M_least M_optima M_jobOf M_machineOf M_durations M_arcs M_drafts M_starts M_heads M_tails M_chosen M_orders M_sizes) s.heap.size = A at hD ⊢
  have hA : ∀ q : Nat, s.heap.size ≤ q → A q := fun q h => by rw [← hAe]; exact Or.inr h
  have hS : va_S A s.heap s.heap [] := va_S.rf
  have hP : va_P (dC, dI) vwCl (wM h_M h_M_jobOf h_M_machineOf h_M_durations h_M_arcs h_M_drafts h_M_starts h_M_heads h_M_tails h_M_chosen h_M_orders h_M_sizes cI cZ M_jobs M_many M_isPlanned M_least M_optima M_jobOf M_machineOf M_durations M_arcs M_drafts M_starts M_heads M_tails M_chosen M_orders M_sizes) s.heap := hP
  have hl := lv_entry ([.ref h_M, .int a0, .int a1]) (n := 3) (Nat.le_of_ble_eq_true rfl)
  rw [lg_entry_eq]
  generalize (lg_sl ([.ref h_M, .int a0, .int a1]) ++ List.replicate (3 - (lg_sl ([.ref h_M, .int a0, .int a1])).length) Slot.unset).toArray = ls at hl ⊢
  have hl : lv_has ls 3 [(0, .ref h_M), (1, .int a0), (2, .int a1)] := hl
  obtain ⟨H, hH⟩ : ∃ H, H = s.heap := ⟨_, rfl⟩
  rw [← hH] at hP
  have hS : va_S A s.heap H [] := by rw [hH]; exact hS
  refine W_heap hH ?_
  unfold wp_X3_isPair at hw
  have hin_X3 : ∀ w ∈ u_ws RX3 TX3 16, w ∈ wsX3_isPair := by decide +kernel
  refine lv_aload_n (pc := 0) hx hb dX3_isPair_0 rfl (lv_at hl 0 rfl) ?_
  refine lv_iload_n (pc := 1) hx hb dX3_isPair_1 rfl (lv_at hl 1 rfl) ?_
  have hPx : va_P (dC, dI) vwCl ([] ++ (wM h_M h_M_jobOf h_M_machineOf h_M_durations h_M_arcs h_M_drafts h_M_starts h_M_heads h_M_tails h_M_chosen h_M_orders h_M_sizes cI cZ M_jobs M_many M_isPlanned M_least M_optima M_jobOf M_machineOf M_durations M_arcs M_drafts M_starts M_heads M_tails M_chosen M_orders M_sizes)) H := hP
  have hDx : va_D A ([] ++ (wM h_M h_M_jobOf h_M_machineOf h_M_durations h_M_arcs h_M_drafts h_M_starts h_M_heads h_M_tails h_M_chosen h_M_orders h_M_sizes cI cZ M_jobs M_many M_isPlanned M_least M_optima M_jobOf M_machineOf M_durations M_arcs M_drafts M_starts M_heads M_tails M_chosen M_orders M_sizes)) := hD
  refine kc_i (pc := 2) (w1 := (fun u : Unit => (wM h_M h_M_jobOf h_M_machineOf h_M_durations h_M_arcs h_M_drafts h_M_starts h_M_heads h_M_tails h_M_chosen h_M_orders h_M_sizes cI cZ M_jobs M_many M_isPlanned M_least M_optima M_jobOf M_machineOf M_durations M_arcs M_drafts M_starts M_heads M_tails M_chosen M_orders M_sizes))) (va_runV (As := [.int a0]) (rest := []) ⟨hx, hb, hml, hown, hts⟩ (c_X3_isOperation l dC dI h_M h_M_jobOf h_M_machineOf h_M_durations h_M_arcs h_M_drafts h_M_starts h_M_heads h_M_tails h_M_chosen h_M_orders h_M_sizes H.size cI cZ M_jobs M_many M_isPlanned M_least M_optima M_jobOf M_machineOf M_durations M_arcs M_drafts M_starts M_heads M_tails M_chosen M_orders M_sizes a0 _ hw) (cwV 1 hts gX3_isPair_X3_isOperation rfl rfl rfl (by decide +kernel) ⟨Nat.le_of_ble_eq_true rfl, Nat.le_of_ble_eq_true rfl⟩) (kc_preVM (q0 := 0) (ci := 3) hK hPx hDx [0, 1] rfl rfl rfl) rfl rfl hl.1 rfl (lv_room (Nat.le_of_ble_eq_true rfl)) dX3_isPair_2 ⟨Nat.zero_le _, Nat.zero_le _⟩) hPx hDx hS hA (fun r_2 u H locs hw hP hD hS => ?_)
  have hP : va_P (dC, dI) vwCl (wM h_M h_M_jobOf h_M_machineOf h_M_durations h_M_arcs h_M_drafts h_M_starts h_M_heads h_M_tails h_M_chosen h_M_orders h_M_sizes cI cZ M_jobs M_many M_isPlanned M_least M_optima M_jobOf M_machineOf M_durations M_arcs M_drafts M_starts M_heads M_tails M_chosen M_orders M_sizes) H := hP
  have hD : va_D A (wM h_M h_M_jobOf h_M_machineOf h_M_durations h_M_arcs h_M_drafts h_M_starts h_M_heads h_M_tails h_M_chosen h_M_orders h_M_sizes cI cZ M_jobs M_many M_isPlanned M_least M_optima M_jobOf M_machineOf M_durations M_arcs M_drafts M_starts M_heads M_tails M_chosen M_orders M_sizes) := hD
  refine lv_if_eq (tgt := 40) (pc := 5) hx hb dX3_isPair_5 (by decide) (fun c_1 => ?_) (fun c_1 => ?_)
  · have hw := hw.1 c_1
    refine lv_iconst (v := 0) (pc := 40) hx hb dX3_isPair_40 (by decide) ?_
    exact W.zret (v := 0) hx hb hr rfl (fun t ht hW => ⟨⟨0, (), rfl, hw, by rw [ht]; exact hP, va_K.moved hW.alike hK, hD⟩, hS.F ht⟩) hS.2.2 dX3_isPair_41
  · have hw := hw.2 c_1
    refine lv_aload_n (pc := 8) hx hb dX3_isPair_8 rfl (lv_at hl 0 rfl) ?_
    refine lv_iload_n (pc := 9) hx hb dX3_isPair_9 rfl (lv_at hl 2 rfl) ?_
    have hPx : va_P (dC, dI) vwCl ([] ++ (wM h_M h_M_jobOf h_M_machineOf h_M_durations h_M_arcs h_M_drafts h_M_starts h_M_heads h_M_tails h_M_chosen h_M_orders h_M_sizes cI cZ M_jobs M_many M_isPlanned M_least M_optima M_jobOf M_machineOf M_durations M_arcs M_drafts M_starts M_heads M_tails M_chosen M_orders M_sizes)) H := hP
    have hDx : va_D A ([] ++ (wM h_M h_M_jobOf h_M_machineOf h_M_durations h_M_arcs h_M_drafts h_M_starts h_M_heads h_M_tails h_M_chosen h_M_orders h_M_sizes cI cZ M_jobs M_many M_isPlanned M_least M_optima M_jobOf M_machineOf M_durations M_arcs M_drafts M_starts M_heads M_tails M_chosen M_orders M_sizes)) := hD
    refine kc_i (pc := 10) (w1 := (fun u : Unit => (wM h_M h_M_jobOf h_M_machineOf h_M_durations h_M_arcs h_M_drafts h_M_starts h_M_heads h_M_tails h_M_chosen h_M_orders h_M_sizes cI cZ M_jobs M_many M_isPlanned M_least M_optima M_jobOf M_machineOf M_durations M_arcs M_drafts M_starts M_heads M_tails M_chosen M_orders M_sizes))) (va_runV (As := [.int a1]) (rest := []) ⟨hx, hb, hml, hown, hts⟩ (c_X3_isOperation l dC dI h_M h_M_jobOf h_M_machineOf h_M_durations h_M_arcs h_M_drafts h_M_starts h_M_heads h_M_tails h_M_chosen h_M_orders h_M_sizes H.size cI cZ M_jobs M_many M_isPlanned M_least M_optima M_jobOf M_machineOf M_durations M_arcs M_drafts M_starts M_heads M_tails M_chosen M_orders M_sizes a1 _ hw) (cwV 1 hts gX3_isPair_X3_isOperation rfl rfl rfl (by decide +kernel) ⟨Nat.le_of_ble_eq_true rfl, Nat.le_of_ble_eq_true rfl⟩) (kc_preVM (q0 := 0) (ci := 3) hK hPx hDx [0, 1] rfl rfl rfl) rfl rfl hl.1 rfl (lv_room (Nat.le_of_ble_eq_true rfl)) dX3_isPair_10 ⟨Nat.zero_le _, Nat.zero_le _⟩) hPx hDx hS hA (fun r_10 u H locs hw hP hD hS => ?_)
    have hP : va_P (dC, dI) vwCl (wM h_M h_M_jobOf h_M_machineOf h_M_durations h_M_arcs h_M_drafts h_M_starts h_M_heads h_M_tails h_M_chosen h_M_orders h_M_sizes cI cZ M_jobs M_many M_isPlanned M_least M_optima M_jobOf M_machineOf M_durations M_arcs M_drafts M_starts M_heads M_tails M_chosen M_orders M_sizes) H := hP
    have hD : va_D A (wM h_M h_M_jobOf h_M_machineOf h_M_durations h_M_arcs h_M_drafts h_M_starts h_M_heads h_M_tails h_M_chosen h_M_orders h_M_sizes cI cZ M_jobs M_many M_isPlanned M_least M_optima M_jobOf M_machineOf M_durations M_arcs M_drafts M_starts M_heads M_tails M_chosen M_orders M_sizes) := hD
    refine lv_if_eq (tgt := 40) (pc := 13) hx hb dX3_isPair_13 (by decide) (fun c_2 => ?_) (fun c_2 => ?_)
    · have hw := hw.1 c_2
      refine lv_iconst (v := 0) (pc := 40) hx hb dX3_isPair_40 (by decide) ?_
      exact W.zret (v := 0) hx hb hr rfl (fun t ht hW => ⟨⟨0, (), rfl, hw, by rw [ht]; exact hP, va_K.moved hW.alike hK, hD⟩, hS.F ht⟩) hS.2.2 dX3_isPair_41
    · have hw := hw.2 c_2
      refine lv_iload_n (pc := 16) hx hb dX3_isPair_16 rfl (lv_at hl 1 rfl) ?_
      refine lv_iload_n (pc := 17) hx hb dX3_isPair_17 rfl (lv_at hl 2 rfl) ?_
      refine lv_icmp_eq (tgt := 40) (pc := 18) hx hb dX3_isPair_18 (by decide) (fun c_3 => ?_) (fun c_3 => ?_)
      · have hw := hw.1 c_3
        refine lv_iconst (v := 0) (pc := 40) hx hb dX3_isPair_40 (by decide) ?_
        exact W.zret (v := 0) hx hb hr rfl (fun t ht hW => ⟨⟨0, (), rfl, hw, by rw [ht]; exact hP, va_K.moved hW.alike hK, hD⟩, hS.F ht⟩) hS.2.2 dX3_isPair_41
      · have hw := hw.2 c_3
        refine lv_aload_n (pc := 21) hx hb dX3_isPair_21 rfl (lv_at hl 0 rfl) ?_
        refine va_get (D := (dC, dI)) (ci := 3) (v := .ref h_M_machineOf) (C := RX3) (T := TX3) (N := 16) (pc := 22) hx hb hts hin_X3 hown hK hP 0 rfl rfl 3 (by decide) (hts (.fieldLink RX3 13 "JobShopModel" "machineOf" "[I") (by decide +kernel)) (fun _ h9 => h9) rfl dX3_isPair_22 ?_
        refine lv_iload_n (pc := 25) hx hb dX3_isPair_25 rfl (lv_at hl 1 rfl) ?_
        obtain ⟨b_4, hw⟩ := hw
        refine va_iald (pc := 26) hx hb hK hP 2 0 rfl rfl b_4 dX3_isPair_26 ?_
        refine lv_aload_n (pc := 27) hx hb dX3_isPair_27 rfl (lv_at hl 0 rfl) ?_
        refine va_get (D := (dC, dI)) (ci := 3) (v := .ref h_M_machineOf) (C := RX3) (T := TX3) (N := 16) (pc := 28) hx hb hts hin_X3 hown hK hP 0 rfl rfl 3 (by decide) (hts (.fieldLink RX3 13 "JobShopModel" "machineOf" "[I") (by decide +kernel)) (fun _ h9 => h9) rfl dX3_isPair_28 ?_
        refine lv_iload_n (pc := 31) hx hb dX3_isPair_31 rfl (lv_at hl 2 rfl) ?_
        obtain ⟨b_5, hw⟩ := hw
        refine va_iald (pc := 32) hx hb hK hP 2 0 rfl rfl b_5 dX3_isPair_32 ?_
        refine lv_icmp_ne (tgt := 40) (pc := 33) hx hb dX3_isPair_33 (by decide) (fun c_6 => ?_) (fun c_6 => ?_)
        · have hw := hw.1 c_6
          refine lv_iconst (v := 0) (pc := 40) hx hb dX3_isPair_40 (by decide) ?_
          exact W.zret (v := 0) hx hb hr rfl (fun t ht hW => ⟨⟨0, (), rfl, hw, by rw [ht]; exact hP, va_K.moved hW.alike hK, hD⟩, hS.F ht⟩) hS.2.2 dX3_isPair_41
        · have hw := hw.2 c_6
          refine lv_iconst (v := 1) (pc := 36) hx hb dX3_isPair_36 (by decide) ?_
          refine lv_goto (tgt := 41) (pc := 37) hx hb dX3_isPair_37 (by decide) ?_
          exact W.zret (v := 1) hx hb hr rfl (fun t ht hW => ⟨⟨1, (), rfl, hw, by rw [ht]; exact hP, va_K.moved hW.alike hK, hD⟩, hS.F ht⟩) hS.2.2 dX3_isPair_41
set_option maxHeartbeats 4000000 in
set_option maxRecDepth 100000 in
theorem c_X3_forget (l : Launch) (dC : Nat → ClassId) (dI : Nat → Nat → Nat) (h_M h_M_jobOf h_M_machineOf h_M_durations h_M_arcs h_M_drafts h_M_starts h_M_heads h_M_tails h_M_chosen h_M_orders h_M_sizes : Nat) (sz : Nat) (cI cZ : ClassId) (M_jobs : Int32) (M_many : Int32) (M_isPlanned : Int32) (M_least : Int32) (M_optima : Int32) (M_jobOf : Nat → Int32) (M_machineOf : Nat → Int32) (M_durations : Nat → Int32) (M_arcs : Nat → Int32) (M_drafts : Nat → Int32) (M_starts : Nat → Int32) (M_heads : Nat → Int32) (M_tails : Nat → Int32) (M_chosen : Nat → Int32) (M_orders : Nat → Int32) (M_sizes : Nat → Int32) (post : Int32 → Prop) (hw : wp_X3_forget M_isPlanned post) : Met l yX3_forget wsX3_forget ({ frames := 0, cells := 0, slots := 0, locals := 0 }) (va_Pc [.ref h_M] (fun U => U.heap.size = sz ∧ va_P (dC, dI) vwCl (wM h_M h_M_jobOf h_M_machineOf h_M_durations h_M_arcs h_M_drafts h_M_starts h_M_heads h_M_tails h_M_chosen h_M_orders h_M_sizes cI cZ M_jobs M_many M_isPlanned M_least M_optima M_jobOf M_machineOf M_durations M_arcs M_drafts M_starts M_heads M_tails M_chosen M_orders M_sizes) U.heap ∧ va_K (dC, dI) vwCl [(cI, .int), (cZ, .boolean)] U ∧ va_D (fun _ => True) (wM h_M h_M_jobOf h_M_machineOf h_M_durations h_M_arcs h_M_drafts h_M_starts h_M_heads h_M_tails h_M_chosen h_M_orders h_M_sizes cI cZ M_jobs M_many M_isPlanned M_least M_optima M_jobOf M_machineOf M_durations M_arcs M_drafts M_starts M_heads M_tails M_chosen M_orders M_sizes))) (va_Qv (fun (u : Int32) => post u) (fun u t => va_P (dC, dI) vwCl (wM h_M h_M_jobOf h_M_machineOf h_M_durations h_M_arcs h_M_drafts h_M_starts h_M_heads h_M_tails h_M_chosen h_M_orders h_M_sizes cI cZ M_jobs M_many u M_least M_optima M_jobOf M_machineOf M_durations M_arcs M_drafts M_starts M_heads M_tails M_chosen M_orders M_sizes) t.heap ∧ va_K (dC, dI) vwCl [(cI, .int), (cZ, .boolean)] t ∧ va_D (va_A (wM h_M h_M_jobOf h_M_machineOf h_M_durations h_M_arcs h_M_drafts h_M_starts h_M_heads h_M_tails h_M_chosen h_M_orders h_M_sizes cI cZ M_jobs M_many M_isPlanned M_least M_optima M_jobOf M_machineOf M_durations M_arcs M_drafts M_starts M_heads M_tails M_chosen M_orders M_sizes) sz) (wM h_M h_M_jobOf h_M_machineOf h_M_durations h_M_arcs h_M_drafts h_M_starts h_M_heads h_M_tails h_M_chosen h_M_orders h_M_sizes cI cZ M_jobs M_many u M_least M_optima M_jobOf M_machineOf M_durations M_arcs M_drafts M_starts M_heads M_tails M_chosen M_orders M_sizes)) (va_A (wM h_M h_M_jobOf h_M_machineOf h_M_durations h_M_arcs h_M_drafts h_M_starts h_M_heads h_M_tails h_M_chosen h_M_orders h_M_sizes cI cZ M_jobs M_many M_isPlanned M_least M_optima M_jobOf M_machineOf M_durations M_arcs M_drafts M_starts M_heads M_tails M_chosen M_orders M_sizes) sz)) 0 0 (va_A (wM h_M h_M_jobOf h_M_machineOf h_M_durations h_M_arcs h_M_drafts h_M_starts h_M_heads h_M_tails h_M_chosen h_M_orders h_M_sizes cI cZ M_jobs M_many M_isPlanned M_least M_optima M_jobOf M_machineOf M_durations M_arcs M_drafts M_starts M_heads M_tails M_chosen M_orders M_sizes) sz) := by
  refine Met.ofW (cc := cX3_forget) (maxL := 1) (ret := none) (by decide) rfl ?_
  intro p e s m args below meth c s₁ B hml hv
  obtain ⟨rfl, hsz, hP, hK, hD0⟩ := hv
  have hx := B.exec
  have hb := B.bytes
  have hr := B.returns
  have hts := atoms_spec (ws := wsX3_forget) B.pre
  have hown : s.vm.findClass RX3 = some m.cls := findClass_of_methodNamed B.named
  have hlocks := B.notSynchronized
  subst hsz
  have hD := hD0.self (sz := s.heap.size)
  generalize hAe : va_A (wM h_M h_M_jobOf h_M_machineOf h_M_durations h_M_arcs h_M_drafts h_M_starts h_M_heads h_M_tails h_M_chosen h_M_orders h_M_sizes cI cZ M_jobs M_many M_isPlanned M_least M_optima M_jobOf M_machineOf M_durations M_arcs M_drafts M_starts M_heads M_tails M_chosen M_orders M_sizes) s.heap.size = A at hD ⊢
  have hA : ∀ q : Nat, s.heap.size ≤ q → A q := fun q h => by rw [← hAe]; exact Or.inr h
  have hS : va_S A s.heap s.heap [] := va_S.rf
  have hP : va_P (dC, dI) vwCl (wM h_M h_M_jobOf h_M_machineOf h_M_durations h_M_arcs h_M_drafts h_M_starts h_M_heads h_M_tails h_M_chosen h_M_orders h_M_sizes cI cZ M_jobs M_many M_isPlanned M_least M_optima M_jobOf M_machineOf M_durations M_arcs M_drafts M_starts M_heads M_tails M_chosen M_orders M_sizes) s.heap := hP
  have hl := lv_entry ([.ref h_M]) (n := 1) (Nat.le_of_ble_eq_true rfl)
  rw [lg_entry_eq]
  generalize (lg_sl ([.ref h_M]) ++ List.replicate (1 - (lg_sl ([.ref h_M])).length) Slot.unset).toArray = ls at hl ⊢
  have hl : lv_has ls 1 [(0, .ref h_M)] := hl
  obtain ⟨H, hH⟩ : ∃ H, H = s.heap := ⟨_, rfl⟩
  rw [← hH] at hP
  have hS : va_S A s.heap H [] := by rw [hH]; exact hS
  refine W_heap hH ?_
  unfold wp_X3_forget at hw
  have hin_X3 : ∀ w ∈ u_ws RX3 TX3 16, w ∈ wsX3_forget := by decide +kernel
  refine lv_aload_n (pc := 0) hx hb dX3_forget_0 rfl (lv_at hl 0 rfl) ?_
  refine lv_iconst (v := 0) (pc := 1) hx hb dX3_forget_1 (by decide) ?_
  refine va_put (D := (dC, dI)) (ci := 3) (v := .int 0) (ty := .boolean) (C := RX3) (T := TX3) (N := 16) (pc := 2) hx hb hts hin_X3 tyX3 tyX3_ok nmX3 hown hK hP hD hS 0 rfl rfl 7 (by decide) (hts (.fieldLink RX3 59 "JobShopModel" "isPlanned" "Z") (by decide +kernel)) (fun _ h9 => h9) rfl (by decide +kernel) rfl rfl (Nat.le_of_ble_eq_true rfl) dX3_forget_2 (fun H locs hP hD hS => ?_)
  have hP : va_P (dC, dI) vwCl (wM h_M h_M_jobOf h_M_machineOf h_M_durations h_M_arcs h_M_drafts h_M_starts h_M_heads h_M_tails h_M_chosen h_M_orders h_M_sizes cI cZ M_jobs M_many 0 M_least M_optima M_jobOf M_machineOf M_durations M_arcs M_drafts M_starts M_heads M_tails M_chosen M_orders M_sizes) H := hP
  have hD : va_D A (wM h_M h_M_jobOf h_M_machineOf h_M_durations h_M_arcs h_M_drafts h_M_starts h_M_heads h_M_tails h_M_chosen h_M_orders h_M_sizes cI cZ M_jobs M_many 0 M_least M_optima M_jobOf M_machineOf M_durations M_arcs M_drafts M_starts M_heads M_tails M_chosen M_orders M_sizes) := hD
  exact W.vret hx hb hr (fun t ht hW => ⟨⟨0, rfl, hw, by rw [ht]; exact hP, va_K.moved hW.alike hK, hD⟩, hS.F ht⟩) hS.2.2 dX3_forget_5
set_option maxHeartbeats 4000000 in
set_option maxRecDepth 100000 in
theorem c_X3_clear (l : Launch) (dC : Nat → ClassId) (dI : Nat → Nat → Nat) (h_M h_M_jobOf h_M_machineOf h_M_durations h_M_arcs h_M_drafts h_M_starts h_M_heads h_M_tails h_M_chosen h_M_orders h_M_sizes : Nat) (sz : Nat) (cI cZ : ClassId) (M_jobs : Int32) (M_many : Int32) (M_isPlanned : Int32) (M_least : Int32) (M_optima : Int32) (M_jobOf : Nat → Int32) (M_machineOf : Nat → Int32) (M_durations : Nat → Int32) (M_arcs : Nat → Int32) (M_drafts : Nat → Int32) (M_starts : Nat → Int32) (M_heads : Nat → Int32) (M_tails : Nat → Int32) (M_chosen : Nat → Int32) (M_orders : Nat → Int32) (M_sizes : Nat → Int32) (post : Int32 → Int32 → Int32 → Int32 → (Nat → Int32) → (Nat → Int32) → Prop) (hw : wp_X3_clear M_jobs M_many M_isPlanned M_arcs M_drafts post) : Met l yX3_clear wsX3_clear ({ frames := 1, cells := 0, slots := 0, locals := 20 }) (va_Pc [.ref h_M] (fun U => U.heap.size = sz ∧ va_P (dC, dI) vwCl (wM h_M h_M_jobOf h_M_machineOf h_M_durations h_M_arcs h_M_drafts h_M_starts h_M_heads h_M_tails h_M_chosen h_M_orders h_M_sizes cI cZ M_jobs M_many M_isPlanned M_least M_optima M_jobOf M_machineOf M_durations M_arcs M_drafts M_starts M_heads M_tails M_chosen M_orders M_sizes) U.heap ∧ va_K (dC, dI) vwCl [(cI, .int), (cZ, .boolean)] U ∧ va_D (fun _ => True) (wM h_M h_M_jobOf h_M_machineOf h_M_durations h_M_arcs h_M_drafts h_M_starts h_M_heads h_M_tails h_M_chosen h_M_orders h_M_sizes cI cZ M_jobs M_many M_isPlanned M_least M_optima M_jobOf M_machineOf M_durations M_arcs M_drafts M_starts M_heads M_tails M_chosen M_orders M_sizes))) (va_Qi (fun (r : Int32) (u : Int32 × Int32 × Int32 × (Nat → Int32) × (Nat → Int32)) => post r u.1 u.2.1 u.2.2.1 u.2.2.2.1 u.2.2.2.2) (fun u t => va_P (dC, dI) vwCl (wM h_M h_M_jobOf h_M_machineOf h_M_durations h_M_arcs h_M_drafts h_M_starts h_M_heads h_M_tails h_M_chosen h_M_orders h_M_sizes cI cZ u.1 u.2.1 u.2.2.1 M_least M_optima M_jobOf M_machineOf M_durations u.2.2.2.1 u.2.2.2.2 M_starts M_heads M_tails M_chosen M_orders M_sizes) t.heap ∧ va_K (dC, dI) vwCl [(cI, .int), (cZ, .boolean)] t ∧ va_D (va_A (wM h_M h_M_jobOf h_M_machineOf h_M_durations h_M_arcs h_M_drafts h_M_starts h_M_heads h_M_tails h_M_chosen h_M_orders h_M_sizes cI cZ M_jobs M_many M_isPlanned M_least M_optima M_jobOf M_machineOf M_durations M_arcs M_drafts M_starts M_heads M_tails M_chosen M_orders M_sizes) sz) (wM h_M h_M_jobOf h_M_machineOf h_M_durations h_M_arcs h_M_drafts h_M_starts h_M_heads h_M_tails h_M_chosen h_M_orders h_M_sizes cI cZ u.1 u.2.1 u.2.2.1 M_least M_optima M_jobOf M_machineOf M_durations u.2.2.2.1 u.2.2.2.2 M_starts M_heads M_tails M_chosen M_orders M_sizes)) (va_A (wM h_M h_M_jobOf h_M_machineOf h_M_durations h_M_arcs h_M_drafts h_M_starts h_M_heads h_M_tails h_M_chosen h_M_orders h_M_sizes cI cZ M_jobs M_many M_isPlanned M_least M_optima M_jobOf M_machineOf M_durations M_arcs M_drafts M_starts M_heads M_tails M_chosen M_orders M_sizes) sz)) 0 0 (va_A (wM h_M h_M_jobOf h_M_machineOf h_M_durations h_M_arcs h_M_drafts h_M_starts h_M_heads h_M_tails h_M_chosen h_M_orders h_M_sizes cI cZ M_jobs M_many M_isPlanned M_least M_optima M_jobOf M_machineOf M_durations M_arcs M_drafts M_starts M_heads M_tails M_chosen M_orders M_sizes) sz) := by
  refine Met.ofW (cc := cX3_clear) (maxL := 3) (ret := (some .int)) (by decide) rfl ?_
  intro p e s m args below meth c s₁ B hml hv
  obtain ⟨rfl, hsz, hP, hK, hD0⟩ := hv
  have hx := B.exec
  have hb := B.bytes
  have hr := B.returns
  have hts := atoms_spec (ws := wsX3_clear) B.pre
  have hown : s.vm.findClass RX3 = some m.cls := findClass_of_methodNamed B.named
  have hlocks := B.notSynchronized
  subst hsz
  have hD := hD0.self (sz := s.heap.size)
  generalize hAe : va_A (wM h_M h_M_jobOf h_M_machineOf h_M_durations h_M_arcs h_M_drafts h_M_starts h_M_heads h_M_tails h_M_chosen h_M_orders h_M_sizes cI cZ M_jobs M_many M_isPlanned M_least M_optima M_jobOf M_machineOf M_durations M_arcs M_drafts M_starts M_heads M_tails M_chosen M_orders M_sizes) s.heap.size = A at hD ⊢
  have hA : ∀ q : Nat, s.heap.size ≤ q → A q := fun q h => by rw [← hAe]; exact Or.inr h
  have hS : va_S A s.heap s.heap [] := va_S.rf
  have hP : va_P (dC, dI) vwCl (wM h_M h_M_jobOf h_M_machineOf h_M_durations h_M_arcs h_M_drafts h_M_starts h_M_heads h_M_tails h_M_chosen h_M_orders h_M_sizes cI cZ M_jobs M_many M_isPlanned M_least M_optima M_jobOf M_machineOf M_durations M_arcs M_drafts M_starts M_heads M_tails M_chosen M_orders M_sizes) s.heap := hP
  have hl := lv_entry ([.ref h_M]) (n := 3) (Nat.le_of_ble_eq_true rfl)
  rw [lg_entry_eq]
  generalize (lg_sl ([.ref h_M]) ++ List.replicate (3 - (lg_sl ([.ref h_M])).length) Slot.unset).toArray = ls at hl ⊢
  have hl : lv_has ls 3 [(0, .ref h_M)] := hl
  obtain ⟨H, hH⟩ : ∃ H, H = s.heap := ⟨_, rfl⟩
  rw [← hH] at hP
  have hS : va_S A s.heap H [] := by rw [hH]; exact hS
  refine W_heap hH ?_
  unfold wp_X3_clear at hw
  have hin_X3 : ∀ w ∈ u_ws RX3 TX3 16, w ∈ wsX3_clear := by decide +kernel
  refine lv_aload_n (pc := 0) hx hb dX3_clear_0 rfl (lv_at hl 0 rfl) ?_
  refine va_get (D := (dC, dI)) (ci := 3) (v := .int M_many) (C := RX3) (T := TX3) (N := 16) (pc := 1) hx hb hts hin_X3 hown hK hP 0 rfl rfl 1 (by decide) (hts (.fieldLink RX3 48 "JobShopModel" "many" "I") (by decide +kernel)) (fun _ h9 => h9) rfl dX3_clear_1 ?_
  refine lv_istore_n (lv' := [(1, .int M_many), (0, .ref h_M)]) (pc := 4) hx hb dX3_clear_4 rfl hl (by decide) rfl (fun ls hl => ?_)
  refine lv_aload_n (pc := 5) hx hb dX3_clear_5 rfl (lv_at hl 1 rfl) ?_
  refine lv_iconst (v := 0) (pc := 6) hx hb dX3_clear_6 (by decide) ?_
  refine va_put (D := (dC, dI)) (ci := 3) (v := .int 0) (ty := .int) (C := RX3) (T := TX3) (N := 16) (pc := 7) hx hb hts hin_X3 tyX3 tyX3_ok nmX3 hown hK hP hD hS 0 rfl rfl 0 (by decide) (hts (.fieldLink RX3 63 "JobShopModel" "jobs" "I") (by decide +kernel)) (fun _ h9 => h9) rfl (by decide +kernel) rfl rfl (Nat.le_of_ble_eq_true rfl) dX3_clear_7 (fun H locs hP hD hS => ?_)
  have hP : va_P (dC, dI) vwCl (wM h_M h_M_jobOf h_M_machineOf h_M_durations h_M_arcs h_M_drafts h_M_starts h_M_heads h_M_tails h_M_chosen h_M_orders h_M_sizes cI cZ 0 M_many M_isPlanned M_least M_optima M_jobOf M_machineOf M_durations M_arcs M_drafts M_starts M_heads M_tails M_chosen M_orders M_sizes) H := hP
  have hD : va_D A (wM h_M h_M_jobOf h_M_machineOf h_M_durations h_M_arcs h_M_drafts h_M_starts h_M_heads h_M_tails h_M_chosen h_M_orders h_M_sizes cI cZ 0 M_many M_isPlanned M_least M_optima M_jobOf M_machineOf M_durations M_arcs M_drafts M_starts M_heads M_tails M_chosen M_orders M_sizes) := hD
  refine lv_aload_n (pc := 10) hx hb dX3_clear_10 rfl (lv_at hl 1 rfl) ?_
  refine lv_iconst (v := 0) (pc := 11) hx hb dX3_clear_11 (by decide) ?_
  refine va_put (D := (dC, dI)) (ci := 3) (v := .int 0) (ty := .int) (C := RX3) (T := TX3) (N := 16) (pc := 12) hx hb hts hin_X3 tyX3 tyX3_ok nmX3 hown hK hP hD hS 0 rfl rfl 1 (by decide) (hts (.fieldLink RX3 48 "JobShopModel" "many" "I") (by decide +kernel)) (fun _ h9 => h9) rfl (by decide +kernel) rfl rfl (Nat.le_of_ble_eq_true rfl) dX3_clear_12 (fun H locs hP hD hS => ?_)
  have hP : va_P (dC, dI) vwCl (wM h_M h_M_jobOf h_M_machineOf h_M_durations h_M_arcs h_M_drafts h_M_starts h_M_heads h_M_tails h_M_chosen h_M_orders h_M_sizes cI cZ 0 0 M_isPlanned M_least M_optima M_jobOf M_machineOf M_durations M_arcs M_drafts M_starts M_heads M_tails M_chosen M_orders M_sizes) H := hP
  have hD : va_D A (wM h_M h_M_jobOf h_M_machineOf h_M_durations h_M_arcs h_M_drafts h_M_starts h_M_heads h_M_tails h_M_chosen h_M_orders h_M_sizes cI cZ 0 0 M_isPlanned M_least M_optima M_jobOf M_machineOf M_durations M_arcs M_drafts M_starts M_heads M_tails M_chosen M_orders M_sizes) := hD
  refine lv_iconst (v := 0) (pc := 15) hx hb dX3_clear_15 (by decide) ?_
  refine lv_istore_n (lv' := [(2, .int 0), (1, .int M_many), (0, .ref h_M)]) (pc := 16) hx hb dX3_clear_16 rfl hl (by decide) rfl (fun ls hl => ?_)
  obtain ⟨I_17, μ_17, hI_17, hs_17⟩ := hw
  refine lp_W (I := fun z : Int32 × (Nat → Int32) => I_17 z.1 z.2) (fun z => μ_17 z.1 z.2) (fun (z : Int32 × (Nat → Int32)) H locs ls => va_P (dC, dI) vwCl (wM h_M h_M_jobOf h_M_machineOf h_M_durations h_M_arcs h_M_drafts h_M_starts h_M_heads h_M_tails h_M_chosen h_M_orders h_M_sizes cI cZ 0 0 M_isPlanned M_least M_optima M_jobOf M_machineOf M_durations z.2 M_drafts M_starts M_heads M_tails M_chosen M_orders M_sizes) H ∧ va_D A (wM h_M h_M_jobOf h_M_machineOf h_M_durations h_M_arcs h_M_drafts h_M_starts h_M_heads h_M_tails h_M_chosen h_M_orders h_M_sizes cI cZ 0 0 M_isPlanned M_least M_optima M_jobOf M_machineOf M_durations z.2 M_drafts M_starts M_heads M_tails M_chosen M_orders M_sizes) ∧ va_S A s.heap H locs ∧ lv_has ls 3 [(0, .ref h_M), (1, .int M_many), (2, .int z.1)]) ?_ (0, M_arcs) _ _ _ hI_17 ⟨hP, hD, hS, (lv_sub hl [2, 1, 0] rfl)⟩
  rintro ⟨x2_17, M_arcs_17⟩ H locs ls hI ⟨hP, hD, hS, hl⟩ ih_17
  have hw := hs_17 x2_17 M_arcs_17 hI
  have hP : va_P (dC, dI) vwCl (wM h_M h_M_jobOf h_M_machineOf h_M_durations h_M_arcs h_M_drafts h_M_starts h_M_heads h_M_tails h_M_chosen h_M_orders h_M_sizes cI cZ 0 0 M_isPlanned M_least M_optima M_jobOf M_machineOf M_durations M_arcs_17 M_drafts M_starts M_heads M_tails M_chosen M_orders M_sizes) H := hP
  have hD : va_D A (wM h_M h_M_jobOf h_M_machineOf h_M_durations h_M_arcs h_M_drafts h_M_starts h_M_heads h_M_tails h_M_chosen h_M_orders h_M_sizes cI cZ 0 0 M_isPlanned M_least M_optima M_jobOf M_machineOf M_durations M_arcs_17 M_drafts M_starts M_heads M_tails M_chosen M_orders M_sizes) := hD
  have hl : lv_has ls 3 [(0, .ref h_M), (1, .int M_many), (2, .int x2_17)] := hl
  refine lv_iload_n (pc := 17) hx hb dX3_clear_17 rfl (lv_at hl 2 rfl) ?_
  refine lv_sipush (v := 144) (pc := 18) hx hb dX3_clear_18 (by decide) ?_
  refine lv_icmp_ge (tgt := 37) (pc := 21) hx hb dX3_clear_21 (by decide) (fun c_1 => ?_) (fun c_1 => ?_)
  · have hw := hw.1 c_1
    refine lv_iconst (v := 0) (pc := 37) hx hb dX3_clear_37 (by decide) ?_
    refine lv_istore_n (lv' := [(2, .int 0), (0, .ref h_M), (1, .int M_many)]) (pc := 38) hx hb dX3_clear_38 rfl hl (by decide) rfl (fun ls hl => ?_)
    obtain ⟨I_39, μ_39, hI_39, hs_39⟩ := hw
    refine lp_W (I := fun z : Int32 × (Nat → Int32) => I_39 z.1 z.2) (fun z => μ_39 z.1 z.2) (fun (z : Int32 × (Nat → Int32)) H locs ls => va_P (dC, dI) vwCl (wM h_M h_M_jobOf h_M_machineOf h_M_durations h_M_arcs h_M_drafts h_M_starts h_M_heads h_M_tails h_M_chosen h_M_orders h_M_sizes cI cZ 0 0 M_isPlanned M_least M_optima M_jobOf M_machineOf M_durations M_arcs_17 z.2 M_starts M_heads M_tails M_chosen M_orders M_sizes) H ∧ va_D A (wM h_M h_M_jobOf h_M_machineOf h_M_durations h_M_arcs h_M_drafts h_M_starts h_M_heads h_M_tails h_M_chosen h_M_orders h_M_sizes cI cZ 0 0 M_isPlanned M_least M_optima M_jobOf M_machineOf M_durations M_arcs_17 z.2 M_starts M_heads M_tails M_chosen M_orders M_sizes) ∧ va_S A s.heap H locs ∧ lv_has ls 3 [(0, .ref h_M), (1, .int M_many), (2, .int z.1)]) ?_ (0, M_drafts) _ _ _ hI_39 ⟨hP, hD, hS, (lv_sub hl [1, 2, 0] rfl)⟩
    rintro ⟨x2_39, M_drafts_39⟩ H locs ls hI ⟨hP, hD, hS, hl⟩ ih_39
    have hw := hs_39 x2_39 M_drafts_39 hI
    have hP : va_P (dC, dI) vwCl (wM h_M h_M_jobOf h_M_machineOf h_M_durations h_M_arcs h_M_drafts h_M_starts h_M_heads h_M_tails h_M_chosen h_M_orders h_M_sizes cI cZ 0 0 M_isPlanned M_least M_optima M_jobOf M_machineOf M_durations M_arcs_17 M_drafts_39 M_starts M_heads M_tails M_chosen M_orders M_sizes) H := hP
    have hD : va_D A (wM h_M h_M_jobOf h_M_machineOf h_M_durations h_M_arcs h_M_drafts h_M_starts h_M_heads h_M_tails h_M_chosen h_M_orders h_M_sizes cI cZ 0 0 M_isPlanned M_least M_optima M_jobOf M_machineOf M_durations M_arcs_17 M_drafts_39 M_starts M_heads M_tails M_chosen M_orders M_sizes) := hD
    have hl : lv_has ls 3 [(0, .ref h_M), (1, .int M_many), (2, .int x2_39)] := hl
    refine lv_iload_n (pc := 39) hx hb dX3_clear_39 rfl (lv_at hl 2 rfl) ?_
    refine lv_bipush (v := 12) (pc := 40) hx hb dX3_clear_40 (by decide) ?_
    refine lv_icmp_ge (tgt := 58) (pc := 42) hx hb dX3_clear_42 (by decide) (fun c_2 => ?_) (fun c_2 => ?_)
    · have hw := hw.1 c_2
      refine lv_aload_n (pc := 58) hx hb dX3_clear_58 rfl (lv_at hl 0 rfl) ?_
      have hPx : va_P (dC, dI) vwCl ([] ++ (wM h_M h_M_jobOf h_M_machineOf h_M_durations h_M_arcs h_M_drafts h_M_starts h_M_heads h_M_tails h_M_chosen h_M_orders h_M_sizes cI cZ 0 0 M_isPlanned M_least M_optima M_jobOf M_machineOf M_durations M_arcs_17 M_drafts_39 M_starts M_heads M_tails M_chosen M_orders M_sizes)) H := hP
      have hDx : va_D A ([] ++ (wM h_M h_M_jobOf h_M_machineOf h_M_durations h_M_arcs h_M_drafts h_M_starts h_M_heads h_M_tails h_M_chosen h_M_orders h_M_sizes cI cZ 0 0 M_isPlanned M_least M_optima M_jobOf M_machineOf M_durations M_arcs_17 M_drafts_39 M_starts M_heads M_tails M_chosen M_orders M_sizes)) := hD
      refine kc_v (pc := 59) (w1 := (fun u : Int32 => (wM h_M h_M_jobOf h_M_machineOf h_M_durations h_M_arcs h_M_drafts h_M_starts h_M_heads h_M_tails h_M_chosen h_M_orders h_M_sizes cI cZ 0 0 u M_least M_optima M_jobOf M_machineOf M_durations M_arcs_17 M_drafts_39 M_starts M_heads M_tails M_chosen M_orders M_sizes))) (va_runV (As := []) (rest := []) ⟨hx, hb, hml, hown, hts⟩ (c_X3_forget l dC dI h_M h_M_jobOf h_M_machineOf h_M_durations h_M_arcs h_M_drafts h_M_starts h_M_heads h_M_tails h_M_chosen h_M_orders h_M_sizes H.size cI cZ 0 0 M_isPlanned M_least M_optima M_jobOf M_machineOf M_durations M_arcs_17 M_drafts_39 M_starts M_heads M_tails M_chosen M_orders M_sizes _ hw) (cwV 0 hts gX3_clear_X3_forget rfl rfl rfl (by decide +kernel) ⟨Nat.le_of_ble_eq_true rfl, Nat.le_of_ble_eq_true rfl⟩) (kc_preVM (q0 := 0) (ci := 3) hK hPx hDx [0, 1] rfl rfl rfl) rfl rfl hl.1 rfl (lv_room (Nat.le_of_ble_eq_true rfl)) dX3_clear_59 ⟨Nat.zero_le _, Nat.zero_le _⟩) hPx hDx hS hA (fun u H locs hw hP hD hS => ?_)
      obtain ⟨M_isPlanned_59, rfl⟩ : ∃ z, z = u := ⟨_, rfl⟩
      have hP : va_P (dC, dI) vwCl (wM h_M h_M_jobOf h_M_machineOf h_M_durations h_M_arcs h_M_drafts h_M_starts h_M_heads h_M_tails h_M_chosen h_M_orders h_M_sizes cI cZ 0 0 M_isPlanned_59 M_least M_optima M_jobOf M_machineOf M_durations M_arcs_17 M_drafts_39 M_starts M_heads M_tails M_chosen M_orders M_sizes) H := hP
      have hD : va_D A (wM h_M h_M_jobOf h_M_machineOf h_M_durations h_M_arcs h_M_drafts h_M_starts h_M_heads h_M_tails h_M_chosen h_M_orders h_M_sizes cI cZ 0 0 M_isPlanned_59 M_least M_optima M_jobOf M_machineOf M_durations M_arcs_17 M_drafts_39 M_starts M_heads M_tails M_chosen M_orders M_sizes) := hD
      refine lv_iload_n (pc := 62) hx hb dX3_clear_62 rfl (lv_at hl 1 rfl) ?_
      exact W.iret (v := M_many) hx hb hr (fun t ht hW => ⟨⟨M_many, (0, 0, M_isPlanned_59, M_arcs_17, M_drafts_39), rfl, hw, by rw [ht]; exact hP, va_K.moved hW.alike hK, hD⟩, hS.F ht⟩) hS.2.2 dX3_clear_63
    · have hw := hw.2 c_2
      refine lv_aload_n (pc := 45) hx hb dX3_clear_45 rfl (lv_at hl 0 rfl) ?_
      refine va_get (D := (dC, dI)) (ci := 3) (v := .ref h_M_drafts) (C := RX3) (T := TX3) (N := 16) (pc := 46) hx hb hts hin_X3 hown hK hP 0 rfl rfl 6 (by decide) (hts (.fieldLink RX3 23 "JobShopModel" "drafts" "[I") (by decide +kernel)) (fun _ h9 => h9) rfl dX3_clear_46 ?_
      refine lv_iload_n (pc := 49) hx hb dX3_clear_49 rfl (lv_at hl 2 rfl) ?_
      refine lv_iconst (v := 0) (pc := 50) hx hb dX3_clear_50 (by decide) ?_
      obtain ⟨b_3, hw⟩ := hw
      refine va_iast (pc := 51) hx hb hK hP hD hS 5 0 rfl rfl b_3 dX3_clear_51 (fun H locs hP hD hS => ?_)
      have hP : va_P (dC, dI) vwCl (wM h_M h_M_jobOf h_M_machineOf h_M_durations h_M_arcs h_M_drafts h_M_starts h_M_heads h_M_tails h_M_chosen h_M_orders h_M_sizes cI cZ 0 0 M_isPlanned M_least M_optima M_jobOf M_machineOf M_durations M_arcs_17 (upd M_drafts_39 x2_39.toNatClampNeg 0) M_starts M_heads M_tails M_chosen M_orders M_sizes) H := hP
      have hD : va_D A (wM h_M h_M_jobOf h_M_machineOf h_M_durations h_M_arcs h_M_drafts h_M_starts h_M_heads h_M_tails h_M_chosen h_M_orders h_M_sizes cI cZ 0 0 M_isPlanned M_least M_optima M_jobOf M_machineOf M_durations M_arcs_17 (upd M_drafts_39 x2_39.toNatClampNeg 0) M_starts M_heads M_tails M_chosen M_orders M_sizes) := hD
      refine lv_iinc (v := x2_39 + 1) (lv' := [(2, .int (x2_39 + 1)), (0, .ref h_M), (1, .int M_many)]) (pc := 52) hx hb dX3_clear_52 hl (k := 2) rfl rfl (by decide) rfl (fun ls hl => ?_)
      refine lv_goto (tgt := 39) (pc := 55) hx hb dX3_clear_55 (by decide) ?_
      exact ih_39 ((x2_39 + 1), (upd M_drafts_39 x2_39.toNatClampNeg 0)) _ _ _ hw.1 hw.2 ⟨hP, hD, hS, (lv_sub hl [1, 2, 0] rfl)⟩
  · have hw := hw.2 c_1
    refine lv_aload_n (pc := 24) hx hb dX3_clear_24 rfl (lv_at hl 0 rfl) ?_
    refine va_get (D := (dC, dI)) (ci := 3) (v := .ref h_M_arcs) (C := RX3) (T := TX3) (N := 16) (pc := 25) hx hb hts hin_X3 hown hK hP 0 rfl rfl 5 (by decide) (hts (.fieldLink RX3 19 "JobShopModel" "arcs" "[Z") (by decide +kernel)) (fun _ h9 => h9) rfl dX3_clear_25 ?_
    refine lv_iload_n (pc := 28) hx hb dX3_clear_28 rfl (lv_at hl 2 rfl) ?_
    refine lv_iconst (v := 0) (pc := 29) hx hb dX3_clear_29 (by decide) ?_
    obtain ⟨b_4, hw⟩ := hw
    refine va_zast (pc := 30) hx hb hK hP hD hS 4 1 rfl rfl b_4 dX3_clear_30 (fun H locs hP hD hS => ?_)
    have hP : va_P (dC, dI) vwCl (wM h_M h_M_jobOf h_M_machineOf h_M_durations h_M_arcs h_M_drafts h_M_starts h_M_heads h_M_tails h_M_chosen h_M_orders h_M_sizes cI cZ 0 0 M_isPlanned M_least M_optima M_jobOf M_machineOf M_durations (upd M_arcs_17 x2_17.toNatClampNeg (vp_nar .boolean 0)) M_drafts M_starts M_heads M_tails M_chosen M_orders M_sizes) H := hP
    have hD : va_D A (wM h_M h_M_jobOf h_M_machineOf h_M_durations h_M_arcs h_M_drafts h_M_starts h_M_heads h_M_tails h_M_chosen h_M_orders h_M_sizes cI cZ 0 0 M_isPlanned M_least M_optima M_jobOf M_machineOf M_durations (upd M_arcs_17 x2_17.toNatClampNeg (vp_nar .boolean 0)) M_drafts M_starts M_heads M_tails M_chosen M_orders M_sizes) := hD
    refine lv_iinc (v := x2_17 + 1) (lv' := [(2, .int (x2_17 + 1)), (0, .ref h_M), (1, .int M_many)]) (pc := 31) hx hb dX3_clear_31 hl (k := 2) rfl rfl (by decide) rfl (fun ls hl => ?_)
    refine lv_goto (tgt := 17) (pc := 34) hx hb dX3_clear_34 (by decide) ?_
    exact ih_17 ((x2_17 + 1), (upd M_arcs_17 x2_17.toNatClampNeg (vp_nar .boolean 0))) _ _ _ hw.1 hw.2 ⟨hP, hD, hS, (lv_sub hl [1, 2, 0] rfl)⟩
set_option maxHeartbeats 4000000 in
set_option maxRecDepth 100000 in
theorem c_X3_job (l : Launch) (dC : Nat → ClassId) (dI : Nat → Nat → Nat) (h_M h_M_jobOf h_M_machineOf h_M_durations h_M_arcs h_M_drafts h_M_starts h_M_heads h_M_tails h_M_chosen h_M_orders h_M_sizes : Nat) (sz : Nat) (cI cZ : ClassId) (M_jobs : Int32) (M_many : Int32) (M_isPlanned : Int32) (M_least : Int32) (M_optima : Int32) (M_jobOf : Nat → Int32) (M_machineOf : Nat → Int32) (M_durations : Nat → Int32) (M_arcs : Nat → Int32) (M_drafts : Nat → Int32) (M_starts : Nat → Int32) (M_heads : Nat → Int32) (M_tails : Nat → Int32) (M_chosen : Nat → Int32) (M_orders : Nat → Int32) (M_sizes : Nat → Int32) (post : Int32 → Int32 → Prop) (hw : wp_X3_job M_jobs post) : Met l yX3_job wsX3_job ({ frames := 0, cells := 0, slots := 0, locals := 0 }) (va_Pc [.ref h_M] (fun U => U.heap.size = sz ∧ va_P (dC, dI) vwCl (wM h_M h_M_jobOf h_M_machineOf h_M_durations h_M_arcs h_M_drafts h_M_starts h_M_heads h_M_tails h_M_chosen h_M_orders h_M_sizes cI cZ M_jobs M_many M_isPlanned M_least M_optima M_jobOf M_machineOf M_durations M_arcs M_drafts M_starts M_heads M_tails M_chosen M_orders M_sizes) U.heap ∧ va_K (dC, dI) vwCl [(cI, .int), (cZ, .boolean)] U ∧ va_D (fun _ => True) (wM h_M h_M_jobOf h_M_machineOf h_M_durations h_M_arcs h_M_drafts h_M_starts h_M_heads h_M_tails h_M_chosen h_M_orders h_M_sizes cI cZ M_jobs M_many M_isPlanned M_least M_optima M_jobOf M_machineOf M_durations M_arcs M_drafts M_starts M_heads M_tails M_chosen M_orders M_sizes))) (va_Qi (fun (r : Int32) (u : Int32) => post r u) (fun u t => va_P (dC, dI) vwCl (wM h_M h_M_jobOf h_M_machineOf h_M_durations h_M_arcs h_M_drafts h_M_starts h_M_heads h_M_tails h_M_chosen h_M_orders h_M_sizes cI cZ u M_many M_isPlanned M_least M_optima M_jobOf M_machineOf M_durations M_arcs M_drafts M_starts M_heads M_tails M_chosen M_orders M_sizes) t.heap ∧ va_K (dC, dI) vwCl [(cI, .int), (cZ, .boolean)] t ∧ va_D (va_A (wM h_M h_M_jobOf h_M_machineOf h_M_durations h_M_arcs h_M_drafts h_M_starts h_M_heads h_M_tails h_M_chosen h_M_orders h_M_sizes cI cZ M_jobs M_many M_isPlanned M_least M_optima M_jobOf M_machineOf M_durations M_arcs M_drafts M_starts M_heads M_tails M_chosen M_orders M_sizes) sz) (wM h_M h_M_jobOf h_M_machineOf h_M_durations h_M_arcs h_M_drafts h_M_starts h_M_heads h_M_tails h_M_chosen h_M_orders h_M_sizes cI cZ u M_many M_isPlanned M_least M_optima M_jobOf M_machineOf M_durations M_arcs M_drafts M_starts M_heads M_tails M_chosen M_orders M_sizes)) (va_A (wM h_M h_M_jobOf h_M_machineOf h_M_durations h_M_arcs h_M_drafts h_M_starts h_M_heads h_M_tails h_M_chosen h_M_orders h_M_sizes cI cZ M_jobs M_many M_isPlanned M_least M_optima M_jobOf M_machineOf M_durations M_arcs M_drafts M_starts M_heads M_tails M_chosen M_orders M_sizes) sz)) 0 0 (va_A (wM h_M h_M_jobOf h_M_machineOf h_M_durations h_M_arcs h_M_drafts h_M_starts h_M_heads h_M_tails h_M_chosen h_M_orders h_M_sizes cI cZ M_jobs M_many M_isPlanned M_least M_optima M_jobOf M_machineOf M_durations M_arcs M_drafts M_starts M_heads M_tails M_chosen M_orders M_sizes) sz) := by
  refine Met.ofW (cc := cX3_job) (maxL := 1) (ret := (some .int)) (by decide) rfl ?_
  intro p e s m args below meth c s₁ B hml hv
  obtain ⟨rfl, hsz, hP, hK, hD0⟩ := hv
  have hx := B.exec
  have hb := B.bytes
  have hr := B.returns
  have hts := atoms_spec (ws := wsX3_job) B.pre
  have hown : s.vm.findClass RX3 = some m.cls := findClass_of_methodNamed B.named
  have hlocks := B.notSynchronized
  subst hsz
  have hD := hD0.self (sz := s.heap.size)
  generalize hAe : va_A (wM h_M h_M_jobOf h_M_machineOf h_M_durations h_M_arcs h_M_drafts h_M_starts h_M_heads h_M_tails h_M_chosen h_M_orders h_M_sizes cI cZ M_jobs M_many M_isPlanned M_least M_optima M_jobOf M_machineOf M_durations M_arcs M_drafts M_starts M_heads M_tails M_chosen M_orders M_sizes) s.heap.size = A at hD ⊢
  have hA : ∀ q : Nat, s.heap.size ≤ q → A q := fun q h => by rw [← hAe]; exact Or.inr h
  have hS : va_S A s.heap s.heap [] := va_S.rf
  have hP : va_P (dC, dI) vwCl (wM h_M h_M_jobOf h_M_machineOf h_M_durations h_M_arcs h_M_drafts h_M_starts h_M_heads h_M_tails h_M_chosen h_M_orders h_M_sizes cI cZ M_jobs M_many M_isPlanned M_least M_optima M_jobOf M_machineOf M_durations M_arcs M_drafts M_starts M_heads M_tails M_chosen M_orders M_sizes) s.heap := hP
  have hl := lv_entry ([.ref h_M]) (n := 1) (Nat.le_of_ble_eq_true rfl)
  rw [lg_entry_eq]
  generalize (lg_sl ([.ref h_M]) ++ List.replicate (1 - (lg_sl ([.ref h_M])).length) Slot.unset).toArray = ls at hl ⊢
  have hl : lv_has ls 1 [(0, .ref h_M)] := hl
  obtain ⟨H, hH⟩ : ∃ H, H = s.heap := ⟨_, rfl⟩
  rw [← hH] at hP
  have hS : va_S A s.heap H [] := by rw [hH]; exact hS
  refine W_heap hH ?_
  unfold wp_X3_job at hw
  have hin_X3 : ∀ w ∈ u_ws RX3 TX3 16, w ∈ wsX3_job := by decide +kernel
  refine lv_aload_n (pc := 0) hx hb dX3_job_0 rfl (lv_at hl 0 rfl) ?_
  refine va_get (D := (dC, dI)) (ci := 3) (v := .int M_jobs) (C := RX3) (T := TX3) (N := 16) (pc := 1) hx hb hts hin_X3 hown hK hP 0 rfl rfl 0 (by decide) (hts (.fieldLink RX3 63 "JobShopModel" "jobs" "I") (by decide +kernel)) (fun _ h9 => h9) rfl dX3_job_1 ?_
  refine lv_iconst (v := 4) (pc := 4) hx hb dX3_job_4 (by decide) ?_
  refine lv_icmp_ne (tgt := 11) (pc := 5) hx hb dX3_job_5 (by decide) (fun c_1 => ?_) (fun c_1 => ?_)
  · have hw := hw.1 c_1
    refine lv_aload_n (pc := 11) hx hb dX3_job_11 rfl (lv_at hl 0 rfl) ?_
    refine lv_dup (pc := 12) hx hb dX3_job_12 rfl ?_
    refine va_get (D := (dC, dI)) (ci := 3) (v := .int M_jobs) (C := RX3) (T := TX3) (N := 16) (pc := 13) hx hb hts hin_X3 hown hK hP 0 rfl rfl 0 (by decide) (hts (.fieldLink RX3 63 "JobShopModel" "jobs" "I") (by decide +kernel)) (fun _ h9 => h9) rfl dX3_job_13 ?_
    refine lv_iconst (v := 1) (pc := 16) hx hb dX3_job_16 (by decide) ?_
    refine lv_iadd (pc := 17) hx hb dX3_job_17 ?_
    refine va_put (D := (dC, dI)) (ci := 3) (v := .int (M_jobs + 1)) (ty := .int) (C := RX3) (T := TX3) (N := 16) (pc := 18) hx hb hts hin_X3 tyX3 tyX3_ok nmX3 hown hK hP hD hS 0 rfl rfl 0 (by decide) (hts (.fieldLink RX3 63 "JobShopModel" "jobs" "I") (by decide +kernel)) (fun _ h9 => h9) rfl (by decide +kernel) rfl rfl (Nat.le_of_ble_eq_true rfl) dX3_job_18 (fun H locs hP hD hS => ?_)
    have hP : va_P (dC, dI) vwCl (wM h_M h_M_jobOf h_M_machineOf h_M_durations h_M_arcs h_M_drafts h_M_starts h_M_heads h_M_tails h_M_chosen h_M_orders h_M_sizes cI cZ (M_jobs + 1) M_many M_isPlanned M_least M_optima M_jobOf M_machineOf M_durations M_arcs M_drafts M_starts M_heads M_tails M_chosen M_orders M_sizes) H := hP
    have hD : va_D A (wM h_M h_M_jobOf h_M_machineOf h_M_durations h_M_arcs h_M_drafts h_M_starts h_M_heads h_M_tails h_M_chosen h_M_orders h_M_sizes cI cZ (M_jobs + 1) M_many M_isPlanned M_least M_optima M_jobOf M_machineOf M_durations M_arcs M_drafts M_starts M_heads M_tails M_chosen M_orders M_sizes) := hD
    refine lv_aload_n (pc := 21) hx hb dX3_job_21 rfl (lv_at hl 0 rfl) ?_
    refine va_get (D := (dC, dI)) (ci := 3) (v := .int (M_jobs + 1)) (C := RX3) (T := TX3) (N := 16) (pc := 22) hx hb hts hin_X3 hown hK hP 0 rfl rfl 0 (by decide) (hts (.fieldLink RX3 63 "JobShopModel" "jobs" "I") (by decide +kernel)) (fun _ h9 => h9) rfl dX3_job_22 ?_
    refine lv_iconst (v := 1) (pc := 25) hx hb dX3_job_25 (by decide) ?_
    refine lv_isub (pc := 26) hx hb dX3_job_26 ?_
    exact W.iret (v := ((M_jobs + 1) - 1)) hx hb hr (fun t ht hW => ⟨⟨((M_jobs + 1) - 1), (M_jobs + 1), rfl, hw, by rw [ht]; exact hP, va_K.moved hW.alike hK, hD⟩, hS.F ht⟩) hS.2.2 dX3_job_27
  · have hw := hw.2 c_1
    refine lv_bipush (v := (-3)) (pc := 8) hx hb dX3_job_8 (by decide) ?_
    exact W.iret (v := (-3)) hx hb hr (fun t ht hW => ⟨⟨(-3), M_jobs, rfl, hw, by rw [ht]; exact hP, va_K.moved hW.alike hK, hD⟩, hS.F ht⟩) hS.2.2 dX3_job_10
set_option maxHeartbeats 4000000 in
set_option maxRecDepth 100000 in
theorem c_X3_operation (l : Launch) (dC : Nat → ClassId) (dI : Nat → Nat → Nat) (h_M h_M_jobOf h_M_machineOf h_M_durations h_M_arcs h_M_drafts h_M_starts h_M_heads h_M_tails h_M_chosen h_M_orders h_M_sizes : Nat) (sz : Nat) (cI cZ : ClassId) (M_jobs : Int32) (M_many : Int32) (M_isPlanned : Int32) (M_least : Int32) (M_optima : Int32) (M_jobOf : Nat → Int32) (M_machineOf : Nat → Int32) (M_durations : Nat → Int32) (M_arcs : Nat → Int32) (M_drafts : Nat → Int32) (M_starts : Nat → Int32) (M_heads : Nat → Int32) (M_tails : Nat → Int32) (M_chosen : Nat → Int32) (M_orders : Nat → Int32) (M_sizes : Nat → Int32) (a0 a1 a2 : Int32) (post : Int32 → Int32 → Int32 → (Nat → Int32) → (Nat → Int32) → (Nat → Int32) → (Nat → Int32) → Prop) (hw : wp_X3_operation M_jobs M_many M_isPlanned M_jobOf M_machineOf M_durations M_drafts a0 a1 a2 post) : Met l yX3_operation wsX3_operation ({ frames := 1, cells := 0, slots := 0, locals := 22 }) (va_Pc [.ref h_M, .int a0, .int a1, .int a2] (fun U => U.heap.size = sz ∧ va_P (dC, dI) vwCl (wM h_M h_M_jobOf h_M_machineOf h_M_durations h_M_arcs h_M_drafts h_M_starts h_M_heads h_M_tails h_M_chosen h_M_orders h_M_sizes cI cZ M_jobs M_many M_isPlanned M_least M_optima M_jobOf M_machineOf M_durations M_arcs M_drafts M_starts M_heads M_tails M_chosen M_orders M_sizes) U.heap ∧ va_K (dC, dI) vwCl [(cI, .int), (cZ, .boolean)] U ∧ va_D (fun _ => True) (wM h_M h_M_jobOf h_M_machineOf h_M_durations h_M_arcs h_M_drafts h_M_starts h_M_heads h_M_tails h_M_chosen h_M_orders h_M_sizes cI cZ M_jobs M_many M_isPlanned M_least M_optima M_jobOf M_machineOf M_durations M_arcs M_drafts M_starts M_heads M_tails M_chosen M_orders M_sizes))) (va_Qi (fun (r : Int32) (u : Int32 × Int32 × (Nat → Int32) × (Nat → Int32) × (Nat → Int32) × (Nat → Int32)) => post r u.1 u.2.1 u.2.2.1 u.2.2.2.1 u.2.2.2.2.1 u.2.2.2.2.2) (fun u t => va_P (dC, dI) vwCl (wM h_M h_M_jobOf h_M_machineOf h_M_durations h_M_arcs h_M_drafts h_M_starts h_M_heads h_M_tails h_M_chosen h_M_orders h_M_sizes cI cZ M_jobs u.1 u.2.1 M_least M_optima u.2.2.1 u.2.2.2.1 u.2.2.2.2.1 M_arcs u.2.2.2.2.2 M_starts M_heads M_tails M_chosen M_orders M_sizes) t.heap ∧ va_K (dC, dI) vwCl [(cI, .int), (cZ, .boolean)] t ∧ va_D (va_A (wM h_M h_M_jobOf h_M_machineOf h_M_durations h_M_arcs h_M_drafts h_M_starts h_M_heads h_M_tails h_M_chosen h_M_orders h_M_sizes cI cZ M_jobs M_many M_isPlanned M_least M_optima M_jobOf M_machineOf M_durations M_arcs M_drafts M_starts M_heads M_tails M_chosen M_orders M_sizes) sz) (wM h_M h_M_jobOf h_M_machineOf h_M_durations h_M_arcs h_M_drafts h_M_starts h_M_heads h_M_tails h_M_chosen h_M_orders h_M_sizes cI cZ M_jobs u.1 u.2.1 M_least M_optima u.2.2.1 u.2.2.2.1 u.2.2.2.2.1 M_arcs u.2.2.2.2.2 M_starts M_heads M_tails M_chosen M_orders M_sizes)) (va_A (wM h_M h_M_jobOf h_M_machineOf h_M_durations h_M_arcs h_M_drafts h_M_starts h_M_heads h_M_tails h_M_chosen h_M_orders h_M_sizes cI cZ M_jobs M_many M_isPlanned M_least M_optima M_jobOf M_machineOf M_durations M_arcs M_drafts M_starts M_heads M_tails M_chosen M_orders M_sizes) sz)) 0 0 (va_A (wM h_M h_M_jobOf h_M_machineOf h_M_durations h_M_arcs h_M_drafts h_M_starts h_M_heads h_M_tails h_M_chosen h_M_orders h_M_sizes cI cZ M_jobs M_many M_isPlanned M_least M_optima M_jobOf M_machineOf M_durations M_arcs M_drafts M_starts M_heads M_tails M_chosen M_orders M_sizes) sz) := by
  refine Met.ofW (cc := cX3_operation) (maxL := 5) (ret := (some .int)) (by decide) rfl ?_
  intro p e s m args below meth c s₁ B hml hv
  obtain ⟨rfl, hsz, hP, hK, hD0⟩ := hv
  have hx := B.exec
  have hb := B.bytes
  have hr := B.returns
  have hts := atoms_spec (ws := wsX3_operation) B.pre
  have hown : s.vm.findClass RX3 = some m.cls := findClass_of_methodNamed B.named
  have hlocks := B.notSynchronized
  subst hsz
  have hD := hD0.self (sz := s.heap.size)
  generalize hAe : va_A (wM h_M h_M_jobOf h_M_machineOf h_M_durations h_M_arcs h_M_drafts h_M_starts h_M_heads h_M_tails h_M_chosen h_M_orders h_M_sizes cI cZ M_jobs M_many M_isPlanned M_least M_optima M_jobOf M_machineOf M_durations M_arcs M_drafts M_starts M_heads M_tails M_chosen M_orders M_sizes) s.heap.size = A at hD ⊢
  have hA : ∀ q : Nat, s.heap.size ≤ q → A q := fun q h => by rw [← hAe]; exact Or.inr h
  have hS : va_S A s.heap s.heap [] := va_S.rf
  have hP : va_P (dC, dI) vwCl (wM h_M h_M_jobOf h_M_machineOf h_M_durations h_M_arcs h_M_drafts h_M_starts h_M_heads h_M_tails h_M_chosen h_M_orders h_M_sizes cI cZ M_jobs M_many M_isPlanned M_least M_optima M_jobOf M_machineOf M_durations M_arcs M_drafts M_starts M_heads M_tails M_chosen M_orders M_sizes) s.heap := hP
  have hl := lv_entry ([.ref h_M, .int a0, .int a1, .int a2]) (n := 5) (Nat.le_of_ble_eq_true rfl)
  rw [lg_entry_eq]
  generalize (lg_sl ([.ref h_M, .int a0, .int a1, .int a2]) ++ List.replicate (5 - (lg_sl ([.ref h_M, .int a0, .int a1, .int a2])).length) Slot.unset).toArray = ls at hl ⊢
  have hl : lv_has ls 5 [(0, .ref h_M), (1, .int a0), (2, .int a1), (3, .int a2)] := hl
  obtain ⟨H, hH⟩ : ∃ H, H = s.heap := ⟨_, rfl⟩
  rw [← hH] at hP
  have hS : va_S A s.heap H [] := by rw [hH]; exact hS
  refine W_heap hH ?_
  unfold wp_X3_operation at hw
  have hin_X3 : ∀ w ∈ u_ws RX3 TX3 16, w ∈ wsX3_operation := by decide +kernel
  refine lv_iload_n (pc := 0) hx hb dX3_operation_0 rfl (lv_at hl 1 rfl) ?_
  refine lv_iconst (v := 0) (pc := 1) hx hb dX3_operation_1 (by decide) ?_
  refine lv_aload_n (pc := 2) hx hb dX3_operation_2 rfl (lv_at hl 0 rfl) ?_
  refine va_get (D := (dC, dI)) (ci := 3) (v := .int M_jobs) (C := RX3) (T := TX3) (N := 16) (pc := 3) hx hb hts hin_X3 hown hK hP 0 rfl rfl 0 (by decide) (hts (.fieldLink RX3 63 "JobShopModel" "jobs" "I") (by decide +kernel)) (fun _ h9 => h9) rfl dX3_operation_3 ?_
  refine lv_iconst (v := 1) (pc := 6) hx hb dX3_operation_6 (by decide) ?_
  refine lv_isub (pc := 7) hx hb dX3_operation_7 ?_
  have hPx : va_P (dC, dI) vwCl ([(h_M, .inr (3, [.int M_jobs, .int M_many, .ref h_M_jobOf, .ref h_M_machineOf, .ref h_M_durations, .ref h_M_arcs, .ref h_M_drafts, .int M_isPlanned, .ref h_M_starts, .int M_least, .int M_optima, .ref h_M_heads, .ref h_M_tails, .ref h_M_chosen, .ref h_M_orders, .ref h_M_sizes])), (h_M_jobOf, .inl (cI, 12, .inl M_jobOf)), (h_M_machineOf, .inl (cI, 12, .inl M_machineOf)), (h_M_durations, .inl (cI, 12, .inl M_durations)), (h_M_arcs, .inl (cZ, 144, .inl M_arcs)), (h_M_drafts, .inl (cI, 12, .inl M_drafts)), (h_M_starts, .inl (cI, 12, .inl M_starts)), (h_M_heads, .inl (cI, 12, .inl M_heads)), (h_M_tails, .inl (cI, 12, .inl M_tails)), (h_M_chosen, .inl (cZ, 144, .inl M_chosen)), (h_M_orders, .inl (cI, 16, .inl M_orders)), (h_M_sizes, .inl (cI, 4, .inl M_sizes))] ++ ([] : va_W)) H := hP
  have hDx : va_D A ([(h_M, .inr (3, [.int M_jobs, .int M_many, .ref h_M_jobOf, .ref h_M_machineOf, .ref h_M_durations, .ref h_M_arcs, .ref h_M_drafts, .int M_isPlanned, .ref h_M_starts, .int M_least, .int M_optima, .ref h_M_heads, .ref h_M_tails, .ref h_M_chosen, .ref h_M_orders, .ref h_M_sizes])), (h_M_jobOf, .inl (cI, 12, .inl M_jobOf)), (h_M_machineOf, .inl (cI, 12, .inl M_machineOf)), (h_M_durations, .inl (cI, 12, .inl M_durations)), (h_M_arcs, .inl (cZ, 144, .inl M_arcs)), (h_M_drafts, .inl (cI, 12, .inl M_drafts)), (h_M_starts, .inl (cI, 12, .inl M_starts)), (h_M_heads, .inl (cI, 12, .inl M_heads)), (h_M_tails, .inl (cI, 12, .inl M_tails)), (h_M_chosen, .inl (cZ, 144, .inl M_chosen)), (h_M_orders, .inl (cI, 16, .inl M_orders)), (h_M_sizes, .inl (cI, 4, .inl M_sizes))] ++ ([] : va_W)) := hD
  refine kc_i (pc := 8) (w1 := (fun u : Unit => ([] : va_W))) (va_runS (As := [.int a0, .int 0, .int (M_jobs - 1)]) (rest := []) ⟨hx, hb, hml, hown, hts⟩ (c_X3_in l dC dI H.size  a0 0 (M_jobs - 1) _ hw) (va_cwS 3 hts gX3_operation_X3_in rfl rfl rfl (by decide +kernel) ⟨Nat.le_of_ble_eq_true rfl, Nat.le_of_ble_eq_true rfl⟩) (kc_preS hK hPx hDx [] rfl) rfl rfl hl.1 rfl (lv_room (Nat.le_of_ble_eq_true rfl)) dX3_operation_8 ⟨Nat.zero_le _, Nat.zero_le _⟩) hPx hDx hS hA (fun r_8 u H locs hw hP hD hS => ?_)
  have hP : va_P (dC, dI) vwCl (wM h_M h_M_jobOf h_M_machineOf h_M_durations h_M_arcs h_M_drafts h_M_starts h_M_heads h_M_tails h_M_chosen h_M_orders h_M_sizes cI cZ M_jobs M_many M_isPlanned M_least M_optima M_jobOf M_machineOf M_durations M_arcs M_drafts M_starts M_heads M_tails M_chosen M_orders M_sizes) H := hP
  have hD : va_D A (wM h_M h_M_jobOf h_M_machineOf h_M_durations h_M_arcs h_M_drafts h_M_starts h_M_heads h_M_tails h_M_chosen h_M_orders h_M_sizes cI cZ M_jobs M_many M_isPlanned M_least M_optima M_jobOf M_machineOf M_durations M_arcs M_drafts M_starts M_heads M_tails M_chosen M_orders M_sizes) := hD
  refine lv_if_eq (tgt := 33) (pc := 11) hx hb dX3_operation_11 (by decide) (fun c_1 => ?_) (fun c_1 => ?_)
  · have hw := hw.1 c_1
    refine lv_bipush (v := (-2)) (pc := 33) hx hb dX3_operation_33 (by decide) ?_
    exact W.iret (v := (-2)) hx hb hr (fun t ht hW => ⟨⟨(-2), (M_many, M_isPlanned, M_jobOf, M_machineOf, M_durations, M_drafts), rfl, hw, by rw [ht]; exact hP, va_K.moved hW.alike hK, hD⟩, hS.F ht⟩) hS.2.2 dX3_operation_35
  · have hw := hw.2 c_1
    refine lv_iload_n (pc := 14) hx hb dX3_operation_14 rfl (lv_at hl 2 rfl) ?_
    refine lv_iconst (v := 0) (pc := 15) hx hb dX3_operation_15 (by decide) ?_
    refine lv_iconst (v := 3) (pc := 16) hx hb dX3_operation_16 (by decide) ?_
    have hPx : va_P (dC, dI) vwCl ([(h_M, .inr (3, [.int M_jobs, .int M_many, .ref h_M_jobOf, .ref h_M_machineOf, .ref h_M_durations, .ref h_M_arcs, .ref h_M_drafts, .int M_isPlanned, .ref h_M_starts, .int M_least, .int M_optima, .ref h_M_heads, .ref h_M_tails, .ref h_M_chosen, .ref h_M_orders, .ref h_M_sizes])), (h_M_jobOf, .inl (cI, 12, .inl M_jobOf)), (h_M_machineOf, .inl (cI, 12, .inl M_machineOf)), (h_M_durations, .inl (cI, 12, .inl M_durations)), (h_M_arcs, .inl (cZ, 144, .inl M_arcs)), (h_M_drafts, .inl (cI, 12, .inl M_drafts)), (h_M_starts, .inl (cI, 12, .inl M_starts)), (h_M_heads, .inl (cI, 12, .inl M_heads)), (h_M_tails, .inl (cI, 12, .inl M_tails)), (h_M_chosen, .inl (cZ, 144, .inl M_chosen)), (h_M_orders, .inl (cI, 16, .inl M_orders)), (h_M_sizes, .inl (cI, 4, .inl M_sizes))] ++ ([] : va_W)) H := hP
    have hDx : va_D A ([(h_M, .inr (3, [.int M_jobs, .int M_many, .ref h_M_jobOf, .ref h_M_machineOf, .ref h_M_durations, .ref h_M_arcs, .ref h_M_drafts, .int M_isPlanned, .ref h_M_starts, .int M_least, .int M_optima, .ref h_M_heads, .ref h_M_tails, .ref h_M_chosen, .ref h_M_orders, .ref h_M_sizes])), (h_M_jobOf, .inl (cI, 12, .inl M_jobOf)), (h_M_machineOf, .inl (cI, 12, .inl M_machineOf)), (h_M_durations, .inl (cI, 12, .inl M_durations)), (h_M_arcs, .inl (cZ, 144, .inl M_arcs)), (h_M_drafts, .inl (cI, 12, .inl M_drafts)), (h_M_starts, .inl (cI, 12, .inl M_starts)), (h_M_heads, .inl (cI, 12, .inl M_heads)), (h_M_tails, .inl (cI, 12, .inl M_tails)), (h_M_chosen, .inl (cZ, 144, .inl M_chosen)), (h_M_orders, .inl (cI, 16, .inl M_orders)), (h_M_sizes, .inl (cI, 4, .inl M_sizes))] ++ ([] : va_W)) := hD
    refine kc_i (pc := 17) (w1 := (fun u : Unit => ([] : va_W))) (va_runS (As := [.int a1, .int 0, .int 3]) (rest := []) ⟨hx, hb, hml, hown, hts⟩ (c_X3_in l dC dI H.size  a1 0 3 _ hw) (va_cwS 3 hts gX3_operation_X3_in rfl rfl rfl (by decide +kernel) ⟨Nat.le_of_ble_eq_true rfl, Nat.le_of_ble_eq_true rfl⟩) (kc_preS hK hPx hDx [] rfl) rfl rfl hl.1 rfl (lv_room (Nat.le_of_ble_eq_true rfl)) dX3_operation_17 ⟨Nat.zero_le _, Nat.zero_le _⟩) hPx hDx hS hA (fun r_17 u H locs hw hP hD hS => ?_)
    have hP : va_P (dC, dI) vwCl (wM h_M h_M_jobOf h_M_machineOf h_M_durations h_M_arcs h_M_drafts h_M_starts h_M_heads h_M_tails h_M_chosen h_M_orders h_M_sizes cI cZ M_jobs M_many M_isPlanned M_least M_optima M_jobOf M_machineOf M_durations M_arcs M_drafts M_starts M_heads M_tails M_chosen M_orders M_sizes) H := hP
    have hD : va_D A (wM h_M h_M_jobOf h_M_machineOf h_M_durations h_M_arcs h_M_drafts h_M_starts h_M_heads h_M_tails h_M_chosen h_M_orders h_M_sizes cI cZ M_jobs M_many M_isPlanned M_least M_optima M_jobOf M_machineOf M_durations M_arcs M_drafts M_starts M_heads M_tails M_chosen M_orders M_sizes) := hD
    refine lv_if_eq (tgt := 33) (pc := 20) hx hb dX3_operation_20 (by decide) (fun c_2 => ?_) (fun c_2 => ?_)
    · have hw := hw.1 c_2
      refine lv_bipush (v := (-2)) (pc := 33) hx hb dX3_operation_33 (by decide) ?_
      exact W.iret (v := (-2)) hx hb hr (fun t ht hW => ⟨⟨(-2), (M_many, M_isPlanned, M_jobOf, M_machineOf, M_durations, M_drafts), rfl, hw, by rw [ht]; exact hP, va_K.moved hW.alike hK, hD⟩, hS.F ht⟩) hS.2.2 dX3_operation_35
    · have hw := hw.2 c_2
      refine lv_iload_n (pc := 23) hx hb dX3_operation_23 rfl (lv_at hl 3 rfl) ?_
      refine lv_iconst (v := 1) (pc := 24) hx hb dX3_operation_24 (by decide) ?_
      refine lv_bipush (v := 50) (pc := 25) hx hb dX3_operation_25 (by decide) ?_
      have hPx : va_P (dC, dI) vwCl ([(h_M, .inr (3, [.int M_jobs, .int M_many, .ref h_M_jobOf, .ref h_M_machineOf, .ref h_M_durations, .ref h_M_arcs, .ref h_M_drafts, .int M_isPlanned, .ref h_M_starts, .int M_least, .int M_optima, .ref h_M_heads, .ref h_M_tails, .ref h_M_chosen, .ref h_M_orders, .ref h_M_sizes])), (h_M_jobOf, .inl (cI, 12, .inl M_jobOf)), (h_M_machineOf, .inl (cI, 12, .inl M_machineOf)), (h_M_durations, .inl (cI, 12, .inl M_durations)), (h_M_arcs, .inl (cZ, 144, .inl M_arcs)), (h_M_drafts, .inl (cI, 12, .inl M_drafts)), (h_M_starts, .inl (cI, 12, .inl M_starts)), (h_M_heads, .inl (cI, 12, .inl M_heads)), (h_M_tails, .inl (cI, 12, .inl M_tails)), (h_M_chosen, .inl (cZ, 144, .inl M_chosen)), (h_M_orders, .inl (cI, 16, .inl M_orders)), (h_M_sizes, .inl (cI, 4, .inl M_sizes))] ++ ([] : va_W)) H := hP
      have hDx : va_D A ([(h_M, .inr (3, [.int M_jobs, .int M_many, .ref h_M_jobOf, .ref h_M_machineOf, .ref h_M_durations, .ref h_M_arcs, .ref h_M_drafts, .int M_isPlanned, .ref h_M_starts, .int M_least, .int M_optima, .ref h_M_heads, .ref h_M_tails, .ref h_M_chosen, .ref h_M_orders, .ref h_M_sizes])), (h_M_jobOf, .inl (cI, 12, .inl M_jobOf)), (h_M_machineOf, .inl (cI, 12, .inl M_machineOf)), (h_M_durations, .inl (cI, 12, .inl M_durations)), (h_M_arcs, .inl (cZ, 144, .inl M_arcs)), (h_M_drafts, .inl (cI, 12, .inl M_drafts)), (h_M_starts, .inl (cI, 12, .inl M_starts)), (h_M_heads, .inl (cI, 12, .inl M_heads)), (h_M_tails, .inl (cI, 12, .inl M_tails)), (h_M_chosen, .inl (cZ, 144, .inl M_chosen)), (h_M_orders, .inl (cI, 16, .inl M_orders)), (h_M_sizes, .inl (cI, 4, .inl M_sizes))] ++ ([] : va_W)) := hD
      refine kc_i (pc := 27) (w1 := (fun u : Unit => ([] : va_W))) (va_runS (As := [.int a2, .int 1, .int 50]) (rest := []) ⟨hx, hb, hml, hown, hts⟩ (c_X3_in l dC dI H.size  a2 1 50 _ hw) (va_cwS 3 hts gX3_operation_X3_in rfl rfl rfl (by decide +kernel) ⟨Nat.le_of_ble_eq_true rfl, Nat.le_of_ble_eq_true rfl⟩) (kc_preS hK hPx hDx [] rfl) rfl rfl hl.1 rfl (lv_room (Nat.le_of_ble_eq_true rfl)) dX3_operation_27 ⟨Nat.zero_le _, Nat.zero_le _⟩) hPx hDx hS hA (fun r_27 u H locs hw hP hD hS => ?_)
      have hP : va_P (dC, dI) vwCl (wM h_M h_M_jobOf h_M_machineOf h_M_durations h_M_arcs h_M_drafts h_M_starts h_M_heads h_M_tails h_M_chosen h_M_orders h_M_sizes cI cZ M_jobs M_many M_isPlanned M_least M_optima M_jobOf M_machineOf M_durations M_arcs M_drafts M_starts M_heads M_tails M_chosen M_orders M_sizes) H := hP
      have hD : va_D A (wM h_M h_M_jobOf h_M_machineOf h_M_durations h_M_arcs h_M_drafts h_M_starts h_M_heads h_M_tails h_M_chosen h_M_orders h_M_sizes cI cZ M_jobs M_many M_isPlanned M_least M_optima M_jobOf M_machineOf M_durations M_arcs M_drafts M_starts M_heads M_tails M_chosen M_orders M_sizes) := hD
      refine lv_if_ne (tgt := 36) (pc := 30) hx hb dX3_operation_30 (by decide) (fun c_3 => ?_) (fun c_3 => ?_)
      · have hw := hw.1 c_3
        refine lv_iconst (v := 0) (pc := 36) hx hb dX3_operation_36 (by decide) ?_
        refine lv_istore (lv' := [(4, .int 0), (0, .ref h_M), (1, .int a0), (2, .int a1), (3, .int a2)]) (pc := 37) hx hb dX3_operation_37 hl (by decide) rfl (fun ls hl => ?_)
        obtain ⟨I_39, μ_39, hI_39, hs_39⟩ := hw
        refine lp_W (I := fun z : Int32 => I_39 z) (fun z => μ_39 z) (fun (z : Int32) H locs ls => va_P (dC, dI) vwCl (wM h_M h_M_jobOf h_M_machineOf h_M_durations h_M_arcs h_M_drafts h_M_starts h_M_heads h_M_tails h_M_chosen h_M_orders h_M_sizes cI cZ M_jobs M_many M_isPlanned M_least M_optima M_jobOf M_machineOf M_durations M_arcs M_drafts M_starts M_heads M_tails M_chosen M_orders M_sizes) H ∧ va_D A (wM h_M h_M_jobOf h_M_machineOf h_M_durations h_M_arcs h_M_drafts h_M_starts h_M_heads h_M_tails h_M_chosen h_M_orders h_M_sizes cI cZ M_jobs M_many M_isPlanned M_least M_optima M_jobOf M_machineOf M_durations M_arcs M_drafts M_starts M_heads M_tails M_chosen M_orders M_sizes) ∧ va_S A s.heap H locs ∧ lv_has ls 5 [(0, .ref h_M), (1, .int a0), (2, .int a1), (3, .int a2), (4, .int z)]) ?_ 0 _ _ _ hI_39 ⟨hP, hD, hS, (lv_sub hl [1, 2, 3, 4, 0] rfl)⟩
        rintro x4_39 H locs ls hI ⟨hP, hD, hS, hl⟩ ih_39
        have hw := hs_39 x4_39 hI
        have hP : va_P (dC, dI) vwCl (wM h_M h_M_jobOf h_M_machineOf h_M_durations h_M_arcs h_M_drafts h_M_starts h_M_heads h_M_tails h_M_chosen h_M_orders h_M_sizes cI cZ M_jobs M_many M_isPlanned M_least M_optima M_jobOf M_machineOf M_durations M_arcs M_drafts M_starts M_heads M_tails M_chosen M_orders M_sizes) H := hP
        have hD : va_D A (wM h_M h_M_jobOf h_M_machineOf h_M_durations h_M_arcs h_M_drafts h_M_starts h_M_heads h_M_tails h_M_chosen h_M_orders h_M_sizes cI cZ M_jobs M_many M_isPlanned M_least M_optima M_jobOf M_machineOf M_durations M_arcs M_drafts M_starts M_heads M_tails M_chosen M_orders M_sizes) := hD
        have hl : lv_has ls 5 [(0, .ref h_M), (1, .int a0), (2, .int a1), (3, .int a2), (4, .int x4_39)] := hl
        refine lv_iload (pc := 39) hx hb dX3_operation_39 (lv_at hl 4 rfl) ?_
        refine lv_aload_n (pc := 41) hx hb dX3_operation_41 rfl (lv_at hl 0 rfl) ?_
        refine va_get (D := (dC, dI)) (ci := 3) (v := .int M_many) (C := RX3) (T := TX3) (N := 16) (pc := 42) hx hb hts hin_X3 hown hK hP 0 rfl rfl 1 (by decide) (hts (.fieldLink RX3 48 "JobShopModel" "many" "I") (by decide +kernel)) (fun _ h9 => h9) rfl dX3_operation_42 ?_
        refine lv_icmp_ge (tgt := 79) (pc := 45) hx hb dX3_operation_45 (by decide) (fun c_4 => ?_) (fun c_4 => ?_)
        · have hw := hw.1 c_4
          refine lv_aload_n (pc := 79) hx hb dX3_operation_79 rfl (lv_at hl 0 rfl) ?_
          refine va_get (D := (dC, dI)) (ci := 3) (v := .int M_many) (C := RX3) (T := TX3) (N := 16) (pc := 80) hx hb hts hin_X3 hown hK hP 0 rfl rfl 1 (by decide) (hts (.fieldLink RX3 48 "JobShopModel" "many" "I") (by decide +kernel)) (fun _ h9 => h9) rfl dX3_operation_80 ?_
          refine lv_bipush (v := 12) (pc := 83) hx hb dX3_operation_83 (by decide) ?_
          refine lv_icmp_ne (tgt := 91) (pc := 85) hx hb dX3_operation_85 (by decide) (fun c_5 => ?_) (fun c_5 => ?_)
          · have hw := hw.1 c_5
            refine lv_aload_n (pc := 91) hx hb dX3_operation_91 rfl (lv_at hl 0 rfl) ?_
            refine va_get (D := (dC, dI)) (ci := 3) (v := .ref h_M_jobOf) (C := RX3) (T := TX3) (N := 16) (pc := 92) hx hb hts hin_X3 hown hK hP 0 rfl rfl 2 (by decide) (hts (.fieldLink RX3 7 "JobShopModel" "jobOf" "[I") (by decide +kernel)) (fun _ h9 => h9) rfl dX3_operation_92 ?_
            refine lv_aload_n (pc := 95) hx hb dX3_operation_95 rfl (lv_at hl 0 rfl) ?_
            refine va_get (D := (dC, dI)) (ci := 3) (v := .int M_many) (C := RX3) (T := TX3) (N := 16) (pc := 96) hx hb hts hin_X3 hown hK hP 0 rfl rfl 1 (by decide) (hts (.fieldLink RX3 48 "JobShopModel" "many" "I") (by decide +kernel)) (fun _ h9 => h9) rfl dX3_operation_96 ?_
            refine lv_iload_n (pc := 99) hx hb dX3_operation_99 rfl (lv_at hl 1 rfl) ?_
            obtain ⟨b_6, hw⟩ := hw
            refine va_iast (pc := 100) hx hb hK hP hD hS 1 0 rfl rfl b_6 dX3_operation_100 (fun H locs hP hD hS => ?_)
            have hP : va_P (dC, dI) vwCl (wM h_M h_M_jobOf h_M_machineOf h_M_durations h_M_arcs h_M_drafts h_M_starts h_M_heads h_M_tails h_M_chosen h_M_orders h_M_sizes cI cZ M_jobs M_many M_isPlanned M_least M_optima (upd M_jobOf M_many.toNatClampNeg a0) M_machineOf M_durations M_arcs M_drafts M_starts M_heads M_tails M_chosen M_orders M_sizes) H := hP
            have hD : va_D A (wM h_M h_M_jobOf h_M_machineOf h_M_durations h_M_arcs h_M_drafts h_M_starts h_M_heads h_M_tails h_M_chosen h_M_orders h_M_sizes cI cZ M_jobs M_many M_isPlanned M_least M_optima (upd M_jobOf M_many.toNatClampNeg a0) M_machineOf M_durations M_arcs M_drafts M_starts M_heads M_tails M_chosen M_orders M_sizes) := hD
            refine lv_aload_n (pc := 101) hx hb dX3_operation_101 rfl (lv_at hl 0 rfl) ?_
            refine va_get (D := (dC, dI)) (ci := 3) (v := .ref h_M_machineOf) (C := RX3) (T := TX3) (N := 16) (pc := 102) hx hb hts hin_X3 hown hK hP 0 rfl rfl 3 (by decide) (hts (.fieldLink RX3 13 "JobShopModel" "machineOf" "[I") (by decide +kernel)) (fun _ h9 => h9) rfl dX3_operation_102 ?_
            refine lv_aload_n (pc := 105) hx hb dX3_operation_105 rfl (lv_at hl 0 rfl) ?_
            refine va_get (D := (dC, dI)) (ci := 3) (v := .int M_many) (C := RX3) (T := TX3) (N := 16) (pc := 106) hx hb hts hin_X3 hown hK hP 0 rfl rfl 1 (by decide) (hts (.fieldLink RX3 48 "JobShopModel" "many" "I") (by decide +kernel)) (fun _ h9 => h9) rfl dX3_operation_106 ?_
            refine lv_iload_n (pc := 109) hx hb dX3_operation_109 rfl (lv_at hl 2 rfl) ?_
            obtain ⟨b_7, hw⟩ := hw
            refine va_iast (pc := 110) hx hb hK hP hD hS 2 0 rfl rfl b_7 dX3_operation_110 (fun H locs hP hD hS => ?_)
            have hP : va_P (dC, dI) vwCl (wM h_M h_M_jobOf h_M_machineOf h_M_durations h_M_arcs h_M_drafts h_M_starts h_M_heads h_M_tails h_M_chosen h_M_orders h_M_sizes cI cZ M_jobs M_many M_isPlanned M_least M_optima (upd M_jobOf M_many.toNatClampNeg a0) (upd M_machineOf M_many.toNatClampNeg a1) M_durations M_arcs M_drafts M_starts M_heads M_tails M_chosen M_orders M_sizes) H := hP
            have hD : va_D A (wM h_M h_M_jobOf h_M_machineOf h_M_durations h_M_arcs h_M_drafts h_M_starts h_M_heads h_M_tails h_M_chosen h_M_orders h_M_sizes cI cZ M_jobs M_many M_isPlanned M_least M_optima (upd M_jobOf M_many.toNatClampNeg a0) (upd M_machineOf M_many.toNatClampNeg a1) M_durations M_arcs M_drafts M_starts M_heads M_tails M_chosen M_orders M_sizes) := hD
            refine lv_aload_n (pc := 111) hx hb dX3_operation_111 rfl (lv_at hl 0 rfl) ?_
            refine va_get (D := (dC, dI)) (ci := 3) (v := .ref h_M_durations) (C := RX3) (T := TX3) (N := 16) (pc := 112) hx hb hts hin_X3 hown hK hP 0 rfl rfl 4 (by decide) (hts (.fieldLink RX3 16 "JobShopModel" "durations" "[I") (by decide +kernel)) (fun _ h9 => h9) rfl dX3_operation_112 ?_
            refine lv_aload_n (pc := 115) hx hb dX3_operation_115 rfl (lv_at hl 0 rfl) ?_
            refine va_get (D := (dC, dI)) (ci := 3) (v := .int M_many) (C := RX3) (T := TX3) (N := 16) (pc := 116) hx hb hts hin_X3 hown hK hP 0 rfl rfl 1 (by decide) (hts (.fieldLink RX3 48 "JobShopModel" "many" "I") (by decide +kernel)) (fun _ h9 => h9) rfl dX3_operation_116 ?_
            refine lv_iload_n (pc := 119) hx hb dX3_operation_119 rfl (lv_at hl 3 rfl) ?_
            obtain ⟨b_8, hw⟩ := hw
            refine va_iast (pc := 120) hx hb hK hP hD hS 3 0 rfl rfl b_8 dX3_operation_120 (fun H locs hP hD hS => ?_)
            have hP : va_P (dC, dI) vwCl (wM h_M h_M_jobOf h_M_machineOf h_M_durations h_M_arcs h_M_drafts h_M_starts h_M_heads h_M_tails h_M_chosen h_M_orders h_M_sizes cI cZ M_jobs M_many M_isPlanned M_least M_optima (upd M_jobOf M_many.toNatClampNeg a0) (upd M_machineOf M_many.toNatClampNeg a1) (upd M_durations M_many.toNatClampNeg a2) M_arcs M_drafts M_starts M_heads M_tails M_chosen M_orders M_sizes) H := hP
            have hD : va_D A (wM h_M h_M_jobOf h_M_machineOf h_M_durations h_M_arcs h_M_drafts h_M_starts h_M_heads h_M_tails h_M_chosen h_M_orders h_M_sizes cI cZ M_jobs M_many M_isPlanned M_least M_optima (upd M_jobOf M_many.toNatClampNeg a0) (upd M_machineOf M_many.toNatClampNeg a1) (upd M_durations M_many.toNatClampNeg a2) M_arcs M_drafts M_starts M_heads M_tails M_chosen M_orders M_sizes) := hD
            refine lv_aload_n (pc := 121) hx hb dX3_operation_121 rfl (lv_at hl 0 rfl) ?_
            refine lv_dup (pc := 122) hx hb dX3_operation_122 rfl ?_
            refine va_get (D := (dC, dI)) (ci := 3) (v := .int M_many) (C := RX3) (T := TX3) (N := 16) (pc := 123) hx hb hts hin_X3 hown hK hP 0 rfl rfl 1 (by decide) (hts (.fieldLink RX3 48 "JobShopModel" "many" "I") (by decide +kernel)) (fun _ h9 => h9) rfl dX3_operation_123 ?_
            refine lv_iconst (v := 1) (pc := 126) hx hb dX3_operation_126 (by decide) ?_
            refine lv_iadd (pc := 127) hx hb dX3_operation_127 ?_
            refine va_put (D := (dC, dI)) (ci := 3) (v := .int (M_many + 1)) (ty := .int) (C := RX3) (T := TX3) (N := 16) (pc := 128) hx hb hts hin_X3 tyX3 tyX3_ok nmX3 hown hK hP hD hS 0 rfl rfl 1 (by decide) (hts (.fieldLink RX3 48 "JobShopModel" "many" "I") (by decide +kernel)) (fun _ h9 => h9) rfl (by decide +kernel) rfl rfl (Nat.le_of_ble_eq_true rfl) dX3_operation_128 (fun H locs hP hD hS => ?_)
            have hP : va_P (dC, dI) vwCl (wM h_M h_M_jobOf h_M_machineOf h_M_durations h_M_arcs h_M_drafts h_M_starts h_M_heads h_M_tails h_M_chosen h_M_orders h_M_sizes cI cZ M_jobs (M_many + 1) M_isPlanned M_least M_optima (upd M_jobOf M_many.toNatClampNeg a0) (upd M_machineOf M_many.toNatClampNeg a1) (upd M_durations M_many.toNatClampNeg a2) M_arcs M_drafts M_starts M_heads M_tails M_chosen M_orders M_sizes) H := hP
            have hD : va_D A (wM h_M h_M_jobOf h_M_machineOf h_M_durations h_M_arcs h_M_drafts h_M_starts h_M_heads h_M_tails h_M_chosen h_M_orders h_M_sizes cI cZ M_jobs (M_many + 1) M_isPlanned M_least M_optima (upd M_jobOf M_many.toNatClampNeg a0) (upd M_machineOf M_many.toNatClampNeg a1) (upd M_durations M_many.toNatClampNeg a2) M_arcs M_drafts M_starts M_heads M_tails M_chosen M_orders M_sizes) := hD
            refine lv_iconst (v := 0) (pc := 131) hx hb dX3_operation_131 (by decide) ?_
            refine lv_istore (lv' := [(4, .int 0), (0, .ref h_M), (1, .int a0), (2, .int a1), (3, .int a2)]) (pc := 132) hx hb dX3_operation_132 hl (by decide) rfl (fun ls hl => ?_)
            obtain ⟨I_134, μ_134, hI_134, hs_134⟩ := hw
            refine lp_W (I := fun z : Int32 × (Nat → Int32) => I_134 z.1 z.2) (fun z => μ_134 z.1 z.2) (fun (z : Int32 × (Nat → Int32)) H locs ls => va_P (dC, dI) vwCl (wM h_M h_M_jobOf h_M_machineOf h_M_durations h_M_arcs h_M_drafts h_M_starts h_M_heads h_M_tails h_M_chosen h_M_orders h_M_sizes cI cZ M_jobs (M_many + 1) M_isPlanned M_least M_optima (upd M_jobOf M_many.toNatClampNeg a0) (upd M_machineOf M_many.toNatClampNeg a1) (upd M_durations M_many.toNatClampNeg a2) M_arcs z.2 M_starts M_heads M_tails M_chosen M_orders M_sizes) H ∧ va_D A (wM h_M h_M_jobOf h_M_machineOf h_M_durations h_M_arcs h_M_drafts h_M_starts h_M_heads h_M_tails h_M_chosen h_M_orders h_M_sizes cI cZ M_jobs (M_many + 1) M_isPlanned M_least M_optima (upd M_jobOf M_many.toNatClampNeg a0) (upd M_machineOf M_many.toNatClampNeg a1) (upd M_durations M_many.toNatClampNeg a2) M_arcs z.2 M_starts M_heads M_tails M_chosen M_orders M_sizes) ∧ va_S A s.heap H locs ∧ lv_has ls 5 [(0, .ref h_M), (4, .int z.1)]) ?_ (0, M_drafts) _ _ _ hI_134 ⟨hP, hD, hS, (lv_sub hl [1, 0] rfl)⟩
            rintro ⟨x4_134, M_drafts_134⟩ H locs ls hI ⟨hP, hD, hS, hl⟩ ih_134
            have hw := hs_134 x4_134 M_drafts_134 hI
            have hP : va_P (dC, dI) vwCl (wM h_M h_M_jobOf h_M_machineOf h_M_durations h_M_arcs h_M_drafts h_M_starts h_M_heads h_M_tails h_M_chosen h_M_orders h_M_sizes cI cZ M_jobs (M_many + 1) M_isPlanned M_least M_optima (upd M_jobOf M_many.toNatClampNeg a0) (upd M_machineOf M_many.toNatClampNeg a1) (upd M_durations M_many.toNatClampNeg a2) M_arcs M_drafts_134 M_starts M_heads M_tails M_chosen M_orders M_sizes) H := hP
            have hD : va_D A (wM h_M h_M_jobOf h_M_machineOf h_M_durations h_M_arcs h_M_drafts h_M_starts h_M_heads h_M_tails h_M_chosen h_M_orders h_M_sizes cI cZ M_jobs (M_many + 1) M_isPlanned M_least M_optima (upd M_jobOf M_many.toNatClampNeg a0) (upd M_machineOf M_many.toNatClampNeg a1) (upd M_durations M_many.toNatClampNeg a2) M_arcs M_drafts_134 M_starts M_heads M_tails M_chosen M_orders M_sizes) := hD
            have hl : lv_has ls 5 [(0, .ref h_M), (4, .int x4_134)] := hl
            refine lv_iload (pc := 134) hx hb dX3_operation_134 (lv_at hl 1 rfl) ?_
            refine lv_bipush (v := 12) (pc := 136) hx hb dX3_operation_136 (by decide) ?_
            refine lv_icmp_ge (tgt := 155) (pc := 138) hx hb dX3_operation_138 (by decide) (fun c_9 => ?_) (fun c_9 => ?_)
            · have hw := hw.1 c_9
              refine lv_aload_n (pc := 155) hx hb dX3_operation_155 rfl (lv_at hl 0 rfl) ?_
              have hPx : va_P (dC, dI) vwCl ([] ++ (wM h_M h_M_jobOf h_M_machineOf h_M_durations h_M_arcs h_M_drafts h_M_starts h_M_heads h_M_tails h_M_chosen h_M_orders h_M_sizes cI cZ M_jobs (M_many + 1) M_isPlanned M_least M_optima (upd M_jobOf M_many.toNatClampNeg a0) (upd M_machineOf M_many.toNatClampNeg a1) (upd M_durations M_many.toNatClampNeg a2) M_arcs M_drafts_134 M_starts M_heads M_tails M_chosen M_orders M_sizes)) H := hP
              have hDx : va_D A ([] ++ (wM h_M h_M_jobOf h_M_machineOf h_M_durations h_M_arcs h_M_drafts h_M_starts h_M_heads h_M_tails h_M_chosen h_M_orders h_M_sizes cI cZ M_jobs (M_many + 1) M_isPlanned M_least M_optima (upd M_jobOf M_many.toNatClampNeg a0) (upd M_machineOf M_many.toNatClampNeg a1) (upd M_durations M_many.toNatClampNeg a2) M_arcs M_drafts_134 M_starts M_heads M_tails M_chosen M_orders M_sizes)) := hD
              refine kc_v (pc := 156) (w1 := (fun u : Int32 => (wM h_M h_M_jobOf h_M_machineOf h_M_durations h_M_arcs h_M_drafts h_M_starts h_M_heads h_M_tails h_M_chosen h_M_orders h_M_sizes cI cZ M_jobs (M_many + 1) u M_least M_optima (upd M_jobOf M_many.toNatClampNeg a0) (upd M_machineOf M_many.toNatClampNeg a1) (upd M_durations M_many.toNatClampNeg a2) M_arcs M_drafts_134 M_starts M_heads M_tails M_chosen M_orders M_sizes))) (va_runV (As := []) (rest := []) ⟨hx, hb, hml, hown, hts⟩ (c_X3_forget l dC dI h_M h_M_jobOf h_M_machineOf h_M_durations h_M_arcs h_M_drafts h_M_starts h_M_heads h_M_tails h_M_chosen h_M_orders h_M_sizes H.size cI cZ M_jobs (M_many + 1) M_isPlanned M_least M_optima (upd M_jobOf M_many.toNatClampNeg a0) (upd M_machineOf M_many.toNatClampNeg a1) (upd M_durations M_many.toNatClampNeg a2) M_arcs M_drafts_134 M_starts M_heads M_tails M_chosen M_orders M_sizes _ hw) (cwV 0 hts gX3_operation_X3_forget rfl rfl rfl (by decide +kernel) ⟨Nat.le_of_ble_eq_true rfl, Nat.le_of_ble_eq_true rfl⟩) (kc_preVM (q0 := 0) (ci := 3) hK hPx hDx [0, 1] rfl rfl rfl) rfl rfl hl.1 rfl (lv_room (Nat.le_of_ble_eq_true rfl)) dX3_operation_156 ⟨Nat.zero_le _, Nat.zero_le _⟩) hPx hDx hS hA (fun u H locs hw hP hD hS => ?_)
              obtain ⟨M_isPlanned_156, rfl⟩ : ∃ z, z = u := ⟨_, rfl⟩
              have hP : va_P (dC, dI) vwCl (wM h_M h_M_jobOf h_M_machineOf h_M_durations h_M_arcs h_M_drafts h_M_starts h_M_heads h_M_tails h_M_chosen h_M_orders h_M_sizes cI cZ M_jobs (M_many + 1) M_isPlanned_156 M_least M_optima (upd M_jobOf M_many.toNatClampNeg a0) (upd M_machineOf M_many.toNatClampNeg a1) (upd M_durations M_many.toNatClampNeg a2) M_arcs M_drafts_134 M_starts M_heads M_tails M_chosen M_orders M_sizes) H := hP
              have hD : va_D A (wM h_M h_M_jobOf h_M_machineOf h_M_durations h_M_arcs h_M_drafts h_M_starts h_M_heads h_M_tails h_M_chosen h_M_orders h_M_sizes cI cZ M_jobs (M_many + 1) M_isPlanned_156 M_least M_optima (upd M_jobOf M_many.toNatClampNeg a0) (upd M_machineOf M_many.toNatClampNeg a1) (upd M_durations M_many.toNatClampNeg a2) M_arcs M_drafts_134 M_starts M_heads M_tails M_chosen M_orders M_sizes) := hD
              refine lv_aload_n (pc := 159) hx hb dX3_operation_159 rfl (lv_at hl 0 rfl) ?_
              refine va_get (D := (dC, dI)) (ci := 3) (v := .int (M_many + 1)) (C := RX3) (T := TX3) (N := 16) (pc := 160) hx hb hts hin_X3 hown hK hP 0 rfl rfl 1 (by decide) (hts (.fieldLink RX3 48 "JobShopModel" "many" "I") (by decide +kernel)) (fun _ h9 => h9) rfl dX3_operation_160 ?_
              refine lv_iconst (v := 1) (pc := 163) hx hb dX3_operation_163 (by decide) ?_
              refine lv_isub (pc := 164) hx hb dX3_operation_164 ?_
              exact W.iret (v := ((M_many + 1) - 1)) hx hb hr (fun t ht hW => ⟨⟨((M_many + 1) - 1), ((M_many + 1), M_isPlanned_156, (upd M_jobOf M_many.toNatClampNeg a0), (upd M_machineOf M_many.toNatClampNeg a1), (upd M_durations M_many.toNatClampNeg a2), M_drafts_134), rfl, hw, by rw [ht]; exact hP, va_K.moved hW.alike hK, hD⟩, hS.F ht⟩) hS.2.2 dX3_operation_165
            · have hw := hw.2 c_9
              refine lv_aload_n (pc := 141) hx hb dX3_operation_141 rfl (lv_at hl 0 rfl) ?_
              refine va_get (D := (dC, dI)) (ci := 3) (v := .ref h_M_drafts) (C := RX3) (T := TX3) (N := 16) (pc := 142) hx hb hts hin_X3 hown hK hP 0 rfl rfl 6 (by decide) (hts (.fieldLink RX3 23 "JobShopModel" "drafts" "[I") (by decide +kernel)) (fun _ h9 => h9) rfl dX3_operation_142 ?_
              refine lv_iload (pc := 145) hx hb dX3_operation_145 (lv_at hl 1 rfl) ?_
              refine lv_iconst (v := 0) (pc := 147) hx hb dX3_operation_147 (by decide) ?_
              obtain ⟨b_10, hw⟩ := hw
              refine va_iast (pc := 148) hx hb hK hP hD hS 5 0 rfl rfl b_10 dX3_operation_148 (fun H locs hP hD hS => ?_)
              have hP : va_P (dC, dI) vwCl (wM h_M h_M_jobOf h_M_machineOf h_M_durations h_M_arcs h_M_drafts h_M_starts h_M_heads h_M_tails h_M_chosen h_M_orders h_M_sizes cI cZ M_jobs (M_many + 1) M_isPlanned M_least M_optima (upd M_jobOf M_many.toNatClampNeg a0) (upd M_machineOf M_many.toNatClampNeg a1) (upd M_durations M_many.toNatClampNeg a2) M_arcs (upd M_drafts_134 x4_134.toNatClampNeg 0) M_starts M_heads M_tails M_chosen M_orders M_sizes) H := hP
              have hD : va_D A (wM h_M h_M_jobOf h_M_machineOf h_M_durations h_M_arcs h_M_drafts h_M_starts h_M_heads h_M_tails h_M_chosen h_M_orders h_M_sizes cI cZ M_jobs (M_many + 1) M_isPlanned M_least M_optima (upd M_jobOf M_many.toNatClampNeg a0) (upd M_machineOf M_many.toNatClampNeg a1) (upd M_durations M_many.toNatClampNeg a2) M_arcs (upd M_drafts_134 x4_134.toNatClampNeg 0) M_starts M_heads M_tails M_chosen M_orders M_sizes) := hD
              refine lv_iinc (v := x4_134 + 1) (lv' := [(4, .int (x4_134 + 1)), (0, .ref h_M)]) (pc := 149) hx hb dX3_operation_149 hl (k := 1) rfl rfl (by decide) rfl (fun ls hl => ?_)
              refine lv_goto (tgt := 134) (pc := 152) hx hb dX3_operation_152 (by decide) ?_
              exact ih_134 ((x4_134 + 1), (upd M_drafts_134 x4_134.toNatClampNeg 0)) _ _ _ hw.1 hw.2 ⟨hP, hD, hS, (lv_sub hl [1, 0] rfl)⟩
          · have hw := hw.2 c_5
            refine lv_bipush (v := (-3)) (pc := 88) hx hb dX3_operation_88 (by decide) ?_
            exact W.iret (v := (-3)) hx hb hr (fun t ht hW => ⟨⟨(-3), (M_many, M_isPlanned, M_jobOf, M_machineOf, M_durations, M_drafts), rfl, hw, by rw [ht]; exact hP, va_K.moved hW.alike hK, hD⟩, hS.F ht⟩) hS.2.2 dX3_operation_90
        · have hw := hw.2 c_4
          refine lv_aload_n (pc := 48) hx hb dX3_operation_48 rfl (lv_at hl 0 rfl) ?_
          refine va_get (D := (dC, dI)) (ci := 3) (v := .ref h_M_jobOf) (C := RX3) (T := TX3) (N := 16) (pc := 49) hx hb hts hin_X3 hown hK hP 0 rfl rfl 2 (by decide) (hts (.fieldLink RX3 7 "JobShopModel" "jobOf" "[I") (by decide +kernel)) (fun _ h9 => h9) rfl dX3_operation_49 ?_
          refine lv_iload (pc := 52) hx hb dX3_operation_52 (lv_at hl 4 rfl) ?_
          obtain ⟨b_11, hw⟩ := hw
          refine va_iald (pc := 54) hx hb hK hP 1 0 rfl rfl b_11 dX3_operation_54 ?_
          refine lv_iload_n (pc := 55) hx hb dX3_operation_55 rfl (lv_at hl 1 rfl) ?_
          refine lv_icmp_ne (tgt := 73) (pc := 56) hx hb dX3_operation_56 (by decide) (fun c_12 => ?_) (fun c_12 => ?_)
          · have hw := hw.1 c_12
            refine lv_iinc (v := x4_39 + 1) (lv' := [(4, .int (x4_39 + 1)), (0, .ref h_M), (1, .int a0), (2, .int a1), (3, .int a2)]) (pc := 73) hx hb dX3_operation_73 hl (k := 4) rfl rfl (by decide) rfl (fun ls hl => ?_)
            refine lv_goto (tgt := 39) (pc := 76) hx hb dX3_operation_76 (by decide) ?_
            exact ih_39 (x4_39 + 1) _ _ _ hw.1 hw.2 ⟨hP, hD, hS, (lv_sub hl [1, 2, 3, 4, 0] rfl)⟩
          · have hw := hw.2 c_12
            refine lv_aload_n (pc := 59) hx hb dX3_operation_59 rfl (lv_at hl 0 rfl) ?_
            refine va_get (D := (dC, dI)) (ci := 3) (v := .ref h_M_machineOf) (C := RX3) (T := TX3) (N := 16) (pc := 60) hx hb hts hin_X3 hown hK hP 0 rfl rfl 3 (by decide) (hts (.fieldLink RX3 13 "JobShopModel" "machineOf" "[I") (by decide +kernel)) (fun _ h9 => h9) rfl dX3_operation_60 ?_
            refine lv_iload (pc := 63) hx hb dX3_operation_63 (lv_at hl 4 rfl) ?_
            obtain ⟨b_13, hw⟩ := hw
            refine va_iald (pc := 65) hx hb hK hP 2 0 rfl rfl b_13 dX3_operation_65 ?_
            refine lv_iload_n (pc := 66) hx hb dX3_operation_66 rfl (lv_at hl 2 rfl) ?_
            refine lv_icmp_ne (tgt := 73) (pc := 67) hx hb dX3_operation_67 (by decide) (fun c_14 => ?_) (fun c_14 => ?_)
            · have hw := hw.1 c_14
              refine lv_iinc (v := x4_39 + 1) (lv' := [(4, .int (x4_39 + 1)), (0, .ref h_M), (1, .int a0), (2, .int a1), (3, .int a2)]) (pc := 73) hx hb dX3_operation_73 hl (k := 4) rfl rfl (by decide) rfl (fun ls hl => ?_)
              refine lv_goto (tgt := 39) (pc := 76) hx hb dX3_operation_76 (by decide) ?_
              exact ih_39 (x4_39 + 1) _ _ _ hw.1 hw.2 ⟨hP, hD, hS, (lv_sub hl [1, 2, 3, 4, 0] rfl)⟩
            · have hw := hw.2 c_14
              refine lv_bipush (v := (-2)) (pc := 70) hx hb dX3_operation_70 (by decide) ?_
              exact W.iret (v := (-2)) hx hb hr (fun t ht hW => ⟨⟨(-2), (M_many, M_isPlanned, M_jobOf, M_machineOf, M_durations, M_drafts), rfl, hw, by rw [ht]; exact hP, va_K.moved hW.alike hK, hD⟩, hS.F ht⟩) hS.2.2 dX3_operation_72
      · have hw := hw.2 c_3
        refine lv_bipush (v := (-2)) (pc := 33) hx hb dX3_operation_33 (by decide) ?_
        exact W.iret (v := (-2)) hx hb hr (fun t ht hW => ⟨⟨(-2), (M_many, M_isPlanned, M_jobOf, M_machineOf, M_durations, M_drafts), rfl, hw, by rw [ht]; exact hP, va_K.moved hW.alike hK, hD⟩, hS.F ht⟩) hS.2.2 dX3_operation_35
set_option maxHeartbeats 4000000 in
set_option maxRecDepth 100000 in
theorem c_X3_nextOf (l : Launch) (dC : Nat → ClassId) (dI : Nat → Nat → Nat) (h_M h_M_jobOf h_M_machineOf h_M_durations h_M_arcs h_M_drafts h_M_starts h_M_heads h_M_tails h_M_chosen h_M_orders h_M_sizes : Nat) (sz : Nat) (cI cZ : ClassId) (M_jobs : Int32) (M_many : Int32) (M_isPlanned : Int32) (M_least : Int32) (M_optima : Int32) (M_jobOf : Nat → Int32) (M_machineOf : Nat → Int32) (M_durations : Nat → Int32) (M_arcs : Nat → Int32) (M_drafts : Nat → Int32) (M_starts : Nat → Int32) (M_heads : Nat → Int32) (M_tails : Nat → Int32) (M_chosen : Nat → Int32) (M_orders : Nat → Int32) (M_sizes : Nat → Int32) (a0 : Int32) (post : Int32 → Prop) (hw : wp_X3_nextOf M_many M_jobOf a0 post) : Met l yX3_nextOf wsX3_nextOf ({ frames := 0, cells := 0, slots := 0, locals := 0 }) (va_Pc [.ref h_M, .int a0] (fun U => U.heap.size = sz ∧ va_P (dC, dI) vwCl (wM h_M h_M_jobOf h_M_machineOf h_M_durations h_M_arcs h_M_drafts h_M_starts h_M_heads h_M_tails h_M_chosen h_M_orders h_M_sizes cI cZ M_jobs M_many M_isPlanned M_least M_optima M_jobOf M_machineOf M_durations M_arcs M_drafts M_starts M_heads M_tails M_chosen M_orders M_sizes) U.heap ∧ va_K (dC, dI) vwCl [(cI, .int), (cZ, .boolean)] U ∧ va_D (fun _ => True) (wM h_M h_M_jobOf h_M_machineOf h_M_durations h_M_arcs h_M_drafts h_M_starts h_M_heads h_M_tails h_M_chosen h_M_orders h_M_sizes cI cZ M_jobs M_many M_isPlanned M_least M_optima M_jobOf M_machineOf M_durations M_arcs M_drafts M_starts M_heads M_tails M_chosen M_orders M_sizes))) (va_Qi (fun (r : Int32) (u : Unit) => post r ) (fun u t => va_P (dC, dI) vwCl (wM h_M h_M_jobOf h_M_machineOf h_M_durations h_M_arcs h_M_drafts h_M_starts h_M_heads h_M_tails h_M_chosen h_M_orders h_M_sizes cI cZ M_jobs M_many M_isPlanned M_least M_optima M_jobOf M_machineOf M_durations M_arcs M_drafts M_starts M_heads M_tails M_chosen M_orders M_sizes) t.heap ∧ va_K (dC, dI) vwCl [(cI, .int), (cZ, .boolean)] t ∧ va_D (va_A (wM h_M h_M_jobOf h_M_machineOf h_M_durations h_M_arcs h_M_drafts h_M_starts h_M_heads h_M_tails h_M_chosen h_M_orders h_M_sizes cI cZ M_jobs M_many M_isPlanned M_least M_optima M_jobOf M_machineOf M_durations M_arcs M_drafts M_starts M_heads M_tails M_chosen M_orders M_sizes) sz) (wM h_M h_M_jobOf h_M_machineOf h_M_durations h_M_arcs h_M_drafts h_M_starts h_M_heads h_M_tails h_M_chosen h_M_orders h_M_sizes cI cZ M_jobs M_many M_isPlanned M_least M_optima M_jobOf M_machineOf M_durations M_arcs M_drafts M_starts M_heads M_tails M_chosen M_orders M_sizes)) (va_A (wM h_M h_M_jobOf h_M_machineOf h_M_durations h_M_arcs h_M_drafts h_M_starts h_M_heads h_M_tails h_M_chosen h_M_orders h_M_sizes cI cZ M_jobs M_many M_isPlanned M_least M_optima M_jobOf M_machineOf M_durations M_arcs M_drafts M_starts M_heads M_tails M_chosen M_orders M_sizes) sz)) 0 0 (va_A (wM h_M h_M_jobOf h_M_machineOf h_M_durations h_M_arcs h_M_drafts h_M_starts h_M_heads h_M_tails h_M_chosen h_M_orders h_M_sizes cI cZ M_jobs M_many M_isPlanned M_least M_optima M_jobOf M_machineOf M_durations M_arcs M_drafts M_starts M_heads M_tails M_chosen M_orders M_sizes) sz) := by
  refine Met.ofW (cc := cX3_nextOf) (maxL := 3) (ret := (some .int)) (by decide) rfl ?_
  intro p e s m args below meth c s₁ B hml hv
  obtain ⟨rfl, hsz, hP, hK, hD0⟩ := hv
  have hx := B.exec
  have hb := B.bytes
  have hr := B.returns
  have hts := atoms_spec (ws := wsX3_nextOf) B.pre
  have hown : s.vm.findClass RX3 = some m.cls := findClass_of_methodNamed B.named
  have hlocks := B.notSynchronized
  subst hsz
  have hD := hD0.self (sz := s.heap.size)
  generalize hAe : va_A (wM h_M h_M_jobOf h_M_machineOf h_M_durations h_M_arcs h_M_drafts h_M_starts h_M_heads h_M_tails h_M_chosen h_M_orders h_M_sizes cI cZ M_jobs M_many M_isPlanned M_least M_optima M_jobOf M_machineOf M_durations M_arcs M_drafts M_starts M_heads M_tails M_chosen M_orders M_sizes) s.heap.size = A at hD ⊢
  have hA : ∀ q : Nat, s.heap.size ≤ q → A q := fun q h => by rw [← hAe]; exact Or.inr h
  have hS : va_S A s.heap s.heap [] := va_S.rf
  have hP : va_P (dC, dI) vwCl (wM h_M h_M_jobOf h_M_machineOf h_M_durations h_M_arcs h_M_drafts h_M_starts h_M_heads h_M_tails h_M_chosen h_M_orders h_M_sizes cI cZ M_jobs M_many M_isPlanned M_least M_optima M_jobOf M_machineOf M_durations M_arcs M_drafts M_starts M_heads M_tails M_chosen M_orders M_sizes) s.heap := hP
  have hl := lv_entry ([.ref h_M, .int a0]) (n := 3) (Nat.le_of_ble_eq_true rfl)
  rw [lg_entry_eq]
  generalize (lg_sl ([.ref h_M, .int a0]) ++ List.replicate (3 - (lg_sl ([.ref h_M, .int a0])).length) Slot.unset).toArray = ls at hl ⊢
  have hl : lv_has ls 3 [(0, .ref h_M), (1, .int a0)] := hl
  obtain ⟨H, hH⟩ : ∃ H, H = s.heap := ⟨_, rfl⟩
  rw [← hH] at hP
  have hS : va_S A s.heap H [] := by rw [hH]; exact hS
  refine W_heap hH ?_
  unfold wp_X3_nextOf at hw
  have hin_X3 : ∀ w ∈ u_ws RX3 TX3 16, w ∈ wsX3_nextOf := by decide +kernel
  refine lv_iload_n (pc := 0) hx hb dX3_nextOf_0 rfl (lv_at hl 1 rfl) ?_
  refine lv_iconst (v := 1) (pc := 1) hx hb dX3_nextOf_1 (by decide) ?_
  refine lv_iadd (pc := 2) hx hb dX3_nextOf_2 ?_
  refine lv_istore_n (lv' := [(2, .int (a0 + 1)), (0, .ref h_M), (1, .int a0)]) (pc := 3) hx hb dX3_nextOf_3 rfl hl (by decide) rfl (fun ls hl => ?_)
  obtain ⟨I_4, μ_4, hI_4, hs_4⟩ := hw
  refine lp_W (I := fun z : Int32 => I_4 z) (fun z => μ_4 z) (fun (z : Int32) H locs ls => va_P (dC, dI) vwCl (wM h_M h_M_jobOf h_M_machineOf h_M_durations h_M_arcs h_M_drafts h_M_starts h_M_heads h_M_tails h_M_chosen h_M_orders h_M_sizes cI cZ M_jobs M_many M_isPlanned M_least M_optima M_jobOf M_machineOf M_durations M_arcs M_drafts M_starts M_heads M_tails M_chosen M_orders M_sizes) H ∧ va_D A (wM h_M h_M_jobOf h_M_machineOf h_M_durations h_M_arcs h_M_drafts h_M_starts h_M_heads h_M_tails h_M_chosen h_M_orders h_M_sizes cI cZ M_jobs M_many M_isPlanned M_least M_optima M_jobOf M_machineOf M_durations M_arcs M_drafts M_starts M_heads M_tails M_chosen M_orders M_sizes) ∧ va_S A s.heap H locs ∧ lv_has ls 3 [(0, .ref h_M), (1, .int a0), (2, .int z)]) ?_ (a0 + 1) _ _ _ hI_4 ⟨hP, hD, hS, (lv_sub hl [1, 2, 0] rfl)⟩
  rintro x2_4 H locs ls hI ⟨hP, hD, hS, hl⟩ ih_4
  have hw := hs_4 x2_4 hI
  have hP : va_P (dC, dI) vwCl (wM h_M h_M_jobOf h_M_machineOf h_M_durations h_M_arcs h_M_drafts h_M_starts h_M_heads h_M_tails h_M_chosen h_M_orders h_M_sizes cI cZ M_jobs M_many M_isPlanned M_least M_optima M_jobOf M_machineOf M_durations M_arcs M_drafts M_starts M_heads M_tails M_chosen M_orders M_sizes) H := hP
  have hD : va_D A (wM h_M h_M_jobOf h_M_machineOf h_M_durations h_M_arcs h_M_drafts h_M_starts h_M_heads h_M_tails h_M_chosen h_M_orders h_M_sizes cI cZ M_jobs M_many M_isPlanned M_least M_optima M_jobOf M_machineOf M_durations M_arcs M_drafts M_starts M_heads M_tails M_chosen M_orders M_sizes) := hD
  have hl : lv_has ls 3 [(0, .ref h_M), (1, .int a0), (2, .int x2_4)] := hl
  refine lv_iload_n (pc := 4) hx hb dX3_nextOf_4 rfl (lv_at hl 2 rfl) ?_
  refine lv_aload_n (pc := 5) hx hb dX3_nextOf_5 rfl (lv_at hl 0 rfl) ?_
  refine va_get (D := (dC, dI)) (ci := 3) (v := .int M_many) (C := RX3) (T := TX3) (N := 16) (pc := 6) hx hb hts hin_X3 hown hK hP 0 rfl rfl 1 (by decide) (hts (.fieldLink RX3 48 "JobShopModel" "many" "I") (by decide +kernel)) (fun _ h9 => h9) rfl dX3_nextOf_6 ?_
  refine lv_icmp_ge (tgt := 33) (pc := 9) hx hb dX3_nextOf_9 (by decide) (fun c_1 => ?_) (fun c_1 => ?_)
  · have hw := hw.1 c_1
    refine lv_iload_n (pc := 33) hx hb dX3_nextOf_33 rfl (lv_at hl 2 rfl) ?_
    refine lv_aload_n (pc := 34) hx hb dX3_nextOf_34 rfl (lv_at hl 0 rfl) ?_
    refine va_get (D := (dC, dI)) (ci := 3) (v := .int M_many) (C := RX3) (T := TX3) (N := 16) (pc := 35) hx hb hts hin_X3 hown hK hP 0 rfl rfl 1 (by decide) (hts (.fieldLink RX3 48 "JobShopModel" "many" "I") (by decide +kernel)) (fun _ h9 => h9) rfl dX3_nextOf_35 ?_
    refine lv_icmp_ge (tgt := 45) (pc := 38) hx hb dX3_nextOf_38 (by decide) (fun c_2 => ?_) (fun c_2 => ?_)
    · have hw := hw.1 c_2
      refine lv_iconst (v := (-1)) (pc := 45) hx hb dX3_nextOf_45 (by decide) ?_
      exact W.iret (v := (-1)) hx hb hr (fun t ht hW => ⟨⟨(-1), (), rfl, hw, by rw [ht]; exact hP, va_K.moved hW.alike hK, hD⟩, hS.F ht⟩) hS.2.2 dX3_nextOf_46
    · have hw := hw.2 c_2
      refine lv_iload_n (pc := 41) hx hb dX3_nextOf_41 rfl (lv_at hl 2 rfl) ?_
      refine lv_goto (tgt := 46) (pc := 42) hx hb dX3_nextOf_42 (by decide) ?_
      exact W.iret (v := x2_4) hx hb hr (fun t ht hW => ⟨⟨x2_4, (), rfl, hw, by rw [ht]; exact hP, va_K.moved hW.alike hK, hD⟩, hS.F ht⟩) hS.2.2 dX3_nextOf_46
  · have hw := hw.2 c_1
    refine lv_aload_n (pc := 12) hx hb dX3_nextOf_12 rfl (lv_at hl 0 rfl) ?_
    refine va_get (D := (dC, dI)) (ci := 3) (v := .ref h_M_jobOf) (C := RX3) (T := TX3) (N := 16) (pc := 13) hx hb hts hin_X3 hown hK hP 0 rfl rfl 2 (by decide) (hts (.fieldLink RX3 7 "JobShopModel" "jobOf" "[I") (by decide +kernel)) (fun _ h9 => h9) rfl dX3_nextOf_13 ?_
    refine lv_iload_n (pc := 16) hx hb dX3_nextOf_16 rfl (lv_at hl 2 rfl) ?_
    obtain ⟨b_3, hw⟩ := hw
    refine va_iald (pc := 17) hx hb hK hP 1 0 rfl rfl b_3 dX3_nextOf_17 ?_
    refine lv_aload_n (pc := 18) hx hb dX3_nextOf_18 rfl (lv_at hl 0 rfl) ?_
    refine va_get (D := (dC, dI)) (ci := 3) (v := .ref h_M_jobOf) (C := RX3) (T := TX3) (N := 16) (pc := 19) hx hb hts hin_X3 hown hK hP 0 rfl rfl 2 (by decide) (hts (.fieldLink RX3 7 "JobShopModel" "jobOf" "[I") (by decide +kernel)) (fun _ h9 => h9) rfl dX3_nextOf_19 ?_
    refine lv_iload_n (pc := 22) hx hb dX3_nextOf_22 rfl (lv_at hl 1 rfl) ?_
    obtain ⟨b_4, hw⟩ := hw
    refine va_iald (pc := 23) hx hb hK hP 1 0 rfl rfl b_4 dX3_nextOf_23 ?_
    refine lv_icmp_eq (tgt := 33) (pc := 24) hx hb dX3_nextOf_24 (by decide) (fun c_5 => ?_) (fun c_5 => ?_)
    · have hw := hw.1 c_5
      refine lv_iload_n (pc := 33) hx hb dX3_nextOf_33 rfl (lv_at hl 2 rfl) ?_
      refine lv_aload_n (pc := 34) hx hb dX3_nextOf_34 rfl (lv_at hl 0 rfl) ?_
      refine va_get (D := (dC, dI)) (ci := 3) (v := .int M_many) (C := RX3) (T := TX3) (N := 16) (pc := 35) hx hb hts hin_X3 hown hK hP 0 rfl rfl 1 (by decide) (hts (.fieldLink RX3 48 "JobShopModel" "many" "I") (by decide +kernel)) (fun _ h9 => h9) rfl dX3_nextOf_35 ?_
      refine lv_icmp_ge (tgt := 45) (pc := 38) hx hb dX3_nextOf_38 (by decide) (fun c_6 => ?_) (fun c_6 => ?_)
      · have hw := hw.1 c_6
        refine lv_iconst (v := (-1)) (pc := 45) hx hb dX3_nextOf_45 (by decide) ?_
        exact W.iret (v := (-1)) hx hb hr (fun t ht hW => ⟨⟨(-1), (), rfl, hw, by rw [ht]; exact hP, va_K.moved hW.alike hK, hD⟩, hS.F ht⟩) hS.2.2 dX3_nextOf_46
      · have hw := hw.2 c_6
        refine lv_iload_n (pc := 41) hx hb dX3_nextOf_41 rfl (lv_at hl 2 rfl) ?_
        refine lv_goto (tgt := 46) (pc := 42) hx hb dX3_nextOf_42 (by decide) ?_
        exact W.iret (v := x2_4) hx hb hr (fun t ht hW => ⟨⟨x2_4, (), rfl, hw, by rw [ht]; exact hP, va_K.moved hW.alike hK, hD⟩, hS.F ht⟩) hS.2.2 dX3_nextOf_46
    · have hw := hw.2 c_5
      refine lv_iinc (v := x2_4 + 1) (lv' := [(2, .int (x2_4 + 1)), (0, .ref h_M), (1, .int a0)]) (pc := 27) hx hb dX3_nextOf_27 hl (k := 2) rfl rfl (by decide) rfl (fun ls hl => ?_)
      refine lv_goto (tgt := 4) (pc := 30) hx hb dX3_nextOf_30 (by decide) ?_
      exact ih_4 (x2_4 + 1) _ _ _ hw.1 hw.2 ⟨hP, hD, hS, (lv_sub hl [1, 2, 0] rfl)⟩
set_option maxHeartbeats 4000000 in
set_option maxRecDepth 100000 in
theorem c_X3_leads_a (l : Launch) (dC : Nat → ClassId) (dI : Nat → Nat → Nat) (h_M h_M_jobOf h_M_machineOf h_M_durations h_M_arcs h_M_drafts h_M_starts h_M_heads h_M_tails h_M_chosen h_M_orders h_M_sizes : Nat) (sz : Nat) (cI cZ : ClassId) (M_jobs : Int32) (M_many : Int32) (M_isPlanned : Int32) (M_least : Int32) (M_optima : Int32) (M_jobOf : Nat → Int32) (M_machineOf : Nat → Int32) (M_durations : Nat → Int32) (M_arcs : Nat → Int32) (M_drafts : Nat → Int32) (M_starts : Nat → Int32) (M_heads : Nat → Int32) (M_tails : Nat → Int32) (M_chosen : Nat → Int32) (M_orders : Nat → Int32) (M_sizes : Nat → Int32) (a1 a2 : Int32) (post : Int32 → Prop) (hw : wp_X3_leads M_many M_jobOf M_arcs a1 a2 post) : Met l yX3_leads wsX3_leads ({ frames := 1, cells := 0, slots := 0, locals := 22 }) (va_Pc [.ref h_M, .ref h_M_arcs, .int a1, .int a2] (fun U => U.heap.size = sz ∧ va_P (dC, dI) vwCl (wM h_M h_M_jobOf h_M_machineOf h_M_durations h_M_arcs h_M_drafts h_M_starts h_M_heads h_M_tails h_M_chosen h_M_orders h_M_sizes cI cZ M_jobs M_many M_isPlanned M_least M_optima M_jobOf M_machineOf M_durations M_arcs M_drafts M_starts M_heads M_tails M_chosen M_orders M_sizes) U.heap ∧ va_K (dC, dI) vwCl [(cI, .int), (cZ, .boolean)] U ∧ va_D (fun _ => True) (wM h_M h_M_jobOf h_M_machineOf h_M_durations h_M_arcs h_M_drafts h_M_starts h_M_heads h_M_tails h_M_chosen h_M_orders h_M_sizes cI cZ M_jobs M_many M_isPlanned M_least M_optima M_jobOf M_machineOf M_durations M_arcs M_drafts M_starts M_heads M_tails M_chosen M_orders M_sizes))) (va_Qi (fun (r : Int32) (u : Unit) => post r ) (fun u t => va_P (dC, dI) vwCl (wM h_M h_M_jobOf h_M_machineOf h_M_durations h_M_arcs h_M_drafts h_M_starts h_M_heads h_M_tails h_M_chosen h_M_orders h_M_sizes cI cZ M_jobs M_many M_isPlanned M_least M_optima M_jobOf M_machineOf M_durations M_arcs M_drafts M_starts M_heads M_tails M_chosen M_orders M_sizes) t.heap ∧ va_K (dC, dI) vwCl [(cI, .int), (cZ, .boolean)] t ∧ va_D (va_A (wM h_M h_M_jobOf h_M_machineOf h_M_durations h_M_arcs h_M_drafts h_M_starts h_M_heads h_M_tails h_M_chosen h_M_orders h_M_sizes cI cZ M_jobs M_many M_isPlanned M_least M_optima M_jobOf M_machineOf M_durations M_arcs M_drafts M_starts M_heads M_tails M_chosen M_orders M_sizes) sz) (wM h_M h_M_jobOf h_M_machineOf h_M_durations h_M_arcs h_M_drafts h_M_starts h_M_heads h_M_tails h_M_chosen h_M_orders h_M_sizes cI cZ M_jobs M_many M_isPlanned M_least M_optima M_jobOf M_machineOf M_durations M_arcs M_drafts M_starts M_heads M_tails M_chosen M_orders M_sizes)) (va_A (wM h_M h_M_jobOf h_M_machineOf h_M_durations h_M_arcs h_M_drafts h_M_starts h_M_heads h_M_tails h_M_chosen h_M_orders h_M_sizes cI cZ M_jobs M_many M_isPlanned M_least M_optima M_jobOf M_machineOf M_durations M_arcs M_drafts M_starts M_heads M_tails M_chosen M_orders M_sizes) sz)) 0 0 (va_A (wM h_M h_M_jobOf h_M_machineOf h_M_durations h_M_arcs h_M_drafts h_M_starts h_M_heads h_M_tails h_M_chosen h_M_orders h_M_sizes cI cZ M_jobs M_many M_isPlanned M_least M_optima M_jobOf M_machineOf M_durations M_arcs M_drafts M_starts M_heads M_tails M_chosen M_orders M_sizes) sz) := by
  refine Met.ofW (cc := cX3_leads) (maxL := 4) (ret := (some .boolean)) (by decide) rfl ?_
  intro p e s m args below meth c s₁ B hml hv
  obtain ⟨rfl, hsz, hP, hK, hD0⟩ := hv
  have hx := B.exec
  have hb := B.bytes
  have hr := B.returns
  have hts := atoms_spec (ws := wsX3_leads) B.pre
  have hown : s.vm.findClass RX3 = some m.cls := findClass_of_methodNamed B.named
  have hlocks := B.notSynchronized
  subst hsz
  have hD := hD0.self (sz := s.heap.size)
  generalize hAe : va_A (wM h_M h_M_jobOf h_M_machineOf h_M_durations h_M_arcs h_M_drafts h_M_starts h_M_heads h_M_tails h_M_chosen h_M_orders h_M_sizes cI cZ M_jobs M_many M_isPlanned M_least M_optima M_jobOf M_machineOf M_durations M_arcs M_drafts M_starts M_heads M_tails M_chosen M_orders M_sizes) s.heap.size = A at hD ⊢
  have hA : ∀ q : Nat, s.heap.size ≤ q → A q := fun q h => by rw [← hAe]; exact Or.inr h
  have hS : va_S A s.heap s.heap [] := va_S.rf
  have hP : va_P (dC, dI) vwCl (wM h_M h_M_jobOf h_M_machineOf h_M_durations h_M_arcs h_M_drafts h_M_starts h_M_heads h_M_tails h_M_chosen h_M_orders h_M_sizes cI cZ M_jobs M_many M_isPlanned M_least M_optima M_jobOf M_machineOf M_durations M_arcs M_drafts M_starts M_heads M_tails M_chosen M_orders M_sizes) s.heap := hP
  have hl := lv_entry ([.ref h_M, .ref h_M_arcs, .int a1, .int a2]) (n := 4) (Nat.le_of_ble_eq_true rfl)
  rw [lg_entry_eq]
  generalize (lg_sl ([.ref h_M, .ref h_M_arcs, .int a1, .int a2]) ++ List.replicate (4 - (lg_sl ([.ref h_M, .ref h_M_arcs, .int a1, .int a2])).length) Slot.unset).toArray = ls at hl ⊢
  have hl : lv_has ls 4 [(0, .ref h_M), (1, .ref h_M_arcs), (2, .int a1), (3, .int a2)] := hl
  obtain ⟨H, hH⟩ : ∃ H, H = s.heap := ⟨_, rfl⟩
  rw [← hH] at hP
  have hS : va_S A s.heap H [] := by rw [hH]; exact hS
  refine W_heap hH ?_
  unfold wp_X3_leads at hw
  refine lv_aload_n (pc := 0) hx hb dX3_leads_0 rfl (lv_at hl 1 rfl) ?_
  refine lv_bipush (v := 12) (pc := 1) hx hb dX3_leads_1 (by decide) ?_
  refine lv_iload_n (pc := 3) hx hb dX3_leads_3 rfl (lv_at hl 2 rfl) ?_
  refine lv_imul (pc := 4) hx hb dX3_leads_4 ?_
  refine lv_iload_n (pc := 5) hx hb dX3_leads_5 rfl (lv_at hl 3 rfl) ?_
  refine lv_iadd (pc := 6) hx hb dX3_leads_6 ?_
  obtain ⟨b_1, hw⟩ := hw
  refine va_zald (pc := 7) hx hb hK hP 4 1 rfl rfl b_1 dX3_leads_7 ?_
  refine lv_if_ne (tgt := 20) (pc := 8) hx hb dX3_leads_8 (by decide) (fun c_2 => ?_) (fun c_2 => ?_)
  · have hw := hw.1 c_2
    refine lv_iconst (v := 1) (pc := 20) hx hb dX3_leads_20 (by decide) ?_
    refine lv_goto (tgt := 25) (pc := 21) hx hb dX3_leads_21 (by decide) ?_
    exact W.zret (v := 1) hx hb hr rfl (fun t ht hW => ⟨⟨1, (), rfl, hw, by rw [ht]; exact hP, va_K.moved hW.alike hK, hD⟩, hS.F ht⟩) hS.2.2 dX3_leads_25
  · have hw := hw.2 c_2
    refine lv_aload_n (pc := 11) hx hb dX3_leads_11 rfl (lv_at hl 0 rfl) ?_
    refine lv_iload_n (pc := 12) hx hb dX3_leads_12 rfl (lv_at hl 2 rfl) ?_
    have hPx : va_P (dC, dI) vwCl ([] ++ (wM h_M h_M_jobOf h_M_machineOf h_M_durations h_M_arcs h_M_drafts h_M_starts h_M_heads h_M_tails h_M_chosen h_M_orders h_M_sizes cI cZ M_jobs M_many M_isPlanned M_least M_optima M_jobOf M_machineOf M_durations M_arcs M_drafts M_starts M_heads M_tails M_chosen M_orders M_sizes)) H := hP
    have hDx : va_D A ([] ++ (wM h_M h_M_jobOf h_M_machineOf h_M_durations h_M_arcs h_M_drafts h_M_starts h_M_heads h_M_tails h_M_chosen h_M_orders h_M_sizes cI cZ M_jobs M_many M_isPlanned M_least M_optima M_jobOf M_machineOf M_durations M_arcs M_drafts M_starts M_heads M_tails M_chosen M_orders M_sizes)) := hD
    refine kc_i (pc := 13) (w1 := (fun u : Unit => (wM h_M h_M_jobOf h_M_machineOf h_M_durations h_M_arcs h_M_drafts h_M_starts h_M_heads h_M_tails h_M_chosen h_M_orders h_M_sizes cI cZ M_jobs M_many M_isPlanned M_least M_optima M_jobOf M_machineOf M_durations M_arcs M_drafts M_starts M_heads M_tails M_chosen M_orders M_sizes))) (va_runV (As := [.int a1]) (rest := []) ⟨hx, hb, hml, hown, hts⟩ (c_X3_nextOf l dC dI h_M h_M_jobOf h_M_machineOf h_M_durations h_M_arcs h_M_drafts h_M_starts h_M_heads h_M_tails h_M_chosen h_M_orders h_M_sizes H.size cI cZ M_jobs M_many M_isPlanned M_least M_optima M_jobOf M_machineOf M_durations M_arcs M_drafts M_starts M_heads M_tails M_chosen M_orders M_sizes a1 _ hw) (cwV 1 hts gX3_leads_X3_nextOf rfl rfl rfl (by decide +kernel) ⟨Nat.le_of_ble_eq_true rfl, Nat.le_of_ble_eq_true rfl⟩) (kc_preVM (q0 := 0) (ci := 3) hK hPx hDx [0, 1] rfl rfl rfl) rfl rfl hl.1 rfl (lv_room (Nat.le_of_ble_eq_true rfl)) dX3_leads_13 ⟨Nat.zero_le _, Nat.zero_le _⟩) hPx hDx hS hA (fun r_13 u H locs hw hP hD hS => ?_)
    have hP : va_P (dC, dI) vwCl (wM h_M h_M_jobOf h_M_machineOf h_M_durations h_M_arcs h_M_drafts h_M_starts h_M_heads h_M_tails h_M_chosen h_M_orders h_M_sizes cI cZ M_jobs M_many M_isPlanned M_least M_optima M_jobOf M_machineOf M_durations M_arcs M_drafts M_starts M_heads M_tails M_chosen M_orders M_sizes) H := hP
    have hD : va_D A (wM h_M h_M_jobOf h_M_machineOf h_M_durations h_M_arcs h_M_drafts h_M_starts h_M_heads h_M_tails h_M_chosen h_M_orders h_M_sizes cI cZ M_jobs M_many M_isPlanned M_least M_optima M_jobOf M_machineOf M_durations M_arcs M_drafts M_starts M_heads M_tails M_chosen M_orders M_sizes) := hD
    refine lv_iload_n (pc := 16) hx hb dX3_leads_16 rfl (lv_at hl 3 rfl) ?_
    refine lv_icmp_ne (tgt := 24) (pc := 17) hx hb dX3_leads_17 (by decide) (fun c_3 => ?_) (fun c_3 => ?_)
    · have hw := hw.1 c_3
      refine lv_iconst (v := 0) (pc := 24) hx hb dX3_leads_24 (by decide) ?_
      exact W.zret (v := 0) hx hb hr rfl (fun t ht hW => ⟨⟨0, (), rfl, hw, by rw [ht]; exact hP, va_K.moved hW.alike hK, hD⟩, hS.F ht⟩) hS.2.2 dX3_leads_25
    · have hw := hw.2 c_3
      refine lv_iconst (v := 1) (pc := 20) hx hb dX3_leads_20 (by decide) ?_
      refine lv_goto (tgt := 25) (pc := 21) hx hb dX3_leads_21 (by decide) ?_
      exact W.zret (v := 1) hx hb hr rfl (fun t ht hW => ⟨⟨1, (), rfl, hw, by rw [ht]; exact hP, va_K.moved hW.alike hK, hD⟩, hS.F ht⟩) hS.2.2 dX3_leads_25
set_option maxHeartbeats 4000000 in
set_option maxRecDepth 100000 in
theorem c_X3_leads_c (l : Launch) (dC : Nat → ClassId) (dI : Nat → Nat → Nat) (h_M h_M_jobOf h_M_machineOf h_M_durations h_M_arcs h_M_drafts h_M_starts h_M_heads h_M_tails h_M_chosen h_M_orders h_M_sizes : Nat) (sz : Nat) (cI cZ : ClassId) (M_jobs : Int32) (M_many : Int32) (M_isPlanned : Int32) (M_least : Int32) (M_optima : Int32) (M_jobOf : Nat → Int32) (M_machineOf : Nat → Int32) (M_durations : Nat → Int32) (M_arcs : Nat → Int32) (M_drafts : Nat → Int32) (M_starts : Nat → Int32) (M_heads : Nat → Int32) (M_tails : Nat → Int32) (M_chosen : Nat → Int32) (M_orders : Nat → Int32) (M_sizes : Nat → Int32) (a1 a2 : Int32) (post : Int32 → Prop) (hw : wp_X3_leads M_many M_jobOf M_chosen a1 a2 post) : Met l yX3_leads wsX3_leads ({ frames := 1, cells := 0, slots := 0, locals := 22 }) (va_Pc [.ref h_M, .ref h_M_chosen, .int a1, .int a2] (fun U => U.heap.size = sz ∧ va_P (dC, dI) vwCl (wM h_M h_M_jobOf h_M_machineOf h_M_durations h_M_arcs h_M_drafts h_M_starts h_M_heads h_M_tails h_M_chosen h_M_orders h_M_sizes cI cZ M_jobs M_many M_isPlanned M_least M_optima M_jobOf M_machineOf M_durations M_arcs M_drafts M_starts M_heads M_tails M_chosen M_orders M_sizes) U.heap ∧ va_K (dC, dI) vwCl [(cI, .int), (cZ, .boolean)] U ∧ va_D (fun _ => True) (wM h_M h_M_jobOf h_M_machineOf h_M_durations h_M_arcs h_M_drafts h_M_starts h_M_heads h_M_tails h_M_chosen h_M_orders h_M_sizes cI cZ M_jobs M_many M_isPlanned M_least M_optima M_jobOf M_machineOf M_durations M_arcs M_drafts M_starts M_heads M_tails M_chosen M_orders M_sizes))) (va_Qi (fun (r : Int32) (u : Unit) => post r ) (fun u t => va_P (dC, dI) vwCl (wM h_M h_M_jobOf h_M_machineOf h_M_durations h_M_arcs h_M_drafts h_M_starts h_M_heads h_M_tails h_M_chosen h_M_orders h_M_sizes cI cZ M_jobs M_many M_isPlanned M_least M_optima M_jobOf M_machineOf M_durations M_arcs M_drafts M_starts M_heads M_tails M_chosen M_orders M_sizes) t.heap ∧ va_K (dC, dI) vwCl [(cI, .int), (cZ, .boolean)] t ∧ va_D (va_A (wM h_M h_M_jobOf h_M_machineOf h_M_durations h_M_arcs h_M_drafts h_M_starts h_M_heads h_M_tails h_M_chosen h_M_orders h_M_sizes cI cZ M_jobs M_many M_isPlanned M_least M_optima M_jobOf M_machineOf M_durations M_arcs M_drafts M_starts M_heads M_tails M_chosen M_orders M_sizes) sz) (wM h_M h_M_jobOf h_M_machineOf h_M_durations h_M_arcs h_M_drafts h_M_starts h_M_heads h_M_tails h_M_chosen h_M_orders h_M_sizes cI cZ M_jobs M_many M_isPlanned M_least M_optima M_jobOf M_machineOf M_durations M_arcs M_drafts M_starts M_heads M_tails M_chosen M_orders M_sizes)) (va_A (wM h_M h_M_jobOf h_M_machineOf h_M_durations h_M_arcs h_M_drafts h_M_starts h_M_heads h_M_tails h_M_chosen h_M_orders h_M_sizes cI cZ M_jobs M_many M_isPlanned M_least M_optima M_jobOf M_machineOf M_durations M_arcs M_drafts M_starts M_heads M_tails M_chosen M_orders M_sizes) sz)) 0 0 (va_A (wM h_M h_M_jobOf h_M_machineOf h_M_durations h_M_arcs h_M_drafts h_M_starts h_M_heads h_M_tails h_M_chosen h_M_orders h_M_sizes cI cZ M_jobs M_many M_isPlanned M_least M_optima M_jobOf M_machineOf M_durations M_arcs M_drafts M_starts M_heads M_tails M_chosen M_orders M_sizes) sz) := by
  refine Met.ofW (cc := cX3_leads) (maxL := 4) (ret := (some .boolean)) (by decide) rfl ?_
  intro p e s m args below meth c s₁ B hml hv
  obtain ⟨rfl, hsz, hP, hK, hD0⟩ := hv
  have hx := B.exec
  have hb := B.bytes
  have hr := B.returns
  have hts := atoms_spec (ws := wsX3_leads) B.pre
  have hown : s.vm.findClass RX3 = some m.cls := findClass_of_methodNamed B.named
  have hlocks := B.notSynchronized
  subst hsz
  have hD := hD0.self (sz := s.heap.size)
  generalize hAe : va_A (wM h_M h_M_jobOf h_M_machineOf h_M_durations h_M_arcs h_M_drafts h_M_starts h_M_heads h_M_tails h_M_chosen h_M_orders h_M_sizes cI cZ M_jobs M_many M_isPlanned M_least M_optima M_jobOf M_machineOf M_durations M_arcs M_drafts M_starts M_heads M_tails M_chosen M_orders M_sizes) s.heap.size = A at hD ⊢
  have hA : ∀ q : Nat, s.heap.size ≤ q → A q := fun q h => by rw [← hAe]; exact Or.inr h
  have hS : va_S A s.heap s.heap [] := va_S.rf
  have hP : va_P (dC, dI) vwCl (wM h_M h_M_jobOf h_M_machineOf h_M_durations h_M_arcs h_M_drafts h_M_starts h_M_heads h_M_tails h_M_chosen h_M_orders h_M_sizes cI cZ M_jobs M_many M_isPlanned M_least M_optima M_jobOf M_machineOf M_durations M_arcs M_drafts M_starts M_heads M_tails M_chosen M_orders M_sizes) s.heap := hP
  have hl := lv_entry ([.ref h_M, .ref h_M_chosen, .int a1, .int a2]) (n := 4) (Nat.le_of_ble_eq_true rfl)
  rw [lg_entry_eq]
  generalize (lg_sl ([.ref h_M, .ref h_M_chosen, .int a1, .int a2]) ++ List.replicate (4 - (lg_sl ([.ref h_M, .ref h_M_chosen, .int a1, .int a2])).length) Slot.unset).toArray = ls at hl ⊢
  have hl : lv_has ls 4 [(0, .ref h_M), (1, .ref h_M_chosen), (2, .int a1), (3, .int a2)] := hl
  obtain ⟨H, hH⟩ : ∃ H, H = s.heap := ⟨_, rfl⟩
  rw [← hH] at hP
  have hS : va_S A s.heap H [] := by rw [hH]; exact hS
  refine W_heap hH ?_
  unfold wp_X3_leads at hw
  refine lv_aload_n (pc := 0) hx hb dX3_leads_0 rfl (lv_at hl 1 rfl) ?_
  refine lv_bipush (v := 12) (pc := 1) hx hb dX3_leads_1 (by decide) ?_
  refine lv_iload_n (pc := 3) hx hb dX3_leads_3 rfl (lv_at hl 2 rfl) ?_
  refine lv_imul (pc := 4) hx hb dX3_leads_4 ?_
  refine lv_iload_n (pc := 5) hx hb dX3_leads_5 rfl (lv_at hl 3 rfl) ?_
  refine lv_iadd (pc := 6) hx hb dX3_leads_6 ?_
  obtain ⟨b_1, hw⟩ := hw
  refine va_zald (pc := 7) hx hb hK hP 9 1 rfl rfl b_1 dX3_leads_7 ?_
  refine lv_if_ne (tgt := 20) (pc := 8) hx hb dX3_leads_8 (by decide) (fun c_2 => ?_) (fun c_2 => ?_)
  · have hw := hw.1 c_2
    refine lv_iconst (v := 1) (pc := 20) hx hb dX3_leads_20 (by decide) ?_
    refine lv_goto (tgt := 25) (pc := 21) hx hb dX3_leads_21 (by decide) ?_
    exact W.zret (v := 1) hx hb hr rfl (fun t ht hW => ⟨⟨1, (), rfl, hw, by rw [ht]; exact hP, va_K.moved hW.alike hK, hD⟩, hS.F ht⟩) hS.2.2 dX3_leads_25
  · have hw := hw.2 c_2
    refine lv_aload_n (pc := 11) hx hb dX3_leads_11 rfl (lv_at hl 0 rfl) ?_
    refine lv_iload_n (pc := 12) hx hb dX3_leads_12 rfl (lv_at hl 2 rfl) ?_
    have hPx : va_P (dC, dI) vwCl ([] ++ (wM h_M h_M_jobOf h_M_machineOf h_M_durations h_M_arcs h_M_drafts h_M_starts h_M_heads h_M_tails h_M_chosen h_M_orders h_M_sizes cI cZ M_jobs M_many M_isPlanned M_least M_optima M_jobOf M_machineOf M_durations M_arcs M_drafts M_starts M_heads M_tails M_chosen M_orders M_sizes)) H := hP
    have hDx : va_D A ([] ++ (wM h_M h_M_jobOf h_M_machineOf h_M_durations h_M_arcs h_M_drafts h_M_starts h_M_heads h_M_tails h_M_chosen h_M_orders h_M_sizes cI cZ M_jobs M_many M_isPlanned M_least M_optima M_jobOf M_machineOf M_durations M_arcs M_drafts M_starts M_heads M_tails M_chosen M_orders M_sizes)) := hD
    refine kc_i (pc := 13) (w1 := (fun u : Unit => (wM h_M h_M_jobOf h_M_machineOf h_M_durations h_M_arcs h_M_drafts h_M_starts h_M_heads h_M_tails h_M_chosen h_M_orders h_M_sizes cI cZ M_jobs M_many M_isPlanned M_least M_optima M_jobOf M_machineOf M_durations M_arcs M_drafts M_starts M_heads M_tails M_chosen M_orders M_sizes))) (va_runV (As := [.int a1]) (rest := []) ⟨hx, hb, hml, hown, hts⟩ (c_X3_nextOf l dC dI h_M h_M_jobOf h_M_machineOf h_M_durations h_M_arcs h_M_drafts h_M_starts h_M_heads h_M_tails h_M_chosen h_M_orders h_M_sizes H.size cI cZ M_jobs M_many M_isPlanned M_least M_optima M_jobOf M_machineOf M_durations M_arcs M_drafts M_starts M_heads M_tails M_chosen M_orders M_sizes a1 _ hw) (cwV 1 hts gX3_leads_X3_nextOf rfl rfl rfl (by decide +kernel) ⟨Nat.le_of_ble_eq_true rfl, Nat.le_of_ble_eq_true rfl⟩) (kc_preVM (q0 := 0) (ci := 3) hK hPx hDx [0, 1] rfl rfl rfl) rfl rfl hl.1 rfl (lv_room (Nat.le_of_ble_eq_true rfl)) dX3_leads_13 ⟨Nat.zero_le _, Nat.zero_le _⟩) hPx hDx hS hA (fun r_13 u H locs hw hP hD hS => ?_)
    have hP : va_P (dC, dI) vwCl (wM h_M h_M_jobOf h_M_machineOf h_M_durations h_M_arcs h_M_drafts h_M_starts h_M_heads h_M_tails h_M_chosen h_M_orders h_M_sizes cI cZ M_jobs M_many M_isPlanned M_least M_optima M_jobOf M_machineOf M_durations M_arcs M_drafts M_starts M_heads M_tails M_chosen M_orders M_sizes) H := hP
    have hD : va_D A (wM h_M h_M_jobOf h_M_machineOf h_M_durations h_M_arcs h_M_drafts h_M_starts h_M_heads h_M_tails h_M_chosen h_M_orders h_M_sizes cI cZ M_jobs M_many M_isPlanned M_least M_optima M_jobOf M_machineOf M_durations M_arcs M_drafts M_starts M_heads M_tails M_chosen M_orders M_sizes) := hD
    refine lv_iload_n (pc := 16) hx hb dX3_leads_16 rfl (lv_at hl 3 rfl) ?_
    refine lv_icmp_ne (tgt := 24) (pc := 17) hx hb dX3_leads_17 (by decide) (fun c_3 => ?_) (fun c_3 => ?_)
    · have hw := hw.1 c_3
      refine lv_iconst (v := 0) (pc := 24) hx hb dX3_leads_24 (by decide) ?_
      exact W.zret (v := 0) hx hb hr rfl (fun t ht hW => ⟨⟨0, (), rfl, hw, by rw [ht]; exact hP, va_K.moved hW.alike hK, hD⟩, hS.F ht⟩) hS.2.2 dX3_leads_25
    · have hw := hw.2 c_3
      refine lv_iconst (v := 1) (pc := 20) hx hb dX3_leads_20 (by decide) ?_
      refine lv_goto (tgt := 25) (pc := 21) hx hb dX3_leads_21 (by decide) ?_
      exact W.zret (v := 1) hx hb hr rfl (fun t ht hW => ⟨⟨1, (), rfl, hw, by rw [ht]; exact hP, va_K.moved hW.alike hK, hD⟩, hS.F ht⟩) hS.2.2 dX3_leads_25
set_option maxHeartbeats 4000000 in
set_option maxRecDepth 100000 in
theorem c_X3_findHeads_a (l : Launch) (dC : Nat → ClassId) (dI : Nat → Nat → Nat) (h_M h_M_jobOf h_M_machineOf h_M_durations h_M_arcs h_M_drafts h_M_starts h_M_heads h_M_tails h_M_chosen h_M_orders h_M_sizes : Nat) (sz : Nat) (cI cZ : ClassId) (M_jobs : Int32) (M_many : Int32) (M_isPlanned : Int32) (M_least : Int32) (M_optima : Int32) (M_jobOf : Nat → Int32) (M_machineOf : Nat → Int32) (M_durations : Nat → Int32) (M_arcs : Nat → Int32) (M_drafts : Nat → Int32) (M_starts : Nat → Int32) (M_heads : Nat → Int32) (M_tails : Nat → Int32) (M_chosen : Nat → Int32) (M_orders : Nat → Int32) (M_sizes : Nat → Int32) (post : Int32 → (Nat → Int32) → Prop) (hw : wp_X3_findHeads M_many M_jobOf M_durations M_heads M_arcs post) : Met l yX3_findHeads wsX3_findHeads ({ frames := 2, cells := 0, slots := 0, locals := 45 }) (va_Pc [.ref h_M, .ref h_M_arcs] (fun U => U.heap.size = sz ∧ va_P (dC, dI) vwCl (wM h_M h_M_jobOf h_M_machineOf h_M_durations h_M_arcs h_M_drafts h_M_starts h_M_heads h_M_tails h_M_chosen h_M_orders h_M_sizes cI cZ M_jobs M_many M_isPlanned M_least M_optima M_jobOf M_machineOf M_durations M_arcs M_drafts M_starts M_heads M_tails M_chosen M_orders M_sizes) U.heap ∧ va_K (dC, dI) vwCl [(cI, .int), (cZ, .boolean)] U ∧ va_D (fun _ => True) (wM h_M h_M_jobOf h_M_machineOf h_M_durations h_M_arcs h_M_drafts h_M_starts h_M_heads h_M_tails h_M_chosen h_M_orders h_M_sizes cI cZ M_jobs M_many M_isPlanned M_least M_optima M_jobOf M_machineOf M_durations M_arcs M_drafts M_starts M_heads M_tails M_chosen M_orders M_sizes))) (va_Qi (fun (r : Int32) (u : Nat → Int32) => post r u) (fun u t => va_P (dC, dI) vwCl (wM h_M h_M_jobOf h_M_machineOf h_M_durations h_M_arcs h_M_drafts h_M_starts h_M_heads h_M_tails h_M_chosen h_M_orders h_M_sizes cI cZ M_jobs M_many M_isPlanned M_least M_optima M_jobOf M_machineOf M_durations M_arcs M_drafts M_starts u M_tails M_chosen M_orders M_sizes) t.heap ∧ va_K (dC, dI) vwCl [(cI, .int), (cZ, .boolean)] t ∧ va_D (va_A (wM h_M h_M_jobOf h_M_machineOf h_M_durations h_M_arcs h_M_drafts h_M_starts h_M_heads h_M_tails h_M_chosen h_M_orders h_M_sizes cI cZ M_jobs M_many M_isPlanned M_least M_optima M_jobOf M_machineOf M_durations M_arcs M_drafts M_starts M_heads M_tails M_chosen M_orders M_sizes) sz) (wM h_M h_M_jobOf h_M_machineOf h_M_durations h_M_arcs h_M_drafts h_M_starts h_M_heads h_M_tails h_M_chosen h_M_orders h_M_sizes cI cZ M_jobs M_many M_isPlanned M_least M_optima M_jobOf M_machineOf M_durations M_arcs M_drafts M_starts u M_tails M_chosen M_orders M_sizes)) (va_A (wM h_M h_M_jobOf h_M_machineOf h_M_durations h_M_arcs h_M_drafts h_M_starts h_M_heads h_M_tails h_M_chosen h_M_orders h_M_sizes cI cZ M_jobs M_many M_isPlanned M_least M_optima M_jobOf M_machineOf M_durations M_arcs M_drafts M_starts M_heads M_tails M_chosen M_orders M_sizes) sz)) 0 0 (va_A (wM h_M h_M_jobOf h_M_machineOf h_M_durations h_M_arcs h_M_drafts h_M_starts h_M_heads h_M_tails h_M_chosen h_M_orders h_M_sizes cI cZ M_jobs M_many M_isPlanned M_least M_optima M_jobOf M_machineOf M_durations M_arcs M_drafts M_starts M_heads M_tails M_chosen M_orders M_sizes) sz) := by
  refine Met.ofW (cc := cX3_findHeads) (maxL := 7) (ret := (some .boolean)) (by decide) rfl ?_
  intro p e s m args below meth c s₁ B hml hv
  obtain ⟨rfl, hsz, hP, hK, hD0⟩ := hv
  have hx := B.exec
  have hb := B.bytes
  have hr := B.returns
  have hts := atoms_spec (ws := wsX3_findHeads) B.pre
  have hown : s.vm.findClass RX3 = some m.cls := findClass_of_methodNamed B.named
  have hlocks := B.notSynchronized
  subst hsz
  have hD := hD0.self (sz := s.heap.size)
  generalize hAe : va_A (wM h_M h_M_jobOf h_M_machineOf h_M_durations h_M_arcs h_M_drafts h_M_starts h_M_heads h_M_tails h_M_chosen h_M_orders h_M_sizes cI cZ M_jobs M_many M_isPlanned M_least M_optima M_jobOf M_machineOf M_durations M_arcs M_drafts M_starts M_heads M_tails M_chosen M_orders M_sizes) s.heap.size = A at hD ⊢
  have hA : ∀ q : Nat, s.heap.size ≤ q → A q := fun q h => by rw [← hAe]; exact Or.inr h
  have hS : va_S A s.heap s.heap [] := va_S.rf
  have hP : va_P (dC, dI) vwCl (wM h_M h_M_jobOf h_M_machineOf h_M_durations h_M_arcs h_M_drafts h_M_starts h_M_heads h_M_tails h_M_chosen h_M_orders h_M_sizes cI cZ M_jobs M_many M_isPlanned M_least M_optima M_jobOf M_machineOf M_durations M_arcs M_drafts M_starts M_heads M_tails M_chosen M_orders M_sizes) s.heap := hP
  have hl := lv_entry ([.ref h_M, .ref h_M_arcs]) (n := 7) (Nat.le_of_ble_eq_true rfl)
  rw [lg_entry_eq]
  generalize (lg_sl ([.ref h_M, .ref h_M_arcs]) ++ List.replicate (7 - (lg_sl ([.ref h_M, .ref h_M_arcs])).length) Slot.unset).toArray = ls at hl ⊢
  have hl : lv_has ls 7 [(0, .ref h_M), (1, .ref h_M_arcs)] := hl
  obtain ⟨H, hH⟩ : ∃ H, H = s.heap := ⟨_, rfl⟩
  rw [← hH] at hP
  have hS : va_S A s.heap H [] := by rw [hH]; exact hS
  refine W_heap hH ?_
  unfold wp_X3_findHeads at hw
  have hin_X3 : ∀ w ∈ u_ws RX3 TX3 16, w ∈ wsX3_findHeads := by decide +kernel
  refine lv_iconst (v := 0) (pc := 0) hx hb dX3_findHeads_0 (by decide) ?_
  refine lv_istore_n (lv' := [(2, .int 0), (0, .ref h_M), (1, .ref h_M_arcs)]) (pc := 1) hx hb dX3_findHeads_1 rfl hl (by decide) rfl (fun ls hl => ?_)
  obtain ⟨I_2, μ_2, hI_2, hs_2⟩ := hw
  refine lp_W (I := fun z : Int32 × (Nat → Int32) => I_2 z.1 z.2) (fun z => μ_2 z.1 z.2) (fun (z : Int32 × (Nat → Int32)) H locs ls => va_P (dC, dI) vwCl (wM h_M h_M_jobOf h_M_machineOf h_M_durations h_M_arcs h_M_drafts h_M_starts h_M_heads h_M_tails h_M_chosen h_M_orders h_M_sizes cI cZ M_jobs M_many M_isPlanned M_least M_optima M_jobOf M_machineOf M_durations M_arcs M_drafts M_starts z.2 M_tails M_chosen M_orders M_sizes) H ∧ va_D A (wM h_M h_M_jobOf h_M_machineOf h_M_durations h_M_arcs h_M_drafts h_M_starts h_M_heads h_M_tails h_M_chosen h_M_orders h_M_sizes cI cZ M_jobs M_many M_isPlanned M_least M_optima M_jobOf M_machineOf M_durations M_arcs M_drafts M_starts z.2 M_tails M_chosen M_orders M_sizes) ∧ va_S A s.heap H locs ∧ lv_has ls 7 [(0, .ref h_M), (1, .ref h_M_arcs), (2, .int z.1)]) ?_ (0, M_heads) _ _ _ hI_2 ⟨hP, hD, hS, (lv_sub hl [1, 2, 0] rfl)⟩
  rintro ⟨x2_2, M_heads_2⟩ H locs ls hI ⟨hP, hD, hS, hl⟩ ih_2
  have hw := hs_2 x2_2 M_heads_2 hI
  have hP : va_P (dC, dI) vwCl (wM h_M h_M_jobOf h_M_machineOf h_M_durations h_M_arcs h_M_drafts h_M_starts h_M_heads h_M_tails h_M_chosen h_M_orders h_M_sizes cI cZ M_jobs M_many M_isPlanned M_least M_optima M_jobOf M_machineOf M_durations M_arcs M_drafts M_starts M_heads_2 M_tails M_chosen M_orders M_sizes) H := hP
  have hD : va_D A (wM h_M h_M_jobOf h_M_machineOf h_M_durations h_M_arcs h_M_drafts h_M_starts h_M_heads h_M_tails h_M_chosen h_M_orders h_M_sizes cI cZ M_jobs M_many M_isPlanned M_least M_optima M_jobOf M_machineOf M_durations M_arcs M_drafts M_starts M_heads_2 M_tails M_chosen M_orders M_sizes) := hD
  have hl : lv_has ls 7 [(0, .ref h_M), (1, .ref h_M_arcs), (2, .int x2_2)] := hl
  refine lv_iload_n (pc := 2) hx hb dX3_findHeads_2 rfl (lv_at hl 2 rfl) ?_
  refine lv_aload_n (pc := 3) hx hb dX3_findHeads_3 rfl (lv_at hl 0 rfl) ?_
  refine va_get (D := (dC, dI)) (ci := 3) (v := .int M_many) (C := RX3) (T := TX3) (N := 16) (pc := 4) hx hb hts hin_X3 hown hK hP 0 rfl rfl 1 (by decide) (hts (.fieldLink RX3 48 "JobShopModel" "many" "I") (by decide +kernel)) (fun _ h9 => h9) rfl dX3_findHeads_4 ?_
  refine lv_icmp_ge (tgt := 23) (pc := 7) hx hb dX3_findHeads_7 (by decide) (fun c_1 => ?_) (fun c_1 => ?_)
  · have hw := hw.1 c_1
    refine lv_iconst (v := 1) (pc := 23) hx hb dX3_findHeads_23 (by decide) ?_
    refine lv_istore_n (lv' := [(2, .int 1), (0, .ref h_M), (1, .ref h_M_arcs)]) (pc := 24) hx hb dX3_findHeads_24 rfl hl (by decide) rfl (fun ls hl => ?_)
    refine lv_iconst (v := 0) (pc := 25) hx hb dX3_findHeads_25 (by decide) ?_
    refine lv_istore_n (lv' := [(3, .int 0), (2, .int 1), (0, .ref h_M), (1, .ref h_M_arcs)]) (pc := 26) hx hb dX3_findHeads_26 rfl hl (by decide) rfl (fun ls hl => ?_)
    obtain ⟨I_27, μ_27, hI_27, hs_27⟩ := hw
    refine lp_W (I := fun z : Int32 × Int32 × (Nat → Int32) => I_27 z.1 z.2.1 z.2.2) (fun z => μ_27 z.1 z.2.1 z.2.2) (fun (z : Int32 × Int32 × (Nat → Int32)) H locs ls => va_P (dC, dI) vwCl (wM h_M h_M_jobOf h_M_machineOf h_M_durations h_M_arcs h_M_drafts h_M_starts h_M_heads h_M_tails h_M_chosen h_M_orders h_M_sizes cI cZ M_jobs M_many M_isPlanned M_least M_optima M_jobOf M_machineOf M_durations M_arcs M_drafts M_starts z.2.2 M_tails M_chosen M_orders M_sizes) H ∧ va_D A (wM h_M h_M_jobOf h_M_machineOf h_M_durations h_M_arcs h_M_drafts h_M_starts h_M_heads h_M_tails h_M_chosen h_M_orders h_M_sizes cI cZ M_jobs M_many M_isPlanned M_least M_optima M_jobOf M_machineOf M_durations M_arcs M_drafts M_starts z.2.2 M_tails M_chosen M_orders M_sizes) ∧ va_S A s.heap H locs ∧ lv_has ls 7 [(0, .ref h_M), (1, .ref h_M_arcs), (2, .int z.1), (3, .int z.2.1)]) ?_ (1, 0, M_heads_2) _ _ _ hI_27 ⟨hP, hD, hS, (lv_sub hl [2, 3, 1, 0] rfl)⟩
    rintro ⟨x2_27, x3_27, M_heads_27⟩ H locs ls hI ⟨hP, hD, hS, hl⟩ ih_27
    have hw := hs_27 x2_27 x3_27 M_heads_27 hI
    have hP : va_P (dC, dI) vwCl (wM h_M h_M_jobOf h_M_machineOf h_M_durations h_M_arcs h_M_drafts h_M_starts h_M_heads h_M_tails h_M_chosen h_M_orders h_M_sizes cI cZ M_jobs M_many M_isPlanned M_least M_optima M_jobOf M_machineOf M_durations M_arcs M_drafts M_starts M_heads_27 M_tails M_chosen M_orders M_sizes) H := hP
    have hD : va_D A (wM h_M h_M_jobOf h_M_machineOf h_M_durations h_M_arcs h_M_drafts h_M_starts h_M_heads h_M_tails h_M_chosen h_M_orders h_M_sizes cI cZ M_jobs M_many M_isPlanned M_least M_optima M_jobOf M_machineOf M_durations M_arcs M_drafts M_starts M_heads_27 M_tails M_chosen M_orders M_sizes) := hD
    have hl : lv_has ls 7 [(0, .ref h_M), (1, .ref h_M_arcs), (2, .int x2_27), (3, .int x3_27)] := hl
    refine lv_iload_n (pc := 27) hx hb dX3_findHeads_27 rfl (lv_at hl 2 rfl) ?_
    refine lv_if_eq (tgt := 136) (pc := 28) hx hb dX3_findHeads_28 (by decide) (fun c_2 => ?_) (fun c_2 => ?_)
    · have hw := hw.1 c_2
      refine lv_iconst (v := 1) (pc := 136) hx hb dX3_findHeads_136 (by decide) ?_
      exact W.zret (v := 1) hx hb hr rfl (fun t ht hW => ⟨⟨1, M_heads_27, rfl, hw, by rw [ht]; exact hP, va_K.moved hW.alike hK, hD⟩, hS.F ht⟩) hS.2.2 dX3_findHeads_137
    · have hw := hw.2 c_2
      refine lv_iconst (v := 0) (pc := 31) hx hb dX3_findHeads_31 (by decide) ?_
      refine lv_istore_n (lv' := [(2, .int 0), (0, .ref h_M), (1, .ref h_M_arcs), (3, .int x3_27)]) (pc := 32) hx hb dX3_findHeads_32 rfl hl (by decide) rfl (fun ls hl => ?_)
      refine lv_iconst (v := 0) (pc := 33) hx hb dX3_findHeads_33 (by decide) ?_
      refine lv_istore (lv' := [(4, .int 0), (2, .int 0), (0, .ref h_M), (1, .ref h_M_arcs), (3, .int x3_27)]) (pc := 34) hx hb dX3_findHeads_34 hl (by decide) rfl (fun ls hl => ?_)
      obtain ⟨I_36, μ_36, hI_36, hs_36⟩ := hw
      refine lp_W (I := fun z : Int32 × Int32 × (Nat → Int32) => I_36 z.1 z.2.1 z.2.2) (fun z => μ_36 z.1 z.2.1 z.2.2) (fun (z : Int32 × Int32 × (Nat → Int32)) H locs ls => va_P (dC, dI) vwCl (wM h_M h_M_jobOf h_M_machineOf h_M_durations h_M_arcs h_M_drafts h_M_starts h_M_heads h_M_tails h_M_chosen h_M_orders h_M_sizes cI cZ M_jobs M_many M_isPlanned M_least M_optima M_jobOf M_machineOf M_durations M_arcs M_drafts M_starts z.2.2 M_tails M_chosen M_orders M_sizes) H ∧ va_D A (wM h_M h_M_jobOf h_M_machineOf h_M_durations h_M_arcs h_M_drafts h_M_starts h_M_heads h_M_tails h_M_chosen h_M_orders h_M_sizes cI cZ M_jobs M_many M_isPlanned M_least M_optima M_jobOf M_machineOf M_durations M_arcs M_drafts M_starts z.2.2 M_tails M_chosen M_orders M_sizes) ∧ va_S A s.heap H locs ∧ lv_has ls 7 [(0, .ref h_M), (1, .ref h_M_arcs), (2, .int z.1), (3, .int x3_27), (4, .int z.2.1)]) ?_ (0, 0, M_heads_27) _ _ _ hI_36 ⟨hP, hD, hS, (lv_sub hl [2, 3, 1, 4, 0] rfl)⟩
      rintro ⟨x2_36, x4_36, M_heads_36⟩ H locs ls hI ⟨hP, hD, hS, hl⟩ ih_36
      have hw := hs_36 x2_36 x4_36 M_heads_36 hI
      have hP : va_P (dC, dI) vwCl (wM h_M h_M_jobOf h_M_machineOf h_M_durations h_M_arcs h_M_drafts h_M_starts h_M_heads h_M_tails h_M_chosen h_M_orders h_M_sizes cI cZ M_jobs M_many M_isPlanned M_least M_optima M_jobOf M_machineOf M_durations M_arcs M_drafts M_starts M_heads_36 M_tails M_chosen M_orders M_sizes) H := hP
      have hD : va_D A (wM h_M h_M_jobOf h_M_machineOf h_M_durations h_M_arcs h_M_drafts h_M_starts h_M_heads h_M_tails h_M_chosen h_M_orders h_M_sizes cI cZ M_jobs M_many M_isPlanned M_least M_optima M_jobOf M_machineOf M_durations M_arcs M_drafts M_starts M_heads_36 M_tails M_chosen M_orders M_sizes) := hD
      have hl : lv_has ls 7 [(0, .ref h_M), (1, .ref h_M_arcs), (2, .int x2_36), (3, .int x3_27), (4, .int x4_36)] := hl
      refine lv_iload (pc := 36) hx hb dX3_findHeads_36 (lv_at hl 4 rfl) ?_
      refine lv_aload_n (pc := 38) hx hb dX3_findHeads_38 rfl (lv_at hl 0 rfl) ?_
      refine va_get (D := (dC, dI)) (ci := 3) (v := .int M_many) (C := RX3) (T := TX3) (N := 16) (pc := 39) hx hb hts hin_X3 hown hK hP 0 rfl rfl 1 (by decide) (hts (.fieldLink RX3 48 "JobShopModel" "many" "I") (by decide +kernel)) (fun _ h9 => h9) rfl dX3_findHeads_39 ?_
      refine lv_icmp_ge (tgt := 121) (pc := 42) hx hb dX3_findHeads_42 (by decide) (fun c_3 => ?_) (fun c_3 => ?_)
      · have hw := hw.1 c_3
        refine lv_iinc (v := x3_27 + 1) (lv' := [(3, .int (x3_27 + 1)), (0, .ref h_M), (1, .ref h_M_arcs), (2, .int x2_36), (4, .int x4_36)]) (pc := 121) hx hb dX3_findHeads_121 hl (k := 3) rfl rfl (by decide) rfl (fun ls hl => ?_)
        refine lv_iload_n (pc := 124) hx hb dX3_findHeads_124 rfl (lv_at hl 0 rfl) ?_
        refine lv_aload_n (pc := 125) hx hb dX3_findHeads_125 rfl (lv_at hl 1 rfl) ?_
        refine va_get (D := (dC, dI)) (ci := 3) (v := .int M_many) (C := RX3) (T := TX3) (N := 16) (pc := 126) hx hb hts hin_X3 hown hK hP 0 rfl rfl 1 (by decide) (hts (.fieldLink RX3 48 "JobShopModel" "many" "I") (by decide +kernel)) (fun _ h9 => h9) rfl dX3_findHeads_126 ?_
        refine lv_iconst (v := 1) (pc := 129) hx hb dX3_findHeads_129 (by decide) ?_
        refine lv_iadd (pc := 130) hx hb dX3_findHeads_130 ?_
        refine lv_icmp_le (tgt := 27) (pc := 131) hx hb dX3_findHeads_131 (by decide) (fun c_4 => ?_) (fun c_4 => ?_)
        · have hw := hw.1 c_4
          exact ih_27 (x2_36, (x3_27 + 1), M_heads_36) _ _ _ hw.1 hw.2 ⟨hP, hD, hS, (lv_sub hl [1, 2, 3, 0] rfl)⟩
        · have hw := hw.2 c_4
          refine lv_iconst (v := 0) (pc := 134) hx hb dX3_findHeads_134 (by decide) ?_
          exact W.zret (v := 0) hx hb hr rfl (fun t ht hW => ⟨⟨0, M_heads_36, rfl, hw, by rw [ht]; exact hP, va_K.moved hW.alike hK, hD⟩, hS.F ht⟩) hS.2.2 dX3_findHeads_135
      · have hw := hw.2 c_3
        refine lv_iconst (v := 0) (pc := 45) hx hb dX3_findHeads_45 (by decide) ?_
        refine lv_istore (lv' := [(5, .int 0), (0, .ref h_M), (1, .ref h_M_arcs), (2, .int x2_36), (3, .int x3_27), (4, .int x4_36)]) (pc := 46) hx hb dX3_findHeads_46 hl (by decide) rfl (fun ls hl => ?_)
        obtain ⟨I_48, μ_48, hI_48, hs_48⟩ := hw
        refine lp_W (I := fun z : Int32 × Int32 × (Nat → Int32) => I_48 z.1 z.2.1 z.2.2) (fun z => μ_48 z.1 z.2.1 z.2.2) (fun (z : Int32 × Int32 × (Nat → Int32)) H locs ls => va_P (dC, dI) vwCl (wM h_M h_M_jobOf h_M_machineOf h_M_durations h_M_arcs h_M_drafts h_M_starts h_M_heads h_M_tails h_M_chosen h_M_orders h_M_sizes cI cZ M_jobs M_many M_isPlanned M_least M_optima M_jobOf M_machineOf M_durations M_arcs M_drafts M_starts z.2.2 M_tails M_chosen M_orders M_sizes) H ∧ va_D A (wM h_M h_M_jobOf h_M_machineOf h_M_durations h_M_arcs h_M_drafts h_M_starts h_M_heads h_M_tails h_M_chosen h_M_orders h_M_sizes cI cZ M_jobs M_many M_isPlanned M_least M_optima M_jobOf M_machineOf M_durations M_arcs M_drafts M_starts z.2.2 M_tails M_chosen M_orders M_sizes) ∧ va_S A s.heap H locs ∧ lv_has ls 7 [(0, .ref h_M), (1, .ref h_M_arcs), (2, .int z.1), (3, .int x3_27), (4, .int x4_36), (5, .int z.2.1)]) ?_ (x2_36, 0, M_heads_36) _ _ _ hI_48 ⟨hP, hD, hS, (lv_sub hl [1, 2, 3, 4, 5, 0] rfl)⟩
        rintro ⟨x2_48, x5_48, M_heads_48⟩ H locs ls hI ⟨hP, hD, hS, hl⟩ ih_48
        have hw := hs_48 x2_48 x5_48 M_heads_48 hI
        have hP : va_P (dC, dI) vwCl (wM h_M h_M_jobOf h_M_machineOf h_M_durations h_M_arcs h_M_drafts h_M_starts h_M_heads h_M_tails h_M_chosen h_M_orders h_M_sizes cI cZ M_jobs M_many M_isPlanned M_least M_optima M_jobOf M_machineOf M_durations M_arcs M_drafts M_starts M_heads_48 M_tails M_chosen M_orders M_sizes) H := hP
        have hD : va_D A (wM h_M h_M_jobOf h_M_machineOf h_M_durations h_M_arcs h_M_drafts h_M_starts h_M_heads h_M_tails h_M_chosen h_M_orders h_M_sizes cI cZ M_jobs M_many M_isPlanned M_least M_optima M_jobOf M_machineOf M_durations M_arcs M_drafts M_starts M_heads_48 M_tails M_chosen M_orders M_sizes) := hD
        have hl : lv_has ls 7 [(0, .ref h_M), (1, .ref h_M_arcs), (2, .int x2_48), (3, .int x3_27), (4, .int x4_36), (5, .int x5_48)] := hl
        refine lv_iload (pc := 48) hx hb dX3_findHeads_48 (lv_at hl 5 rfl) ?_
        refine lv_aload_n (pc := 50) hx hb dX3_findHeads_50 rfl (lv_at hl 0 rfl) ?_
        refine va_get (D := (dC, dI)) (ci := 3) (v := .int M_many) (C := RX3) (T := TX3) (N := 16) (pc := 51) hx hb hts hin_X3 hown hK hP 0 rfl rfl 1 (by decide) (hts (.fieldLink RX3 48 "JobShopModel" "many" "I") (by decide +kernel)) (fun _ h9 => h9) rfl dX3_findHeads_51 ?_
        refine lv_icmp_ge (tgt := 115) (pc := 54) hx hb dX3_findHeads_54 (by decide) (fun c_5 => ?_) (fun c_5 => ?_)
        · have hw := hw.1 c_5
          refine lv_iinc (v := x4_36 + 1) (lv' := [(4, .int (x4_36 + 1)), (0, .ref h_M), (1, .ref h_M_arcs), (2, .int x2_48), (3, .int x3_27), (5, .int x5_48)]) (pc := 115) hx hb dX3_findHeads_115 hl (k := 4) rfl rfl (by decide) rfl (fun ls hl => ?_)
          refine lv_goto (tgt := 36) (pc := 118) hx hb dX3_findHeads_118 (by decide) ?_
          exact ih_36 (x2_48, (x4_36 + 1), M_heads_48) _ _ _ hw.1 hw.2 ⟨hP, hD, hS, (lv_sub hl [1, 2, 3, 4, 0] rfl)⟩
        · have hw := hw.2 c_5
          refine lv_aload_n (pc := 57) hx hb dX3_findHeads_57 rfl (lv_at hl 0 rfl) ?_
          refine va_get (D := (dC, dI)) (ci := 3) (v := .ref h_M_heads) (C := RX3) (T := TX3) (N := 16) (pc := 58) hx hb hts hin_X3 hown hK hP 0 rfl rfl 11 (by decide) (hts (.fieldLink RX3 29 "JobShopModel" "heads" "[I") (by decide +kernel)) (fun _ h9 => h9) rfl dX3_findHeads_58 ?_
          refine lv_iload (pc := 61) hx hb dX3_findHeads_61 (lv_at hl 4 rfl) ?_
          obtain ⟨b_6, hw⟩ := hw
          refine va_iald (pc := 63) hx hb hK hP 7 0 rfl rfl b_6 dX3_findHeads_63 ?_
          refine lv_aload_n (pc := 64) hx hb dX3_findHeads_64 rfl (lv_at hl 0 rfl) ?_
          refine va_get (D := (dC, dI)) (ci := 3) (v := .ref h_M_durations) (C := RX3) (T := TX3) (N := 16) (pc := 65) hx hb hts hin_X3 hown hK hP 0 rfl rfl 4 (by decide) (hts (.fieldLink RX3 16 "JobShopModel" "durations" "[I") (by decide +kernel)) (fun _ h9 => h9) rfl dX3_findHeads_65 ?_
          refine lv_iload (pc := 68) hx hb dX3_findHeads_68 (lv_at hl 4 rfl) ?_
          obtain ⟨b_7, hw⟩ := hw
          refine va_iald (pc := 70) hx hb hK hP 3 0 rfl rfl b_7 dX3_findHeads_70 ?_
          refine lv_iadd (pc := 71) hx hb dX3_findHeads_71 ?_
          refine lv_istore (lv' := [(6, .int ((M_heads_48 x4_36.toNatClampNeg) + (M_durations x4_36.toNatClampNeg))), (0, .ref h_M), (1, .ref h_M_arcs), (2, .int x2_48), (3, .int x3_27), (4, .int x4_36), (5, .int x5_48)]) (pc := 72) hx hb dX3_findHeads_72 hl (by decide) rfl (fun ls hl => ?_)
          refine lv_aload_n (pc := 74) hx hb dX3_findHeads_74 rfl (lv_at hl 1 rfl) ?_
          refine lv_aload_n (pc := 75) hx hb dX3_findHeads_75 rfl (lv_at hl 2 rfl) ?_
          refine lv_iload (pc := 76) hx hb dX3_findHeads_76 (lv_at hl 5 rfl) ?_
          refine lv_iload (pc := 78) hx hb dX3_findHeads_78 (lv_at hl 6 rfl) ?_
          have hPx : va_P (dC, dI) vwCl ([] ++ (wM h_M h_M_jobOf h_M_machineOf h_M_durations h_M_arcs h_M_drafts h_M_starts h_M_heads h_M_tails h_M_chosen h_M_orders h_M_sizes cI cZ M_jobs M_many M_isPlanned M_least M_optima M_jobOf M_machineOf M_durations M_arcs M_drafts M_starts M_heads_48 M_tails M_chosen M_orders M_sizes)) H := hP
          have hDx : va_D A ([] ++ (wM h_M h_M_jobOf h_M_machineOf h_M_durations h_M_arcs h_M_drafts h_M_starts h_M_heads h_M_tails h_M_chosen h_M_orders h_M_sizes cI cZ M_jobs M_many M_isPlanned M_least M_optima M_jobOf M_machineOf M_durations M_arcs M_drafts M_starts M_heads_48 M_tails M_chosen M_orders M_sizes)) := hD
          refine kc_i (pc := 80) (w1 := (fun u : Unit => (wM h_M h_M_jobOf h_M_machineOf h_M_durations h_M_arcs h_M_drafts h_M_starts h_M_heads h_M_tails h_M_chosen h_M_orders h_M_sizes cI cZ M_jobs M_many M_isPlanned M_least M_optima M_jobOf M_machineOf M_durations M_arcs M_drafts M_starts M_heads_48 M_tails M_chosen M_orders M_sizes))) (va_runV (As := [.ref h_M_arcs, .int x4_36, .int x5_48]) (rest := []) ⟨hx, hb, hml, hown, hts⟩ (c_X3_leads_a l dC dI h_M h_M_jobOf h_M_machineOf h_M_durations h_M_arcs h_M_drafts h_M_starts h_M_heads h_M_tails h_M_chosen h_M_orders h_M_sizes H.size cI cZ M_jobs M_many M_isPlanned M_least M_optima M_jobOf M_machineOf M_durations M_arcs M_drafts M_starts M_heads_48 M_tails M_chosen M_orders M_sizes x4_36 x5_48 _ hw) (cwV 3 hts gX3_findHeads_X3_leads rfl rfl rfl (by decide +kernel) ⟨Nat.le_of_ble_eq_true rfl, Nat.le_of_ble_eq_true rfl⟩) (kc_preVM (q0 := 0) (ci := 3) hK hPx hDx [0, 1] rfl rfl rfl) rfl rfl hl.1 rfl (lv_room (Nat.le_of_ble_eq_true rfl)) dX3_findHeads_80 ⟨Nat.zero_le _, Nat.zero_le _⟩) hPx hDx hS hA (fun r_80 u H locs hw hP hD hS => ?_)
          have hP : va_P (dC, dI) vwCl (wM h_M h_M_jobOf h_M_machineOf h_M_durations h_M_arcs h_M_drafts h_M_starts h_M_heads h_M_tails h_M_chosen h_M_orders h_M_sizes cI cZ M_jobs M_many M_isPlanned M_least M_optima M_jobOf M_machineOf M_durations M_arcs M_drafts M_starts M_heads_48 M_tails M_chosen M_orders M_sizes) H := hP
          have hD : va_D A (wM h_M h_M_jobOf h_M_machineOf h_M_durations h_M_arcs h_M_drafts h_M_starts h_M_heads h_M_tails h_M_chosen h_M_orders h_M_sizes cI cZ M_jobs M_many M_isPlanned M_least M_optima M_jobOf M_machineOf M_durations M_arcs M_drafts M_starts M_heads_48 M_tails M_chosen M_orders M_sizes) := hD
          refine lv_if_eq (tgt := 109) (pc := 83) hx hb dX3_findHeads_83 (by decide) (fun c_8 => ?_) (fun c_8 => ?_)
          · have hw := hw.1 c_8
            refine lv_iinc (v := x5_48 + 1) (lv' := [(5, .int (x5_48 + 1)), (6, .int ((M_heads_48 x4_36.toNatClampNeg) + (M_durations x4_36.toNatClampNeg))), (0, .ref h_M), (1, .ref h_M_arcs), (2, .int x2_48), (3, .int x3_27), (4, .int x4_36)]) (pc := 109) hx hb dX3_findHeads_109 hl (k := 6) rfl rfl (by decide) rfl (fun ls hl => ?_)
            refine lv_goto (tgt := 48) (pc := 112) hx hb dX3_findHeads_112 (by decide) ?_
            exact ih_48 (x2_48, (x5_48 + 1), M_heads_48) _ _ _ hw.1 hw.2 ⟨hP, hD, hS, (lv_sub hl [2, 3, 4, 5, 6, 0] rfl)⟩
          · have hw := hw.2 c_8
            refine lv_iload (pc := 86) hx hb dX3_findHeads_86 (lv_at hl 0 rfl) ?_
            refine lv_aload_n (pc := 88) hx hb dX3_findHeads_88 rfl (lv_at hl 1 rfl) ?_
            refine va_get (D := (dC, dI)) (ci := 3) (v := .ref h_M_heads) (C := RX3) (T := TX3) (N := 16) (pc := 89) hx hb hts hin_X3 hown hK hP 0 rfl rfl 11 (by decide) (hts (.fieldLink RX3 29 "JobShopModel" "heads" "[I") (by decide +kernel)) (fun _ h9 => h9) rfl dX3_findHeads_89 ?_
            refine lv_iload (pc := 92) hx hb dX3_findHeads_92 (lv_at hl 6 rfl) ?_
            obtain ⟨b_9, hw⟩ := hw
            refine va_iald (pc := 94) hx hb hK hP 7 0 rfl rfl b_9 dX3_findHeads_94 ?_
            refine lv_icmp_le (tgt := 109) (pc := 95) hx hb dX3_findHeads_95 (by decide) (fun c_10 => ?_) (fun c_10 => ?_)
            · have hw := hw.1 c_10
              refine lv_iinc (v := x5_48 + 1) (lv' := [(5, .int (x5_48 + 1)), (6, .int ((M_heads_48 x4_36.toNatClampNeg) + (M_durations x4_36.toNatClampNeg))), (0, .ref h_M), (1, .ref h_M_arcs), (2, .int x2_48), (3, .int x3_27), (4, .int x4_36)]) (pc := 109) hx hb dX3_findHeads_109 hl (k := 6) rfl rfl (by decide) rfl (fun ls hl => ?_)
              refine lv_goto (tgt := 48) (pc := 112) hx hb dX3_findHeads_112 (by decide) ?_
              exact ih_48 (x2_48, (x5_48 + 1), M_heads_48) _ _ _ hw.1 hw.2 ⟨hP, hD, hS, (lv_sub hl [2, 3, 4, 5, 6, 0] rfl)⟩
            · have hw := hw.2 c_10
              refine lv_aload_n (pc := 98) hx hb dX3_findHeads_98 rfl (lv_at hl 1 rfl) ?_
              refine va_get (D := (dC, dI)) (ci := 3) (v := .ref h_M_heads) (C := RX3) (T := TX3) (N := 16) (pc := 99) hx hb hts hin_X3 hown hK hP 0 rfl rfl 11 (by decide) (hts (.fieldLink RX3 29 "JobShopModel" "heads" "[I") (by decide +kernel)) (fun _ h9 => h9) rfl dX3_findHeads_99 ?_
              refine lv_iload (pc := 102) hx hb dX3_findHeads_102 (lv_at hl 6 rfl) ?_
              refine lv_iload (pc := 104) hx hb dX3_findHeads_104 (lv_at hl 0 rfl) ?_
              obtain ⟨b_11, hw⟩ := hw
              refine va_iast (pc := 106) hx hb hK hP hD hS 7 0 rfl rfl b_11 dX3_findHeads_106 (fun H locs hP hD hS => ?_)
              have hP : va_P (dC, dI) vwCl (wM h_M h_M_jobOf h_M_machineOf h_M_durations h_M_arcs h_M_drafts h_M_starts h_M_heads h_M_tails h_M_chosen h_M_orders h_M_sizes cI cZ M_jobs M_many M_isPlanned M_least M_optima M_jobOf M_machineOf M_durations M_arcs M_drafts M_starts (upd M_heads_48 x5_48.toNatClampNeg ((M_heads_48 x4_36.toNatClampNeg) + (M_durations x4_36.toNatClampNeg))) M_tails M_chosen M_orders M_sizes) H := hP
              have hD : va_D A (wM h_M h_M_jobOf h_M_machineOf h_M_durations h_M_arcs h_M_drafts h_M_starts h_M_heads h_M_tails h_M_chosen h_M_orders h_M_sizes cI cZ M_jobs M_many M_isPlanned M_least M_optima M_jobOf M_machineOf M_durations M_arcs M_drafts M_starts (upd M_heads_48 x5_48.toNatClampNeg ((M_heads_48 x4_36.toNatClampNeg) + (M_durations x4_36.toNatClampNeg))) M_tails M_chosen M_orders M_sizes) := hD
              refine lv_iconst (v := 1) (pc := 107) hx hb dX3_findHeads_107 (by decide) ?_
              refine lv_istore_n (lv' := [(2, .int 1), (6, .int ((M_heads_48 x4_36.toNatClampNeg) + (M_durations x4_36.toNatClampNeg))), (0, .ref h_M), (1, .ref h_M_arcs), (3, .int x3_27), (4, .int x4_36), (5, .int x5_48)]) (pc := 108) hx hb dX3_findHeads_108 rfl hl (by decide) rfl (fun ls hl => ?_)
              refine lv_iinc (v := x5_48 + 1) (lv' := [(5, .int (x5_48 + 1)), (2, .int 1), (6, .int ((M_heads_48 x4_36.toNatClampNeg) + (M_durations x4_36.toNatClampNeg))), (0, .ref h_M), (1, .ref h_M_arcs), (3, .int x3_27), (4, .int x4_36)]) (pc := 109) hx hb dX3_findHeads_109 hl (k := 6) rfl rfl (by decide) rfl (fun ls hl => ?_)
              refine lv_goto (tgt := 48) (pc := 112) hx hb dX3_findHeads_112 (by decide) ?_
              exact ih_48 (1, (x5_48 + 1), (upd M_heads_48 x5_48.toNatClampNeg ((M_heads_48 x4_36.toNatClampNeg) + (M_durations x4_36.toNatClampNeg)))) _ _ _ hw.1 hw.2 ⟨hP, hD, hS, (lv_sub hl [3, 4, 1, 5, 6, 0] rfl)⟩
  · have hw := hw.2 c_1
    refine lv_aload_n (pc := 10) hx hb dX3_findHeads_10 rfl (lv_at hl 0 rfl) ?_
    refine va_get (D := (dC, dI)) (ci := 3) (v := .ref h_M_heads) (C := RX3) (T := TX3) (N := 16) (pc := 11) hx hb hts hin_X3 hown hK hP 0 rfl rfl 11 (by decide) (hts (.fieldLink RX3 29 "JobShopModel" "heads" "[I") (by decide +kernel)) (fun _ h9 => h9) rfl dX3_findHeads_11 ?_
    refine lv_iload_n (pc := 14) hx hb dX3_findHeads_14 rfl (lv_at hl 2 rfl) ?_
    refine lv_iconst (v := 0) (pc := 15) hx hb dX3_findHeads_15 (by decide) ?_
    obtain ⟨b_12, hw⟩ := hw
    refine va_iast (pc := 16) hx hb hK hP hD hS 7 0 rfl rfl b_12 dX3_findHeads_16 (fun H locs hP hD hS => ?_)
    have hP : va_P (dC, dI) vwCl (wM h_M h_M_jobOf h_M_machineOf h_M_durations h_M_arcs h_M_drafts h_M_starts h_M_heads h_M_tails h_M_chosen h_M_orders h_M_sizes cI cZ M_jobs M_many M_isPlanned M_least M_optima M_jobOf M_machineOf M_durations M_arcs M_drafts M_starts (upd M_heads_2 x2_2.toNatClampNeg 0) M_tails M_chosen M_orders M_sizes) H := hP
    have hD : va_D A (wM h_M h_M_jobOf h_M_machineOf h_M_durations h_M_arcs h_M_drafts h_M_starts h_M_heads h_M_tails h_M_chosen h_M_orders h_M_sizes cI cZ M_jobs M_many M_isPlanned M_least M_optima M_jobOf M_machineOf M_durations M_arcs M_drafts M_starts (upd M_heads_2 x2_2.toNatClampNeg 0) M_tails M_chosen M_orders M_sizes) := hD
    refine lv_iinc (v := x2_2 + 1) (lv' := [(2, .int (x2_2 + 1)), (0, .ref h_M), (1, .ref h_M_arcs)]) (pc := 17) hx hb dX3_findHeads_17 hl (k := 2) rfl rfl (by decide) rfl (fun ls hl => ?_)
    refine lv_goto (tgt := 2) (pc := 20) hx hb dX3_findHeads_20 (by decide) ?_
    exact ih_2 ((x2_2 + 1), (upd M_heads_2 x2_2.toNatClampNeg 0)) _ _ _ hw.1 hw.2 ⟨hP, hD, hS, (lv_sub hl [1, 2, 0] rfl)⟩
set_option maxHeartbeats 4000000 in
set_option maxRecDepth 100000 in
theorem c_X3_findHeads_c (l : Launch) (dC : Nat → ClassId) (dI : Nat → Nat → Nat) (h_M h_M_jobOf h_M_machineOf h_M_durations h_M_arcs h_M_drafts h_M_starts h_M_heads h_M_tails h_M_chosen h_M_orders h_M_sizes : Nat) (sz : Nat) (cI cZ : ClassId) (M_jobs : Int32) (M_many : Int32) (M_isPlanned : Int32) (M_least : Int32) (M_optima : Int32) (M_jobOf : Nat → Int32) (M_machineOf : Nat → Int32) (M_durations : Nat → Int32) (M_arcs : Nat → Int32) (M_drafts : Nat → Int32) (M_starts : Nat → Int32) (M_heads : Nat → Int32) (M_tails : Nat → Int32) (M_chosen : Nat → Int32) (M_orders : Nat → Int32) (M_sizes : Nat → Int32) (post : Int32 → (Nat → Int32) → Prop) (hw : wp_X3_findHeads M_many M_jobOf M_durations M_heads M_chosen post) : Met l yX3_findHeads wsX3_findHeads ({ frames := 2, cells := 0, slots := 0, locals := 45 }) (va_Pc [.ref h_M, .ref h_M_chosen] (fun U => U.heap.size = sz ∧ va_P (dC, dI) vwCl (wM h_M h_M_jobOf h_M_machineOf h_M_durations h_M_arcs h_M_drafts h_M_starts h_M_heads h_M_tails h_M_chosen h_M_orders h_M_sizes cI cZ M_jobs M_many M_isPlanned M_least M_optima M_jobOf M_machineOf M_durations M_arcs M_drafts M_starts M_heads M_tails M_chosen M_orders M_sizes) U.heap ∧ va_K (dC, dI) vwCl [(cI, .int), (cZ, .boolean)] U ∧ va_D (fun _ => True) (wM h_M h_M_jobOf h_M_machineOf h_M_durations h_M_arcs h_M_drafts h_M_starts h_M_heads h_M_tails h_M_chosen h_M_orders h_M_sizes cI cZ M_jobs M_many M_isPlanned M_least M_optima M_jobOf M_machineOf M_durations M_arcs M_drafts M_starts M_heads M_tails M_chosen M_orders M_sizes))) (va_Qi (fun (r : Int32) (u : Nat → Int32) => post r u) (fun u t => va_P (dC, dI) vwCl (wM h_M h_M_jobOf h_M_machineOf h_M_durations h_M_arcs h_M_drafts h_M_starts h_M_heads h_M_tails h_M_chosen h_M_orders h_M_sizes cI cZ M_jobs M_many M_isPlanned M_least M_optima M_jobOf M_machineOf M_durations M_arcs M_drafts M_starts u M_tails M_chosen M_orders M_sizes) t.heap ∧ va_K (dC, dI) vwCl [(cI, .int), (cZ, .boolean)] t ∧ va_D (va_A (wM h_M h_M_jobOf h_M_machineOf h_M_durations h_M_arcs h_M_drafts h_M_starts h_M_heads h_M_tails h_M_chosen h_M_orders h_M_sizes cI cZ M_jobs M_many M_isPlanned M_least M_optima M_jobOf M_machineOf M_durations M_arcs M_drafts M_starts M_heads M_tails M_chosen M_orders M_sizes) sz) (wM h_M h_M_jobOf h_M_machineOf h_M_durations h_M_arcs h_M_drafts h_M_starts h_M_heads h_M_tails h_M_chosen h_M_orders h_M_sizes cI cZ M_jobs M_many M_isPlanned M_least M_optima M_jobOf M_machineOf M_durations M_arcs M_drafts M_starts u M_tails M_chosen M_orders M_sizes)) (va_A (wM h_M h_M_jobOf h_M_machineOf h_M_durations h_M_arcs h_M_drafts h_M_starts h_M_heads h_M_tails h_M_chosen h_M_orders h_M_sizes cI cZ M_jobs M_many M_isPlanned M_least M_optima M_jobOf M_machineOf M_durations M_arcs M_drafts M_starts M_heads M_tails M_chosen M_orders M_sizes) sz)) 0 0 (va_A (wM h_M h_M_jobOf h_M_machineOf h_M_durations h_M_arcs h_M_drafts h_M_starts h_M_heads h_M_tails h_M_chosen h_M_orders h_M_sizes cI cZ M_jobs M_many M_isPlanned M_least M_optima M_jobOf M_machineOf M_durations M_arcs M_drafts M_starts M_heads M_tails M_chosen M_orders M_sizes) sz) := by
  refine Met.ofW (cc := cX3_findHeads) (maxL := 7) (ret := (some .boolean)) (by decide) rfl ?_
  intro p e s m args below meth c s₁ B hml hv
  obtain ⟨rfl, hsz, hP, hK, hD0⟩ := hv
  have hx := B.exec
  have hb := B.bytes
  have hr := B.returns
  have hts := atoms_spec (ws := wsX3_findHeads) B.pre
  have hown : s.vm.findClass RX3 = some m.cls := findClass_of_methodNamed B.named
  have hlocks := B.notSynchronized
  subst hsz
  have hD := hD0.self (sz := s.heap.size)
  generalize hAe : va_A (wM h_M h_M_jobOf h_M_machineOf h_M_durations h_M_arcs h_M_drafts h_M_starts h_M_heads h_M_tails h_M_chosen h_M_orders h_M_sizes cI cZ M_jobs M_many M_isPlanned M_least M_optima M_jobOf M_machineOf M_durations M_arcs M_drafts M_starts M_heads M_tails M_chosen M_orders M_sizes) s.heap.size = A at hD ⊢
  have hA : ∀ q : Nat, s.heap.size ≤ q → A q := fun q h => by rw [← hAe]; exact Or.inr h
  have hS : va_S A s.heap s.heap [] := va_S.rf
  have hP : va_P (dC, dI) vwCl (wM h_M h_M_jobOf h_M_machineOf h_M_durations h_M_arcs h_M_drafts h_M_starts h_M_heads h_M_tails h_M_chosen h_M_orders h_M_sizes cI cZ M_jobs M_many M_isPlanned M_least M_optima M_jobOf M_machineOf M_durations M_arcs M_drafts M_starts M_heads M_tails M_chosen M_orders M_sizes) s.heap := hP
  have hl := lv_entry ([.ref h_M, .ref h_M_chosen]) (n := 7) (Nat.le_of_ble_eq_true rfl)
  rw [lg_entry_eq]
  generalize (lg_sl ([.ref h_M, .ref h_M_chosen]) ++ List.replicate (7 - (lg_sl ([.ref h_M, .ref h_M_chosen])).length) Slot.unset).toArray = ls at hl ⊢
  have hl : lv_has ls 7 [(0, .ref h_M), (1, .ref h_M_chosen)] := hl
  obtain ⟨H, hH⟩ : ∃ H, H = s.heap := ⟨_, rfl⟩
  rw [← hH] at hP
  have hS : va_S A s.heap H [] := by rw [hH]; exact hS
  refine W_heap hH ?_
  unfold wp_X3_findHeads at hw
  have hin_X3 : ∀ w ∈ u_ws RX3 TX3 16, w ∈ wsX3_findHeads := by decide +kernel
  refine lv_iconst (v := 0) (pc := 0) hx hb dX3_findHeads_0 (by decide) ?_
  refine lv_istore_n (lv' := [(2, .int 0), (0, .ref h_M), (1, .ref h_M_chosen)]) (pc := 1) hx hb dX3_findHeads_1 rfl hl (by decide) rfl (fun ls hl => ?_)
  obtain ⟨I_2, μ_2, hI_2, hs_2⟩ := hw
  refine lp_W (I := fun z : Int32 × (Nat → Int32) => I_2 z.1 z.2) (fun z => μ_2 z.1 z.2) (fun (z : Int32 × (Nat → Int32)) H locs ls => va_P (dC, dI) vwCl (wM h_M h_M_jobOf h_M_machineOf h_M_durations h_M_arcs h_M_drafts h_M_starts h_M_heads h_M_tails h_M_chosen h_M_orders h_M_sizes cI cZ M_jobs M_many M_isPlanned M_least M_optima M_jobOf M_machineOf M_durations M_arcs M_drafts M_starts z.2 M_tails M_chosen M_orders M_sizes) H ∧ va_D A (wM h_M h_M_jobOf h_M_machineOf h_M_durations h_M_arcs h_M_drafts h_M_starts h_M_heads h_M_tails h_M_chosen h_M_orders h_M_sizes cI cZ M_jobs M_many M_isPlanned M_least M_optima M_jobOf M_machineOf M_durations M_arcs M_drafts M_starts z.2 M_tails M_chosen M_orders M_sizes) ∧ va_S A s.heap H locs ∧ lv_has ls 7 [(0, .ref h_M), (1, .ref h_M_chosen), (2, .int z.1)]) ?_ (0, M_heads) _ _ _ hI_2 ⟨hP, hD, hS, (lv_sub hl [1, 2, 0] rfl)⟩
  rintro ⟨x2_2, M_heads_2⟩ H locs ls hI ⟨hP, hD, hS, hl⟩ ih_2
  have hw := hs_2 x2_2 M_heads_2 hI
  have hP : va_P (dC, dI) vwCl (wM h_M h_M_jobOf h_M_machineOf h_M_durations h_M_arcs h_M_drafts h_M_starts h_M_heads h_M_tails h_M_chosen h_M_orders h_M_sizes cI cZ M_jobs M_many M_isPlanned M_least M_optima M_jobOf M_machineOf M_durations M_arcs M_drafts M_starts M_heads_2 M_tails M_chosen M_orders M_sizes) H := hP
  have hD : va_D A (wM h_M h_M_jobOf h_M_machineOf h_M_durations h_M_arcs h_M_drafts h_M_starts h_M_heads h_M_tails h_M_chosen h_M_orders h_M_sizes cI cZ M_jobs M_many M_isPlanned M_least M_optima M_jobOf M_machineOf M_durations M_arcs M_drafts M_starts M_heads_2 M_tails M_chosen M_orders M_sizes) := hD
  have hl : lv_has ls 7 [(0, .ref h_M), (1, .ref h_M_chosen), (2, .int x2_2)] := hl
  refine lv_iload_n (pc := 2) hx hb dX3_findHeads_2 rfl (lv_at hl 2 rfl) ?_
  refine lv_aload_n (pc := 3) hx hb dX3_findHeads_3 rfl (lv_at hl 0 rfl) ?_
  refine va_get (D := (dC, dI)) (ci := 3) (v := .int M_many) (C := RX3) (T := TX3) (N := 16) (pc := 4) hx hb hts hin_X3 hown hK hP 0 rfl rfl 1 (by decide) (hts (.fieldLink RX3 48 "JobShopModel" "many" "I") (by decide +kernel)) (fun _ h9 => h9) rfl dX3_findHeads_4 ?_
  refine lv_icmp_ge (tgt := 23) (pc := 7) hx hb dX3_findHeads_7 (by decide) (fun c_1 => ?_) (fun c_1 => ?_)
  · have hw := hw.1 c_1
    refine lv_iconst (v := 1) (pc := 23) hx hb dX3_findHeads_23 (by decide) ?_
    refine lv_istore_n (lv' := [(2, .int 1), (0, .ref h_M), (1, .ref h_M_chosen)]) (pc := 24) hx hb dX3_findHeads_24 rfl hl (by decide) rfl (fun ls hl => ?_)
    refine lv_iconst (v := 0) (pc := 25) hx hb dX3_findHeads_25 (by decide) ?_
    refine lv_istore_n (lv' := [(3, .int 0), (2, .int 1), (0, .ref h_M), (1, .ref h_M_chosen)]) (pc := 26) hx hb dX3_findHeads_26 rfl hl (by decide) rfl (fun ls hl => ?_)
    obtain ⟨I_27, μ_27, hI_27, hs_27⟩ := hw
    refine lp_W (I := fun z : Int32 × Int32 × (Nat → Int32) => I_27 z.1 z.2.1 z.2.2) (fun z => μ_27 z.1 z.2.1 z.2.2) (fun (z : Int32 × Int32 × (Nat → Int32)) H locs ls => va_P (dC, dI) vwCl (wM h_M h_M_jobOf h_M_machineOf h_M_durations h_M_arcs h_M_drafts h_M_starts h_M_heads h_M_tails h_M_chosen h_M_orders h_M_sizes cI cZ M_jobs M_many M_isPlanned M_least M_optima M_jobOf M_machineOf M_durations M_arcs M_drafts M_starts z.2.2 M_tails M_chosen M_orders M_sizes) H ∧ va_D A (wM h_M h_M_jobOf h_M_machineOf h_M_durations h_M_arcs h_M_drafts h_M_starts h_M_heads h_M_tails h_M_chosen h_M_orders h_M_sizes cI cZ M_jobs M_many M_isPlanned M_least M_optima M_jobOf M_machineOf M_durations M_arcs M_drafts M_starts z.2.2 M_tails M_chosen M_orders M_sizes) ∧ va_S A s.heap H locs ∧ lv_has ls 7 [(0, .ref h_M), (1, .ref h_M_chosen), (2, .int z.1), (3, .int z.2.1)]) ?_ (1, 0, M_heads_2) _ _ _ hI_27 ⟨hP, hD, hS, (lv_sub hl [2, 3, 1, 0] rfl)⟩
    rintro ⟨x2_27, x3_27, M_heads_27⟩ H locs ls hI ⟨hP, hD, hS, hl⟩ ih_27
    have hw := hs_27 x2_27 x3_27 M_heads_27 hI
    have hP : va_P (dC, dI) vwCl (wM h_M h_M_jobOf h_M_machineOf h_M_durations h_M_arcs h_M_drafts h_M_starts h_M_heads h_M_tails h_M_chosen h_M_orders h_M_sizes cI cZ M_jobs M_many M_isPlanned M_least M_optima M_jobOf M_machineOf M_durations M_arcs M_drafts M_starts M_heads_27 M_tails M_chosen M_orders M_sizes) H := hP
    have hD : va_D A (wM h_M h_M_jobOf h_M_machineOf h_M_durations h_M_arcs h_M_drafts h_M_starts h_M_heads h_M_tails h_M_chosen h_M_orders h_M_sizes cI cZ M_jobs M_many M_isPlanned M_least M_optima M_jobOf M_machineOf M_durations M_arcs M_drafts M_starts M_heads_27 M_tails M_chosen M_orders M_sizes) := hD
    have hl : lv_has ls 7 [(0, .ref h_M), (1, .ref h_M_chosen), (2, .int x2_27), (3, .int x3_27)] := hl
    refine lv_iload_n (pc := 27) hx hb dX3_findHeads_27 rfl (lv_at hl 2 rfl) ?_
    refine lv_if_eq (tgt := 136) (pc := 28) hx hb dX3_findHeads_28 (by decide) (fun c_2 => ?_) (fun c_2 => ?_)
    · have hw := hw.1 c_2
      refine lv_iconst (v := 1) (pc := 136) hx hb dX3_findHeads_136 (by decide) ?_
      exact W.zret (v := 1) hx hb hr rfl (fun t ht hW => ⟨⟨1, M_heads_27, rfl, hw, by rw [ht]; exact hP, va_K.moved hW.alike hK, hD⟩, hS.F ht⟩) hS.2.2 dX3_findHeads_137
    · have hw := hw.2 c_2
      refine lv_iconst (v := 0) (pc := 31) hx hb dX3_findHeads_31 (by decide) ?_
      refine lv_istore_n (lv' := [(2, .int 0), (0, .ref h_M), (1, .ref h_M_chosen), (3, .int x3_27)]) (pc := 32) hx hb dX3_findHeads_32 rfl hl (by decide) rfl (fun ls hl => ?_)
      refine lv_iconst (v := 0) (pc := 33) hx hb dX3_findHeads_33 (by decide) ?_
      refine lv_istore (lv' := [(4, .int 0), (2, .int 0), (0, .ref h_M), (1, .ref h_M_chosen), (3, .int x3_27)]) (pc := 34) hx hb dX3_findHeads_34 hl (by decide) rfl (fun ls hl => ?_)
      obtain ⟨I_36, μ_36, hI_36, hs_36⟩ := hw
      refine lp_W (I := fun z : Int32 × Int32 × (Nat → Int32) => I_36 z.1 z.2.1 z.2.2) (fun z => μ_36 z.1 z.2.1 z.2.2) (fun (z : Int32 × Int32 × (Nat → Int32)) H locs ls => va_P (dC, dI) vwCl (wM h_M h_M_jobOf h_M_machineOf h_M_durations h_M_arcs h_M_drafts h_M_starts h_M_heads h_M_tails h_M_chosen h_M_orders h_M_sizes cI cZ M_jobs M_many M_isPlanned M_least M_optima M_jobOf M_machineOf M_durations M_arcs M_drafts M_starts z.2.2 M_tails M_chosen M_orders M_sizes) H ∧ va_D A (wM h_M h_M_jobOf h_M_machineOf h_M_durations h_M_arcs h_M_drafts h_M_starts h_M_heads h_M_tails h_M_chosen h_M_orders h_M_sizes cI cZ M_jobs M_many M_isPlanned M_least M_optima M_jobOf M_machineOf M_durations M_arcs M_drafts M_starts z.2.2 M_tails M_chosen M_orders M_sizes) ∧ va_S A s.heap H locs ∧ lv_has ls 7 [(0, .ref h_M), (1, .ref h_M_chosen), (2, .int z.1), (3, .int x3_27), (4, .int z.2.1)]) ?_ (0, 0, M_heads_27) _ _ _ hI_36 ⟨hP, hD, hS, (lv_sub hl [2, 3, 1, 4, 0] rfl)⟩
      rintro ⟨x2_36, x4_36, M_heads_36⟩ H locs ls hI ⟨hP, hD, hS, hl⟩ ih_36
      have hw := hs_36 x2_36 x4_36 M_heads_36 hI
      have hP : va_P (dC, dI) vwCl (wM h_M h_M_jobOf h_M_machineOf h_M_durations h_M_arcs h_M_drafts h_M_starts h_M_heads h_M_tails h_M_chosen h_M_orders h_M_sizes cI cZ M_jobs M_many M_isPlanned M_least M_optima M_jobOf M_machineOf M_durations M_arcs M_drafts M_starts M_heads_36 M_tails M_chosen M_orders M_sizes) H := hP
      have hD : va_D A (wM h_M h_M_jobOf h_M_machineOf h_M_durations h_M_arcs h_M_drafts h_M_starts h_M_heads h_M_tails h_M_chosen h_M_orders h_M_sizes cI cZ M_jobs M_many M_isPlanned M_least M_optima M_jobOf M_machineOf M_durations M_arcs M_drafts M_starts M_heads_36 M_tails M_chosen M_orders M_sizes) := hD
      have hl : lv_has ls 7 [(0, .ref h_M), (1, .ref h_M_chosen), (2, .int x2_36), (3, .int x3_27), (4, .int x4_36)] := hl
      refine lv_iload (pc := 36) hx hb dX3_findHeads_36 (lv_at hl 4 rfl) ?_
      refine lv_aload_n (pc := 38) hx hb dX3_findHeads_38 rfl (lv_at hl 0 rfl) ?_
      refine va_get (D := (dC, dI)) (ci := 3) (v := .int M_many) (C := RX3) (T := TX3) (N := 16) (pc := 39) hx hb hts hin_X3 hown hK hP 0 rfl rfl 1 (by decide) (hts (.fieldLink RX3 48 "JobShopModel" "many" "I") (by decide +kernel)) (fun _ h9 => h9) rfl dX3_findHeads_39 ?_
      refine lv_icmp_ge (tgt := 121) (pc := 42) hx hb dX3_findHeads_42 (by decide) (fun c_3 => ?_) (fun c_3 => ?_)
      · have hw := hw.1 c_3
        refine lv_iinc (v := x3_27 + 1) (lv' := [(3, .int (x3_27 + 1)), (0, .ref h_M), (1, .ref h_M_chosen), (2, .int x2_36), (4, .int x4_36)]) (pc := 121) hx hb dX3_findHeads_121 hl (k := 3) rfl rfl (by decide) rfl (fun ls hl => ?_)
        refine lv_iload_n (pc := 124) hx hb dX3_findHeads_124 rfl (lv_at hl 0 rfl) ?_
        refine lv_aload_n (pc := 125) hx hb dX3_findHeads_125 rfl (lv_at hl 1 rfl) ?_
        refine va_get (D := (dC, dI)) (ci := 3) (v := .int M_many) (C := RX3) (T := TX3) (N := 16) (pc := 126) hx hb hts hin_X3 hown hK hP 0 rfl rfl 1 (by decide) (hts (.fieldLink RX3 48 "JobShopModel" "many" "I") (by decide +kernel)) (fun _ h9 => h9) rfl dX3_findHeads_126 ?_
        refine lv_iconst (v := 1) (pc := 129) hx hb dX3_findHeads_129 (by decide) ?_
        refine lv_iadd (pc := 130) hx hb dX3_findHeads_130 ?_
        refine lv_icmp_le (tgt := 27) (pc := 131) hx hb dX3_findHeads_131 (by decide) (fun c_4 => ?_) (fun c_4 => ?_)
        · have hw := hw.1 c_4
          exact ih_27 (x2_36, (x3_27 + 1), M_heads_36) _ _ _ hw.1 hw.2 ⟨hP, hD, hS, (lv_sub hl [1, 2, 3, 0] rfl)⟩
        · have hw := hw.2 c_4
          refine lv_iconst (v := 0) (pc := 134) hx hb dX3_findHeads_134 (by decide) ?_
          exact W.zret (v := 0) hx hb hr rfl (fun t ht hW => ⟨⟨0, M_heads_36, rfl, hw, by rw [ht]; exact hP, va_K.moved hW.alike hK, hD⟩, hS.F ht⟩) hS.2.2 dX3_findHeads_135
      · have hw := hw.2 c_3
        refine lv_iconst (v := 0) (pc := 45) hx hb dX3_findHeads_45 (by decide) ?_
        refine lv_istore (lv' := [(5, .int 0), (0, .ref h_M), (1, .ref h_M_chosen), (2, .int x2_36), (3, .int x3_27), (4, .int x4_36)]) (pc := 46) hx hb dX3_findHeads_46 hl (by decide) rfl (fun ls hl => ?_)
        obtain ⟨I_48, μ_48, hI_48, hs_48⟩ := hw
        refine lp_W (I := fun z : Int32 × Int32 × (Nat → Int32) => I_48 z.1 z.2.1 z.2.2) (fun z => μ_48 z.1 z.2.1 z.2.2) (fun (z : Int32 × Int32 × (Nat → Int32)) H locs ls => va_P (dC, dI) vwCl (wM h_M h_M_jobOf h_M_machineOf h_M_durations h_M_arcs h_M_drafts h_M_starts h_M_heads h_M_tails h_M_chosen h_M_orders h_M_sizes cI cZ M_jobs M_many M_isPlanned M_least M_optima M_jobOf M_machineOf M_durations M_arcs M_drafts M_starts z.2.2 M_tails M_chosen M_orders M_sizes) H ∧ va_D A (wM h_M h_M_jobOf h_M_machineOf h_M_durations h_M_arcs h_M_drafts h_M_starts h_M_heads h_M_tails h_M_chosen h_M_orders h_M_sizes cI cZ M_jobs M_many M_isPlanned M_least M_optima M_jobOf M_machineOf M_durations M_arcs M_drafts M_starts z.2.2 M_tails M_chosen M_orders M_sizes) ∧ va_S A s.heap H locs ∧ lv_has ls 7 [(0, .ref h_M), (1, .ref h_M_chosen), (2, .int z.1), (3, .int x3_27), (4, .int x4_36), (5, .int z.2.1)]) ?_ (x2_36, 0, M_heads_36) _ _ _ hI_48 ⟨hP, hD, hS, (lv_sub hl [1, 2, 3, 4, 5, 0] rfl)⟩
        rintro ⟨x2_48, x5_48, M_heads_48⟩ H locs ls hI ⟨hP, hD, hS, hl⟩ ih_48
        have hw := hs_48 x2_48 x5_48 M_heads_48 hI
        have hP : va_P (dC, dI) vwCl (wM h_M h_M_jobOf h_M_machineOf h_M_durations h_M_arcs h_M_drafts h_M_starts h_M_heads h_M_tails h_M_chosen h_M_orders h_M_sizes cI cZ M_jobs M_many M_isPlanned M_least M_optima M_jobOf M_machineOf M_durations M_arcs M_drafts M_starts M_heads_48 M_tails M_chosen M_orders M_sizes) H := hP
        have hD : va_D A (wM h_M h_M_jobOf h_M_machineOf h_M_durations h_M_arcs h_M_drafts h_M_starts h_M_heads h_M_tails h_M_chosen h_M_orders h_M_sizes cI cZ M_jobs M_many M_isPlanned M_least M_optima M_jobOf M_machineOf M_durations M_arcs M_drafts M_starts M_heads_48 M_tails M_chosen M_orders M_sizes) := hD
        have hl : lv_has ls 7 [(0, .ref h_M), (1, .ref h_M_chosen), (2, .int x2_48), (3, .int x3_27), (4, .int x4_36), (5, .int x5_48)] := hl
        refine lv_iload (pc := 48) hx hb dX3_findHeads_48 (lv_at hl 5 rfl) ?_
        refine lv_aload_n (pc := 50) hx hb dX3_findHeads_50 rfl (lv_at hl 0 rfl) ?_
        refine va_get (D := (dC, dI)) (ci := 3) (v := .int M_many) (C := RX3) (T := TX3) (N := 16) (pc := 51) hx hb hts hin_X3 hown hK hP 0 rfl rfl 1 (by decide) (hts (.fieldLink RX3 48 "JobShopModel" "many" "I") (by decide +kernel)) (fun _ h9 => h9) rfl dX3_findHeads_51 ?_
        refine lv_icmp_ge (tgt := 115) (pc := 54) hx hb dX3_findHeads_54 (by decide) (fun c_5 => ?_) (fun c_5 => ?_)
        · have hw := hw.1 c_5
          refine lv_iinc (v := x4_36 + 1) (lv' := [(4, .int (x4_36 + 1)), (0, .ref h_M), (1, .ref h_M_chosen), (2, .int x2_48), (3, .int x3_27), (5, .int x5_48)]) (pc := 115) hx hb dX3_findHeads_115 hl (k := 4) rfl rfl (by decide) rfl (fun ls hl => ?_)
          refine lv_goto (tgt := 36) (pc := 118) hx hb dX3_findHeads_118 (by decide) ?_
          exact ih_36 (x2_48, (x4_36 + 1), M_heads_48) _ _ _ hw.1 hw.2 ⟨hP, hD, hS, (lv_sub hl [1, 2, 3, 4, 0] rfl)⟩
        · have hw := hw.2 c_5
          refine lv_aload_n (pc := 57) hx hb dX3_findHeads_57 rfl (lv_at hl 0 rfl) ?_
          refine va_get (D := (dC, dI)) (ci := 3) (v := .ref h_M_heads) (C := RX3) (T := TX3) (N := 16) (pc := 58) hx hb hts hin_X3 hown hK hP 0 rfl rfl 11 (by decide) (hts (.fieldLink RX3 29 "JobShopModel" "heads" "[I") (by decide +kernel)) (fun _ h9 => h9) rfl dX3_findHeads_58 ?_
          refine lv_iload (pc := 61) hx hb dX3_findHeads_61 (lv_at hl 4 rfl) ?_
          obtain ⟨b_6, hw⟩ := hw
          refine va_iald (pc := 63) hx hb hK hP 7 0 rfl rfl b_6 dX3_findHeads_63 ?_
          refine lv_aload_n (pc := 64) hx hb dX3_findHeads_64 rfl (lv_at hl 0 rfl) ?_
          refine va_get (D := (dC, dI)) (ci := 3) (v := .ref h_M_durations) (C := RX3) (T := TX3) (N := 16) (pc := 65) hx hb hts hin_X3 hown hK hP 0 rfl rfl 4 (by decide) (hts (.fieldLink RX3 16 "JobShopModel" "durations" "[I") (by decide +kernel)) (fun _ h9 => h9) rfl dX3_findHeads_65 ?_
          refine lv_iload (pc := 68) hx hb dX3_findHeads_68 (lv_at hl 4 rfl) ?_
          obtain ⟨b_7, hw⟩ := hw
          refine va_iald (pc := 70) hx hb hK hP 3 0 rfl rfl b_7 dX3_findHeads_70 ?_
          refine lv_iadd (pc := 71) hx hb dX3_findHeads_71 ?_
          refine lv_istore (lv' := [(6, .int ((M_heads_48 x4_36.toNatClampNeg) + (M_durations x4_36.toNatClampNeg))), (0, .ref h_M), (1, .ref h_M_chosen), (2, .int x2_48), (3, .int x3_27), (4, .int x4_36), (5, .int x5_48)]) (pc := 72) hx hb dX3_findHeads_72 hl (by decide) rfl (fun ls hl => ?_)
          refine lv_aload_n (pc := 74) hx hb dX3_findHeads_74 rfl (lv_at hl 1 rfl) ?_
          refine lv_aload_n (pc := 75) hx hb dX3_findHeads_75 rfl (lv_at hl 2 rfl) ?_
          refine lv_iload (pc := 76) hx hb dX3_findHeads_76 (lv_at hl 5 rfl) ?_
          refine lv_iload (pc := 78) hx hb dX3_findHeads_78 (lv_at hl 6 rfl) ?_
          have hPx : va_P (dC, dI) vwCl ([] ++ (wM h_M h_M_jobOf h_M_machineOf h_M_durations h_M_arcs h_M_drafts h_M_starts h_M_heads h_M_tails h_M_chosen h_M_orders h_M_sizes cI cZ M_jobs M_many M_isPlanned M_least M_optima M_jobOf M_machineOf M_durations M_arcs M_drafts M_starts M_heads_48 M_tails M_chosen M_orders M_sizes)) H := hP
          have hDx : va_D A ([] ++ (wM h_M h_M_jobOf h_M_machineOf h_M_durations h_M_arcs h_M_drafts h_M_starts h_M_heads h_M_tails h_M_chosen h_M_orders h_M_sizes cI cZ M_jobs M_many M_isPlanned M_least M_optima M_jobOf M_machineOf M_durations M_arcs M_drafts M_starts M_heads_48 M_tails M_chosen M_orders M_sizes)) := hD
          refine kc_i (pc := 80) (w1 := (fun u : Unit => (wM h_M h_M_jobOf h_M_machineOf h_M_durations h_M_arcs h_M_drafts h_M_starts h_M_heads h_M_tails h_M_chosen h_M_orders h_M_sizes cI cZ M_jobs M_many M_isPlanned M_least M_optima M_jobOf M_machineOf M_durations M_arcs M_drafts M_starts M_heads_48 M_tails M_chosen M_orders M_sizes))) (va_runV (As := [.ref h_M_chosen, .int x4_36, .int x5_48]) (rest := []) ⟨hx, hb, hml, hown, hts⟩ (c_X3_leads_c l dC dI h_M h_M_jobOf h_M_machineOf h_M_durations h_M_arcs h_M_drafts h_M_starts h_M_heads h_M_tails h_M_chosen h_M_orders h_M_sizes H.size cI cZ M_jobs M_many M_isPlanned M_least M_optima M_jobOf M_machineOf M_durations M_arcs M_drafts M_starts M_heads_48 M_tails M_chosen M_orders M_sizes x4_36 x5_48 _ hw) (cwV 3 hts gX3_findHeads_X3_leads rfl rfl rfl (by decide +kernel) ⟨Nat.le_of_ble_eq_true rfl, Nat.le_of_ble_eq_true rfl⟩) (kc_preVM (q0 := 0) (ci := 3) hK hPx hDx [0, 1] rfl rfl rfl) rfl rfl hl.1 rfl (lv_room (Nat.le_of_ble_eq_true rfl)) dX3_findHeads_80 ⟨Nat.zero_le _, Nat.zero_le _⟩) hPx hDx hS hA (fun r_80 u H locs hw hP hD hS => ?_)
          have hP : va_P (dC, dI) vwCl (wM h_M h_M_jobOf h_M_machineOf h_M_durations h_M_arcs h_M_drafts h_M_starts h_M_heads h_M_tails h_M_chosen h_M_orders h_M_sizes cI cZ M_jobs M_many M_isPlanned M_least M_optima M_jobOf M_machineOf M_durations M_arcs M_drafts M_starts M_heads_48 M_tails M_chosen M_orders M_sizes) H := hP
          have hD : va_D A (wM h_M h_M_jobOf h_M_machineOf h_M_durations h_M_arcs h_M_drafts h_M_starts h_M_heads h_M_tails h_M_chosen h_M_orders h_M_sizes cI cZ M_jobs M_many M_isPlanned M_least M_optima M_jobOf M_machineOf M_durations M_arcs M_drafts M_starts M_heads_48 M_tails M_chosen M_orders M_sizes) := hD
          refine lv_if_eq (tgt := 109) (pc := 83) hx hb dX3_findHeads_83 (by decide) (fun c_8 => ?_) (fun c_8 => ?_)
          · have hw := hw.1 c_8
            refine lv_iinc (v := x5_48 + 1) (lv' := [(5, .int (x5_48 + 1)), (6, .int ((M_heads_48 x4_36.toNatClampNeg) + (M_durations x4_36.toNatClampNeg))), (0, .ref h_M), (1, .ref h_M_chosen), (2, .int x2_48), (3, .int x3_27), (4, .int x4_36)]) (pc := 109) hx hb dX3_findHeads_109 hl (k := 6) rfl rfl (by decide) rfl (fun ls hl => ?_)
            refine lv_goto (tgt := 48) (pc := 112) hx hb dX3_findHeads_112 (by decide) ?_
            exact ih_48 (x2_48, (x5_48 + 1), M_heads_48) _ _ _ hw.1 hw.2 ⟨hP, hD, hS, (lv_sub hl [2, 3, 4, 5, 6, 0] rfl)⟩
          · have hw := hw.2 c_8
            refine lv_iload (pc := 86) hx hb dX3_findHeads_86 (lv_at hl 0 rfl) ?_
            refine lv_aload_n (pc := 88) hx hb dX3_findHeads_88 rfl (lv_at hl 1 rfl) ?_
            refine va_get (D := (dC, dI)) (ci := 3) (v := .ref h_M_heads) (C := RX3) (T := TX3) (N := 16) (pc := 89) hx hb hts hin_X3 hown hK hP 0 rfl rfl 11 (by decide) (hts (.fieldLink RX3 29 "JobShopModel" "heads" "[I") (by decide +kernel)) (fun _ h9 => h9) rfl dX3_findHeads_89 ?_
            refine lv_iload (pc := 92) hx hb dX3_findHeads_92 (lv_at hl 6 rfl) ?_
            obtain ⟨b_9, hw⟩ := hw
            refine va_iald (pc := 94) hx hb hK hP 7 0 rfl rfl b_9 dX3_findHeads_94 ?_
            refine lv_icmp_le (tgt := 109) (pc := 95) hx hb dX3_findHeads_95 (by decide) (fun c_10 => ?_) (fun c_10 => ?_)
            · have hw := hw.1 c_10
              refine lv_iinc (v := x5_48 + 1) (lv' := [(5, .int (x5_48 + 1)), (6, .int ((M_heads_48 x4_36.toNatClampNeg) + (M_durations x4_36.toNatClampNeg))), (0, .ref h_M), (1, .ref h_M_chosen), (2, .int x2_48), (3, .int x3_27), (4, .int x4_36)]) (pc := 109) hx hb dX3_findHeads_109 hl (k := 6) rfl rfl (by decide) rfl (fun ls hl => ?_)
              refine lv_goto (tgt := 48) (pc := 112) hx hb dX3_findHeads_112 (by decide) ?_
              exact ih_48 (x2_48, (x5_48 + 1), M_heads_48) _ _ _ hw.1 hw.2 ⟨hP, hD, hS, (lv_sub hl [2, 3, 4, 5, 6, 0] rfl)⟩
            · have hw := hw.2 c_10
              refine lv_aload_n (pc := 98) hx hb dX3_findHeads_98 rfl (lv_at hl 1 rfl) ?_
              refine va_get (D := (dC, dI)) (ci := 3) (v := .ref h_M_heads) (C := RX3) (T := TX3) (N := 16) (pc := 99) hx hb hts hin_X3 hown hK hP 0 rfl rfl 11 (by decide) (hts (.fieldLink RX3 29 "JobShopModel" "heads" "[I") (by decide +kernel)) (fun _ h9 => h9) rfl dX3_findHeads_99 ?_
              refine lv_iload (pc := 102) hx hb dX3_findHeads_102 (lv_at hl 6 rfl) ?_
              refine lv_iload (pc := 104) hx hb dX3_findHeads_104 (lv_at hl 0 rfl) ?_
              obtain ⟨b_11, hw⟩ := hw
              refine va_iast (pc := 106) hx hb hK hP hD hS 7 0 rfl rfl b_11 dX3_findHeads_106 (fun H locs hP hD hS => ?_)
              have hP : va_P (dC, dI) vwCl (wM h_M h_M_jobOf h_M_machineOf h_M_durations h_M_arcs h_M_drafts h_M_starts h_M_heads h_M_tails h_M_chosen h_M_orders h_M_sizes cI cZ M_jobs M_many M_isPlanned M_least M_optima M_jobOf M_machineOf M_durations M_arcs M_drafts M_starts (upd M_heads_48 x5_48.toNatClampNeg ((M_heads_48 x4_36.toNatClampNeg) + (M_durations x4_36.toNatClampNeg))) M_tails M_chosen M_orders M_sizes) H := hP
              have hD : va_D A (wM h_M h_M_jobOf h_M_machineOf h_M_durations h_M_arcs h_M_drafts h_M_starts h_M_heads h_M_tails h_M_chosen h_M_orders h_M_sizes cI cZ M_jobs M_many M_isPlanned M_least M_optima M_jobOf M_machineOf M_durations M_arcs M_drafts M_starts (upd M_heads_48 x5_48.toNatClampNeg ((M_heads_48 x4_36.toNatClampNeg) + (M_durations x4_36.toNatClampNeg))) M_tails M_chosen M_orders M_sizes) := hD
              refine lv_iconst (v := 1) (pc := 107) hx hb dX3_findHeads_107 (by decide) ?_
              refine lv_istore_n (lv' := [(2, .int 1), (6, .int ((M_heads_48 x4_36.toNatClampNeg) + (M_durations x4_36.toNatClampNeg))), (0, .ref h_M), (1, .ref h_M_chosen), (3, .int x3_27), (4, .int x4_36), (5, .int x5_48)]) (pc := 108) hx hb dX3_findHeads_108 rfl hl (by decide) rfl (fun ls hl => ?_)
              refine lv_iinc (v := x5_48 + 1) (lv' := [(5, .int (x5_48 + 1)), (2, .int 1), (6, .int ((M_heads_48 x4_36.toNatClampNeg) + (M_durations x4_36.toNatClampNeg))), (0, .ref h_M), (1, .ref h_M_chosen), (3, .int x3_27), (4, .int x4_36)]) (pc := 109) hx hb dX3_findHeads_109 hl (k := 6) rfl rfl (by decide) rfl (fun ls hl => ?_)
              refine lv_goto (tgt := 48) (pc := 112) hx hb dX3_findHeads_112 (by decide) ?_
              exact ih_48 (1, (x5_48 + 1), (upd M_heads_48 x5_48.toNatClampNeg ((M_heads_48 x4_36.toNatClampNeg) + (M_durations x4_36.toNatClampNeg)))) _ _ _ hw.1 hw.2 ⟨hP, hD, hS, (lv_sub hl [3, 4, 1, 5, 6, 0] rfl)⟩
  · have hw := hw.2 c_1
    refine lv_aload_n (pc := 10) hx hb dX3_findHeads_10 rfl (lv_at hl 0 rfl) ?_
    refine va_get (D := (dC, dI)) (ci := 3) (v := .ref h_M_heads) (C := RX3) (T := TX3) (N := 16) (pc := 11) hx hb hts hin_X3 hown hK hP 0 rfl rfl 11 (by decide) (hts (.fieldLink RX3 29 "JobShopModel" "heads" "[I") (by decide +kernel)) (fun _ h9 => h9) rfl dX3_findHeads_11 ?_
    refine lv_iload_n (pc := 14) hx hb dX3_findHeads_14 rfl (lv_at hl 2 rfl) ?_
    refine lv_iconst (v := 0) (pc := 15) hx hb dX3_findHeads_15 (by decide) ?_
    obtain ⟨b_12, hw⟩ := hw
    refine va_iast (pc := 16) hx hb hK hP hD hS 7 0 rfl rfl b_12 dX3_findHeads_16 (fun H locs hP hD hS => ?_)
    have hP : va_P (dC, dI) vwCl (wM h_M h_M_jobOf h_M_machineOf h_M_durations h_M_arcs h_M_drafts h_M_starts h_M_heads h_M_tails h_M_chosen h_M_orders h_M_sizes cI cZ M_jobs M_many M_isPlanned M_least M_optima M_jobOf M_machineOf M_durations M_arcs M_drafts M_starts (upd M_heads_2 x2_2.toNatClampNeg 0) M_tails M_chosen M_orders M_sizes) H := hP
    have hD : va_D A (wM h_M h_M_jobOf h_M_machineOf h_M_durations h_M_arcs h_M_drafts h_M_starts h_M_heads h_M_tails h_M_chosen h_M_orders h_M_sizes cI cZ M_jobs M_many M_isPlanned M_least M_optima M_jobOf M_machineOf M_durations M_arcs M_drafts M_starts (upd M_heads_2 x2_2.toNatClampNeg 0) M_tails M_chosen M_orders M_sizes) := hD
    refine lv_iinc (v := x2_2 + 1) (lv' := [(2, .int (x2_2 + 1)), (0, .ref h_M), (1, .ref h_M_chosen)]) (pc := 17) hx hb dX3_findHeads_17 hl (k := 2) rfl rfl (by decide) rfl (fun ls hl => ?_)
    refine lv_goto (tgt := 2) (pc := 20) hx hb dX3_findHeads_20 (by decide) ?_
    exact ih_2 ((x2_2 + 1), (upd M_heads_2 x2_2.toNatClampNeg 0)) _ _ _ hw.1 hw.2 ⟨hP, hD, hS, (lv_sub hl [1, 2, 0] rfl)⟩
set_option maxHeartbeats 4000000 in
set_option maxRecDepth 100000 in
theorem c_X3_findTails_a (l : Launch) (dC : Nat → ClassId) (dI : Nat → Nat → Nat) (h_M h_M_jobOf h_M_machineOf h_M_durations h_M_arcs h_M_drafts h_M_starts h_M_heads h_M_tails h_M_chosen h_M_orders h_M_sizes : Nat) (sz : Nat) (cI cZ : ClassId) (M_jobs : Int32) (M_many : Int32) (M_isPlanned : Int32) (M_least : Int32) (M_optima : Int32) (M_jobOf : Nat → Int32) (M_machineOf : Nat → Int32) (M_durations : Nat → Int32) (M_arcs : Nat → Int32) (M_drafts : Nat → Int32) (M_starts : Nat → Int32) (M_heads : Nat → Int32) (M_tails : Nat → Int32) (M_chosen : Nat → Int32) (M_orders : Nat → Int32) (M_sizes : Nat → Int32) (post : (Nat → Int32) → Prop) (hw : wp_X3_findTails M_many M_jobOf M_durations M_tails M_arcs post) : Met l yX3_findTails wsX3_findTails ({ frames := 2, cells := 0, slots := 0, locals := 45 }) (va_Pc [.ref h_M, .ref h_M_arcs] (fun U => U.heap.size = sz ∧ va_P (dC, dI) vwCl (wM h_M h_M_jobOf h_M_machineOf h_M_durations h_M_arcs h_M_drafts h_M_starts h_M_heads h_M_tails h_M_chosen h_M_orders h_M_sizes cI cZ M_jobs M_many M_isPlanned M_least M_optima M_jobOf M_machineOf M_durations M_arcs M_drafts M_starts M_heads M_tails M_chosen M_orders M_sizes) U.heap ∧ va_K (dC, dI) vwCl [(cI, .int), (cZ, .boolean)] U ∧ va_D (fun _ => True) (wM h_M h_M_jobOf h_M_machineOf h_M_durations h_M_arcs h_M_drafts h_M_starts h_M_heads h_M_tails h_M_chosen h_M_orders h_M_sizes cI cZ M_jobs M_many M_isPlanned M_least M_optima M_jobOf M_machineOf M_durations M_arcs M_drafts M_starts M_heads M_tails M_chosen M_orders M_sizes))) (va_Qv (fun (u : Nat → Int32) => post u) (fun u t => va_P (dC, dI) vwCl (wM h_M h_M_jobOf h_M_machineOf h_M_durations h_M_arcs h_M_drafts h_M_starts h_M_heads h_M_tails h_M_chosen h_M_orders h_M_sizes cI cZ M_jobs M_many M_isPlanned M_least M_optima M_jobOf M_machineOf M_durations M_arcs M_drafts M_starts M_heads u M_chosen M_orders M_sizes) t.heap ∧ va_K (dC, dI) vwCl [(cI, .int), (cZ, .boolean)] t ∧ va_D (va_A (wM h_M h_M_jobOf h_M_machineOf h_M_durations h_M_arcs h_M_drafts h_M_starts h_M_heads h_M_tails h_M_chosen h_M_orders h_M_sizes cI cZ M_jobs M_many M_isPlanned M_least M_optima M_jobOf M_machineOf M_durations M_arcs M_drafts M_starts M_heads M_tails M_chosen M_orders M_sizes) sz) (wM h_M h_M_jobOf h_M_machineOf h_M_durations h_M_arcs h_M_drafts h_M_starts h_M_heads h_M_tails h_M_chosen h_M_orders h_M_sizes cI cZ M_jobs M_many M_isPlanned M_least M_optima M_jobOf M_machineOf M_durations M_arcs M_drafts M_starts M_heads u M_chosen M_orders M_sizes)) (va_A (wM h_M h_M_jobOf h_M_machineOf h_M_durations h_M_arcs h_M_drafts h_M_starts h_M_heads h_M_tails h_M_chosen h_M_orders h_M_sizes cI cZ M_jobs M_many M_isPlanned M_least M_optima M_jobOf M_machineOf M_durations M_arcs M_drafts M_starts M_heads M_tails M_chosen M_orders M_sizes) sz)) 0 0 (va_A (wM h_M h_M_jobOf h_M_machineOf h_M_durations h_M_arcs h_M_drafts h_M_starts h_M_heads h_M_tails h_M_chosen h_M_orders h_M_sizes cI cZ M_jobs M_many M_isPlanned M_least M_optima M_jobOf M_machineOf M_durations M_arcs M_drafts M_starts M_heads M_tails M_chosen M_orders M_sizes) sz) := by
  refine Met.ofW (cc := cX3_findTails) (maxL := 6) (ret := none) (by decide) rfl ?_
  intro p e s m args below meth c s₁ B hml hv
  obtain ⟨rfl, hsz, hP, hK, hD0⟩ := hv
  have hx := B.exec
  have hb := B.bytes
  have hr := B.returns
  have hts := atoms_spec (ws := wsX3_findTails) B.pre
  have hown : s.vm.findClass RX3 = some m.cls := findClass_of_methodNamed B.named
  have hlocks := B.notSynchronized
  subst hsz
  have hD := hD0.self (sz := s.heap.size)
  generalize hAe : va_A (wM h_M h_M_jobOf h_M_machineOf h_M_durations h_M_arcs h_M_drafts h_M_starts h_M_heads h_M_tails h_M_chosen h_M_orders h_M_sizes cI cZ M_jobs M_many M_isPlanned M_least M_optima M_jobOf M_machineOf M_durations M_arcs M_drafts M_starts M_heads M_tails M_chosen M_orders M_sizes) s.heap.size = A at hD ⊢
  have hA : ∀ q : Nat, s.heap.size ≤ q → A q := fun q h => by rw [← hAe]; exact Or.inr h
  have hS : va_S A s.heap s.heap [] := va_S.rf
  have hP : va_P (dC, dI) vwCl (wM h_M h_M_jobOf h_M_machineOf h_M_durations h_M_arcs h_M_drafts h_M_starts h_M_heads h_M_tails h_M_chosen h_M_orders h_M_sizes cI cZ M_jobs M_many M_isPlanned M_least M_optima M_jobOf M_machineOf M_durations M_arcs M_drafts M_starts M_heads M_tails M_chosen M_orders M_sizes) s.heap := hP
  have hl := lv_entry ([.ref h_M, .ref h_M_arcs]) (n := 6) (Nat.le_of_ble_eq_true rfl)
  rw [lg_entry_eq]
  generalize (lg_sl ([.ref h_M, .ref h_M_arcs]) ++ List.replicate (6 - (lg_sl ([.ref h_M, .ref h_M_arcs])).length) Slot.unset).toArray = ls at hl ⊢
  have hl : lv_has ls 6 [(0, .ref h_M), (1, .ref h_M_arcs)] := hl
  obtain ⟨H, hH⟩ : ∃ H, H = s.heap := ⟨_, rfl⟩
  rw [← hH] at hP
  have hS : va_S A s.heap H [] := by rw [hH]; exact hS
  refine W_heap hH ?_
  unfold wp_X3_findTails at hw
  have hin_X3 : ∀ w ∈ u_ws RX3 TX3 16, w ∈ wsX3_findTails := by decide +kernel
  refine lv_iconst (v := 0) (pc := 0) hx hb dX3_findTails_0 (by decide) ?_
  refine lv_istore_n (lv' := [(2, .int 0), (0, .ref h_M), (1, .ref h_M_arcs)]) (pc := 1) hx hb dX3_findTails_1 rfl hl (by decide) rfl (fun ls hl => ?_)
  obtain ⟨I_2, μ_2, hI_2, hs_2⟩ := hw
  refine lp_W (I := fun z : Int32 × (Nat → Int32) => I_2 z.1 z.2) (fun z => μ_2 z.1 z.2) (fun (z : Int32 × (Nat → Int32)) H locs ls => va_P (dC, dI) vwCl (wM h_M h_M_jobOf h_M_machineOf h_M_durations h_M_arcs h_M_drafts h_M_starts h_M_heads h_M_tails h_M_chosen h_M_orders h_M_sizes cI cZ M_jobs M_many M_isPlanned M_least M_optima M_jobOf M_machineOf M_durations M_arcs M_drafts M_starts M_heads z.2 M_chosen M_orders M_sizes) H ∧ va_D A (wM h_M h_M_jobOf h_M_machineOf h_M_durations h_M_arcs h_M_drafts h_M_starts h_M_heads h_M_tails h_M_chosen h_M_orders h_M_sizes cI cZ M_jobs M_many M_isPlanned M_least M_optima M_jobOf M_machineOf M_durations M_arcs M_drafts M_starts M_heads z.2 M_chosen M_orders M_sizes) ∧ va_S A s.heap H locs ∧ lv_has ls 6 [(0, .ref h_M), (1, .ref h_M_arcs), (2, .int z.1)]) ?_ (0, M_tails) _ _ _ hI_2 ⟨hP, hD, hS, (lv_sub hl [1, 2, 0] rfl)⟩
  rintro ⟨x2_2, M_tails_2⟩ H locs ls hI ⟨hP, hD, hS, hl⟩ ih_2
  have hw := hs_2 x2_2 M_tails_2 hI
  have hP : va_P (dC, dI) vwCl (wM h_M h_M_jobOf h_M_machineOf h_M_durations h_M_arcs h_M_drafts h_M_starts h_M_heads h_M_tails h_M_chosen h_M_orders h_M_sizes cI cZ M_jobs M_many M_isPlanned M_least M_optima M_jobOf M_machineOf M_durations M_arcs M_drafts M_starts M_heads M_tails_2 M_chosen M_orders M_sizes) H := hP
  have hD : va_D A (wM h_M h_M_jobOf h_M_machineOf h_M_durations h_M_arcs h_M_drafts h_M_starts h_M_heads h_M_tails h_M_chosen h_M_orders h_M_sizes cI cZ M_jobs M_many M_isPlanned M_least M_optima M_jobOf M_machineOf M_durations M_arcs M_drafts M_starts M_heads M_tails_2 M_chosen M_orders M_sizes) := hD
  have hl : lv_has ls 6 [(0, .ref h_M), (1, .ref h_M_arcs), (2, .int x2_2)] := hl
  refine lv_iload_n (pc := 2) hx hb dX3_findTails_2 rfl (lv_at hl 2 rfl) ?_
  refine lv_aload_n (pc := 3) hx hb dX3_findTails_3 rfl (lv_at hl 0 rfl) ?_
  refine va_get (D := (dC, dI)) (ci := 3) (v := .int M_many) (C := RX3) (T := TX3) (N := 16) (pc := 4) hx hb hts hin_X3 hown hK hP 0 rfl rfl 1 (by decide) (hts (.fieldLink RX3 48 "JobShopModel" "many" "I") (by decide +kernel)) (fun _ h9 => h9) rfl dX3_findTails_4 ?_
  refine lv_icmp_ge (tgt := 23) (pc := 7) hx hb dX3_findTails_7 (by decide) (fun c_1 => ?_) (fun c_1 => ?_)
  · have hw := hw.1 c_1
    refine lv_iconst (v := 1) (pc := 23) hx hb dX3_findTails_23 (by decide) ?_
    refine lv_istore_n (lv' := [(2, .int 1), (0, .ref h_M), (1, .ref h_M_arcs)]) (pc := 24) hx hb dX3_findTails_24 rfl hl (by decide) rfl (fun ls hl => ?_)
    obtain ⟨I_25, μ_25, hI_25, hs_25⟩ := hw
    refine lp_W (I := fun z : Int32 × (Nat → Int32) => I_25 z.1 z.2) (fun z => μ_25 z.1 z.2) (fun (z : Int32 × (Nat → Int32)) H locs ls => va_P (dC, dI) vwCl (wM h_M h_M_jobOf h_M_machineOf h_M_durations h_M_arcs h_M_drafts h_M_starts h_M_heads h_M_tails h_M_chosen h_M_orders h_M_sizes cI cZ M_jobs M_many M_isPlanned M_least M_optima M_jobOf M_machineOf M_durations M_arcs M_drafts M_starts M_heads z.2 M_chosen M_orders M_sizes) H ∧ va_D A (wM h_M h_M_jobOf h_M_machineOf h_M_durations h_M_arcs h_M_drafts h_M_starts h_M_heads h_M_tails h_M_chosen h_M_orders h_M_sizes cI cZ M_jobs M_many M_isPlanned M_least M_optima M_jobOf M_machineOf M_durations M_arcs M_drafts M_starts M_heads z.2 M_chosen M_orders M_sizes) ∧ va_S A s.heap H locs ∧ lv_has ls 6 [(0, .ref h_M), (1, .ref h_M_arcs), (2, .int z.1)]) ?_ (1, M_tails_2) _ _ _ hI_25 ⟨hP, hD, hS, (lv_sub hl [1, 2, 0] rfl)⟩
    rintro ⟨x2_25, M_tails_25⟩ H locs ls hI ⟨hP, hD, hS, hl⟩ ih_25
    have hw := hs_25 x2_25 M_tails_25 hI
    have hP : va_P (dC, dI) vwCl (wM h_M h_M_jobOf h_M_machineOf h_M_durations h_M_arcs h_M_drafts h_M_starts h_M_heads h_M_tails h_M_chosen h_M_orders h_M_sizes cI cZ M_jobs M_many M_isPlanned M_least M_optima M_jobOf M_machineOf M_durations M_arcs M_drafts M_starts M_heads M_tails_25 M_chosen M_orders M_sizes) H := hP
    have hD : va_D A (wM h_M h_M_jobOf h_M_machineOf h_M_durations h_M_arcs h_M_drafts h_M_starts h_M_heads h_M_tails h_M_chosen h_M_orders h_M_sizes cI cZ M_jobs M_many M_isPlanned M_least M_optima M_jobOf M_machineOf M_durations M_arcs M_drafts M_starts M_heads M_tails_25 M_chosen M_orders M_sizes) := hD
    have hl : lv_has ls 6 [(0, .ref h_M), (1, .ref h_M_arcs), (2, .int x2_25)] := hl
    refine lv_iload_n (pc := 25) hx hb dX3_findTails_25 rfl (lv_at hl 2 rfl) ?_
    refine lv_if_eq (tgt := 117) (pc := 26) hx hb dX3_findTails_26 (by decide) (fun c_2 => ?_) (fun c_2 => ?_)
    · have hw := hw.1 c_2
      exact W.vret hx hb hr (fun t ht hW => ⟨⟨M_tails_25, rfl, hw, by rw [ht]; exact hP, va_K.moved hW.alike hK, hD⟩, hS.F ht⟩) hS.2.2 dX3_findTails_117
    · have hw := hw.2 c_2
      refine lv_iconst (v := 0) (pc := 29) hx hb dX3_findTails_29 (by decide) ?_
      refine lv_istore_n (lv' := [(2, .int 0), (0, .ref h_M), (1, .ref h_M_arcs)]) (pc := 30) hx hb dX3_findTails_30 rfl hl (by decide) rfl (fun ls hl => ?_)
      refine lv_iconst (v := 0) (pc := 31) hx hb dX3_findTails_31 (by decide) ?_
      refine lv_istore_n (lv' := [(3, .int 0), (2, .int 0), (0, .ref h_M), (1, .ref h_M_arcs)]) (pc := 32) hx hb dX3_findTails_32 rfl hl (by decide) rfl (fun ls hl => ?_)
      obtain ⟨I_33, μ_33, hI_33, hs_33⟩ := hw
      refine lp_W (I := fun z : Int32 × Int32 × (Nat → Int32) => I_33 z.1 z.2.1 z.2.2) (fun z => μ_33 z.1 z.2.1 z.2.2) (fun (z : Int32 × Int32 × (Nat → Int32)) H locs ls => va_P (dC, dI) vwCl (wM h_M h_M_jobOf h_M_machineOf h_M_durations h_M_arcs h_M_drafts h_M_starts h_M_heads h_M_tails h_M_chosen h_M_orders h_M_sizes cI cZ M_jobs M_many M_isPlanned M_least M_optima M_jobOf M_machineOf M_durations M_arcs M_drafts M_starts M_heads z.2.2 M_chosen M_orders M_sizes) H ∧ va_D A (wM h_M h_M_jobOf h_M_machineOf h_M_durations h_M_arcs h_M_drafts h_M_starts h_M_heads h_M_tails h_M_chosen h_M_orders h_M_sizes cI cZ M_jobs M_many M_isPlanned M_least M_optima M_jobOf M_machineOf M_durations M_arcs M_drafts M_starts M_heads z.2.2 M_chosen M_orders M_sizes) ∧ va_S A s.heap H locs ∧ lv_has ls 6 [(0, .ref h_M), (1, .ref h_M_arcs), (2, .int z.1), (3, .int z.2.1)]) ?_ (0, 0, M_tails_25) _ _ _ hI_33 ⟨hP, hD, hS, (lv_sub hl [2, 3, 1, 0] rfl)⟩
      rintro ⟨x2_33, x3_33, M_tails_33⟩ H locs ls hI ⟨hP, hD, hS, hl⟩ ih_33
      have hw := hs_33 x2_33 x3_33 M_tails_33 hI
      have hP : va_P (dC, dI) vwCl (wM h_M h_M_jobOf h_M_machineOf h_M_durations h_M_arcs h_M_drafts h_M_starts h_M_heads h_M_tails h_M_chosen h_M_orders h_M_sizes cI cZ M_jobs M_many M_isPlanned M_least M_optima M_jobOf M_machineOf M_durations M_arcs M_drafts M_starts M_heads M_tails_33 M_chosen M_orders M_sizes) H := hP
      have hD : va_D A (wM h_M h_M_jobOf h_M_machineOf h_M_durations h_M_arcs h_M_drafts h_M_starts h_M_heads h_M_tails h_M_chosen h_M_orders h_M_sizes cI cZ M_jobs M_many M_isPlanned M_least M_optima M_jobOf M_machineOf M_durations M_arcs M_drafts M_starts M_heads M_tails_33 M_chosen M_orders M_sizes) := hD
      have hl : lv_has ls 6 [(0, .ref h_M), (1, .ref h_M_arcs), (2, .int x2_33), (3, .int x3_33)] := hl
      refine lv_iload_n (pc := 33) hx hb dX3_findTails_33 rfl (lv_at hl 3 rfl) ?_
      refine lv_aload_n (pc := 34) hx hb dX3_findTails_34 rfl (lv_at hl 0 rfl) ?_
      refine va_get (D := (dC, dI)) (ci := 3) (v := .int M_many) (C := RX3) (T := TX3) (N := 16) (pc := 35) hx hb hts hin_X3 hown hK hP 0 rfl rfl 1 (by decide) (hts (.fieldLink RX3 48 "JobShopModel" "many" "I") (by decide +kernel)) (fun _ h9 => h9) rfl dX3_findTails_35 ?_
      refine lv_icmp_ge (tgt := 114) (pc := 38) hx hb dX3_findTails_38 (by decide) (fun c_3 => ?_) (fun c_3 => ?_)
      · have hw := hw.1 c_3
        refine lv_goto (tgt := 25) (pc := 114) hx hb dX3_findTails_114 (by decide) ?_
        exact ih_25 (x2_33, M_tails_33) _ _ _ hw.1 hw.2 ⟨hP, hD, hS, (lv_sub hl [0, 1, 2] rfl)⟩
      · have hw := hw.2 c_3
        refine lv_iconst (v := 0) (pc := 41) hx hb dX3_findTails_41 (by decide) ?_
        refine lv_istore (lv' := [(4, .int 0), (0, .ref h_M), (1, .ref h_M_arcs), (2, .int x2_33), (3, .int x3_33)]) (pc := 42) hx hb dX3_findTails_42 hl (by decide) rfl (fun ls hl => ?_)
        obtain ⟨I_44, μ_44, hI_44, hs_44⟩ := hw
        refine lp_W (I := fun z : Int32 × Int32 × (Nat → Int32) => I_44 z.1 z.2.1 z.2.2) (fun z => μ_44 z.1 z.2.1 z.2.2) (fun (z : Int32 × Int32 × (Nat → Int32)) H locs ls => va_P (dC, dI) vwCl (wM h_M h_M_jobOf h_M_machineOf h_M_durations h_M_arcs h_M_drafts h_M_starts h_M_heads h_M_tails h_M_chosen h_M_orders h_M_sizes cI cZ M_jobs M_many M_isPlanned M_least M_optima M_jobOf M_machineOf M_durations M_arcs M_drafts M_starts M_heads z.2.2 M_chosen M_orders M_sizes) H ∧ va_D A (wM h_M h_M_jobOf h_M_machineOf h_M_durations h_M_arcs h_M_drafts h_M_starts h_M_heads h_M_tails h_M_chosen h_M_orders h_M_sizes cI cZ M_jobs M_many M_isPlanned M_least M_optima M_jobOf M_machineOf M_durations M_arcs M_drafts M_starts M_heads z.2.2 M_chosen M_orders M_sizes) ∧ va_S A s.heap H locs ∧ lv_has ls 6 [(0, .ref h_M), (1, .ref h_M_arcs), (2, .int z.1), (3, .int x3_33), (4, .int z.2.1)]) ?_ (x2_33, 0, M_tails_33) _ _ _ hI_44 ⟨hP, hD, hS, (lv_sub hl [1, 2, 3, 4, 0] rfl)⟩
        rintro ⟨x2_44, x4_44, M_tails_44⟩ H locs ls hI ⟨hP, hD, hS, hl⟩ ih_44
        have hw := hs_44 x2_44 x4_44 M_tails_44 hI
        have hP : va_P (dC, dI) vwCl (wM h_M h_M_jobOf h_M_machineOf h_M_durations h_M_arcs h_M_drafts h_M_starts h_M_heads h_M_tails h_M_chosen h_M_orders h_M_sizes cI cZ M_jobs M_many M_isPlanned M_least M_optima M_jobOf M_machineOf M_durations M_arcs M_drafts M_starts M_heads M_tails_44 M_chosen M_orders M_sizes) H := hP
        have hD : va_D A (wM h_M h_M_jobOf h_M_machineOf h_M_durations h_M_arcs h_M_drafts h_M_starts h_M_heads h_M_tails h_M_chosen h_M_orders h_M_sizes cI cZ M_jobs M_many M_isPlanned M_least M_optima M_jobOf M_machineOf M_durations M_arcs M_drafts M_starts M_heads M_tails_44 M_chosen M_orders M_sizes) := hD
        have hl : lv_has ls 6 [(0, .ref h_M), (1, .ref h_M_arcs), (2, .int x2_44), (3, .int x3_33), (4, .int x4_44)] := hl
        refine lv_iload (pc := 44) hx hb dX3_findTails_44 (lv_at hl 4 rfl) ?_
        refine lv_aload_n (pc := 46) hx hb dX3_findTails_46 rfl (lv_at hl 0 rfl) ?_
        refine va_get (D := (dC, dI)) (ci := 3) (v := .int M_many) (C := RX3) (T := TX3) (N := 16) (pc := 47) hx hb hts hin_X3 hown hK hP 0 rfl rfl 1 (by decide) (hts (.fieldLink RX3 48 "JobShopModel" "many" "I") (by decide +kernel)) (fun _ h9 => h9) rfl dX3_findTails_47 ?_
        refine lv_icmp_ge (tgt := 108) (pc := 50) hx hb dX3_findTails_50 (by decide) (fun c_4 => ?_) (fun c_4 => ?_)
        · have hw := hw.1 c_4
          refine lv_iinc (v := x3_33 + 1) (lv' := [(3, .int (x3_33 + 1)), (0, .ref h_M), (1, .ref h_M_arcs), (2, .int x2_44), (4, .int x4_44)]) (pc := 108) hx hb dX3_findTails_108 hl (k := 3) rfl rfl (by decide) rfl (fun ls hl => ?_)
          refine lv_goto (tgt := 33) (pc := 111) hx hb dX3_findTails_111 (by decide) ?_
          exact ih_33 (x2_44, (x3_33 + 1), M_tails_44) _ _ _ hw.1 hw.2 ⟨hP, hD, hS, (lv_sub hl [1, 2, 3, 0] rfl)⟩
        · have hw := hw.2 c_4
          refine lv_aload_n (pc := 53) hx hb dX3_findTails_53 rfl (lv_at hl 0 rfl) ?_
          refine va_get (D := (dC, dI)) (ci := 3) (v := .ref h_M_tails) (C := RX3) (T := TX3) (N := 16) (pc := 54) hx hb hts hin_X3 hown hK hP 0 rfl rfl 12 (by decide) (hts (.fieldLink RX3 32 "JobShopModel" "tails" "[I") (by decide +kernel)) (fun _ h9 => h9) rfl dX3_findTails_54 ?_
          refine lv_iload (pc := 57) hx hb dX3_findTails_57 (lv_at hl 4 rfl) ?_
          obtain ⟨b_5, hw⟩ := hw
          refine va_iald (pc := 59) hx hb hK hP 8 0 rfl rfl b_5 dX3_findTails_59 ?_
          refine lv_aload_n (pc := 60) hx hb dX3_findTails_60 rfl (lv_at hl 0 rfl) ?_
          refine va_get (D := (dC, dI)) (ci := 3) (v := .ref h_M_durations) (C := RX3) (T := TX3) (N := 16) (pc := 61) hx hb hts hin_X3 hown hK hP 0 rfl rfl 4 (by decide) (hts (.fieldLink RX3 16 "JobShopModel" "durations" "[I") (by decide +kernel)) (fun _ h9 => h9) rfl dX3_findTails_61 ?_
          refine lv_iload (pc := 64) hx hb dX3_findTails_64 (lv_at hl 4 rfl) ?_
          obtain ⟨b_6, hw⟩ := hw
          refine va_iald (pc := 66) hx hb hK hP 3 0 rfl rfl b_6 dX3_findTails_66 ?_
          refine lv_iadd (pc := 67) hx hb dX3_findTails_67 ?_
          refine lv_istore (lv' := [(5, .int ((M_tails_44 x4_44.toNatClampNeg) + (M_durations x4_44.toNatClampNeg))), (0, .ref h_M), (1, .ref h_M_arcs), (2, .int x2_44), (3, .int x3_33), (4, .int x4_44)]) (pc := 68) hx hb dX3_findTails_68 hl (by decide) rfl (fun ls hl => ?_)
          refine lv_aload_n (pc := 70) hx hb dX3_findTails_70 rfl (lv_at hl 1 rfl) ?_
          refine lv_aload_n (pc := 71) hx hb dX3_findTails_71 rfl (lv_at hl 2 rfl) ?_
          refine lv_iload_n (pc := 72) hx hb dX3_findTails_72 rfl (lv_at hl 4 rfl) ?_
          refine lv_iload (pc := 73) hx hb dX3_findTails_73 (lv_at hl 5 rfl) ?_
          have hPx : va_P (dC, dI) vwCl ([] ++ (wM h_M h_M_jobOf h_M_machineOf h_M_durations h_M_arcs h_M_drafts h_M_starts h_M_heads h_M_tails h_M_chosen h_M_orders h_M_sizes cI cZ M_jobs M_many M_isPlanned M_least M_optima M_jobOf M_machineOf M_durations M_arcs M_drafts M_starts M_heads M_tails_44 M_chosen M_orders M_sizes)) H := hP
          have hDx : va_D A ([] ++ (wM h_M h_M_jobOf h_M_machineOf h_M_durations h_M_arcs h_M_drafts h_M_starts h_M_heads h_M_tails h_M_chosen h_M_orders h_M_sizes cI cZ M_jobs M_many M_isPlanned M_least M_optima M_jobOf M_machineOf M_durations M_arcs M_drafts M_starts M_heads M_tails_44 M_chosen M_orders M_sizes)) := hD
          refine kc_i (pc := 75) (w1 := (fun u : Unit => (wM h_M h_M_jobOf h_M_machineOf h_M_durations h_M_arcs h_M_drafts h_M_starts h_M_heads h_M_tails h_M_chosen h_M_orders h_M_sizes cI cZ M_jobs M_many M_isPlanned M_least M_optima M_jobOf M_machineOf M_durations M_arcs M_drafts M_starts M_heads M_tails_44 M_chosen M_orders M_sizes))) (va_runV (As := [.ref h_M_arcs, .int x3_33, .int x4_44]) (rest := []) ⟨hx, hb, hml, hown, hts⟩ (c_X3_leads_a l dC dI h_M h_M_jobOf h_M_machineOf h_M_durations h_M_arcs h_M_drafts h_M_starts h_M_heads h_M_tails h_M_chosen h_M_orders h_M_sizes H.size cI cZ M_jobs M_many M_isPlanned M_least M_optima M_jobOf M_machineOf M_durations M_arcs M_drafts M_starts M_heads M_tails_44 M_chosen M_orders M_sizes x3_33 x4_44 _ hw) (cwV 3 hts gX3_findTails_X3_leads rfl rfl rfl (by decide +kernel) ⟨Nat.le_of_ble_eq_true rfl, Nat.le_of_ble_eq_true rfl⟩) (kc_preVM (q0 := 0) (ci := 3) hK hPx hDx [0, 1] rfl rfl rfl) rfl rfl hl.1 rfl (lv_room (Nat.le_of_ble_eq_true rfl)) dX3_findTails_75 ⟨Nat.zero_le _, Nat.zero_le _⟩) hPx hDx hS hA (fun r_75 u H locs hw hP hD hS => ?_)
          have hP : va_P (dC, dI) vwCl (wM h_M h_M_jobOf h_M_machineOf h_M_durations h_M_arcs h_M_drafts h_M_starts h_M_heads h_M_tails h_M_chosen h_M_orders h_M_sizes cI cZ M_jobs M_many M_isPlanned M_least M_optima M_jobOf M_machineOf M_durations M_arcs M_drafts M_starts M_heads M_tails_44 M_chosen M_orders M_sizes) H := hP
          have hD : va_D A (wM h_M h_M_jobOf h_M_machineOf h_M_durations h_M_arcs h_M_drafts h_M_starts h_M_heads h_M_tails h_M_chosen h_M_orders h_M_sizes cI cZ M_jobs M_many M_isPlanned M_least M_optima M_jobOf M_machineOf M_durations M_arcs M_drafts M_starts M_heads M_tails_44 M_chosen M_orders M_sizes) := hD
          refine lv_if_eq (tgt := 102) (pc := 78) hx hb dX3_findTails_78 (by decide) (fun c_7 => ?_) (fun c_7 => ?_)
          · have hw := hw.1 c_7
            refine lv_iinc (v := x4_44 + 1) (lv' := [(4, .int (x4_44 + 1)), (5, .int ((M_tails_44 x4_44.toNatClampNeg) + (M_durations x4_44.toNatClampNeg))), (0, .ref h_M), (1, .ref h_M_arcs), (2, .int x2_44), (3, .int x3_33)]) (pc := 102) hx hb dX3_findTails_102 hl (k := 5) rfl rfl (by decide) rfl (fun ls hl => ?_)
            refine lv_goto (tgt := 44) (pc := 105) hx hb dX3_findTails_105 (by decide) ?_
            exact ih_44 (x2_44, (x4_44 + 1), M_tails_44) _ _ _ hw.1 hw.2 ⟨hP, hD, hS, (lv_sub hl [2, 3, 4, 5, 0] rfl)⟩
          · have hw := hw.2 c_7
            refine lv_iload (pc := 81) hx hb dX3_findTails_81 (lv_at hl 0 rfl) ?_
            refine lv_aload_n (pc := 83) hx hb dX3_findTails_83 rfl (lv_at hl 1 rfl) ?_
            refine va_get (D := (dC, dI)) (ci := 3) (v := .ref h_M_tails) (C := RX3) (T := TX3) (N := 16) (pc := 84) hx hb hts hin_X3 hown hK hP 0 rfl rfl 12 (by decide) (hts (.fieldLink RX3 32 "JobShopModel" "tails" "[I") (by decide +kernel)) (fun _ h9 => h9) rfl dX3_findTails_84 ?_
            refine lv_iload_n (pc := 87) hx hb dX3_findTails_87 rfl (lv_at hl 4 rfl) ?_
            obtain ⟨b_8, hw⟩ := hw
            refine va_iald (pc := 88) hx hb hK hP 8 0 rfl rfl b_8 dX3_findTails_88 ?_
            refine lv_icmp_le (tgt := 102) (pc := 89) hx hb dX3_findTails_89 (by decide) (fun c_9 => ?_) (fun c_9 => ?_)
            · have hw := hw.1 c_9
              refine lv_iinc (v := x4_44 + 1) (lv' := [(4, .int (x4_44 + 1)), (5, .int ((M_tails_44 x4_44.toNatClampNeg) + (M_durations x4_44.toNatClampNeg))), (0, .ref h_M), (1, .ref h_M_arcs), (2, .int x2_44), (3, .int x3_33)]) (pc := 102) hx hb dX3_findTails_102 hl (k := 5) rfl rfl (by decide) rfl (fun ls hl => ?_)
              refine lv_goto (tgt := 44) (pc := 105) hx hb dX3_findTails_105 (by decide) ?_
              exact ih_44 (x2_44, (x4_44 + 1), M_tails_44) _ _ _ hw.1 hw.2 ⟨hP, hD, hS, (lv_sub hl [2, 3, 4, 5, 0] rfl)⟩
            · have hw := hw.2 c_9
              refine lv_aload_n (pc := 92) hx hb dX3_findTails_92 rfl (lv_at hl 1 rfl) ?_
              refine va_get (D := (dC, dI)) (ci := 3) (v := .ref h_M_tails) (C := RX3) (T := TX3) (N := 16) (pc := 93) hx hb hts hin_X3 hown hK hP 0 rfl rfl 12 (by decide) (hts (.fieldLink RX3 32 "JobShopModel" "tails" "[I") (by decide +kernel)) (fun _ h9 => h9) rfl dX3_findTails_93 ?_
              refine lv_iload_n (pc := 96) hx hb dX3_findTails_96 rfl (lv_at hl 4 rfl) ?_
              refine lv_iload (pc := 97) hx hb dX3_findTails_97 (lv_at hl 0 rfl) ?_
              obtain ⟨b_10, hw⟩ := hw
              refine va_iast (pc := 99) hx hb hK hP hD hS 8 0 rfl rfl b_10 dX3_findTails_99 (fun H locs hP hD hS => ?_)
              have hP : va_P (dC, dI) vwCl (wM h_M h_M_jobOf h_M_machineOf h_M_durations h_M_arcs h_M_drafts h_M_starts h_M_heads h_M_tails h_M_chosen h_M_orders h_M_sizes cI cZ M_jobs M_many M_isPlanned M_least M_optima M_jobOf M_machineOf M_durations M_arcs M_drafts M_starts M_heads (upd M_tails_44 x3_33.toNatClampNeg ((M_tails_44 x4_44.toNatClampNeg) + (M_durations x4_44.toNatClampNeg))) M_chosen M_orders M_sizes) H := hP
              have hD : va_D A (wM h_M h_M_jobOf h_M_machineOf h_M_durations h_M_arcs h_M_drafts h_M_starts h_M_heads h_M_tails h_M_chosen h_M_orders h_M_sizes cI cZ M_jobs M_many M_isPlanned M_least M_optima M_jobOf M_machineOf M_durations M_arcs M_drafts M_starts M_heads (upd M_tails_44 x3_33.toNatClampNeg ((M_tails_44 x4_44.toNatClampNeg) + (M_durations x4_44.toNatClampNeg))) M_chosen M_orders M_sizes) := hD
              refine lv_iconst (v := 1) (pc := 100) hx hb dX3_findTails_100 (by decide) ?_
              refine lv_istore_n (lv' := [(2, .int 1), (5, .int ((M_tails_44 x4_44.toNatClampNeg) + (M_durations x4_44.toNatClampNeg))), (0, .ref h_M), (1, .ref h_M_arcs), (3, .int x3_33), (4, .int x4_44)]) (pc := 101) hx hb dX3_findTails_101 rfl hl (by decide) rfl (fun ls hl => ?_)
              refine lv_iinc (v := x4_44 + 1) (lv' := [(4, .int (x4_44 + 1)), (2, .int 1), (5, .int ((M_tails_44 x4_44.toNatClampNeg) + (M_durations x4_44.toNatClampNeg))), (0, .ref h_M), (1, .ref h_M_arcs), (3, .int x3_33)]) (pc := 102) hx hb dX3_findTails_102 hl (k := 5) rfl rfl (by decide) rfl (fun ls hl => ?_)
              refine lv_goto (tgt := 44) (pc := 105) hx hb dX3_findTails_105 (by decide) ?_
              exact ih_44 (1, (x4_44 + 1), (upd M_tails_44 x3_33.toNatClampNeg ((M_tails_44 x4_44.toNatClampNeg) + (M_durations x4_44.toNatClampNeg)))) _ _ _ hw.1 hw.2 ⟨hP, hD, hS, (lv_sub hl [3, 4, 1, 5, 0] rfl)⟩
  · have hw := hw.2 c_1
    refine lv_aload_n (pc := 10) hx hb dX3_findTails_10 rfl (lv_at hl 0 rfl) ?_
    refine va_get (D := (dC, dI)) (ci := 3) (v := .ref h_M_tails) (C := RX3) (T := TX3) (N := 16) (pc := 11) hx hb hts hin_X3 hown hK hP 0 rfl rfl 12 (by decide) (hts (.fieldLink RX3 32 "JobShopModel" "tails" "[I") (by decide +kernel)) (fun _ h9 => h9) rfl dX3_findTails_11 ?_
    refine lv_iload_n (pc := 14) hx hb dX3_findTails_14 rfl (lv_at hl 2 rfl) ?_
    refine lv_iconst (v := 0) (pc := 15) hx hb dX3_findTails_15 (by decide) ?_
    obtain ⟨b_11, hw⟩ := hw
    refine va_iast (pc := 16) hx hb hK hP hD hS 8 0 rfl rfl b_11 dX3_findTails_16 (fun H locs hP hD hS => ?_)
    have hP : va_P (dC, dI) vwCl (wM h_M h_M_jobOf h_M_machineOf h_M_durations h_M_arcs h_M_drafts h_M_starts h_M_heads h_M_tails h_M_chosen h_M_orders h_M_sizes cI cZ M_jobs M_many M_isPlanned M_least M_optima M_jobOf M_machineOf M_durations M_arcs M_drafts M_starts M_heads (upd M_tails_2 x2_2.toNatClampNeg 0) M_chosen M_orders M_sizes) H := hP
    have hD : va_D A (wM h_M h_M_jobOf h_M_machineOf h_M_durations h_M_arcs h_M_drafts h_M_starts h_M_heads h_M_tails h_M_chosen h_M_orders h_M_sizes cI cZ M_jobs M_many M_isPlanned M_least M_optima M_jobOf M_machineOf M_durations M_arcs M_drafts M_starts M_heads (upd M_tails_2 x2_2.toNatClampNeg 0) M_chosen M_orders M_sizes) := hD
    refine lv_iinc (v := x2_2 + 1) (lv' := [(2, .int (x2_2 + 1)), (0, .ref h_M), (1, .ref h_M_arcs)]) (pc := 17) hx hb dX3_findTails_17 hl (k := 2) rfl rfl (by decide) rfl (fun ls hl => ?_)
    refine lv_goto (tgt := 2) (pc := 20) hx hb dX3_findTails_20 (by decide) ?_
    exact ih_2 ((x2_2 + 1), (upd M_tails_2 x2_2.toNatClampNeg 0)) _ _ _ hw.1 hw.2 ⟨hP, hD, hS, (lv_sub hl [1, 2, 0] rfl)⟩
set_option maxHeartbeats 4000000 in
set_option maxRecDepth 100000 in
theorem c_X3_findTails_c (l : Launch) (dC : Nat → ClassId) (dI : Nat → Nat → Nat) (h_M h_M_jobOf h_M_machineOf h_M_durations h_M_arcs h_M_drafts h_M_starts h_M_heads h_M_tails h_M_chosen h_M_orders h_M_sizes : Nat) (sz : Nat) (cI cZ : ClassId) (M_jobs : Int32) (M_many : Int32) (M_isPlanned : Int32) (M_least : Int32) (M_optima : Int32) (M_jobOf : Nat → Int32) (M_machineOf : Nat → Int32) (M_durations : Nat → Int32) (M_arcs : Nat → Int32) (M_drafts : Nat → Int32) (M_starts : Nat → Int32) (M_heads : Nat → Int32) (M_tails : Nat → Int32) (M_chosen : Nat → Int32) (M_orders : Nat → Int32) (M_sizes : Nat → Int32) (post : (Nat → Int32) → Prop) (hw : wp_X3_findTails M_many M_jobOf M_durations M_tails M_chosen post) : Met l yX3_findTails wsX3_findTails ({ frames := 2, cells := 0, slots := 0, locals := 45 }) (va_Pc [.ref h_M, .ref h_M_chosen] (fun U => U.heap.size = sz ∧ va_P (dC, dI) vwCl (wM h_M h_M_jobOf h_M_machineOf h_M_durations h_M_arcs h_M_drafts h_M_starts h_M_heads h_M_tails h_M_chosen h_M_orders h_M_sizes cI cZ M_jobs M_many M_isPlanned M_least M_optima M_jobOf M_machineOf M_durations M_arcs M_drafts M_starts M_heads M_tails M_chosen M_orders M_sizes) U.heap ∧ va_K (dC, dI) vwCl [(cI, .int), (cZ, .boolean)] U ∧ va_D (fun _ => True) (wM h_M h_M_jobOf h_M_machineOf h_M_durations h_M_arcs h_M_drafts h_M_starts h_M_heads h_M_tails h_M_chosen h_M_orders h_M_sizes cI cZ M_jobs M_many M_isPlanned M_least M_optima M_jobOf M_machineOf M_durations M_arcs M_drafts M_starts M_heads M_tails M_chosen M_orders M_sizes))) (va_Qv (fun (u : Nat → Int32) => post u) (fun u t => va_P (dC, dI) vwCl (wM h_M h_M_jobOf h_M_machineOf h_M_durations h_M_arcs h_M_drafts h_M_starts h_M_heads h_M_tails h_M_chosen h_M_orders h_M_sizes cI cZ M_jobs M_many M_isPlanned M_least M_optima M_jobOf M_machineOf M_durations M_arcs M_drafts M_starts M_heads u M_chosen M_orders M_sizes) t.heap ∧ va_K (dC, dI) vwCl [(cI, .int), (cZ, .boolean)] t ∧ va_D (va_A (wM h_M h_M_jobOf h_M_machineOf h_M_durations h_M_arcs h_M_drafts h_M_starts h_M_heads h_M_tails h_M_chosen h_M_orders h_M_sizes cI cZ M_jobs M_many M_isPlanned M_least M_optima M_jobOf M_machineOf M_durations M_arcs M_drafts M_starts M_heads M_tails M_chosen M_orders M_sizes) sz) (wM h_M h_M_jobOf h_M_machineOf h_M_durations h_M_arcs h_M_drafts h_M_starts h_M_heads h_M_tails h_M_chosen h_M_orders h_M_sizes cI cZ M_jobs M_many M_isPlanned M_least M_optima M_jobOf M_machineOf M_durations M_arcs M_drafts M_starts M_heads u M_chosen M_orders M_sizes)) (va_A (wM h_M h_M_jobOf h_M_machineOf h_M_durations h_M_arcs h_M_drafts h_M_starts h_M_heads h_M_tails h_M_chosen h_M_orders h_M_sizes cI cZ M_jobs M_many M_isPlanned M_least M_optima M_jobOf M_machineOf M_durations M_arcs M_drafts M_starts M_heads M_tails M_chosen M_orders M_sizes) sz)) 0 0 (va_A (wM h_M h_M_jobOf h_M_machineOf h_M_durations h_M_arcs h_M_drafts h_M_starts h_M_heads h_M_tails h_M_chosen h_M_orders h_M_sizes cI cZ M_jobs M_many M_isPlanned M_least M_optima M_jobOf M_machineOf M_durations M_arcs M_drafts M_starts M_heads M_tails M_chosen M_orders M_sizes) sz) := by
  refine Met.ofW (cc := cX3_findTails) (maxL := 6) (ret := none) (by decide) rfl ?_
  intro p e s m args below meth c s₁ B hml hv
  obtain ⟨rfl, hsz, hP, hK, hD0⟩ := hv
  have hx := B.exec
  have hb := B.bytes
  have hr := B.returns
  have hts := atoms_spec (ws := wsX3_findTails) B.pre
  have hown : s.vm.findClass RX3 = some m.cls := findClass_of_methodNamed B.named
  have hlocks := B.notSynchronized
  subst hsz
  have hD := hD0.self (sz := s.heap.size)
  generalize hAe : va_A (wM h_M h_M_jobOf h_M_machineOf h_M_durations h_M_arcs h_M_drafts h_M_starts h_M_heads h_M_tails h_M_chosen h_M_orders h_M_sizes cI cZ M_jobs M_many M_isPlanned M_least M_optima M_jobOf M_machineOf M_durations M_arcs M_drafts M_starts M_heads M_tails M_chosen M_orders M_sizes) s.heap.size = A at hD ⊢
  have hA : ∀ q : Nat, s.heap.size ≤ q → A q := fun q h => by rw [← hAe]; exact Or.inr h
  have hS : va_S A s.heap s.heap [] := va_S.rf
  have hP : va_P (dC, dI) vwCl (wM h_M h_M_jobOf h_M_machineOf h_M_durations h_M_arcs h_M_drafts h_M_starts h_M_heads h_M_tails h_M_chosen h_M_orders h_M_sizes cI cZ M_jobs M_many M_isPlanned M_least M_optima M_jobOf M_machineOf M_durations M_arcs M_drafts M_starts M_heads M_tails M_chosen M_orders M_sizes) s.heap := hP
  have hl := lv_entry ([.ref h_M, .ref h_M_chosen]) (n := 6) (Nat.le_of_ble_eq_true rfl)
  rw [lg_entry_eq]
  generalize (lg_sl ([.ref h_M, .ref h_M_chosen]) ++ List.replicate (6 - (lg_sl ([.ref h_M, .ref h_M_chosen])).length) Slot.unset).toArray = ls at hl ⊢
  have hl : lv_has ls 6 [(0, .ref h_M), (1, .ref h_M_chosen)] := hl
  obtain ⟨H, hH⟩ : ∃ H, H = s.heap := ⟨_, rfl⟩
  rw [← hH] at hP
  have hS : va_S A s.heap H [] := by rw [hH]; exact hS
  refine W_heap hH ?_
  unfold wp_X3_findTails at hw
  have hin_X3 : ∀ w ∈ u_ws RX3 TX3 16, w ∈ wsX3_findTails := by decide +kernel
  refine lv_iconst (v := 0) (pc := 0) hx hb dX3_findTails_0 (by decide) ?_
  refine lv_istore_n (lv' := [(2, .int 0), (0, .ref h_M), (1, .ref h_M_chosen)]) (pc := 1) hx hb dX3_findTails_1 rfl hl (by decide) rfl (fun ls hl => ?_)
  obtain ⟨I_2, μ_2, hI_2, hs_2⟩ := hw
  refine lp_W (I := fun z : Int32 × (Nat → Int32) => I_2 z.1 z.2) (fun z => μ_2 z.1 z.2) (fun (z : Int32 × (Nat → Int32)) H locs ls => va_P (dC, dI) vwCl (wM h_M h_M_jobOf h_M_machineOf h_M_durations h_M_arcs h_M_drafts h_M_starts h_M_heads h_M_tails h_M_chosen h_M_orders h_M_sizes cI cZ M_jobs M_many M_isPlanned M_least M_optima M_jobOf M_machineOf M_durations M_arcs M_drafts M_starts M_heads z.2 M_chosen M_orders M_sizes) H ∧ va_D A (wM h_M h_M_jobOf h_M_machineOf h_M_durations h_M_arcs h_M_drafts h_M_starts h_M_heads h_M_tails h_M_chosen h_M_orders h_M_sizes cI cZ M_jobs M_many M_isPlanned M_least M_optima M_jobOf M_machineOf M_durations M_arcs M_drafts M_starts M_heads z.2 M_chosen M_orders M_sizes) ∧ va_S A s.heap H locs ∧ lv_has ls 6 [(0, .ref h_M), (1, .ref h_M_chosen), (2, .int z.1)]) ?_ (0, M_tails) _ _ _ hI_2 ⟨hP, hD, hS, (lv_sub hl [1, 2, 0] rfl)⟩
  rintro ⟨x2_2, M_tails_2⟩ H locs ls hI ⟨hP, hD, hS, hl⟩ ih_2
  have hw := hs_2 x2_2 M_tails_2 hI
  have hP : va_P (dC, dI) vwCl (wM h_M h_M_jobOf h_M_machineOf h_M_durations h_M_arcs h_M_drafts h_M_starts h_M_heads h_M_tails h_M_chosen h_M_orders h_M_sizes cI cZ M_jobs M_many M_isPlanned M_least M_optima M_jobOf M_machineOf M_durations M_arcs M_drafts M_starts M_heads M_tails_2 M_chosen M_orders M_sizes) H := hP
  have hD : va_D A (wM h_M h_M_jobOf h_M_machineOf h_M_durations h_M_arcs h_M_drafts h_M_starts h_M_heads h_M_tails h_M_chosen h_M_orders h_M_sizes cI cZ M_jobs M_many M_isPlanned M_least M_optima M_jobOf M_machineOf M_durations M_arcs M_drafts M_starts M_heads M_tails_2 M_chosen M_orders M_sizes) := hD
  have hl : lv_has ls 6 [(0, .ref h_M), (1, .ref h_M_chosen), (2, .int x2_2)] := hl
  refine lv_iload_n (pc := 2) hx hb dX3_findTails_2 rfl (lv_at hl 2 rfl) ?_
  refine lv_aload_n (pc := 3) hx hb dX3_findTails_3 rfl (lv_at hl 0 rfl) ?_
  refine va_get (D := (dC, dI)) (ci := 3) (v := .int M_many) (C := RX3) (T := TX3) (N := 16) (pc := 4) hx hb hts hin_X3 hown hK hP 0 rfl rfl 1 (by decide) (hts (.fieldLink RX3 48 "JobShopModel" "many" "I") (by decide +kernel)) (fun _ h9 => h9) rfl dX3_findTails_4 ?_
  refine lv_icmp_ge (tgt := 23) (pc := 7) hx hb dX3_findTails_7 (by decide) (fun c_1 => ?_) (fun c_1 => ?_)
  · have hw := hw.1 c_1
    refine lv_iconst (v := 1) (pc := 23) hx hb dX3_findTails_23 (by decide) ?_
    refine lv_istore_n (lv' := [(2, .int 1), (0, .ref h_M), (1, .ref h_M_chosen)]) (pc := 24) hx hb dX3_findTails_24 rfl hl (by decide) rfl (fun ls hl => ?_)
    obtain ⟨I_25, μ_25, hI_25, hs_25⟩ := hw
    refine lp_W (I := fun z : Int32 × (Nat → Int32) => I_25 z.1 z.2) (fun z => μ_25 z.1 z.2) (fun (z : Int32 × (Nat → Int32)) H locs ls => va_P (dC, dI) vwCl (wM h_M h_M_jobOf h_M_machineOf h_M_durations h_M_arcs h_M_drafts h_M_starts h_M_heads h_M_tails h_M_chosen h_M_orders h_M_sizes cI cZ M_jobs M_many M_isPlanned M_least M_optima M_jobOf M_machineOf M_durations M_arcs M_drafts M_starts M_heads z.2 M_chosen M_orders M_sizes) H ∧ va_D A (wM h_M h_M_jobOf h_M_machineOf h_M_durations h_M_arcs h_M_drafts h_M_starts h_M_heads h_M_tails h_M_chosen h_M_orders h_M_sizes cI cZ M_jobs M_many M_isPlanned M_least M_optima M_jobOf M_machineOf M_durations M_arcs M_drafts M_starts M_heads z.2 M_chosen M_orders M_sizes) ∧ va_S A s.heap H locs ∧ lv_has ls 6 [(0, .ref h_M), (1, .ref h_M_chosen), (2, .int z.1)]) ?_ (1, M_tails_2) _ _ _ hI_25 ⟨hP, hD, hS, (lv_sub hl [1, 2, 0] rfl)⟩
    rintro ⟨x2_25, M_tails_25⟩ H locs ls hI ⟨hP, hD, hS, hl⟩ ih_25
    have hw := hs_25 x2_25 M_tails_25 hI
    have hP : va_P (dC, dI) vwCl (wM h_M h_M_jobOf h_M_machineOf h_M_durations h_M_arcs h_M_drafts h_M_starts h_M_heads h_M_tails h_M_chosen h_M_orders h_M_sizes cI cZ M_jobs M_many M_isPlanned M_least M_optima M_jobOf M_machineOf M_durations M_arcs M_drafts M_starts M_heads M_tails_25 M_chosen M_orders M_sizes) H := hP
    have hD : va_D A (wM h_M h_M_jobOf h_M_machineOf h_M_durations h_M_arcs h_M_drafts h_M_starts h_M_heads h_M_tails h_M_chosen h_M_orders h_M_sizes cI cZ M_jobs M_many M_isPlanned M_least M_optima M_jobOf M_machineOf M_durations M_arcs M_drafts M_starts M_heads M_tails_25 M_chosen M_orders M_sizes) := hD
    have hl : lv_has ls 6 [(0, .ref h_M), (1, .ref h_M_chosen), (2, .int x2_25)] := hl
    refine lv_iload_n (pc := 25) hx hb dX3_findTails_25 rfl (lv_at hl 2 rfl) ?_
    refine lv_if_eq (tgt := 117) (pc := 26) hx hb dX3_findTails_26 (by decide) (fun c_2 => ?_) (fun c_2 => ?_)
    · have hw := hw.1 c_2
      exact W.vret hx hb hr (fun t ht hW => ⟨⟨M_tails_25, rfl, hw, by rw [ht]; exact hP, va_K.moved hW.alike hK, hD⟩, hS.F ht⟩) hS.2.2 dX3_findTails_117
    · have hw := hw.2 c_2
      refine lv_iconst (v := 0) (pc := 29) hx hb dX3_findTails_29 (by decide) ?_
      refine lv_istore_n (lv' := [(2, .int 0), (0, .ref h_M), (1, .ref h_M_chosen)]) (pc := 30) hx hb dX3_findTails_30 rfl hl (by decide) rfl (fun ls hl => ?_)
      refine lv_iconst (v := 0) (pc := 31) hx hb dX3_findTails_31 (by decide) ?_
      refine lv_istore_n (lv' := [(3, .int 0), (2, .int 0), (0, .ref h_M), (1, .ref h_M_chosen)]) (pc := 32) hx hb dX3_findTails_32 rfl hl (by decide) rfl (fun ls hl => ?_)
      obtain ⟨I_33, μ_33, hI_33, hs_33⟩ := hw
      refine lp_W (I := fun z : Int32 × Int32 × (Nat → Int32) => I_33 z.1 z.2.1 z.2.2) (fun z => μ_33 z.1 z.2.1 z.2.2) (fun (z : Int32 × Int32 × (Nat → Int32)) H locs ls => va_P (dC, dI) vwCl (wM h_M h_M_jobOf h_M_machineOf h_M_durations h_M_arcs h_M_drafts h_M_starts h_M_heads h_M_tails h_M_chosen h_M_orders h_M_sizes cI cZ M_jobs M_many M_isPlanned M_least M_optima M_jobOf M_machineOf M_durations M_arcs M_drafts M_starts M_heads z.2.2 M_chosen M_orders M_sizes) H ∧ va_D A (wM h_M h_M_jobOf h_M_machineOf h_M_durations h_M_arcs h_M_drafts h_M_starts h_M_heads h_M_tails h_M_chosen h_M_orders h_M_sizes cI cZ M_jobs M_many M_isPlanned M_least M_optima M_jobOf M_machineOf M_durations M_arcs M_drafts M_starts M_heads z.2.2 M_chosen M_orders M_sizes) ∧ va_S A s.heap H locs ∧ lv_has ls 6 [(0, .ref h_M), (1, .ref h_M_chosen), (2, .int z.1), (3, .int z.2.1)]) ?_ (0, 0, M_tails_25) _ _ _ hI_33 ⟨hP, hD, hS, (lv_sub hl [2, 3, 1, 0] rfl)⟩
      rintro ⟨x2_33, x3_33, M_tails_33⟩ H locs ls hI ⟨hP, hD, hS, hl⟩ ih_33
      have hw := hs_33 x2_33 x3_33 M_tails_33 hI
      have hP : va_P (dC, dI) vwCl (wM h_M h_M_jobOf h_M_machineOf h_M_durations h_M_arcs h_M_drafts h_M_starts h_M_heads h_M_tails h_M_chosen h_M_orders h_M_sizes cI cZ M_jobs M_many M_isPlanned M_least M_optima M_jobOf M_machineOf M_durations M_arcs M_drafts M_starts M_heads M_tails_33 M_chosen M_orders M_sizes) H := hP
      have hD : va_D A (wM h_M h_M_jobOf h_M_machineOf h_M_durations h_M_arcs h_M_drafts h_M_starts h_M_heads h_M_tails h_M_chosen h_M_orders h_M_sizes cI cZ M_jobs M_many M_isPlanned M_least M_optima M_jobOf M_machineOf M_durations M_arcs M_drafts M_starts M_heads M_tails_33 M_chosen M_orders M_sizes) := hD
      have hl : lv_has ls 6 [(0, .ref h_M), (1, .ref h_M_chosen), (2, .int x2_33), (3, .int x3_33)] := hl
      refine lv_iload_n (pc := 33) hx hb dX3_findTails_33 rfl (lv_at hl 3 rfl) ?_
      refine lv_aload_n (pc := 34) hx hb dX3_findTails_34 rfl (lv_at hl 0 rfl) ?_
      refine va_get (D := (dC, dI)) (ci := 3) (v := .int M_many) (C := RX3) (T := TX3) (N := 16) (pc := 35) hx hb hts hin_X3 hown hK hP 0 rfl rfl 1 (by decide) (hts (.fieldLink RX3 48 "JobShopModel" "many" "I") (by decide +kernel)) (fun _ h9 => h9) rfl dX3_findTails_35 ?_
      refine lv_icmp_ge (tgt := 114) (pc := 38) hx hb dX3_findTails_38 (by decide) (fun c_3 => ?_) (fun c_3 => ?_)
      · have hw := hw.1 c_3
        refine lv_goto (tgt := 25) (pc := 114) hx hb dX3_findTails_114 (by decide) ?_
        exact ih_25 (x2_33, M_tails_33) _ _ _ hw.1 hw.2 ⟨hP, hD, hS, (lv_sub hl [0, 1, 2] rfl)⟩
      · have hw := hw.2 c_3
        refine lv_iconst (v := 0) (pc := 41) hx hb dX3_findTails_41 (by decide) ?_
        refine lv_istore (lv' := [(4, .int 0), (0, .ref h_M), (1, .ref h_M_chosen), (2, .int x2_33), (3, .int x3_33)]) (pc := 42) hx hb dX3_findTails_42 hl (by decide) rfl (fun ls hl => ?_)
        obtain ⟨I_44, μ_44, hI_44, hs_44⟩ := hw
        refine lp_W (I := fun z : Int32 × Int32 × (Nat → Int32) => I_44 z.1 z.2.1 z.2.2) (fun z => μ_44 z.1 z.2.1 z.2.2) (fun (z : Int32 × Int32 × (Nat → Int32)) H locs ls => va_P (dC, dI) vwCl (wM h_M h_M_jobOf h_M_machineOf h_M_durations h_M_arcs h_M_drafts h_M_starts h_M_heads h_M_tails h_M_chosen h_M_orders h_M_sizes cI cZ M_jobs M_many M_isPlanned M_least M_optima M_jobOf M_machineOf M_durations M_arcs M_drafts M_starts M_heads z.2.2 M_chosen M_orders M_sizes) H ∧ va_D A (wM h_M h_M_jobOf h_M_machineOf h_M_durations h_M_arcs h_M_drafts h_M_starts h_M_heads h_M_tails h_M_chosen h_M_orders h_M_sizes cI cZ M_jobs M_many M_isPlanned M_least M_optima M_jobOf M_machineOf M_durations M_arcs M_drafts M_starts M_heads z.2.2 M_chosen M_orders M_sizes) ∧ va_S A s.heap H locs ∧ lv_has ls 6 [(0, .ref h_M), (1, .ref h_M_chosen), (2, .int z.1), (3, .int x3_33), (4, .int z.2.1)]) ?_ (x2_33, 0, M_tails_33) _ _ _ hI_44 ⟨hP, hD, hS, (lv_sub hl [1, 2, 3, 4, 0] rfl)⟩
        rintro ⟨x2_44, x4_44, M_tails_44⟩ H locs ls hI ⟨hP, hD, hS, hl⟩ ih_44
        have hw := hs_44 x2_44 x4_44 M_tails_44 hI
        have hP : va_P (dC, dI) vwCl (wM h_M h_M_jobOf h_M_machineOf h_M_durations h_M_arcs h_M_drafts h_M_starts h_M_heads h_M_tails h_M_chosen h_M_orders h_M_sizes cI cZ M_jobs M_many M_isPlanned M_least M_optima M_jobOf M_machineOf M_durations M_arcs M_drafts M_starts M_heads M_tails_44 M_chosen M_orders M_sizes) H := hP
        have hD : va_D A (wM h_M h_M_jobOf h_M_machineOf h_M_durations h_M_arcs h_M_drafts h_M_starts h_M_heads h_M_tails h_M_chosen h_M_orders h_M_sizes cI cZ M_jobs M_many M_isPlanned M_least M_optima M_jobOf M_machineOf M_durations M_arcs M_drafts M_starts M_heads M_tails_44 M_chosen M_orders M_sizes) := hD
        have hl : lv_has ls 6 [(0, .ref h_M), (1, .ref h_M_chosen), (2, .int x2_44), (3, .int x3_33), (4, .int x4_44)] := hl
        refine lv_iload (pc := 44) hx hb dX3_findTails_44 (lv_at hl 4 rfl) ?_
        refine lv_aload_n (pc := 46) hx hb dX3_findTails_46 rfl (lv_at hl 0 rfl) ?_
        refine va_get (D := (dC, dI)) (ci := 3) (v := .int M_many) (C := RX3) (T := TX3) (N := 16) (pc := 47) hx hb hts hin_X3 hown hK hP 0 rfl rfl 1 (by decide) (hts (.fieldLink RX3 48 "JobShopModel" "many" "I") (by decide +kernel)) (fun _ h9 => h9) rfl dX3_findTails_47 ?_
        refine lv_icmp_ge (tgt := 108) (pc := 50) hx hb dX3_findTails_50 (by decide) (fun c_4 => ?_) (fun c_4 => ?_)
        · have hw := hw.1 c_4
          refine lv_iinc (v := x3_33 + 1) (lv' := [(3, .int (x3_33 + 1)), (0, .ref h_M), (1, .ref h_M_chosen), (2, .int x2_44), (4, .int x4_44)]) (pc := 108) hx hb dX3_findTails_108 hl (k := 3) rfl rfl (by decide) rfl (fun ls hl => ?_)
          refine lv_goto (tgt := 33) (pc := 111) hx hb dX3_findTails_111 (by decide) ?_
          exact ih_33 (x2_44, (x3_33 + 1), M_tails_44) _ _ _ hw.1 hw.2 ⟨hP, hD, hS, (lv_sub hl [1, 2, 3, 0] rfl)⟩
        · have hw := hw.2 c_4
          refine lv_aload_n (pc := 53) hx hb dX3_findTails_53 rfl (lv_at hl 0 rfl) ?_
          refine va_get (D := (dC, dI)) (ci := 3) (v := .ref h_M_tails) (C := RX3) (T := TX3) (N := 16) (pc := 54) hx hb hts hin_X3 hown hK hP 0 rfl rfl 12 (by decide) (hts (.fieldLink RX3 32 "JobShopModel" "tails" "[I") (by decide +kernel)) (fun _ h9 => h9) rfl dX3_findTails_54 ?_
          refine lv_iload (pc := 57) hx hb dX3_findTails_57 (lv_at hl 4 rfl) ?_
          obtain ⟨b_5, hw⟩ := hw
          refine va_iald (pc := 59) hx hb hK hP 8 0 rfl rfl b_5 dX3_findTails_59 ?_
          refine lv_aload_n (pc := 60) hx hb dX3_findTails_60 rfl (lv_at hl 0 rfl) ?_
          refine va_get (D := (dC, dI)) (ci := 3) (v := .ref h_M_durations) (C := RX3) (T := TX3) (N := 16) (pc := 61) hx hb hts hin_X3 hown hK hP 0 rfl rfl 4 (by decide) (hts (.fieldLink RX3 16 "JobShopModel" "durations" "[I") (by decide +kernel)) (fun _ h9 => h9) rfl dX3_findTails_61 ?_
          refine lv_iload (pc := 64) hx hb dX3_findTails_64 (lv_at hl 4 rfl) ?_
          obtain ⟨b_6, hw⟩ := hw
          refine va_iald (pc := 66) hx hb hK hP 3 0 rfl rfl b_6 dX3_findTails_66 ?_
          refine lv_iadd (pc := 67) hx hb dX3_findTails_67 ?_
          refine lv_istore (lv' := [(5, .int ((M_tails_44 x4_44.toNatClampNeg) + (M_durations x4_44.toNatClampNeg))), (0, .ref h_M), (1, .ref h_M_chosen), (2, .int x2_44), (3, .int x3_33), (4, .int x4_44)]) (pc := 68) hx hb dX3_findTails_68 hl (by decide) rfl (fun ls hl => ?_)
          refine lv_aload_n (pc := 70) hx hb dX3_findTails_70 rfl (lv_at hl 1 rfl) ?_
          refine lv_aload_n (pc := 71) hx hb dX3_findTails_71 rfl (lv_at hl 2 rfl) ?_
          refine lv_iload_n (pc := 72) hx hb dX3_findTails_72 rfl (lv_at hl 4 rfl) ?_
          refine lv_iload (pc := 73) hx hb dX3_findTails_73 (lv_at hl 5 rfl) ?_
          have hPx : va_P (dC, dI) vwCl ([] ++ (wM h_M h_M_jobOf h_M_machineOf h_M_durations h_M_arcs h_M_drafts h_M_starts h_M_heads h_M_tails h_M_chosen h_M_orders h_M_sizes cI cZ M_jobs M_many M_isPlanned M_least M_optima M_jobOf M_machineOf M_durations M_arcs M_drafts M_starts M_heads M_tails_44 M_chosen M_orders M_sizes)) H := hP
          have hDx : va_D A ([] ++ (wM h_M h_M_jobOf h_M_machineOf h_M_durations h_M_arcs h_M_drafts h_M_starts h_M_heads h_M_tails h_M_chosen h_M_orders h_M_sizes cI cZ M_jobs M_many M_isPlanned M_least M_optima M_jobOf M_machineOf M_durations M_arcs M_drafts M_starts M_heads M_tails_44 M_chosen M_orders M_sizes)) := hD
          refine kc_i (pc := 75) (w1 := (fun u : Unit => (wM h_M h_M_jobOf h_M_machineOf h_M_durations h_M_arcs h_M_drafts h_M_starts h_M_heads h_M_tails h_M_chosen h_M_orders h_M_sizes cI cZ M_jobs M_many M_isPlanned M_least M_optima M_jobOf M_machineOf M_durations M_arcs M_drafts M_starts M_heads M_tails_44 M_chosen M_orders M_sizes))) (va_runV (As := [.ref h_M_chosen, .int x3_33, .int x4_44]) (rest := []) ⟨hx, hb, hml, hown, hts⟩ (c_X3_leads_c l dC dI h_M h_M_jobOf h_M_machineOf h_M_durations h_M_arcs h_M_drafts h_M_starts h_M_heads h_M_tails h_M_chosen h_M_orders h_M_sizes H.size cI cZ M_jobs M_many M_isPlanned M_least M_optima M_jobOf M_machineOf M_durations M_arcs M_drafts M_starts M_heads M_tails_44 M_chosen M_orders M_sizes x3_33 x4_44 _ hw) (cwV 3 hts gX3_findTails_X3_leads rfl rfl rfl (by decide +kernel) ⟨Nat.le_of_ble_eq_true rfl, Nat.le_of_ble_eq_true rfl⟩) (kc_preVM (q0 := 0) (ci := 3) hK hPx hDx [0, 1] rfl rfl rfl) rfl rfl hl.1 rfl (lv_room (Nat.le_of_ble_eq_true rfl)) dX3_findTails_75 ⟨Nat.zero_le _, Nat.zero_le _⟩) hPx hDx hS hA (fun r_75 u H locs hw hP hD hS => ?_)
          have hP : va_P (dC, dI) vwCl (wM h_M h_M_jobOf h_M_machineOf h_M_durations h_M_arcs h_M_drafts h_M_starts h_M_heads h_M_tails h_M_chosen h_M_orders h_M_sizes cI cZ M_jobs M_many M_isPlanned M_least M_optima M_jobOf M_machineOf M_durations M_arcs M_drafts M_starts M_heads M_tails_44 M_chosen M_orders M_sizes) H := hP
          have hD : va_D A (wM h_M h_M_jobOf h_M_machineOf h_M_durations h_M_arcs h_M_drafts h_M_starts h_M_heads h_M_tails h_M_chosen h_M_orders h_M_sizes cI cZ M_jobs M_many M_isPlanned M_least M_optima M_jobOf M_machineOf M_durations M_arcs M_drafts M_starts M_heads M_tails_44 M_chosen M_orders M_sizes) := hD
          refine lv_if_eq (tgt := 102) (pc := 78) hx hb dX3_findTails_78 (by decide) (fun c_7 => ?_) (fun c_7 => ?_)
          · have hw := hw.1 c_7
            refine lv_iinc (v := x4_44 + 1) (lv' := [(4, .int (x4_44 + 1)), (5, .int ((M_tails_44 x4_44.toNatClampNeg) + (M_durations x4_44.toNatClampNeg))), (0, .ref h_M), (1, .ref h_M_chosen), (2, .int x2_44), (3, .int x3_33)]) (pc := 102) hx hb dX3_findTails_102 hl (k := 5) rfl rfl (by decide) rfl (fun ls hl => ?_)
            refine lv_goto (tgt := 44) (pc := 105) hx hb dX3_findTails_105 (by decide) ?_
            exact ih_44 (x2_44, (x4_44 + 1), M_tails_44) _ _ _ hw.1 hw.2 ⟨hP, hD, hS, (lv_sub hl [2, 3, 4, 5, 0] rfl)⟩
          · have hw := hw.2 c_7
            refine lv_iload (pc := 81) hx hb dX3_findTails_81 (lv_at hl 0 rfl) ?_
            refine lv_aload_n (pc := 83) hx hb dX3_findTails_83 rfl (lv_at hl 1 rfl) ?_
            refine va_get (D := (dC, dI)) (ci := 3) (v := .ref h_M_tails) (C := RX3) (T := TX3) (N := 16) (pc := 84) hx hb hts hin_X3 hown hK hP 0 rfl rfl 12 (by decide) (hts (.fieldLink RX3 32 "JobShopModel" "tails" "[I") (by decide +kernel)) (fun _ h9 => h9) rfl dX3_findTails_84 ?_
            refine lv_iload_n (pc := 87) hx hb dX3_findTails_87 rfl (lv_at hl 4 rfl) ?_
            obtain ⟨b_8, hw⟩ := hw
            refine va_iald (pc := 88) hx hb hK hP 8 0 rfl rfl b_8 dX3_findTails_88 ?_
            refine lv_icmp_le (tgt := 102) (pc := 89) hx hb dX3_findTails_89 (by decide) (fun c_9 => ?_) (fun c_9 => ?_)
            · have hw := hw.1 c_9
              refine lv_iinc (v := x4_44 + 1) (lv' := [(4, .int (x4_44 + 1)), (5, .int ((M_tails_44 x4_44.toNatClampNeg) + (M_durations x4_44.toNatClampNeg))), (0, .ref h_M), (1, .ref h_M_chosen), (2, .int x2_44), (3, .int x3_33)]) (pc := 102) hx hb dX3_findTails_102 hl (k := 5) rfl rfl (by decide) rfl (fun ls hl => ?_)
              refine lv_goto (tgt := 44) (pc := 105) hx hb dX3_findTails_105 (by decide) ?_
              exact ih_44 (x2_44, (x4_44 + 1), M_tails_44) _ _ _ hw.1 hw.2 ⟨hP, hD, hS, (lv_sub hl [2, 3, 4, 5, 0] rfl)⟩
            · have hw := hw.2 c_9
              refine lv_aload_n (pc := 92) hx hb dX3_findTails_92 rfl (lv_at hl 1 rfl) ?_
              refine va_get (D := (dC, dI)) (ci := 3) (v := .ref h_M_tails) (C := RX3) (T := TX3) (N := 16) (pc := 93) hx hb hts hin_X3 hown hK hP 0 rfl rfl 12 (by decide) (hts (.fieldLink RX3 32 "JobShopModel" "tails" "[I") (by decide +kernel)) (fun _ h9 => h9) rfl dX3_findTails_93 ?_
              refine lv_iload_n (pc := 96) hx hb dX3_findTails_96 rfl (lv_at hl 4 rfl) ?_
              refine lv_iload (pc := 97) hx hb dX3_findTails_97 (lv_at hl 0 rfl) ?_
              obtain ⟨b_10, hw⟩ := hw
              refine va_iast (pc := 99) hx hb hK hP hD hS 8 0 rfl rfl b_10 dX3_findTails_99 (fun H locs hP hD hS => ?_)
              have hP : va_P (dC, dI) vwCl (wM h_M h_M_jobOf h_M_machineOf h_M_durations h_M_arcs h_M_drafts h_M_starts h_M_heads h_M_tails h_M_chosen h_M_orders h_M_sizes cI cZ M_jobs M_many M_isPlanned M_least M_optima M_jobOf M_machineOf M_durations M_arcs M_drafts M_starts M_heads (upd M_tails_44 x3_33.toNatClampNeg ((M_tails_44 x4_44.toNatClampNeg) + (M_durations x4_44.toNatClampNeg))) M_chosen M_orders M_sizes) H := hP
              have hD : va_D A (wM h_M h_M_jobOf h_M_machineOf h_M_durations h_M_arcs h_M_drafts h_M_starts h_M_heads h_M_tails h_M_chosen h_M_orders h_M_sizes cI cZ M_jobs M_many M_isPlanned M_least M_optima M_jobOf M_machineOf M_durations M_arcs M_drafts M_starts M_heads (upd M_tails_44 x3_33.toNatClampNeg ((M_tails_44 x4_44.toNatClampNeg) + (M_durations x4_44.toNatClampNeg))) M_chosen M_orders M_sizes) := hD
              refine lv_iconst (v := 1) (pc := 100) hx hb dX3_findTails_100 (by decide) ?_
              refine lv_istore_n (lv' := [(2, .int 1), (5, .int ((M_tails_44 x4_44.toNatClampNeg) + (M_durations x4_44.toNatClampNeg))), (0, .ref h_M), (1, .ref h_M_chosen), (3, .int x3_33), (4, .int x4_44)]) (pc := 101) hx hb dX3_findTails_101 rfl hl (by decide) rfl (fun ls hl => ?_)
              refine lv_iinc (v := x4_44 + 1) (lv' := [(4, .int (x4_44 + 1)), (2, .int 1), (5, .int ((M_tails_44 x4_44.toNatClampNeg) + (M_durations x4_44.toNatClampNeg))), (0, .ref h_M), (1, .ref h_M_chosen), (3, .int x3_33)]) (pc := 102) hx hb dX3_findTails_102 hl (k := 5) rfl rfl (by decide) rfl (fun ls hl => ?_)
              refine lv_goto (tgt := 44) (pc := 105) hx hb dX3_findTails_105 (by decide) ?_
              exact ih_44 (1, (x4_44 + 1), (upd M_tails_44 x3_33.toNatClampNeg ((M_tails_44 x4_44.toNatClampNeg) + (M_durations x4_44.toNatClampNeg)))) _ _ _ hw.1 hw.2 ⟨hP, hD, hS, (lv_sub hl [3, 4, 1, 5, 0] rfl)⟩
  · have hw := hw.2 c_1
    refine lv_aload_n (pc := 10) hx hb dX3_findTails_10 rfl (lv_at hl 0 rfl) ?_
    refine va_get (D := (dC, dI)) (ci := 3) (v := .ref h_M_tails) (C := RX3) (T := TX3) (N := 16) (pc := 11) hx hb hts hin_X3 hown hK hP 0 rfl rfl 12 (by decide) (hts (.fieldLink RX3 32 "JobShopModel" "tails" "[I") (by decide +kernel)) (fun _ h9 => h9) rfl dX3_findTails_11 ?_
    refine lv_iload_n (pc := 14) hx hb dX3_findTails_14 rfl (lv_at hl 2 rfl) ?_
    refine lv_iconst (v := 0) (pc := 15) hx hb dX3_findTails_15 (by decide) ?_
    obtain ⟨b_11, hw⟩ := hw
    refine va_iast (pc := 16) hx hb hK hP hD hS 8 0 rfl rfl b_11 dX3_findTails_16 (fun H locs hP hD hS => ?_)
    have hP : va_P (dC, dI) vwCl (wM h_M h_M_jobOf h_M_machineOf h_M_durations h_M_arcs h_M_drafts h_M_starts h_M_heads h_M_tails h_M_chosen h_M_orders h_M_sizes cI cZ M_jobs M_many M_isPlanned M_least M_optima M_jobOf M_machineOf M_durations M_arcs M_drafts M_starts M_heads (upd M_tails_2 x2_2.toNatClampNeg 0) M_chosen M_orders M_sizes) H := hP
    have hD : va_D A (wM h_M h_M_jobOf h_M_machineOf h_M_durations h_M_arcs h_M_drafts h_M_starts h_M_heads h_M_tails h_M_chosen h_M_orders h_M_sizes cI cZ M_jobs M_many M_isPlanned M_least M_optima M_jobOf M_machineOf M_durations M_arcs M_drafts M_starts M_heads (upd M_tails_2 x2_2.toNatClampNeg 0) M_chosen M_orders M_sizes) := hD
    refine lv_iinc (v := x2_2 + 1) (lv' := [(2, .int (x2_2 + 1)), (0, .ref h_M), (1, .ref h_M_chosen)]) (pc := 17) hx hb dX3_findTails_17 hl (k := 2) rfl rfl (by decide) rfl (fun ls hl => ?_)
    refine lv_goto (tgt := 2) (pc := 20) hx hb dX3_findTails_20 (by decide) ?_
    exact ih_2 ((x2_2 + 1), (upd M_tails_2 x2_2.toNatClampNeg 0)) _ _ _ hw.1 hw.2 ⟨hP, hD, hS, (lv_sub hl [1, 2, 0] rfl)⟩
set_option maxHeartbeats 4000000 in
set_option maxRecDepth 100000 in
theorem c_X3_longest (l : Launch) (dC : Nat → ClassId) (dI : Nat → Nat → Nat) (h_M h_M_jobOf h_M_machineOf h_M_durations h_M_arcs h_M_drafts h_M_starts h_M_heads h_M_tails h_M_chosen h_M_orders h_M_sizes : Nat) (sz : Nat) (cI cZ : ClassId) (M_jobs : Int32) (M_many : Int32) (M_isPlanned : Int32) (M_least : Int32) (M_optima : Int32) (M_jobOf : Nat → Int32) (M_machineOf : Nat → Int32) (M_durations : Nat → Int32) (M_arcs : Nat → Int32) (M_drafts : Nat → Int32) (M_starts : Nat → Int32) (M_heads : Nat → Int32) (M_tails : Nat → Int32) (M_chosen : Nat → Int32) (M_orders : Nat → Int32) (M_sizes : Nat → Int32) (post : Int32 → Prop) (hw : wp_X3_longest M_many M_durations M_heads M_tails post) : Met l yX3_longest wsX3_longest ({ frames := 0, cells := 0, slots := 0, locals := 0 }) (va_Pc [.ref h_M] (fun U => U.heap.size = sz ∧ va_P (dC, dI) vwCl (wM h_M h_M_jobOf h_M_machineOf h_M_durations h_M_arcs h_M_drafts h_M_starts h_M_heads h_M_tails h_M_chosen h_M_orders h_M_sizes cI cZ M_jobs M_many M_isPlanned M_least M_optima M_jobOf M_machineOf M_durations M_arcs M_drafts M_starts M_heads M_tails M_chosen M_orders M_sizes) U.heap ∧ va_K (dC, dI) vwCl [(cI, .int), (cZ, .boolean)] U ∧ va_D (fun _ => True) (wM h_M h_M_jobOf h_M_machineOf h_M_durations h_M_arcs h_M_drafts h_M_starts h_M_heads h_M_tails h_M_chosen h_M_orders h_M_sizes cI cZ M_jobs M_many M_isPlanned M_least M_optima M_jobOf M_machineOf M_durations M_arcs M_drafts M_starts M_heads M_tails M_chosen M_orders M_sizes))) (va_Qi (fun (r : Int32) (u : Unit) => post r ) (fun u t => va_P (dC, dI) vwCl (wM h_M h_M_jobOf h_M_machineOf h_M_durations h_M_arcs h_M_drafts h_M_starts h_M_heads h_M_tails h_M_chosen h_M_orders h_M_sizes cI cZ M_jobs M_many M_isPlanned M_least M_optima M_jobOf M_machineOf M_durations M_arcs M_drafts M_starts M_heads M_tails M_chosen M_orders M_sizes) t.heap ∧ va_K (dC, dI) vwCl [(cI, .int), (cZ, .boolean)] t ∧ va_D (va_A (wM h_M h_M_jobOf h_M_machineOf h_M_durations h_M_arcs h_M_drafts h_M_starts h_M_heads h_M_tails h_M_chosen h_M_orders h_M_sizes cI cZ M_jobs M_many M_isPlanned M_least M_optima M_jobOf M_machineOf M_durations M_arcs M_drafts M_starts M_heads M_tails M_chosen M_orders M_sizes) sz) (wM h_M h_M_jobOf h_M_machineOf h_M_durations h_M_arcs h_M_drafts h_M_starts h_M_heads h_M_tails h_M_chosen h_M_orders h_M_sizes cI cZ M_jobs M_many M_isPlanned M_least M_optima M_jobOf M_machineOf M_durations M_arcs M_drafts M_starts M_heads M_tails M_chosen M_orders M_sizes)) (va_A (wM h_M h_M_jobOf h_M_machineOf h_M_durations h_M_arcs h_M_drafts h_M_starts h_M_heads h_M_tails h_M_chosen h_M_orders h_M_sizes cI cZ M_jobs M_many M_isPlanned M_least M_optima M_jobOf M_machineOf M_durations M_arcs M_drafts M_starts M_heads M_tails M_chosen M_orders M_sizes) sz)) 0 0 (va_A (wM h_M h_M_jobOf h_M_machineOf h_M_durations h_M_arcs h_M_drafts h_M_starts h_M_heads h_M_tails h_M_chosen h_M_orders h_M_sizes cI cZ M_jobs M_many M_isPlanned M_least M_optima M_jobOf M_machineOf M_durations M_arcs M_drafts M_starts M_heads M_tails M_chosen M_orders M_sizes) sz) := by
  refine Met.ofW (cc := cX3_longest) (maxL := 4) (ret := (some .int)) (by decide) rfl ?_
  intro p e s m args below meth c s₁ B hml hv
  obtain ⟨rfl, hsz, hP, hK, hD0⟩ := hv
  have hx := B.exec
  have hb := B.bytes
  have hr := B.returns
  have hts := atoms_spec (ws := wsX3_longest) B.pre
  have hown : s.vm.findClass RX3 = some m.cls := findClass_of_methodNamed B.named
  have hlocks := B.notSynchronized
  subst hsz
  have hD := hD0.self (sz := s.heap.size)
  generalize hAe : va_A (wM h_M h_M_jobOf h_M_machineOf h_M_durations h_M_arcs h_M_drafts h_M_starts h_M_heads h_M_tails h_M_chosen h_M_orders h_M_sizes cI cZ M_jobs M_many M_isPlanned M_least M_optima M_jobOf M_machineOf M_durations M_arcs M_drafts M_starts M_heads M_tails M_chosen M_orders M_sizes) s.heap.size = A at hD ⊢
  have hA : ∀ q : Nat, s.heap.size ≤ q → A q := fun q h => by rw [← hAe]; exact Or.inr h
  have hS : va_S A s.heap s.heap [] := va_S.rf
  have hP : va_P (dC, dI) vwCl (wM h_M h_M_jobOf h_M_machineOf h_M_durations h_M_arcs h_M_drafts h_M_starts h_M_heads h_M_tails h_M_chosen h_M_orders h_M_sizes cI cZ M_jobs M_many M_isPlanned M_least M_optima M_jobOf M_machineOf M_durations M_arcs M_drafts M_starts M_heads M_tails M_chosen M_orders M_sizes) s.heap := hP
  have hl := lv_entry ([.ref h_M]) (n := 4) (Nat.le_of_ble_eq_true rfl)
  rw [lg_entry_eq]
  generalize (lg_sl ([.ref h_M]) ++ List.replicate (4 - (lg_sl ([.ref h_M])).length) Slot.unset).toArray = ls at hl ⊢
  have hl : lv_has ls 4 [(0, .ref h_M)] := hl
  obtain ⟨H, hH⟩ : ∃ H, H = s.heap := ⟨_, rfl⟩
  rw [← hH] at hP
  have hS : va_S A s.heap H [] := by rw [hH]; exact hS
  refine W_heap hH ?_
  unfold wp_X3_longest at hw
  have hin_X3 : ∀ w ∈ u_ws RX3 TX3 16, w ∈ wsX3_longest := by decide +kernel
  refine lv_iconst (v := 0) (pc := 0) hx hb dX3_longest_0 (by decide) ?_
  refine lv_istore_n (lv' := [(1, .int 0), (0, .ref h_M)]) (pc := 1) hx hb dX3_longest_1 rfl hl (by decide) rfl (fun ls hl => ?_)
  refine lv_iconst (v := 0) (pc := 2) hx hb dX3_longest_2 (by decide) ?_
  refine lv_istore_n (lv' := [(2, .int 0), (1, .int 0), (0, .ref h_M)]) (pc := 3) hx hb dX3_longest_3 rfl hl (by decide) rfl (fun ls hl => ?_)
  obtain ⟨I_4, μ_4, hI_4, hs_4⟩ := hw
  refine lp_W (I := fun z : Int32 × Int32 => I_4 z.1 z.2) (fun z => μ_4 z.1 z.2) (fun (z : Int32 × Int32) H locs ls => va_P (dC, dI) vwCl (wM h_M h_M_jobOf h_M_machineOf h_M_durations h_M_arcs h_M_drafts h_M_starts h_M_heads h_M_tails h_M_chosen h_M_orders h_M_sizes cI cZ M_jobs M_many M_isPlanned M_least M_optima M_jobOf M_machineOf M_durations M_arcs M_drafts M_starts M_heads M_tails M_chosen M_orders M_sizes) H ∧ va_D A (wM h_M h_M_jobOf h_M_machineOf h_M_durations h_M_arcs h_M_drafts h_M_starts h_M_heads h_M_tails h_M_chosen h_M_orders h_M_sizes cI cZ M_jobs M_many M_isPlanned M_least M_optima M_jobOf M_machineOf M_durations M_arcs M_drafts M_starts M_heads M_tails M_chosen M_orders M_sizes) ∧ va_S A s.heap H locs ∧ lv_has ls 4 [(0, .ref h_M), (1, .int z.1), (2, .int z.2)]) ?_ (0, 0) _ _ _ hI_4 ⟨hP, hD, hS, (lv_sub hl [2, 1, 0] rfl)⟩
  rintro ⟨x1_4, x2_4⟩ H locs ls hI ⟨hP, hD, hS, hl⟩ ih_4
  have hw := hs_4 x1_4 x2_4 hI
  have hP : va_P (dC, dI) vwCl (wM h_M h_M_jobOf h_M_machineOf h_M_durations h_M_arcs h_M_drafts h_M_starts h_M_heads h_M_tails h_M_chosen h_M_orders h_M_sizes cI cZ M_jobs M_many M_isPlanned M_least M_optima M_jobOf M_machineOf M_durations M_arcs M_drafts M_starts M_heads M_tails M_chosen M_orders M_sizes) H := hP
  have hD : va_D A (wM h_M h_M_jobOf h_M_machineOf h_M_durations h_M_arcs h_M_drafts h_M_starts h_M_heads h_M_tails h_M_chosen h_M_orders h_M_sizes cI cZ M_jobs M_many M_isPlanned M_least M_optima M_jobOf M_machineOf M_durations M_arcs M_drafts M_starts M_heads M_tails M_chosen M_orders M_sizes) := hD
  have hl : lv_has ls 4 [(0, .ref h_M), (1, .int x1_4), (2, .int x2_4)] := hl
  refine lv_iload_n (pc := 4) hx hb dX3_longest_4 rfl (lv_at hl 2 rfl) ?_
  refine lv_aload_n (pc := 5) hx hb dX3_longest_5 rfl (lv_at hl 0 rfl) ?_
  refine va_get (D := (dC, dI)) (ci := 3) (v := .int M_many) (C := RX3) (T := TX3) (N := 16) (pc := 6) hx hb hts hin_X3 hown hK hP 0 rfl rfl 1 (by decide) (hts (.fieldLink RX3 48 "JobShopModel" "many" "I") (by decide +kernel)) (fun _ h9 => h9) rfl dX3_longest_6 ?_
  refine lv_icmp_ge (tgt := 50) (pc := 9) hx hb dX3_longest_9 (by decide) (fun c_1 => ?_) (fun c_1 => ?_)
  · have hw := hw.1 c_1
    refine lv_iload_n (pc := 50) hx hb dX3_longest_50 rfl (lv_at hl 1 rfl) ?_
    exact W.iret (v := x1_4) hx hb hr (fun t ht hW => ⟨⟨x1_4, (), rfl, hw, by rw [ht]; exact hP, va_K.moved hW.alike hK, hD⟩, hS.F ht⟩) hS.2.2 dX3_longest_51
  · have hw := hw.2 c_1
    refine lv_aload_n (pc := 12) hx hb dX3_longest_12 rfl (lv_at hl 0 rfl) ?_
    refine va_get (D := (dC, dI)) (ci := 3) (v := .ref h_M_heads) (C := RX3) (T := TX3) (N := 16) (pc := 13) hx hb hts hin_X3 hown hK hP 0 rfl rfl 11 (by decide) (hts (.fieldLink RX3 29 "JobShopModel" "heads" "[I") (by decide +kernel)) (fun _ h9 => h9) rfl dX3_longest_13 ?_
    refine lv_iload_n (pc := 16) hx hb dX3_longest_16 rfl (lv_at hl 2 rfl) ?_
    obtain ⟨b_2, hw⟩ := hw
    refine va_iald (pc := 17) hx hb hK hP 7 0 rfl rfl b_2 dX3_longest_17 ?_
    refine lv_aload_n (pc := 18) hx hb dX3_longest_18 rfl (lv_at hl 0 rfl) ?_
    refine va_get (D := (dC, dI)) (ci := 3) (v := .ref h_M_durations) (C := RX3) (T := TX3) (N := 16) (pc := 19) hx hb hts hin_X3 hown hK hP 0 rfl rfl 4 (by decide) (hts (.fieldLink RX3 16 "JobShopModel" "durations" "[I") (by decide +kernel)) (fun _ h9 => h9) rfl dX3_longest_19 ?_
    refine lv_iload_n (pc := 22) hx hb dX3_longest_22 rfl (lv_at hl 2 rfl) ?_
    obtain ⟨b_3, hw⟩ := hw
    refine va_iald (pc := 23) hx hb hK hP 3 0 rfl rfl b_3 dX3_longest_23 ?_
    refine lv_iadd (pc := 24) hx hb dX3_longest_24 ?_
    refine lv_aload_n (pc := 25) hx hb dX3_longest_25 rfl (lv_at hl 0 rfl) ?_
    refine va_get (D := (dC, dI)) (ci := 3) (v := .ref h_M_tails) (C := RX3) (T := TX3) (N := 16) (pc := 26) hx hb hts hin_X3 hown hK hP 0 rfl rfl 12 (by decide) (hts (.fieldLink RX3 32 "JobShopModel" "tails" "[I") (by decide +kernel)) (fun _ h9 => h9) rfl dX3_longest_26 ?_
    refine lv_iload_n (pc := 29) hx hb dX3_longest_29 rfl (lv_at hl 2 rfl) ?_
    obtain ⟨b_4, hw⟩ := hw
    refine va_iald (pc := 30) hx hb hK hP 8 0 rfl rfl b_4 dX3_longest_30 ?_
    refine lv_iadd (pc := 31) hx hb dX3_longest_31 ?_
    refine lv_istore_n (lv' := [(3, .int (((M_heads x2_4.toNatClampNeg) + (M_durations x2_4.toNatClampNeg)) + (M_tails x2_4.toNatClampNeg))), (0, .ref h_M), (1, .int x1_4), (2, .int x2_4)]) (pc := 32) hx hb dX3_longest_32 rfl hl (by decide) rfl (fun ls hl => ?_)
    refine lv_iload_n (pc := 33) hx hb dX3_longest_33 rfl (lv_at hl 0 rfl) ?_
    refine lv_iload_n (pc := 34) hx hb dX3_longest_34 rfl (lv_at hl 2 rfl) ?_
    refine lv_icmp_le (tgt := 42) (pc := 35) hx hb dX3_longest_35 (by decide) (fun c_5 => ?_) (fun c_5 => ?_)
    · have hw := hw.1 c_5
      refine lv_iload_n (pc := 42) hx hb dX3_longest_42 rfl (lv_at hl 2 rfl) ?_
      refine lv_istore_n (lv' := [(1, .int x1_4), (3, .int (((M_heads x2_4.toNatClampNeg) + (M_durations x2_4.toNatClampNeg)) + (M_tails x2_4.toNatClampNeg))), (0, .ref h_M), (2, .int x2_4)]) (pc := 43) hx hb dX3_longest_43 rfl hl (by decide) rfl (fun ls hl => ?_)
      refine lv_iinc (v := x2_4 + 1) (lv' := [(2, .int (x2_4 + 1)), (1, .int x1_4), (3, .int (((M_heads x2_4.toNatClampNeg) + (M_durations x2_4.toNatClampNeg)) + (M_tails x2_4.toNatClampNeg))), (0, .ref h_M)]) (pc := 44) hx hb dX3_longest_44 hl (k := 3) rfl rfl (by decide) rfl (fun ls hl => ?_)
      refine lv_goto (tgt := 4) (pc := 47) hx hb dX3_longest_47 (by decide) ?_
      exact ih_4 (x1_4, (x2_4 + 1)) _ _ _ hw.1 hw.2 ⟨hP, hD, hS, (lv_sub hl [3, 1, 0] rfl)⟩
    · have hw := hw.2 c_5
      refine lv_iload_n (pc := 38) hx hb dX3_longest_38 rfl (lv_at hl 0 rfl) ?_
      refine lv_goto (tgt := 43) (pc := 39) hx hb dX3_longest_39 (by decide) ?_
      refine lv_istore_n (lv' := [(1, .int (((M_heads x2_4.toNatClampNeg) + (M_durations x2_4.toNatClampNeg)) + (M_tails x2_4.toNatClampNeg))), (3, .int (((M_heads x2_4.toNatClampNeg) + (M_durations x2_4.toNatClampNeg)) + (M_tails x2_4.toNatClampNeg))), (0, .ref h_M), (2, .int x2_4)]) (pc := 43) hx hb dX3_longest_43 rfl hl (by decide) rfl (fun ls hl => ?_)
      refine lv_iinc (v := x2_4 + 1) (lv' := [(2, .int (x2_4 + 1)), (1, .int (((M_heads x2_4.toNatClampNeg) + (M_durations x2_4.toNatClampNeg)) + (M_tails x2_4.toNatClampNeg))), (3, .int (((M_heads x2_4.toNatClampNeg) + (M_durations x2_4.toNatClampNeg)) + (M_tails x2_4.toNatClampNeg))), (0, .ref h_M)]) (pc := 44) hx hb dX3_longest_44 hl (k := 3) rfl rfl (by decide) rfl (fun ls hl => ?_)
      refine lv_goto (tgt := 4) (pc := 47) hx hb dX3_longest_47 (by decide) ?_
      exact ih_4 ((((M_heads x2_4.toNatClampNeg) + (M_durations x2_4.toNatClampNeg)) + (M_tails x2_4.toNatClampNeg)), (x2_4 + 1)) _ _ _ hw.1 hw.2 ⟨hP, hD, hS, (lv_sub hl [3, 1, 0] rfl)⟩
set_option maxHeartbeats 4000000 in
set_option maxRecDepth 100000 in
theorem c_X3_look_a (l : Launch) (dC : Nat → ClassId) (dI : Nat → Nat → Nat) (h_M h_M_jobOf h_M_machineOf h_M_durations h_M_arcs h_M_drafts h_M_starts h_M_heads h_M_tails h_M_chosen h_M_orders h_M_sizes : Nat) (sz : Nat) (cI cZ : ClassId) (M_jobs : Int32) (M_many : Int32) (M_isPlanned : Int32) (M_least : Int32) (M_optima : Int32) (M_jobOf : Nat → Int32) (M_machineOf : Nat → Int32) (M_durations : Nat → Int32) (M_arcs : Nat → Int32) (M_drafts : Nat → Int32) (M_starts : Nat → Int32) (M_heads : Nat → Int32) (M_tails : Nat → Int32) (M_chosen : Nat → Int32) (M_orders : Nat → Int32) (M_sizes : Nat → Int32) (post : (Nat → Int32) → (Nat → Int32) → Prop) (hw : wp_X3_look M_many M_jobOf M_durations M_heads M_tails M_arcs post) : Met l yX3_look wsX3_look ({ frames := 3, cells := 0, slots := 0, locals := 71 }) (va_Pc [.ref h_M, .ref h_M_arcs] (fun U => U.heap.size = sz ∧ va_P (dC, dI) vwCl (wM h_M h_M_jobOf h_M_machineOf h_M_durations h_M_arcs h_M_drafts h_M_starts h_M_heads h_M_tails h_M_chosen h_M_orders h_M_sizes cI cZ M_jobs M_many M_isPlanned M_least M_optima M_jobOf M_machineOf M_durations M_arcs M_drafts M_starts M_heads M_tails M_chosen M_orders M_sizes) U.heap ∧ va_K (dC, dI) vwCl [(cI, .int), (cZ, .boolean)] U ∧ va_D (fun _ => True) (wM h_M h_M_jobOf h_M_machineOf h_M_durations h_M_arcs h_M_drafts h_M_starts h_M_heads h_M_tails h_M_chosen h_M_orders h_M_sizes cI cZ M_jobs M_many M_isPlanned M_least M_optima M_jobOf M_machineOf M_durations M_arcs M_drafts M_starts M_heads M_tails M_chosen M_orders M_sizes))) (va_Qv (fun (u : (Nat → Int32) × (Nat → Int32)) => post u.1 u.2) (fun u t => va_P (dC, dI) vwCl (wM h_M h_M_jobOf h_M_machineOf h_M_durations h_M_arcs h_M_drafts h_M_starts h_M_heads h_M_tails h_M_chosen h_M_orders h_M_sizes cI cZ M_jobs M_many M_isPlanned M_least M_optima M_jobOf M_machineOf M_durations M_arcs M_drafts M_starts u.1 u.2 M_chosen M_orders M_sizes) t.heap ∧ va_K (dC, dI) vwCl [(cI, .int), (cZ, .boolean)] t ∧ va_D (va_A (wM h_M h_M_jobOf h_M_machineOf h_M_durations h_M_arcs h_M_drafts h_M_starts h_M_heads h_M_tails h_M_chosen h_M_orders h_M_sizes cI cZ M_jobs M_many M_isPlanned M_least M_optima M_jobOf M_machineOf M_durations M_arcs M_drafts M_starts M_heads M_tails M_chosen M_orders M_sizes) sz) (wM h_M h_M_jobOf h_M_machineOf h_M_durations h_M_arcs h_M_drafts h_M_starts h_M_heads h_M_tails h_M_chosen h_M_orders h_M_sizes cI cZ M_jobs M_many M_isPlanned M_least M_optima M_jobOf M_machineOf M_durations M_arcs M_drafts M_starts u.1 u.2 M_chosen M_orders M_sizes)) (va_A (wM h_M h_M_jobOf h_M_machineOf h_M_durations h_M_arcs h_M_drafts h_M_starts h_M_heads h_M_tails h_M_chosen h_M_orders h_M_sizes cI cZ M_jobs M_many M_isPlanned M_least M_optima M_jobOf M_machineOf M_durations M_arcs M_drafts M_starts M_heads M_tails M_chosen M_orders M_sizes) sz)) 0 0 (va_A (wM h_M h_M_jobOf h_M_machineOf h_M_durations h_M_arcs h_M_drafts h_M_starts h_M_heads h_M_tails h_M_chosen h_M_orders h_M_sizes cI cZ M_jobs M_many M_isPlanned M_least M_optima M_jobOf M_machineOf M_durations M_arcs M_drafts M_starts M_heads M_tails M_chosen M_orders M_sizes) sz) := by
  refine Met.ofW (cc := cX3_look) (maxL := 3) (ret := none) (by decide) rfl ?_
  intro p e s m args below meth c s₁ B hml hv
  obtain ⟨rfl, hsz, hP, hK, hD0⟩ := hv
  have hx := B.exec
  have hb := B.bytes
  have hr := B.returns
  have hts := atoms_spec (ws := wsX3_look) B.pre
  have hown : s.vm.findClass RX3 = some m.cls := findClass_of_methodNamed B.named
  have hlocks := B.notSynchronized
  subst hsz
  have hD := hD0.self (sz := s.heap.size)
  generalize hAe : va_A (wM h_M h_M_jobOf h_M_machineOf h_M_durations h_M_arcs h_M_drafts h_M_starts h_M_heads h_M_tails h_M_chosen h_M_orders h_M_sizes cI cZ M_jobs M_many M_isPlanned M_least M_optima M_jobOf M_machineOf M_durations M_arcs M_drafts M_starts M_heads M_tails M_chosen M_orders M_sizes) s.heap.size = A at hD ⊢
  have hA : ∀ q : Nat, s.heap.size ≤ q → A q := fun q h => by rw [← hAe]; exact Or.inr h
  have hS : va_S A s.heap s.heap [] := va_S.rf
  have hP : va_P (dC, dI) vwCl (wM h_M h_M_jobOf h_M_machineOf h_M_durations h_M_arcs h_M_drafts h_M_starts h_M_heads h_M_tails h_M_chosen h_M_orders h_M_sizes cI cZ M_jobs M_many M_isPlanned M_least M_optima M_jobOf M_machineOf M_durations M_arcs M_drafts M_starts M_heads M_tails M_chosen M_orders M_sizes) s.heap := hP
  have hl := lv_entry ([.ref h_M, .ref h_M_arcs]) (n := 3) (Nat.le_of_ble_eq_true rfl)
  rw [lg_entry_eq]
  generalize (lg_sl ([.ref h_M, .ref h_M_arcs]) ++ List.replicate (3 - (lg_sl ([.ref h_M, .ref h_M_arcs])).length) Slot.unset).toArray = ls at hl ⊢
  have hl : lv_has ls 3 [(0, .ref h_M), (1, .ref h_M_arcs)] := hl
  obtain ⟨H, hH⟩ : ∃ H, H = s.heap := ⟨_, rfl⟩
  rw [← hH] at hP
  have hS : va_S A s.heap H [] := by rw [hH]; exact hS
  refine W_heap hH ?_
  unfold wp_X3_look at hw
  refine lv_aload_n (pc := 0) hx hb dX3_look_0 rfl (lv_at hl 0 rfl) ?_
  refine lv_aload_n (pc := 1) hx hb dX3_look_1 rfl (lv_at hl 1 rfl) ?_
  have hPx : va_P (dC, dI) vwCl ([] ++ (wM h_M h_M_jobOf h_M_machineOf h_M_durations h_M_arcs h_M_drafts h_M_starts h_M_heads h_M_tails h_M_chosen h_M_orders h_M_sizes cI cZ M_jobs M_many M_isPlanned M_least M_optima M_jobOf M_machineOf M_durations M_arcs M_drafts M_starts M_heads M_tails M_chosen M_orders M_sizes)) H := hP
  have hDx : va_D A ([] ++ (wM h_M h_M_jobOf h_M_machineOf h_M_durations h_M_arcs h_M_drafts h_M_starts h_M_heads h_M_tails h_M_chosen h_M_orders h_M_sizes cI cZ M_jobs M_many M_isPlanned M_least M_optima M_jobOf M_machineOf M_durations M_arcs M_drafts M_starts M_heads M_tails M_chosen M_orders M_sizes)) := hD
  refine kc_i (pc := 2) (w1 := (fun u : Nat → Int32 => (wM h_M h_M_jobOf h_M_machineOf h_M_durations h_M_arcs h_M_drafts h_M_starts h_M_heads h_M_tails h_M_chosen h_M_orders h_M_sizes cI cZ M_jobs M_many M_isPlanned M_least M_optima M_jobOf M_machineOf M_durations M_arcs M_drafts M_starts u M_tails M_chosen M_orders M_sizes))) (va_runV (As := [.ref h_M_arcs]) (rest := []) ⟨hx, hb, hml, hown, hts⟩ (c_X3_findHeads_a l dC dI h_M h_M_jobOf h_M_machineOf h_M_durations h_M_arcs h_M_drafts h_M_starts h_M_heads h_M_tails h_M_chosen h_M_orders h_M_sizes H.size cI cZ M_jobs M_many M_isPlanned M_least M_optima M_jobOf M_machineOf M_durations M_arcs M_drafts M_starts M_heads M_tails M_chosen M_orders M_sizes _ hw) (cwV 1 hts gX3_look_X3_findHeads rfl rfl rfl (by decide +kernel) ⟨Nat.le_of_ble_eq_true rfl, Nat.le_of_ble_eq_true rfl⟩) (kc_preVM (q0 := 0) (ci := 3) hK hPx hDx [0, 1] rfl rfl rfl) rfl rfl hl.1 rfl (lv_room (Nat.le_of_ble_eq_true rfl)) dX3_look_2 ⟨Nat.zero_le _, Nat.zero_le _⟩) hPx hDx hS hA (fun r_2 u H locs hw hP hD hS => ?_)
  obtain ⟨M_heads_2, rfl⟩ : ∃ z, z = u := ⟨_, rfl⟩
  have hP : va_P (dC, dI) vwCl (wM h_M h_M_jobOf h_M_machineOf h_M_durations h_M_arcs h_M_drafts h_M_starts h_M_heads h_M_tails h_M_chosen h_M_orders h_M_sizes cI cZ M_jobs M_many M_isPlanned M_least M_optima M_jobOf M_machineOf M_durations M_arcs M_drafts M_starts M_heads_2 M_tails M_chosen M_orders M_sizes) H := hP
  have hD : va_D A (wM h_M h_M_jobOf h_M_machineOf h_M_durations h_M_arcs h_M_drafts h_M_starts h_M_heads h_M_tails h_M_chosen h_M_orders h_M_sizes cI cZ M_jobs M_many M_isPlanned M_least M_optima M_jobOf M_machineOf M_durations M_arcs M_drafts M_starts M_heads_2 M_tails M_chosen M_orders M_sizes) := hD
  refine lv_istore_n (lv' := [(2, .int r_2), (0, .ref h_M), (1, .ref h_M_arcs)]) (pc := 5) hx hb dX3_look_5 rfl hl (by decide) rfl (fun ls hl => ?_)
  refine lv_iload_n (pc := 6) hx hb dX3_look_6 rfl (lv_at hl 0 rfl) ?_
  refine lv_if_eq (tgt := 15) (pc := 7) hx hb dX3_look_7 (by decide) (fun c_1 => ?_) (fun c_1 => ?_)
  · have hw := hw.1 c_1
    exact W.vret hx hb hr (fun t ht hW => ⟨⟨(M_heads_2, M_tails), rfl, hw, by rw [ht]; exact hP, va_K.moved hW.alike hK, hD⟩, hS.F ht⟩) hS.2.2 dX3_look_15
  · have hw := hw.2 c_1
    refine lv_aload_n (pc := 10) hx hb dX3_look_10 rfl (lv_at hl 1 rfl) ?_
    refine lv_aload_n (pc := 11) hx hb dX3_look_11 rfl (lv_at hl 2 rfl) ?_
    have hPx : va_P (dC, dI) vwCl ([] ++ (wM h_M h_M_jobOf h_M_machineOf h_M_durations h_M_arcs h_M_drafts h_M_starts h_M_heads h_M_tails h_M_chosen h_M_orders h_M_sizes cI cZ M_jobs M_many M_isPlanned M_least M_optima M_jobOf M_machineOf M_durations M_arcs M_drafts M_starts M_heads_2 M_tails M_chosen M_orders M_sizes)) H := hP
    have hDx : va_D A ([] ++ (wM h_M h_M_jobOf h_M_machineOf h_M_durations h_M_arcs h_M_drafts h_M_starts h_M_heads h_M_tails h_M_chosen h_M_orders h_M_sizes cI cZ M_jobs M_many M_isPlanned M_least M_optima M_jobOf M_machineOf M_durations M_arcs M_drafts M_starts M_heads_2 M_tails M_chosen M_orders M_sizes)) := hD
    refine kc_v (pc := 12) (w1 := (fun u : Nat → Int32 => (wM h_M h_M_jobOf h_M_machineOf h_M_durations h_M_arcs h_M_drafts h_M_starts h_M_heads h_M_tails h_M_chosen h_M_orders h_M_sizes cI cZ M_jobs M_many M_isPlanned M_least M_optima M_jobOf M_machineOf M_durations M_arcs M_drafts M_starts M_heads_2 u M_chosen M_orders M_sizes))) (va_runV (As := [.ref h_M_arcs]) (rest := []) ⟨hx, hb, hml, hown, hts⟩ (c_X3_findTails_a l dC dI h_M h_M_jobOf h_M_machineOf h_M_durations h_M_arcs h_M_drafts h_M_starts h_M_heads h_M_tails h_M_chosen h_M_orders h_M_sizes H.size cI cZ M_jobs M_many M_isPlanned M_least M_optima M_jobOf M_machineOf M_durations M_arcs M_drafts M_starts M_heads_2 M_tails M_chosen M_orders M_sizes _ hw) (cwV 1 hts gX3_look_X3_findTails rfl rfl rfl (by decide +kernel) ⟨Nat.le_of_ble_eq_true rfl, Nat.le_of_ble_eq_true rfl⟩) (kc_preVM (q0 := 0) (ci := 3) hK hPx hDx [0, 1] rfl rfl rfl) rfl rfl hl.1 rfl (lv_room (Nat.le_of_ble_eq_true rfl)) dX3_look_12 ⟨Nat.zero_le _, Nat.zero_le _⟩) hPx hDx hS hA (fun u H locs hw hP hD hS => ?_)
    obtain ⟨M_tails_12, rfl⟩ : ∃ z, z = u := ⟨_, rfl⟩
    have hP : va_P (dC, dI) vwCl (wM h_M h_M_jobOf h_M_machineOf h_M_durations h_M_arcs h_M_drafts h_M_starts h_M_heads h_M_tails h_M_chosen h_M_orders h_M_sizes cI cZ M_jobs M_many M_isPlanned M_least M_optima M_jobOf M_machineOf M_durations M_arcs M_drafts M_starts M_heads_2 M_tails_12 M_chosen M_orders M_sizes) H := hP
    have hD : va_D A (wM h_M h_M_jobOf h_M_machineOf h_M_durations h_M_arcs h_M_drafts h_M_starts h_M_heads h_M_tails h_M_chosen h_M_orders h_M_sizes cI cZ M_jobs M_many M_isPlanned M_least M_optima M_jobOf M_machineOf M_durations M_arcs M_drafts M_starts M_heads_2 M_tails_12 M_chosen M_orders M_sizes) := hD
    exact W.vret hx hb hr (fun t ht hW => ⟨⟨(M_heads_2, M_tails_12), rfl, hw, by rw [ht]; exact hP, va_K.moved hW.alike hK, hD⟩, hS.F ht⟩) hS.2.2 dX3_look_15
set_option maxHeartbeats 4000000 in
set_option maxRecDepth 100000 in
theorem c_X3_look_c (l : Launch) (dC : Nat → ClassId) (dI : Nat → Nat → Nat) (h_M h_M_jobOf h_M_machineOf h_M_durations h_M_arcs h_M_drafts h_M_starts h_M_heads h_M_tails h_M_chosen h_M_orders h_M_sizes : Nat) (sz : Nat) (cI cZ : ClassId) (M_jobs : Int32) (M_many : Int32) (M_isPlanned : Int32) (M_least : Int32) (M_optima : Int32) (M_jobOf : Nat → Int32) (M_machineOf : Nat → Int32) (M_durations : Nat → Int32) (M_arcs : Nat → Int32) (M_drafts : Nat → Int32) (M_starts : Nat → Int32) (M_heads : Nat → Int32) (M_tails : Nat → Int32) (M_chosen : Nat → Int32) (M_orders : Nat → Int32) (M_sizes : Nat → Int32) (post : (Nat → Int32) → (Nat → Int32) → Prop) (hw : wp_X3_look M_many M_jobOf M_durations M_heads M_tails M_chosen post) : Met l yX3_look wsX3_look ({ frames := 3, cells := 0, slots := 0, locals := 71 }) (va_Pc [.ref h_M, .ref h_M_chosen] (fun U => U.heap.size = sz ∧ va_P (dC, dI) vwCl (wM h_M h_M_jobOf h_M_machineOf h_M_durations h_M_arcs h_M_drafts h_M_starts h_M_heads h_M_tails h_M_chosen h_M_orders h_M_sizes cI cZ M_jobs M_many M_isPlanned M_least M_optima M_jobOf M_machineOf M_durations M_arcs M_drafts M_starts M_heads M_tails M_chosen M_orders M_sizes) U.heap ∧ va_K (dC, dI) vwCl [(cI, .int), (cZ, .boolean)] U ∧ va_D (fun _ => True) (wM h_M h_M_jobOf h_M_machineOf h_M_durations h_M_arcs h_M_drafts h_M_starts h_M_heads h_M_tails h_M_chosen h_M_orders h_M_sizes cI cZ M_jobs M_many M_isPlanned M_least M_optima M_jobOf M_machineOf M_durations M_arcs M_drafts M_starts M_heads M_tails M_chosen M_orders M_sizes))) (va_Qv (fun (u : (Nat → Int32) × (Nat → Int32)) => post u.1 u.2) (fun u t => va_P (dC, dI) vwCl (wM h_M h_M_jobOf h_M_machineOf h_M_durations h_M_arcs h_M_drafts h_M_starts h_M_heads h_M_tails h_M_chosen h_M_orders h_M_sizes cI cZ M_jobs M_many M_isPlanned M_least M_optima M_jobOf M_machineOf M_durations M_arcs M_drafts M_starts u.1 u.2 M_chosen M_orders M_sizes) t.heap ∧ va_K (dC, dI) vwCl [(cI, .int), (cZ, .boolean)] t ∧ va_D (va_A (wM h_M h_M_jobOf h_M_machineOf h_M_durations h_M_arcs h_M_drafts h_M_starts h_M_heads h_M_tails h_M_chosen h_M_orders h_M_sizes cI cZ M_jobs M_many M_isPlanned M_least M_optima M_jobOf M_machineOf M_durations M_arcs M_drafts M_starts M_heads M_tails M_chosen M_orders M_sizes) sz) (wM h_M h_M_jobOf h_M_machineOf h_M_durations h_M_arcs h_M_drafts h_M_starts h_M_heads h_M_tails h_M_chosen h_M_orders h_M_sizes cI cZ M_jobs M_many M_isPlanned M_least M_optima M_jobOf M_machineOf M_durations M_arcs M_drafts M_starts u.1 u.2 M_chosen M_orders M_sizes)) (va_A (wM h_M h_M_jobOf h_M_machineOf h_M_durations h_M_arcs h_M_drafts h_M_starts h_M_heads h_M_tails h_M_chosen h_M_orders h_M_sizes cI cZ M_jobs M_many M_isPlanned M_least M_optima M_jobOf M_machineOf M_durations M_arcs M_drafts M_starts M_heads M_tails M_chosen M_orders M_sizes) sz)) 0 0 (va_A (wM h_M h_M_jobOf h_M_machineOf h_M_durations h_M_arcs h_M_drafts h_M_starts h_M_heads h_M_tails h_M_chosen h_M_orders h_M_sizes cI cZ M_jobs M_many M_isPlanned M_least M_optima M_jobOf M_machineOf M_durations M_arcs M_drafts M_starts M_heads M_tails M_chosen M_orders M_sizes) sz) := by
  refine Met.ofW (cc := cX3_look) (maxL := 3) (ret := none) (by decide) rfl ?_
  intro p e s m args below meth c s₁ B hml hv
  obtain ⟨rfl, hsz, hP, hK, hD0⟩ := hv
  have hx := B.exec
  have hb := B.bytes
  have hr := B.returns
  have hts := atoms_spec (ws := wsX3_look) B.pre
  have hown : s.vm.findClass RX3 = some m.cls := findClass_of_methodNamed B.named
  have hlocks := B.notSynchronized
  subst hsz
  have hD := hD0.self (sz := s.heap.size)
  generalize hAe : va_A (wM h_M h_M_jobOf h_M_machineOf h_M_durations h_M_arcs h_M_drafts h_M_starts h_M_heads h_M_tails h_M_chosen h_M_orders h_M_sizes cI cZ M_jobs M_many M_isPlanned M_least M_optima M_jobOf M_machineOf M_durations M_arcs M_drafts M_starts M_heads M_tails M_chosen M_orders M_sizes) s.heap.size = A at hD ⊢
  have hA : ∀ q : Nat, s.heap.size ≤ q → A q := fun q h => by rw [← hAe]; exact Or.inr h
  have hS : va_S A s.heap s.heap [] := va_S.rf
  have hP : va_P (dC, dI) vwCl (wM h_M h_M_jobOf h_M_machineOf h_M_durations h_M_arcs h_M_drafts h_M_starts h_M_heads h_M_tails h_M_chosen h_M_orders h_M_sizes cI cZ M_jobs M_many M_isPlanned M_least M_optima M_jobOf M_machineOf M_durations M_arcs M_drafts M_starts M_heads M_tails M_chosen M_orders M_sizes) s.heap := hP
  have hl := lv_entry ([.ref h_M, .ref h_M_chosen]) (n := 3) (Nat.le_of_ble_eq_true rfl)
  rw [lg_entry_eq]
  generalize (lg_sl ([.ref h_M, .ref h_M_chosen]) ++ List.replicate (3 - (lg_sl ([.ref h_M, .ref h_M_chosen])).length) Slot.unset).toArray = ls at hl ⊢
  have hl : lv_has ls 3 [(0, .ref h_M), (1, .ref h_M_chosen)] := hl
  obtain ⟨H, hH⟩ : ∃ H, H = s.heap := ⟨_, rfl⟩
  rw [← hH] at hP
  have hS : va_S A s.heap H [] := by rw [hH]; exact hS
  refine W_heap hH ?_
  unfold wp_X3_look at hw
  refine lv_aload_n (pc := 0) hx hb dX3_look_0 rfl (lv_at hl 0 rfl) ?_
  refine lv_aload_n (pc := 1) hx hb dX3_look_1 rfl (lv_at hl 1 rfl) ?_
  have hPx : va_P (dC, dI) vwCl ([] ++ (wM h_M h_M_jobOf h_M_machineOf h_M_durations h_M_arcs h_M_drafts h_M_starts h_M_heads h_M_tails h_M_chosen h_M_orders h_M_sizes cI cZ M_jobs M_many M_isPlanned M_least M_optima M_jobOf M_machineOf M_durations M_arcs M_drafts M_starts M_heads M_tails M_chosen M_orders M_sizes)) H := hP
  have hDx : va_D A ([] ++ (wM h_M h_M_jobOf h_M_machineOf h_M_durations h_M_arcs h_M_drafts h_M_starts h_M_heads h_M_tails h_M_chosen h_M_orders h_M_sizes cI cZ M_jobs M_many M_isPlanned M_least M_optima M_jobOf M_machineOf M_durations M_arcs M_drafts M_starts M_heads M_tails M_chosen M_orders M_sizes)) := hD
  refine kc_i (pc := 2) (w1 := (fun u : Nat → Int32 => (wM h_M h_M_jobOf h_M_machineOf h_M_durations h_M_arcs h_M_drafts h_M_starts h_M_heads h_M_tails h_M_chosen h_M_orders h_M_sizes cI cZ M_jobs M_many M_isPlanned M_least M_optima M_jobOf M_machineOf M_durations M_arcs M_drafts M_starts u M_tails M_chosen M_orders M_sizes))) (va_runV (As := [.ref h_M_chosen]) (rest := []) ⟨hx, hb, hml, hown, hts⟩ (c_X3_findHeads_c l dC dI h_M h_M_jobOf h_M_machineOf h_M_durations h_M_arcs h_M_drafts h_M_starts h_M_heads h_M_tails h_M_chosen h_M_orders h_M_sizes H.size cI cZ M_jobs M_many M_isPlanned M_least M_optima M_jobOf M_machineOf M_durations M_arcs M_drafts M_starts M_heads M_tails M_chosen M_orders M_sizes _ hw) (cwV 1 hts gX3_look_X3_findHeads rfl rfl rfl (by decide +kernel) ⟨Nat.le_of_ble_eq_true rfl, Nat.le_of_ble_eq_true rfl⟩) (kc_preVM (q0 := 0) (ci := 3) hK hPx hDx [0, 1] rfl rfl rfl) rfl rfl hl.1 rfl (lv_room (Nat.le_of_ble_eq_true rfl)) dX3_look_2 ⟨Nat.zero_le _, Nat.zero_le _⟩) hPx hDx hS hA (fun r_2 u H locs hw hP hD hS => ?_)
  obtain ⟨M_heads_2, rfl⟩ : ∃ z, z = u := ⟨_, rfl⟩
  have hP : va_P (dC, dI) vwCl (wM h_M h_M_jobOf h_M_machineOf h_M_durations h_M_arcs h_M_drafts h_M_starts h_M_heads h_M_tails h_M_chosen h_M_orders h_M_sizes cI cZ M_jobs M_many M_isPlanned M_least M_optima M_jobOf M_machineOf M_durations M_arcs M_drafts M_starts M_heads_2 M_tails M_chosen M_orders M_sizes) H := hP
  have hD : va_D A (wM h_M h_M_jobOf h_M_machineOf h_M_durations h_M_arcs h_M_drafts h_M_starts h_M_heads h_M_tails h_M_chosen h_M_orders h_M_sizes cI cZ M_jobs M_many M_isPlanned M_least M_optima M_jobOf M_machineOf M_durations M_arcs M_drafts M_starts M_heads_2 M_tails M_chosen M_orders M_sizes) := hD
  refine lv_istore_n (lv' := [(2, .int r_2), (0, .ref h_M), (1, .ref h_M_chosen)]) (pc := 5) hx hb dX3_look_5 rfl hl (by decide) rfl (fun ls hl => ?_)
  refine lv_iload_n (pc := 6) hx hb dX3_look_6 rfl (lv_at hl 0 rfl) ?_
  refine lv_if_eq (tgt := 15) (pc := 7) hx hb dX3_look_7 (by decide) (fun c_1 => ?_) (fun c_1 => ?_)
  · have hw := hw.1 c_1
    exact W.vret hx hb hr (fun t ht hW => ⟨⟨(M_heads_2, M_tails), rfl, hw, by rw [ht]; exact hP, va_K.moved hW.alike hK, hD⟩, hS.F ht⟩) hS.2.2 dX3_look_15
  · have hw := hw.2 c_1
    refine lv_aload_n (pc := 10) hx hb dX3_look_10 rfl (lv_at hl 1 rfl) ?_
    refine lv_aload_n (pc := 11) hx hb dX3_look_11 rfl (lv_at hl 2 rfl) ?_
    have hPx : va_P (dC, dI) vwCl ([] ++ (wM h_M h_M_jobOf h_M_machineOf h_M_durations h_M_arcs h_M_drafts h_M_starts h_M_heads h_M_tails h_M_chosen h_M_orders h_M_sizes cI cZ M_jobs M_many M_isPlanned M_least M_optima M_jobOf M_machineOf M_durations M_arcs M_drafts M_starts M_heads_2 M_tails M_chosen M_orders M_sizes)) H := hP
    have hDx : va_D A ([] ++ (wM h_M h_M_jobOf h_M_machineOf h_M_durations h_M_arcs h_M_drafts h_M_starts h_M_heads h_M_tails h_M_chosen h_M_orders h_M_sizes cI cZ M_jobs M_many M_isPlanned M_least M_optima M_jobOf M_machineOf M_durations M_arcs M_drafts M_starts M_heads_2 M_tails M_chosen M_orders M_sizes)) := hD
    refine kc_v (pc := 12) (w1 := (fun u : Nat → Int32 => (wM h_M h_M_jobOf h_M_machineOf h_M_durations h_M_arcs h_M_drafts h_M_starts h_M_heads h_M_tails h_M_chosen h_M_orders h_M_sizes cI cZ M_jobs M_many M_isPlanned M_least M_optima M_jobOf M_machineOf M_durations M_arcs M_drafts M_starts M_heads_2 u M_chosen M_orders M_sizes))) (va_runV (As := [.ref h_M_chosen]) (rest := []) ⟨hx, hb, hml, hown, hts⟩ (c_X3_findTails_c l dC dI h_M h_M_jobOf h_M_machineOf h_M_durations h_M_arcs h_M_drafts h_M_starts h_M_heads h_M_tails h_M_chosen h_M_orders h_M_sizes H.size cI cZ M_jobs M_many M_isPlanned M_least M_optima M_jobOf M_machineOf M_durations M_arcs M_drafts M_starts M_heads_2 M_tails M_chosen M_orders M_sizes _ hw) (cwV 1 hts gX3_look_X3_findTails rfl rfl rfl (by decide +kernel) ⟨Nat.le_of_ble_eq_true rfl, Nat.le_of_ble_eq_true rfl⟩) (kc_preVM (q0 := 0) (ci := 3) hK hPx hDx [0, 1] rfl rfl rfl) rfl rfl hl.1 rfl (lv_room (Nat.le_of_ble_eq_true rfl)) dX3_look_12 ⟨Nat.zero_le _, Nat.zero_le _⟩) hPx hDx hS hA (fun u H locs hw hP hD hS => ?_)
    obtain ⟨M_tails_12, rfl⟩ : ∃ z, z = u := ⟨_, rfl⟩
    have hP : va_P (dC, dI) vwCl (wM h_M h_M_jobOf h_M_machineOf h_M_durations h_M_arcs h_M_drafts h_M_starts h_M_heads h_M_tails h_M_chosen h_M_orders h_M_sizes cI cZ M_jobs M_many M_isPlanned M_least M_optima M_jobOf M_machineOf M_durations M_arcs M_drafts M_starts M_heads_2 M_tails_12 M_chosen M_orders M_sizes) H := hP
    have hD : va_D A (wM h_M h_M_jobOf h_M_machineOf h_M_durations h_M_arcs h_M_drafts h_M_starts h_M_heads h_M_tails h_M_chosen h_M_orders h_M_sizes cI cZ M_jobs M_many M_isPlanned M_least M_optima M_jobOf M_machineOf M_durations M_arcs M_drafts M_starts M_heads_2 M_tails_12 M_chosen M_orders M_sizes) := hD
    exact W.vret hx hb hr (fun t ht hW => ⟨⟨(M_heads_2, M_tails_12), rfl, hw, by rw [ht]; exact hP, va_K.moved hW.alike hK, hD⟩, hS.F ht⟩) hS.2.2 dX3_look_15
