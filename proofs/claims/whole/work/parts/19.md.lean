set_option maxHeartbeats 4000000 in
set_option maxRecDepth 100000 in
theorem c_X3_optima (l : Launch) (dC : Nat → ClassId) (dI : Nat → Nat → Nat) (h_M h_M_jobOf h_M_machineOf h_M_durations h_M_arcs h_M_drafts h_M_starts h_M_heads h_M_tails h_M_chosen h_M_orders h_M_sizes : Nat) (sz : Nat) (cI cZ : ClassId) (M_jobs : Int32) (M_many : Int32) (M_isPlanned : Int32) (M_least : Int32) (M_optima : Int32) (M_jobOf : Nat → Int32) (M_machineOf : Nat → Int32) (M_durations : Nat → Int32) (M_arcs : Nat → Int32) (M_drafts : Nat → Int32) (M_starts : Nat → Int32) (M_heads : Nat → Int32) (M_tails : Nat → Int32) (M_chosen : Nat → Int32) (M_orders : Nat → Int32) (M_sizes : Nat → Int32) (post : Int32 → Prop) (hw : wp_X3_optima M_isPlanned M_optima post) : Met l yX3_optima wsX3_optima ({ frames := 0, cells := 0, slots := 0, locals := 0 }) (va_Pc [.ref h_M] (fun U => U.heap.size = sz ∧ va_P (dC, dI) vwCl (wM h_M h_M_jobOf h_M_machineOf h_M_durations h_M_arcs h_M_drafts h_M_starts h_M_heads h_M_tails h_M_chosen h_M_orders h_M_sizes cI cZ M_jobs M_many M_isPlanned M_least M_optima M_jobOf M_machineOf M_durations M_arcs M_drafts M_starts M_heads M_tails M_chosen M_orders M_sizes) U.heap ∧ va_K (dC, dI) vwCl [(cI, .int), (cZ, .boolean)] U ∧ va_D (fun _ => True) (wM h_M h_M_jobOf h_M_machineOf h_M_durations h_M_arcs h_M_drafts h_M_starts h_M_heads h_M_tails h_M_chosen h_M_orders h_M_sizes cI cZ M_jobs M_many M_isPlanned M_least M_optima M_jobOf M_machineOf M_durations M_arcs M_drafts M_starts M_heads M_tails M_chosen M_orders M_sizes))) (va_Qi (fun (r : Int32) (u : Unit) => post r ) (fun u t => va_P (dC, dI) vwCl (wM h_M h_M_jobOf h_M_machineOf h_M_durations h_M_arcs h_M_drafts h_M_starts h_M_heads h_M_tails h_M_chosen h_M_orders h_M_sizes cI cZ M_jobs M_many M_isPlanned M_least M_optima M_jobOf M_machineOf M_durations M_arcs M_drafts M_starts M_heads M_tails M_chosen M_orders M_sizes) t.heap ∧ va_K (dC, dI) vwCl [(cI, .int), (cZ, .boolean)] t ∧ va_D (va_A (wM h_M h_M_jobOf h_M_machineOf h_M_durations h_M_arcs h_M_drafts h_M_starts h_M_heads h_M_tails h_M_chosen h_M_orders h_M_sizes cI cZ M_jobs M_many M_isPlanned M_least M_optima M_jobOf M_machineOf M_durations M_arcs M_drafts M_starts M_heads M_tails M_chosen M_orders M_sizes) sz) (wM h_M h_M_jobOf h_M_machineOf h_M_durations h_M_arcs h_M_drafts h_M_starts h_M_heads h_M_tails h_M_chosen h_M_orders h_M_sizes cI cZ M_jobs M_many M_isPlanned M_least M_optima M_jobOf M_machineOf M_durations M_arcs M_drafts M_starts M_heads M_tails M_chosen M_orders M_sizes)) (va_A (wM h_M h_M_jobOf h_M_machineOf h_M_durations h_M_arcs h_M_drafts h_M_starts h_M_heads h_M_tails h_M_chosen h_M_orders h_M_sizes cI cZ M_jobs M_many M_isPlanned M_least M_optima M_jobOf M_machineOf M_durations M_arcs M_drafts M_starts M_heads M_tails M_chosen M_orders M_sizes) sz)) 0 0 (va_A (wM h_M h_M_jobOf h_M_machineOf h_M_durations h_M_arcs h_M_drafts h_M_starts h_M_heads h_M_tails h_M_chosen h_M_orders h_M_sizes cI cZ M_jobs M_many M_isPlanned M_least M_optima M_jobOf M_machineOf M_durations M_arcs M_drafts M_starts M_heads M_tails M_chosen M_orders M_sizes) sz) := by
  refine Met.ofW (cc := cX3_optima) (maxL := 1) (ret := (some .int)) (by decide) rfl ?_
  intro p e s m args below meth c s₁ B hml hv
  obtain ⟨rfl, hsz, hP, hK, hD0⟩ := hv
  have hx := B.exec
  have hb := B.bytes
  have hr := B.returns
  have hts := atoms_spec (ws := wsX3_optima) B.pre
  have hown : s.vm.findClass RX3 = some m.cls := findClass_of_methodNamed B.named
  have hlocks := B.notSynchronized
  subst hsz
  have hD := hD0.self (sz := s.heap.size)
  generalize hAe : va_A (wM h_M h_M_jobOf h_M_machineOf h_M_durations h_M_arcs h_M_drafts h_M_starts h_M_heads h_M_tails h_M_chosen h_M_orders h_M_sizes cI cZ M_jobs M_many M_isPlanned M_least M_optima M_jobOf M_machineOf M_durations M_arcs M_drafts M_starts M_heads M_tails M_chosen M_orders M_sizes) s.heap.size = A at hD ⊢
  have hA : ∀ q : Nat, s.heap.size ≤ q → A q := fun q h => by rw [← hAe]; exact Or.inr h
  have hS : va_S A s.heap s.heap [] := va_S.rf
  have hP : va_P (dC, dI) vwCl (wM h_M h_M_jobOf h_M_machineOf h_M_durations h_M_arcs h_M_drafts h_M_starts h_M_heads h_M_tails h_M_chosen h_M_orders h_M_sizes cI cZ M_jobs M_many M_isPlanned M_least M_optima M_jobOf M_machineOf M_durations M_arcs M_drafts M_starts M_heads M_tails M_chosen M_orders M_sizes) s.heap := hP
  have hl := lv_entry ([.ref h_M]) (n := 1) (Nat.le_of_ble_eq_true rfl)
  rw [lg_entry_eq]
  generalize (lg_sl ([.ref h_M]) ++ List.replicate (1 - (lg_sl ([.ref h_M])).length) Slot.unset).toArray = ls at hl ⊢
  have hl : lv_has ls 1 [(0, .ref h_M)] := hl
  obtain ⟨H, hH⟩ : ∃ H, H = s.heap := ⟨_, rfl⟩
  rw [← hH] at hP
  have hS : va_S A s.heap H [] := by rw [hH]; exact hS
  refine W_heap hH ?_
  unfold wp_X3_optima at hw
  have hin_X3 : ∀ w ∈ u_ws RX3 TX3 16, w ∈ wsX3_optima := by decide +kernel
  refine lv_aload_n (pc := 0) hx hb dX3_optima_0 rfl (lv_at hl 0 rfl) ?_
  refine va_get (D := (dC, dI)) (ci := 3) (v := .int M_isPlanned) (C := RX3) (T := TX3) (N := 16) (pc := 1) hx hb hts hin_X3 hown hK hP 0 rfl rfl 7 (by decide) (hts (.fieldLink RX3 59 "JobShopModel" "isPlanned" "Z") (by decide +kernel)) (fun _ h9 => h9) rfl dX3_optima_1 ?_
  refine lv_if_eq (tgt := 14) (pc := 4) hx hb dX3_optima_4 (by decide) (fun c_1 => ?_) (fun c_1 => ?_)
  · have hw := hw.1 c_1
    refine lv_iconst (v := (-1)) (pc := 14) hx hb dX3_optima_14 (by decide) ?_
    exact W.iret (v := (-1)) hx hb hr (fun t ht hW => ⟨⟨(-1), (), rfl, hw, by rw [ht]; exact hP, va_K.moved hW.alike hK, hD⟩, hS.F ht⟩) hS.2.2 dX3_optima_15
  · have hw := hw.2 c_1
    refine lv_aload_n (pc := 7) hx hb dX3_optima_7 rfl (lv_at hl 0 rfl) ?_
    refine va_get (D := (dC, dI)) (ci := 3) (v := .int M_optima) (C := RX3) (T := TX3) (N := 16) (pc := 8) hx hb hts hin_X3 hown hK hP 0 rfl rfl 10 (by decide) (hts (.fieldLink RX3 106 "JobShopModel" "optima" "I") (by decide +kernel)) (fun _ h9 => h9) rfl dX3_optima_8 ?_
    refine lv_goto (tgt := 15) (pc := 11) hx hb dX3_optima_11 (by decide) ?_
    exact W.iret (v := M_optima) hx hb hr (fun t ht hW => ⟨⟨M_optima, (), rfl, hw, by rw [ht]; exact hP, va_K.moved hW.alike hK, hD⟩, hS.F ht⟩) hS.2.2 dX3_optima_15
set_option maxHeartbeats 4000000 in
set_option maxRecDepth 100000 in
theorem c_X3_at (l : Launch) (dC : Nat → ClassId) (dI : Nat → Nat → Nat) (h_M h_M_jobOf h_M_machineOf h_M_durations h_M_arcs h_M_drafts h_M_starts h_M_heads h_M_tails h_M_chosen h_M_orders h_M_sizes : Nat) (sz : Nat) (cI cZ : ClassId) (M_jobs : Int32) (M_many : Int32) (M_isPlanned : Int32) (M_least : Int32) (M_optima : Int32) (M_jobOf : Nat → Int32) (M_machineOf : Nat → Int32) (M_durations : Nat → Int32) (M_arcs : Nat → Int32) (M_drafts : Nat → Int32) (M_starts : Nat → Int32) (M_heads : Nat → Int32) (M_tails : Nat → Int32) (M_chosen : Nat → Int32) (M_orders : Nat → Int32) (M_sizes : Nat → Int32) (a0 a1 : Int32) (post : Int32 → Prop) (hw : wp_X3_at M_many M_isPlanned M_machineOf M_durations M_starts a0 a1 post) : Met l yX3_at wsX3_at ({ frames := 1, cells := 0, slots := 0, locals := 22 }) (va_Pc [.ref h_M, .int a0, .int a1] (fun U => U.heap.size = sz ∧ va_P (dC, dI) vwCl (wM h_M h_M_jobOf h_M_machineOf h_M_durations h_M_arcs h_M_drafts h_M_starts h_M_heads h_M_tails h_M_chosen h_M_orders h_M_sizes cI cZ M_jobs M_many M_isPlanned M_least M_optima M_jobOf M_machineOf M_durations M_arcs M_drafts M_starts M_heads M_tails M_chosen M_orders M_sizes) U.heap ∧ va_K (dC, dI) vwCl [(cI, .int), (cZ, .boolean)] U ∧ va_D (fun _ => True) (wM h_M h_M_jobOf h_M_machineOf h_M_durations h_M_arcs h_M_drafts h_M_starts h_M_heads h_M_tails h_M_chosen h_M_orders h_M_sizes cI cZ M_jobs M_many M_isPlanned M_least M_optima M_jobOf M_machineOf M_durations M_arcs M_drafts M_starts M_heads M_tails M_chosen M_orders M_sizes))) (va_Qi (fun (r : Int32) (u : Unit) => post r ) (fun u t => va_P (dC, dI) vwCl (wM h_M h_M_jobOf h_M_machineOf h_M_durations h_M_arcs h_M_drafts h_M_starts h_M_heads h_M_tails h_M_chosen h_M_orders h_M_sizes cI cZ M_jobs M_many M_isPlanned M_least M_optima M_jobOf M_machineOf M_durations M_arcs M_drafts M_starts M_heads M_tails M_chosen M_orders M_sizes) t.heap ∧ va_K (dC, dI) vwCl [(cI, .int), (cZ, .boolean)] t ∧ va_D (va_A (wM h_M h_M_jobOf h_M_machineOf h_M_durations h_M_arcs h_M_drafts h_M_starts h_M_heads h_M_tails h_M_chosen h_M_orders h_M_sizes cI cZ M_jobs M_many M_isPlanned M_least M_optima M_jobOf M_machineOf M_durations M_arcs M_drafts M_starts M_heads M_tails M_chosen M_orders M_sizes) sz) (wM h_M h_M_jobOf h_M_machineOf h_M_durations h_M_arcs h_M_drafts h_M_starts h_M_heads h_M_tails h_M_chosen h_M_orders h_M_sizes cI cZ M_jobs M_many M_isPlanned M_least M_optima M_jobOf M_machineOf M_durations M_arcs M_drafts M_starts M_heads M_tails M_chosen M_orders M_sizes)) (va_A (wM h_M h_M_jobOf h_M_machineOf h_M_durations h_M_arcs h_M_drafts h_M_starts h_M_heads h_M_tails h_M_chosen h_M_orders h_M_sizes cI cZ M_jobs M_many M_isPlanned M_least M_optima M_jobOf M_machineOf M_durations M_arcs M_drafts M_starts M_heads M_tails M_chosen M_orders M_sizes) sz)) 0 0 (va_A (wM h_M h_M_jobOf h_M_machineOf h_M_durations h_M_arcs h_M_drafts h_M_starts h_M_heads h_M_tails h_M_chosen h_M_orders h_M_sizes cI cZ M_jobs M_many M_isPlanned M_least M_optima M_jobOf M_machineOf M_durations M_arcs M_drafts M_starts M_heads M_tails M_chosen M_orders M_sizes) sz) := by
  refine Met.ofW (cc := cX3_at) (maxL := 4) (ret := (some .int)) (by decide) rfl ?_
  intro p e s m args below meth c s₁ B hml hv
  obtain ⟨rfl, hsz, hP, hK, hD0⟩ := hv
  have hx := B.exec
  have hb := B.bytes
  have hr := B.returns
  have hts := atoms_spec (ws := wsX3_at) B.pre
  have hown : s.vm.findClass RX3 = some m.cls := findClass_of_methodNamed B.named
  have hlocks := B.notSynchronized
  subst hsz
  have hD := hD0.self (sz := s.heap.size)
  generalize hAe : va_A (wM h_M h_M_jobOf h_M_machineOf h_M_durations h_M_arcs h_M_drafts h_M_starts h_M_heads h_M_tails h_M_chosen h_M_orders h_M_sizes cI cZ M_jobs M_many M_isPlanned M_least M_optima M_jobOf M_machineOf M_durations M_arcs M_drafts M_starts M_heads M_tails M_chosen M_orders M_sizes) s.heap.size = A at hD ⊢
  have hA : ∀ q : Nat, s.heap.size ≤ q → A q := fun q h => by rw [← hAe]; exact Or.inr h
  have hS : va_S A s.heap s.heap [] := va_S.rf
  have hP : va_P (dC, dI) vwCl (wM h_M h_M_jobOf h_M_machineOf h_M_durations h_M_arcs h_M_drafts h_M_starts h_M_heads h_M_tails h_M_chosen h_M_orders h_M_sizes cI cZ M_jobs M_many M_isPlanned M_least M_optima M_jobOf M_machineOf M_durations M_arcs M_drafts M_starts M_heads M_tails M_chosen M_orders M_sizes) s.heap := hP
  have hl := lv_entry ([.ref h_M, .int a0, .int a1]) (n := 4) (Nat.le_of_ble_eq_true rfl)
  rw [lg_entry_eq]
  generalize (lg_sl ([.ref h_M, .int a0, .int a1]) ++ List.replicate (4 - (lg_sl ([.ref h_M, .int a0, .int a1])).length) Slot.unset).toArray = ls at hl ⊢
  have hl : lv_has ls 4 [(0, .ref h_M), (1, .int a0), (2, .int a1)] := hl
  obtain ⟨H, hH⟩ : ∃ H, H = s.heap := ⟨_, rfl⟩
  rw [← hH] at hP
  have hS : va_S A s.heap H [] := by rw [hH]; exact hS
  refine W_heap hH ?_
  unfold wp_X3_at at hw
  have hin_X3 : ∀ w ∈ u_ws RX3 TX3 16, w ∈ wsX3_at := by decide +kernel
  refine lv_iload_n (pc := 0) hx hb dX3_at_0 rfl (lv_at hl 1 rfl) ?_
  refine lv_iconst (v := 0) (pc := 1) hx hb dX3_at_1 (by decide) ?_
  refine lv_iconst (v := 3) (pc := 2) hx hb dX3_at_2 (by decide) ?_
  have hPx : va_P (dC, dI) vwCl ([(h_M, .inr (3, [.int M_jobs, .int M_many, .ref h_M_jobOf, .ref h_M_machineOf, .ref h_M_durations, .ref h_M_arcs, .ref h_M_drafts, .int M_isPlanned, .ref h_M_starts, .int M_least, .int M_optima, .ref h_M_heads, .ref h_M_tails, .ref h_M_chosen, .ref h_M_orders, .ref h_M_sizes])), (h_M_jobOf, .inl (cI, 12, .inl M_jobOf)), (h_M_machineOf, .inl (cI, 12, .inl M_machineOf)), (h_M_durations, .inl (cI, 12, .inl M_durations)), (h_M_arcs, .inl (cZ, 144, .inl M_arcs)), (h_M_drafts, .inl (cI, 12, .inl M_drafts)), (h_M_starts, .inl (cI, 12, .inl M_starts)), (h_M_heads, .inl (cI, 12, .inl M_heads)), (h_M_tails, .inl (cI, 12, .inl M_tails)), (h_M_chosen, .inl (cZ, 144, .inl M_chosen)), (h_M_orders, .inl (cI, 16, .inl M_orders)), (h_M_sizes, .inl (cI, 4, .inl M_sizes))] ++ ([] : va_W)) H := hP
  have hDx : va_D A ([(h_M, .inr (3, [.int M_jobs, .int M_many, .ref h_M_jobOf, .ref h_M_machineOf, .ref h_M_durations, .ref h_M_arcs, .ref h_M_drafts, .int M_isPlanned, .ref h_M_starts, .int M_least, .int M_optima, .ref h_M_heads, .ref h_M_tails, .ref h_M_chosen, .ref h_M_orders, .ref h_M_sizes])), (h_M_jobOf, .inl (cI, 12, .inl M_jobOf)), (h_M_machineOf, .inl (cI, 12, .inl M_machineOf)), (h_M_durations, .inl (cI, 12, .inl M_durations)), (h_M_arcs, .inl (cZ, 144, .inl M_arcs)), (h_M_drafts, .inl (cI, 12, .inl M_drafts)), (h_M_starts, .inl (cI, 12, .inl M_starts)), (h_M_heads, .inl (cI, 12, .inl M_heads)), (h_M_tails, .inl (cI, 12, .inl M_tails)), (h_M_chosen, .inl (cZ, 144, .inl M_chosen)), (h_M_orders, .inl (cI, 16, .inl M_orders)), (h_M_sizes, .inl (cI, 4, .inl M_sizes))] ++ ([] : va_W)) := hD
  refine kc_i (pc := 3) (w1 := (fun u : Unit => ([] : va_W))) (va_runS (As := [.int a0, .int 0, .int 3]) (rest := []) ⟨hx, hb, hml, hown, hts⟩ (c_X3_in l dC dI H.size  a0 0 3 _ hw) (va_cwS 3 hts gX3_at_X3_in rfl rfl rfl (by decide +kernel) ⟨Nat.le_of_ble_eq_true rfl, Nat.le_of_ble_eq_true rfl⟩) (kc_preS hK hPx hDx [] rfl) rfl rfl hl.1 rfl (lv_room (Nat.le_of_ble_eq_true rfl)) dX3_at_3 ⟨Nat.zero_le _, Nat.zero_le _⟩) hPx hDx hS hA (fun r_3 u H locs hw hP hD hS => ?_)
  have hP : va_P (dC, dI) vwCl (wM h_M h_M_jobOf h_M_machineOf h_M_durations h_M_arcs h_M_drafts h_M_starts h_M_heads h_M_tails h_M_chosen h_M_orders h_M_sizes cI cZ M_jobs M_many M_isPlanned M_least M_optima M_jobOf M_machineOf M_durations M_arcs M_drafts M_starts M_heads M_tails M_chosen M_orders M_sizes) H := hP
  have hD : va_D A (wM h_M h_M_jobOf h_M_machineOf h_M_durations h_M_arcs h_M_drafts h_M_starts h_M_heads h_M_tails h_M_chosen h_M_orders h_M_sizes cI cZ M_jobs M_many M_isPlanned M_least M_optima M_jobOf M_machineOf M_durations M_arcs M_drafts M_starts M_heads M_tails M_chosen M_orders M_sizes) := hD
  refine lv_if_ne (tgt := 12) (pc := 6) hx hb dX3_at_6 (by decide) (fun c_1 => ?_) (fun c_1 => ?_)
  · have hw := hw.1 c_1
    refine lv_iconst (v := 0) (pc := 12) hx hb dX3_at_12 (by decide) ?_
    refine lv_istore_n (lv' := [(3, .int 0), (0, .ref h_M), (1, .int a0), (2, .int a1)]) (pc := 13) hx hb dX3_at_13 rfl hl (by decide) rfl (fun ls hl => ?_)
    obtain ⟨I_14, μ_14, hI_14, hs_14⟩ := hw
    refine lp_W (I := fun z : Int32 => I_14 z) (fun z => μ_14 z) (fun (z : Int32) H locs ls => va_P (dC, dI) vwCl (wM h_M h_M_jobOf h_M_machineOf h_M_durations h_M_arcs h_M_drafts h_M_starts h_M_heads h_M_tails h_M_chosen h_M_orders h_M_sizes cI cZ M_jobs M_many M_isPlanned M_least M_optima M_jobOf M_machineOf M_durations M_arcs M_drafts M_starts M_heads M_tails M_chosen M_orders M_sizes) H ∧ va_D A (wM h_M h_M_jobOf h_M_machineOf h_M_durations h_M_arcs h_M_drafts h_M_starts h_M_heads h_M_tails h_M_chosen h_M_orders h_M_sizes cI cZ M_jobs M_many M_isPlanned M_least M_optima M_jobOf M_machineOf M_durations M_arcs M_drafts M_starts M_heads M_tails M_chosen M_orders M_sizes) ∧ va_S A s.heap H locs ∧ lv_has ls 4 [(0, .ref h_M), (1, .int a0), (2, .int a1), (3, .int z)]) ?_ 0 _ _ _ hI_14 ⟨hP, hD, hS, (lv_sub hl [1, 2, 3, 0] rfl)⟩
    rintro x3_14 H locs ls hI ⟨hP, hD, hS, hl⟩ ih_14
    have hw := hs_14 x3_14 hI
    have hP : va_P (dC, dI) vwCl (wM h_M h_M_jobOf h_M_machineOf h_M_durations h_M_arcs h_M_drafts h_M_starts h_M_heads h_M_tails h_M_chosen h_M_orders h_M_sizes cI cZ M_jobs M_many M_isPlanned M_least M_optima M_jobOf M_machineOf M_durations M_arcs M_drafts M_starts M_heads M_tails M_chosen M_orders M_sizes) H := hP
    have hD : va_D A (wM h_M h_M_jobOf h_M_machineOf h_M_durations h_M_arcs h_M_drafts h_M_starts h_M_heads h_M_tails h_M_chosen h_M_orders h_M_sizes cI cZ M_jobs M_many M_isPlanned M_least M_optima M_jobOf M_machineOf M_durations M_arcs M_drafts M_starts M_heads M_tails M_chosen M_orders M_sizes) := hD
    have hl : lv_has ls 4 [(0, .ref h_M), (1, .int a0), (2, .int a1), (3, .int x3_14)] := hl
    refine lv_iload_n (pc := 14) hx hb dX3_at_14 rfl (lv_at hl 3 rfl) ?_
    refine lv_aload_n (pc := 15) hx hb dX3_at_15 rfl (lv_at hl 0 rfl) ?_
    refine va_get (D := (dC, dI)) (ci := 3) (v := .int M_many) (C := RX3) (T := TX3) (N := 16) (pc := 16) hx hb hts hin_X3 hown hK hP 0 rfl rfl 1 (by decide) (hts (.fieldLink RX3 48 "JobShopModel" "many" "I") (by decide +kernel)) (fun _ h9 => h9) rfl dX3_at_16 ?_
    refine lv_icmp_ge (tgt := 75) (pc := 19) hx hb dX3_at_19 (by decide) (fun c_2 => ?_) (fun c_2 => ?_)
    · have hw := hw.1 c_2
      refine lv_iconst (v := (-1)) (pc := 75) hx hb dX3_at_75 (by decide) ?_
      exact W.iret (v := (-1)) hx hb hr (fun t ht hW => ⟨⟨(-1), (), rfl, hw, by rw [ht]; exact hP, va_K.moved hW.alike hK, hD⟩, hS.F ht⟩) hS.2.2 dX3_at_76
    · have hw := hw.2 c_2
      refine lv_aload_n (pc := 22) hx hb dX3_at_22 rfl (lv_at hl 0 rfl) ?_
      refine va_get (D := (dC, dI)) (ci := 3) (v := .int M_isPlanned) (C := RX3) (T := TX3) (N := 16) (pc := 23) hx hb hts hin_X3 hown hK hP 0 rfl rfl 7 (by decide) (hts (.fieldLink RX3 59 "JobShopModel" "isPlanned" "Z") (by decide +kernel)) (fun _ h9 => h9) rfl dX3_at_23 ?_
      refine lv_if_eq (tgt := 75) (pc := 26) hx hb dX3_at_26 (by decide) (fun c_3 => ?_) (fun c_3 => ?_)
      · have hw := hw.1 c_3
        refine lv_iconst (v := (-1)) (pc := 75) hx hb dX3_at_75 (by decide) ?_
        exact W.iret (v := (-1)) hx hb hr (fun t ht hW => ⟨⟨(-1), (), rfl, hw, by rw [ht]; exact hP, va_K.moved hW.alike hK, hD⟩, hS.F ht⟩) hS.2.2 dX3_at_76
      · have hw := hw.2 c_3
        refine lv_aload_n (pc := 29) hx hb dX3_at_29 rfl (lv_at hl 0 rfl) ?_
        refine va_get (D := (dC, dI)) (ci := 3) (v := .ref h_M_machineOf) (C := RX3) (T := TX3) (N := 16) (pc := 30) hx hb hts hin_X3 hown hK hP 0 rfl rfl 3 (by decide) (hts (.fieldLink RX3 13 "JobShopModel" "machineOf" "[I") (by decide +kernel)) (fun _ h9 => h9) rfl dX3_at_30 ?_
        refine lv_iload_n (pc := 33) hx hb dX3_at_33 rfl (lv_at hl 3 rfl) ?_
        obtain ⟨b_4, hw⟩ := hw
        refine va_iald (pc := 34) hx hb hK hP 2 0 rfl rfl b_4 dX3_at_34 ?_
        refine lv_iload_n (pc := 35) hx hb dX3_at_35 rfl (lv_at hl 1 rfl) ?_
        refine lv_icmp_ne (tgt := 69) (pc := 36) hx hb dX3_at_36 (by decide) (fun c_5 => ?_) (fun c_5 => ?_)
        · have hw := hw.1 c_5
          refine lv_iinc (v := x3_14 + 1) (lv' := [(3, .int (x3_14 + 1)), (0, .ref h_M), (1, .int a0), (2, .int a1)]) (pc := 69) hx hb dX3_at_69 hl (k := 3) rfl rfl (by decide) rfl (fun ls hl => ?_)
          refine lv_goto (tgt := 14) (pc := 72) hx hb dX3_at_72 (by decide) ?_
          exact ih_14 (x3_14 + 1) _ _ _ hw.1 hw.2 ⟨hP, hD, hS, (lv_sub hl [1, 2, 3, 0] rfl)⟩
        · have hw := hw.2 c_5
          refine lv_iload_n (pc := 39) hx hb dX3_at_39 rfl (lv_at hl 2 rfl) ?_
          refine lv_aload_n (pc := 40) hx hb dX3_at_40 rfl (lv_at hl 0 rfl) ?_
          refine va_get (D := (dC, dI)) (ci := 3) (v := .ref h_M_starts) (C := RX3) (T := TX3) (N := 16) (pc := 41) hx hb hts hin_X3 hown hK hP 0 rfl rfl 8 (by decide) (hts (.fieldLink RX3 26 "JobShopModel" "starts" "[I") (by decide +kernel)) (fun _ h9 => h9) rfl dX3_at_41 ?_
          refine lv_iload_n (pc := 44) hx hb dX3_at_44 rfl (lv_at hl 3 rfl) ?_
          obtain ⟨b_6, hw⟩ := hw
          refine va_iald (pc := 45) hx hb hK hP 6 0 rfl rfl b_6 dX3_at_45 ?_
          refine lv_aload_n (pc := 46) hx hb dX3_at_46 rfl (lv_at hl 0 rfl) ?_
          refine va_get (D := (dC, dI)) (ci := 3) (v := .ref h_M_starts) (C := RX3) (T := TX3) (N := 16) (pc := 47) hx hb hts hin_X3 hown hK hP 0 rfl rfl 8 (by decide) (hts (.fieldLink RX3 26 "JobShopModel" "starts" "[I") (by decide +kernel)) (fun _ h9 => h9) rfl dX3_at_47 ?_
          refine lv_iload_n (pc := 50) hx hb dX3_at_50 rfl (lv_at hl 3 rfl) ?_
          obtain ⟨b_7, hw⟩ := hw
          refine va_iald (pc := 51) hx hb hK hP 6 0 rfl rfl b_7 dX3_at_51 ?_
          refine lv_aload_n (pc := 52) hx hb dX3_at_52 rfl (lv_at hl 0 rfl) ?_
          refine va_get (D := (dC, dI)) (ci := 3) (v := .ref h_M_durations) (C := RX3) (T := TX3) (N := 16) (pc := 53) hx hb hts hin_X3 hown hK hP 0 rfl rfl 4 (by decide) (hts (.fieldLink RX3 16 "JobShopModel" "durations" "[I") (by decide +kernel)) (fun _ h9 => h9) rfl dX3_at_53 ?_
          refine lv_iload_n (pc := 56) hx hb dX3_at_56 rfl (lv_at hl 3 rfl) ?_
          obtain ⟨b_8, hw⟩ := hw
          refine va_iald (pc := 57) hx hb hK hP 3 0 rfl rfl b_8 dX3_at_57 ?_
          refine lv_iadd (pc := 58) hx hb dX3_at_58 ?_
          refine lv_iconst (v := 1) (pc := 59) hx hb dX3_at_59 (by decide) ?_
          refine lv_isub (pc := 60) hx hb dX3_at_60 ?_
          have hPx : va_P (dC, dI) vwCl ([(h_M, .inr (3, [.int M_jobs, .int M_many, .ref h_M_jobOf, .ref h_M_machineOf, .ref h_M_durations, .ref h_M_arcs, .ref h_M_drafts, .int M_isPlanned, .ref h_M_starts, .int M_least, .int M_optima, .ref h_M_heads, .ref h_M_tails, .ref h_M_chosen, .ref h_M_orders, .ref h_M_sizes])), (h_M_jobOf, .inl (cI, 12, .inl M_jobOf)), (h_M_machineOf, .inl (cI, 12, .inl M_machineOf)), (h_M_durations, .inl (cI, 12, .inl M_durations)), (h_M_arcs, .inl (cZ, 144, .inl M_arcs)), (h_M_drafts, .inl (cI, 12, .inl M_drafts)), (h_M_starts, .inl (cI, 12, .inl M_starts)), (h_M_heads, .inl (cI, 12, .inl M_heads)), (h_M_tails, .inl (cI, 12, .inl M_tails)), (h_M_chosen, .inl (cZ, 144, .inl M_chosen)), (h_M_orders, .inl (cI, 16, .inl M_orders)), (h_M_sizes, .inl (cI, 4, .inl M_sizes))] ++ ([] : va_W)) H := hP
          have hDx : va_D A ([(h_M, .inr (3, [.int M_jobs, .int M_many, .ref h_M_jobOf, .ref h_M_machineOf, .ref h_M_durations, .ref h_M_arcs, .ref h_M_drafts, .int M_isPlanned, .ref h_M_starts, .int M_least, .int M_optima, .ref h_M_heads, .ref h_M_tails, .ref h_M_chosen, .ref h_M_orders, .ref h_M_sizes])), (h_M_jobOf, .inl (cI, 12, .inl M_jobOf)), (h_M_machineOf, .inl (cI, 12, .inl M_machineOf)), (h_M_durations, .inl (cI, 12, .inl M_durations)), (h_M_arcs, .inl (cZ, 144, .inl M_arcs)), (h_M_drafts, .inl (cI, 12, .inl M_drafts)), (h_M_starts, .inl (cI, 12, .inl M_starts)), (h_M_heads, .inl (cI, 12, .inl M_heads)), (h_M_tails, .inl (cI, 12, .inl M_tails)), (h_M_chosen, .inl (cZ, 144, .inl M_chosen)), (h_M_orders, .inl (cI, 16, .inl M_orders)), (h_M_sizes, .inl (cI, 4, .inl M_sizes))] ++ ([] : va_W)) := hD
          refine kc_i (pc := 61) (w1 := (fun u : Unit => ([] : va_W))) (va_runS (As := [.int a1, .int (M_starts x3_14.toNatClampNeg), .int (((M_starts x3_14.toNatClampNeg) + (M_durations x3_14.toNatClampNeg)) - 1)]) (rest := []) ⟨hx, hb, hml, hown, hts⟩ (c_X3_in l dC dI H.size  a1 (M_starts x3_14.toNatClampNeg) (((M_starts x3_14.toNatClampNeg) + (M_durations x3_14.toNatClampNeg)) - 1) _ hw) (va_cwS 3 hts gX3_at_X3_in rfl rfl rfl (by decide +kernel) ⟨Nat.le_of_ble_eq_true rfl, Nat.le_of_ble_eq_true rfl⟩) (kc_preS hK hPx hDx [] rfl) rfl rfl hl.1 rfl (lv_room (Nat.le_of_ble_eq_true rfl)) dX3_at_61 ⟨Nat.zero_le _, Nat.zero_le _⟩) hPx hDx hS hA (fun r_61 u H locs hw hP hD hS => ?_)
          have hP : va_P (dC, dI) vwCl (wM h_M h_M_jobOf h_M_machineOf h_M_durations h_M_arcs h_M_drafts h_M_starts h_M_heads h_M_tails h_M_chosen h_M_orders h_M_sizes cI cZ M_jobs M_many M_isPlanned M_least M_optima M_jobOf M_machineOf M_durations M_arcs M_drafts M_starts M_heads M_tails M_chosen M_orders M_sizes) H := hP
          have hD : va_D A (wM h_M h_M_jobOf h_M_machineOf h_M_durations h_M_arcs h_M_drafts h_M_starts h_M_heads h_M_tails h_M_chosen h_M_orders h_M_sizes cI cZ M_jobs M_many M_isPlanned M_least M_optima M_jobOf M_machineOf M_durations M_arcs M_drafts M_starts M_heads M_tails M_chosen M_orders M_sizes) := hD
          refine lv_if_eq (tgt := 69) (pc := 64) hx hb dX3_at_64 (by decide) (fun c_9 => ?_) (fun c_9 => ?_)
          · have hw := hw.1 c_9
            refine lv_iinc (v := x3_14 + 1) (lv' := [(3, .int (x3_14 + 1)), (0, .ref h_M), (1, .int a0), (2, .int a1)]) (pc := 69) hx hb dX3_at_69 hl (k := 3) rfl rfl (by decide) rfl (fun ls hl => ?_)
            refine lv_goto (tgt := 14) (pc := 72) hx hb dX3_at_72 (by decide) ?_
            exact ih_14 (x3_14 + 1) _ _ _ hw.1 hw.2 ⟨hP, hD, hS, (lv_sub hl [1, 2, 3, 0] rfl)⟩
          · have hw := hw.2 c_9
            refine lv_iload_n (pc := 67) hx hb dX3_at_67 rfl (lv_at hl 3 rfl) ?_
            exact W.iret (v := x3_14) hx hb hr (fun t ht hW => ⟨⟨x3_14, (), rfl, hw, by rw [ht]; exact hP, va_K.moved hW.alike hK, hD⟩, hS.F ht⟩) hS.2.2 dX3_at_68
  · have hw := hw.2 c_1
    refine lv_bipush (v := (-2)) (pc := 9) hx hb dX3_at_9 (by decide) ?_
    exact W.iret (v := (-2)) hx hb hr (fun t ht hW => ⟨⟨(-2), (), rfl, hw, by rw [ht]; exact hP, va_K.moved hW.alike hK, hD⟩, hS.F ht⟩) hS.2.2 dX3_at_11
set_option maxHeartbeats 4000000 in
set_option maxRecDepth 100000 in
theorem c_X3_draft (l : Launch) (dC : Nat → ClassId) (dI : Nat → Nat → Nat) (h_M h_M_jobOf h_M_machineOf h_M_durations h_M_arcs h_M_drafts h_M_starts h_M_heads h_M_tails h_M_chosen h_M_orders h_M_sizes : Nat) (sz : Nat) (cI cZ : ClassId) (M_jobs : Int32) (M_many : Int32) (M_isPlanned : Int32) (M_least : Int32) (M_optima : Int32) (M_jobOf : Nat → Int32) (M_machineOf : Nat → Int32) (M_durations : Nat → Int32) (M_arcs : Nat → Int32) (M_drafts : Nat → Int32) (M_starts : Nat → Int32) (M_heads : Nat → Int32) (M_tails : Nat → Int32) (M_chosen : Nat → Int32) (M_orders : Nat → Int32) (M_sizes : Nat → Int32) (a0 a1 : Int32) (post : Int32 → (Nat → Int32) → Prop) (hw : wp_X3_draft M_many M_drafts a0 a1 post) : Met l yX3_draft wsX3_draft ({ frames := 2, cells := 0, slots := 0, locals := 43 }) (va_Pc [.ref h_M, .int a0, .int a1] (fun U => U.heap.size = sz ∧ va_P (dC, dI) vwCl (wM h_M h_M_jobOf h_M_machineOf h_M_durations h_M_arcs h_M_drafts h_M_starts h_M_heads h_M_tails h_M_chosen h_M_orders h_M_sizes cI cZ M_jobs M_many M_isPlanned M_least M_optima M_jobOf M_machineOf M_durations M_arcs M_drafts M_starts M_heads M_tails M_chosen M_orders M_sizes) U.heap ∧ va_K (dC, dI) vwCl [(cI, .int), (cZ, .boolean)] U ∧ va_D (fun _ => True) (wM h_M h_M_jobOf h_M_machineOf h_M_durations h_M_arcs h_M_drafts h_M_starts h_M_heads h_M_tails h_M_chosen h_M_orders h_M_sizes cI cZ M_jobs M_many M_isPlanned M_least M_optima M_jobOf M_machineOf M_durations M_arcs M_drafts M_starts M_heads M_tails M_chosen M_orders M_sizes))) (va_Qi (fun (r : Int32) (u : Nat → Int32) => post r u) (fun u t => va_P (dC, dI) vwCl (wM h_M h_M_jobOf h_M_machineOf h_M_durations h_M_arcs h_M_drafts h_M_starts h_M_heads h_M_tails h_M_chosen h_M_orders h_M_sizes cI cZ M_jobs M_many M_isPlanned M_least M_optima M_jobOf M_machineOf M_durations M_arcs u M_starts M_heads M_tails M_chosen M_orders M_sizes) t.heap ∧ va_K (dC, dI) vwCl [(cI, .int), (cZ, .boolean)] t ∧ va_D (va_A (wM h_M h_M_jobOf h_M_machineOf h_M_durations h_M_arcs h_M_drafts h_M_starts h_M_heads h_M_tails h_M_chosen h_M_orders h_M_sizes cI cZ M_jobs M_many M_isPlanned M_least M_optima M_jobOf M_machineOf M_durations M_arcs M_drafts M_starts M_heads M_tails M_chosen M_orders M_sizes) sz) (wM h_M h_M_jobOf h_M_machineOf h_M_durations h_M_arcs h_M_drafts h_M_starts h_M_heads h_M_tails h_M_chosen h_M_orders h_M_sizes cI cZ M_jobs M_many M_isPlanned M_least M_optima M_jobOf M_machineOf M_durations M_arcs u M_starts M_heads M_tails M_chosen M_orders M_sizes)) (va_A (wM h_M h_M_jobOf h_M_machineOf h_M_durations h_M_arcs h_M_drafts h_M_starts h_M_heads h_M_tails h_M_chosen h_M_orders h_M_sizes cI cZ M_jobs M_many M_isPlanned M_least M_optima M_jobOf M_machineOf M_durations M_arcs M_drafts M_starts M_heads M_tails M_chosen M_orders M_sizes) sz)) 0 0 (va_A (wM h_M h_M_jobOf h_M_machineOf h_M_durations h_M_arcs h_M_drafts h_M_starts h_M_heads h_M_tails h_M_chosen h_M_orders h_M_sizes cI cZ M_jobs M_many M_isPlanned M_least M_optima M_jobOf M_machineOf M_durations M_arcs M_drafts M_starts M_heads M_tails M_chosen M_orders M_sizes) sz) := by
  refine Met.ofW (cc := cX3_draft) (maxL := 4) (ret := (some .int)) (by decide) rfl ?_
  intro p e s m args below meth c s₁ B hml hv
  obtain ⟨rfl, hsz, hP, hK, hD0⟩ := hv
  have hx := B.exec
  have hb := B.bytes
  have hr := B.returns
  have hts := atoms_spec (ws := wsX3_draft) B.pre
  have hown : s.vm.findClass RX3 = some m.cls := findClass_of_methodNamed B.named
  have hlocks := B.notSynchronized
  subst hsz
  have hD := hD0.self (sz := s.heap.size)
  generalize hAe : va_A (wM h_M h_M_jobOf h_M_machineOf h_M_durations h_M_arcs h_M_drafts h_M_starts h_M_heads h_M_tails h_M_chosen h_M_orders h_M_sizes cI cZ M_jobs M_many M_isPlanned M_least M_optima M_jobOf M_machineOf M_durations M_arcs M_drafts M_starts M_heads M_tails M_chosen M_orders M_sizes) s.heap.size = A at hD ⊢
  have hA : ∀ q : Nat, s.heap.size ≤ q → A q := fun q h => by rw [← hAe]; exact Or.inr h
  have hS : va_S A s.heap s.heap [] := va_S.rf
  have hP : va_P (dC, dI) vwCl (wM h_M h_M_jobOf h_M_machineOf h_M_durations h_M_arcs h_M_drafts h_M_starts h_M_heads h_M_tails h_M_chosen h_M_orders h_M_sizes cI cZ M_jobs M_many M_isPlanned M_least M_optima M_jobOf M_machineOf M_durations M_arcs M_drafts M_starts M_heads M_tails M_chosen M_orders M_sizes) s.heap := hP
  have hl := lv_entry ([.ref h_M, .int a0, .int a1]) (n := 4) (Nat.le_of_ble_eq_true rfl)
  rw [lg_entry_eq]
  generalize (lg_sl ([.ref h_M, .int a0, .int a1]) ++ List.replicate (4 - (lg_sl ([.ref h_M, .int a0, .int a1])).length) Slot.unset).toArray = ls at hl ⊢
  have hl : lv_has ls 4 [(0, .ref h_M), (1, .int a0), (2, .int a1)] := hl
  obtain ⟨H, hH⟩ : ∃ H, H = s.heap := ⟨_, rfl⟩
  rw [← hH] at hP
  have hS : va_S A s.heap H [] := by rw [hH]; exact hS
  refine W_heap hH ?_
  unfold wp_X3_draft at hw
  have hin_X3 : ∀ w ∈ u_ws RX3 TX3 16, w ∈ wsX3_draft := by decide +kernel
  refine lv_aload_n (pc := 0) hx hb dX3_draft_0 rfl (lv_at hl 0 rfl) ?_
  refine lv_iload_n (pc := 1) hx hb dX3_draft_1 rfl (lv_at hl 1 rfl) ?_
  have hPx : va_P (dC, dI) vwCl ([] ++ (wM h_M h_M_jobOf h_M_machineOf h_M_durations h_M_arcs h_M_drafts h_M_starts h_M_heads h_M_tails h_M_chosen h_M_orders h_M_sizes cI cZ M_jobs M_many M_isPlanned M_least M_optima M_jobOf M_machineOf M_durations M_arcs M_drafts M_starts M_heads M_tails M_chosen M_orders M_sizes)) H := hP
  have hDx : va_D A ([] ++ (wM h_M h_M_jobOf h_M_machineOf h_M_durations h_M_arcs h_M_drafts h_M_starts h_M_heads h_M_tails h_M_chosen h_M_orders h_M_sizes cI cZ M_jobs M_many M_isPlanned M_least M_optima M_jobOf M_machineOf M_durations M_arcs M_drafts M_starts M_heads M_tails M_chosen M_orders M_sizes)) := hD
  refine kc_i (pc := 2) (w1 := (fun u : Unit => (wM h_M h_M_jobOf h_M_machineOf h_M_durations h_M_arcs h_M_drafts h_M_starts h_M_heads h_M_tails h_M_chosen h_M_orders h_M_sizes cI cZ M_jobs M_many M_isPlanned M_least M_optima M_jobOf M_machineOf M_durations M_arcs M_drafts M_starts M_heads M_tails M_chosen M_orders M_sizes))) (va_runV (As := [.int a0]) (rest := []) ⟨hx, hb, hml, hown, hts⟩ (c_X3_isOperation l dC dI h_M h_M_jobOf h_M_machineOf h_M_durations h_M_arcs h_M_drafts h_M_starts h_M_heads h_M_tails h_M_chosen h_M_orders h_M_sizes H.size cI cZ M_jobs M_many M_isPlanned M_least M_optima M_jobOf M_machineOf M_durations M_arcs M_drafts M_starts M_heads M_tails M_chosen M_orders M_sizes a0 _ hw) (cwV 1 hts gX3_draft_X3_isOperation rfl rfl rfl (by decide +kernel) ⟨Nat.le_of_ble_eq_true rfl, Nat.le_of_ble_eq_true rfl⟩) (kc_preVM (q0 := 0) (ci := 3) hK hPx hDx [0, 1] rfl rfl rfl) rfl rfl hl.1 rfl (lv_room (Nat.le_of_ble_eq_true rfl)) dX3_draft_2 ⟨Nat.zero_le _, Nat.zero_le _⟩) hPx hDx hS hA (fun r_2 u H locs hw hP hD hS => ?_)
  have hP : va_P (dC, dI) vwCl (wM h_M h_M_jobOf h_M_machineOf h_M_durations h_M_arcs h_M_drafts h_M_starts h_M_heads h_M_tails h_M_chosen h_M_orders h_M_sizes cI cZ M_jobs M_many M_isPlanned M_least M_optima M_jobOf M_machineOf M_durations M_arcs M_drafts M_starts M_heads M_tails M_chosen M_orders M_sizes) H := hP
  have hD : va_D A (wM h_M h_M_jobOf h_M_machineOf h_M_durations h_M_arcs h_M_drafts h_M_starts h_M_heads h_M_tails h_M_chosen h_M_orders h_M_sizes cI cZ M_jobs M_many M_isPlanned M_least M_optima M_jobOf M_machineOf M_durations M_arcs M_drafts M_starts M_heads M_tails M_chosen M_orders M_sizes) := hD
  refine lv_if_eq (tgt := 19) (pc := 5) hx hb dX3_draft_5 (by decide) (fun c_1 => ?_) (fun c_1 => ?_)
  · have hw := hw.1 c_1
    refine lv_bipush (v := (-2)) (pc := 19) hx hb dX3_draft_19 (by decide) ?_
    exact W.iret (v := (-2)) hx hb hr (fun t ht hW => ⟨⟨(-2), M_drafts, rfl, hw, by rw [ht]; exact hP, va_K.moved hW.alike hK, hD⟩, hS.F ht⟩) hS.2.2 dX3_draft_21
  · have hw := hw.2 c_1
    refine lv_iload_n (pc := 8) hx hb dX3_draft_8 rfl (lv_at hl 2 rfl) ?_
    refine lv_iconst (v := 0) (pc := 9) hx hb dX3_draft_9 (by decide) ?_
    refine lv_sipush (v := 1000) (pc := 10) hx hb dX3_draft_10 (by decide) ?_
    have hPx : va_P (dC, dI) vwCl ([(h_M, .inr (3, [.int M_jobs, .int M_many, .ref h_M_jobOf, .ref h_M_machineOf, .ref h_M_durations, .ref h_M_arcs, .ref h_M_drafts, .int M_isPlanned, .ref h_M_starts, .int M_least, .int M_optima, .ref h_M_heads, .ref h_M_tails, .ref h_M_chosen, .ref h_M_orders, .ref h_M_sizes])), (h_M_jobOf, .inl (cI, 12, .inl M_jobOf)), (h_M_machineOf, .inl (cI, 12, .inl M_machineOf)), (h_M_durations, .inl (cI, 12, .inl M_durations)), (h_M_arcs, .inl (cZ, 144, .inl M_arcs)), (h_M_drafts, .inl (cI, 12, .inl M_drafts)), (h_M_starts, .inl (cI, 12, .inl M_starts)), (h_M_heads, .inl (cI, 12, .inl M_heads)), (h_M_tails, .inl (cI, 12, .inl M_tails)), (h_M_chosen, .inl (cZ, 144, .inl M_chosen)), (h_M_orders, .inl (cI, 16, .inl M_orders)), (h_M_sizes, .inl (cI, 4, .inl M_sizes))] ++ ([] : va_W)) H := hP
    have hDx : va_D A ([(h_M, .inr (3, [.int M_jobs, .int M_many, .ref h_M_jobOf, .ref h_M_machineOf, .ref h_M_durations, .ref h_M_arcs, .ref h_M_drafts, .int M_isPlanned, .ref h_M_starts, .int M_least, .int M_optima, .ref h_M_heads, .ref h_M_tails, .ref h_M_chosen, .ref h_M_orders, .ref h_M_sizes])), (h_M_jobOf, .inl (cI, 12, .inl M_jobOf)), (h_M_machineOf, .inl (cI, 12, .inl M_machineOf)), (h_M_durations, .inl (cI, 12, .inl M_durations)), (h_M_arcs, .inl (cZ, 144, .inl M_arcs)), (h_M_drafts, .inl (cI, 12, .inl M_drafts)), (h_M_starts, .inl (cI, 12, .inl M_starts)), (h_M_heads, .inl (cI, 12, .inl M_heads)), (h_M_tails, .inl (cI, 12, .inl M_tails)), (h_M_chosen, .inl (cZ, 144, .inl M_chosen)), (h_M_orders, .inl (cI, 16, .inl M_orders)), (h_M_sizes, .inl (cI, 4, .inl M_sizes))] ++ ([] : va_W)) := hD
    refine kc_i (pc := 13) (w1 := (fun u : Unit => ([] : va_W))) (va_runS (As := [.int a1, .int 0, .int 1000]) (rest := []) ⟨hx, hb, hml, hown, hts⟩ (c_X3_in l dC dI H.size  a1 0 1000 _ hw) (va_cwS 3 hts gX3_draft_X3_in rfl rfl rfl (by decide +kernel) ⟨Nat.le_of_ble_eq_true rfl, Nat.le_of_ble_eq_true rfl⟩) (kc_preS hK hPx hDx [] rfl) rfl rfl hl.1 rfl (lv_room (Nat.le_of_ble_eq_true rfl)) dX3_draft_13 ⟨Nat.zero_le _, Nat.zero_le _⟩) hPx hDx hS hA (fun r_13 u H locs hw hP hD hS => ?_)
    have hP : va_P (dC, dI) vwCl (wM h_M h_M_jobOf h_M_machineOf h_M_durations h_M_arcs h_M_drafts h_M_starts h_M_heads h_M_tails h_M_chosen h_M_orders h_M_sizes cI cZ M_jobs M_many M_isPlanned M_least M_optima M_jobOf M_machineOf M_durations M_arcs M_drafts M_starts M_heads M_tails M_chosen M_orders M_sizes) H := hP
    have hD : va_D A (wM h_M h_M_jobOf h_M_machineOf h_M_durations h_M_arcs h_M_drafts h_M_starts h_M_heads h_M_tails h_M_chosen h_M_orders h_M_sizes cI cZ M_jobs M_many M_isPlanned M_least M_optima M_jobOf M_machineOf M_durations M_arcs M_drafts M_starts M_heads M_tails M_chosen M_orders M_sizes) := hD
    refine lv_if_ne (tgt := 22) (pc := 16) hx hb dX3_draft_16 (by decide) (fun c_2 => ?_) (fun c_2 => ?_)
    · have hw := hw.1 c_2
      refine lv_aload_n (pc := 22) hx hb dX3_draft_22 rfl (lv_at hl 0 rfl) ?_
      refine va_get (D := (dC, dI)) (ci := 3) (v := .ref h_M_drafts) (C := RX3) (T := TX3) (N := 16) (pc := 23) hx hb hts hin_X3 hown hK hP 0 rfl rfl 6 (by decide) (hts (.fieldLink RX3 23 "JobShopModel" "drafts" "[I") (by decide +kernel)) (fun _ h9 => h9) rfl dX3_draft_23 ?_
      refine lv_iload_n (pc := 26) hx hb dX3_draft_26 rfl (lv_at hl 1 rfl) ?_
      obtain ⟨b_3, hw⟩ := hw
      refine va_iald (pc := 27) hx hb hK hP 5 0 rfl rfl b_3 dX3_draft_27 ?_
      refine lv_istore_n (lv' := [(3, .int (M_drafts a0.toNatClampNeg)), (0, .ref h_M), (1, .int a0), (2, .int a1)]) (pc := 28) hx hb dX3_draft_28 rfl hl (by decide) rfl (fun ls hl => ?_)
      refine lv_aload_n (pc := 29) hx hb dX3_draft_29 rfl (lv_at hl 1 rfl) ?_
      refine va_get (D := (dC, dI)) (ci := 3) (v := .ref h_M_drafts) (C := RX3) (T := TX3) (N := 16) (pc := 30) hx hb hts hin_X3 hown hK hP 0 rfl rfl 6 (by decide) (hts (.fieldLink RX3 23 "JobShopModel" "drafts" "[I") (by decide +kernel)) (fun _ h9 => h9) rfl dX3_draft_30 ?_
      refine lv_iload_n (pc := 33) hx hb dX3_draft_33 rfl (lv_at hl 2 rfl) ?_
      refine lv_iload_n (pc := 34) hx hb dX3_draft_34 rfl (lv_at hl 3 rfl) ?_
      obtain ⟨b_4, hw⟩ := hw
      refine va_iast (pc := 35) hx hb hK hP hD hS 5 0 rfl rfl b_4 dX3_draft_35 (fun H locs hP hD hS => ?_)
      have hP : va_P (dC, dI) vwCl (wM h_M h_M_jobOf h_M_machineOf h_M_durations h_M_arcs h_M_drafts h_M_starts h_M_heads h_M_tails h_M_chosen h_M_orders h_M_sizes cI cZ M_jobs M_many M_isPlanned M_least M_optima M_jobOf M_machineOf M_durations M_arcs (upd M_drafts a0.toNatClampNeg a1) M_starts M_heads M_tails M_chosen M_orders M_sizes) H := hP
      have hD : va_D A (wM h_M h_M_jobOf h_M_machineOf h_M_durations h_M_arcs h_M_drafts h_M_starts h_M_heads h_M_tails h_M_chosen h_M_orders h_M_sizes cI cZ M_jobs M_many M_isPlanned M_least M_optima M_jobOf M_machineOf M_durations M_arcs (upd M_drafts a0.toNatClampNeg a1) M_starts M_heads M_tails M_chosen M_orders M_sizes) := hD
      refine lv_iload_n (pc := 36) hx hb dX3_draft_36 rfl (lv_at hl 0 rfl) ?_
      exact W.iret (v := (M_drafts a0.toNatClampNeg)) hx hb hr (fun t ht hW => ⟨⟨(M_drafts a0.toNatClampNeg), (upd M_drafts a0.toNatClampNeg a1), rfl, hw, by rw [ht]; exact hP, va_K.moved hW.alike hK, hD⟩, hS.F ht⟩) hS.2.2 dX3_draft_37
    · have hw := hw.2 c_2
      refine lv_bipush (v := (-2)) (pc := 19) hx hb dX3_draft_19 (by decide) ?_
      exact W.iret (v := (-2)) hx hb hr (fun t ht hW => ⟨⟨(-2), M_drafts, rfl, hw, by rw [ht]; exact hP, va_K.moved hW.alike hK, hD⟩, hS.F ht⟩) hS.2.2 dX3_draft_21
set_option maxHeartbeats 4000000 in
set_option maxRecDepth 100000 in
theorem c_X3_isOverBehind (l : Launch) (dC : Nat → ClassId) (dI : Nat → Nat → Nat) (h_M h_M_jobOf h_M_machineOf h_M_durations h_M_arcs h_M_drafts h_M_starts h_M_heads h_M_tails h_M_chosen h_M_orders h_M_sizes : Nat) (sz : Nat) (cI cZ : ClassId) (M_jobs : Int32) (M_many : Int32) (M_isPlanned : Int32) (M_least : Int32) (M_optima : Int32) (M_jobOf : Nat → Int32) (M_machineOf : Nat → Int32) (M_durations : Nat → Int32) (M_arcs : Nat → Int32) (M_drafts : Nat → Int32) (M_starts : Nat → Int32) (M_heads : Nat → Int32) (M_tails : Nat → Int32) (M_chosen : Nat → Int32) (M_orders : Nat → Int32) (M_sizes : Nat → Int32) (a0 : Int32) (post : Int32 → Prop) (hw : wp_X3_isOverBehind M_many M_jobOf M_durations M_arcs M_drafts a0 post) : Met l yX3_isOverBehind wsX3_isOverBehind ({ frames := 2, cells := 0, slots := 0, locals := 45 }) (va_Pc [.ref h_M, .int a0] (fun U => U.heap.size = sz ∧ va_P (dC, dI) vwCl (wM h_M h_M_jobOf h_M_machineOf h_M_durations h_M_arcs h_M_drafts h_M_starts h_M_heads h_M_tails h_M_chosen h_M_orders h_M_sizes cI cZ M_jobs M_many M_isPlanned M_least M_optima M_jobOf M_machineOf M_durations M_arcs M_drafts M_starts M_heads M_tails M_chosen M_orders M_sizes) U.heap ∧ va_K (dC, dI) vwCl [(cI, .int), (cZ, .boolean)] U ∧ va_D (fun _ => True) (wM h_M h_M_jobOf h_M_machineOf h_M_durations h_M_arcs h_M_drafts h_M_starts h_M_heads h_M_tails h_M_chosen h_M_orders h_M_sizes cI cZ M_jobs M_many M_isPlanned M_least M_optima M_jobOf M_machineOf M_durations M_arcs M_drafts M_starts M_heads M_tails M_chosen M_orders M_sizes))) (va_Qi (fun (r : Int32) (u : Unit) => post r ) (fun u t => va_P (dC, dI) vwCl (wM h_M h_M_jobOf h_M_machineOf h_M_durations h_M_arcs h_M_drafts h_M_starts h_M_heads h_M_tails h_M_chosen h_M_orders h_M_sizes cI cZ M_jobs M_many M_isPlanned M_least M_optima M_jobOf M_machineOf M_durations M_arcs M_drafts M_starts M_heads M_tails M_chosen M_orders M_sizes) t.heap ∧ va_K (dC, dI) vwCl [(cI, .int), (cZ, .boolean)] t ∧ va_D (va_A (wM h_M h_M_jobOf h_M_machineOf h_M_durations h_M_arcs h_M_drafts h_M_starts h_M_heads h_M_tails h_M_chosen h_M_orders h_M_sizes cI cZ M_jobs M_many M_isPlanned M_least M_optima M_jobOf M_machineOf M_durations M_arcs M_drafts M_starts M_heads M_tails M_chosen M_orders M_sizes) sz) (wM h_M h_M_jobOf h_M_machineOf h_M_durations h_M_arcs h_M_drafts h_M_starts h_M_heads h_M_tails h_M_chosen h_M_orders h_M_sizes cI cZ M_jobs M_many M_isPlanned M_least M_optima M_jobOf M_machineOf M_durations M_arcs M_drafts M_starts M_heads M_tails M_chosen M_orders M_sizes)) (va_A (wM h_M h_M_jobOf h_M_machineOf h_M_durations h_M_arcs h_M_drafts h_M_starts h_M_heads h_M_tails h_M_chosen h_M_orders h_M_sizes cI cZ M_jobs M_many M_isPlanned M_least M_optima M_jobOf M_machineOf M_durations M_arcs M_drafts M_starts M_heads M_tails M_chosen M_orders M_sizes) sz)) 0 0 (va_A (wM h_M h_M_jobOf h_M_machineOf h_M_durations h_M_arcs h_M_drafts h_M_starts h_M_heads h_M_tails h_M_chosen h_M_orders h_M_sizes cI cZ M_jobs M_many M_isPlanned M_least M_optima M_jobOf M_machineOf M_durations M_arcs M_drafts M_starts M_heads M_tails M_chosen M_orders M_sizes) sz) := by
  refine Met.ofW (cc := cX3_isOverBehind) (maxL := 3) (ret := (some .boolean)) (by decide) rfl ?_
  intro p e s m args below meth c s₁ B hml hv
  obtain ⟨rfl, hsz, hP, hK, hD0⟩ := hv
  have hx := B.exec
  have hb := B.bytes
  have hr := B.returns
  have hts := atoms_spec (ws := wsX3_isOverBehind) B.pre
  have hown : s.vm.findClass RX3 = some m.cls := findClass_of_methodNamed B.named
  have hlocks := B.notSynchronized
  subst hsz
  have hD := hD0.self (sz := s.heap.size)
  generalize hAe : va_A (wM h_M h_M_jobOf h_M_machineOf h_M_durations h_M_arcs h_M_drafts h_M_starts h_M_heads h_M_tails h_M_chosen h_M_orders h_M_sizes cI cZ M_jobs M_many M_isPlanned M_least M_optima M_jobOf M_machineOf M_durations M_arcs M_drafts M_starts M_heads M_tails M_chosen M_orders M_sizes) s.heap.size = A at hD ⊢
  have hA : ∀ q : Nat, s.heap.size ≤ q → A q := fun q h => by rw [← hAe]; exact Or.inr h
  have hS : va_S A s.heap s.heap [] := va_S.rf
  have hP : va_P (dC, dI) vwCl (wM h_M h_M_jobOf h_M_machineOf h_M_durations h_M_arcs h_M_drafts h_M_starts h_M_heads h_M_tails h_M_chosen h_M_orders h_M_sizes cI cZ M_jobs M_many M_isPlanned M_least M_optima M_jobOf M_machineOf M_durations M_arcs M_drafts M_starts M_heads M_tails M_chosen M_orders M_sizes) s.heap := hP
  have hl := lv_entry ([.ref h_M, .int a0]) (n := 3) (Nat.le_of_ble_eq_true rfl)
  rw [lg_entry_eq]
  generalize (lg_sl ([.ref h_M, .int a0]) ++ List.replicate (3 - (lg_sl ([.ref h_M, .int a0])).length) Slot.unset).toArray = ls at hl ⊢
  have hl : lv_has ls 3 [(0, .ref h_M), (1, .int a0)] := hl
  obtain ⟨H, hH⟩ : ∃ H, H = s.heap := ⟨_, rfl⟩
  rw [← hH] at hP
  have hS : va_S A s.heap H [] := by rw [hH]; exact hS
  refine W_heap hH ?_
  unfold wp_X3_isOverBehind at hw
  have hin_X3 : ∀ w ∈ u_ws RX3 TX3 16, w ∈ wsX3_isOverBehind := by decide +kernel
  refine lv_iconst (v := 0) (pc := 0) hx hb dX3_isOverBehind_0 (by decide) ?_
  refine lv_istore_n (lv' := [(2, .int 0), (0, .ref h_M), (1, .int a0)]) (pc := 1) hx hb dX3_isOverBehind_1 rfl hl (by decide) rfl (fun ls hl => ?_)
  obtain ⟨I_2, μ_2, hI_2, hs_2⟩ := hw
  refine lp_W (I := fun z : Int32 => I_2 z) (fun z => μ_2 z) (fun (z : Int32) H locs ls => va_P (dC, dI) vwCl (wM h_M h_M_jobOf h_M_machineOf h_M_durations h_M_arcs h_M_drafts h_M_starts h_M_heads h_M_tails h_M_chosen h_M_orders h_M_sizes cI cZ M_jobs M_many M_isPlanned M_least M_optima M_jobOf M_machineOf M_durations M_arcs M_drafts M_starts M_heads M_tails M_chosen M_orders M_sizes) H ∧ va_D A (wM h_M h_M_jobOf h_M_machineOf h_M_durations h_M_arcs h_M_drafts h_M_starts h_M_heads h_M_tails h_M_chosen h_M_orders h_M_sizes cI cZ M_jobs M_many M_isPlanned M_least M_optima M_jobOf M_machineOf M_durations M_arcs M_drafts M_starts M_heads M_tails M_chosen M_orders M_sizes) ∧ va_S A s.heap H locs ∧ lv_has ls 3 [(0, .ref h_M), (1, .int a0), (2, .int z)]) ?_ 0 _ _ _ hI_2 ⟨hP, hD, hS, (lv_sub hl [1, 2, 0] rfl)⟩
  rintro x2_2 H locs ls hI ⟨hP, hD, hS, hl⟩ ih_2
  have hw := hs_2 x2_2 hI
  have hP : va_P (dC, dI) vwCl (wM h_M h_M_jobOf h_M_machineOf h_M_durations h_M_arcs h_M_drafts h_M_starts h_M_heads h_M_tails h_M_chosen h_M_orders h_M_sizes cI cZ M_jobs M_many M_isPlanned M_least M_optima M_jobOf M_machineOf M_durations M_arcs M_drafts M_starts M_heads M_tails M_chosen M_orders M_sizes) H := hP
  have hD : va_D A (wM h_M h_M_jobOf h_M_machineOf h_M_durations h_M_arcs h_M_drafts h_M_starts h_M_heads h_M_tails h_M_chosen h_M_orders h_M_sizes cI cZ M_jobs M_many M_isPlanned M_least M_optima M_jobOf M_machineOf M_durations M_arcs M_drafts M_starts M_heads M_tails M_chosen M_orders M_sizes) := hD
  have hl : lv_has ls 3 [(0, .ref h_M), (1, .int a0), (2, .int x2_2)] := hl
  refine lv_iload_n (pc := 2) hx hb dX3_isOverBehind_2 rfl (lv_at hl 2 rfl) ?_
  refine lv_aload_n (pc := 3) hx hb dX3_isOverBehind_3 rfl (lv_at hl 0 rfl) ?_
  refine va_get (D := (dC, dI)) (ci := 3) (v := .int M_many) (C := RX3) (T := TX3) (N := 16) (pc := 4) hx hb hts hin_X3 hown hK hP 0 rfl rfl 1 (by decide) (hts (.fieldLink RX3 48 "JobShopModel" "many" "I") (by decide +kernel)) (fun _ h9 => h9) rfl dX3_isOverBehind_4 ?_
  refine lv_icmp_ge (tgt := 53) (pc := 7) hx hb dX3_isOverBehind_7 (by decide) (fun c_1 => ?_) (fun c_1 => ?_)
  · have hw := hw.1 c_1
    refine lv_iconst (v := 0) (pc := 53) hx hb dX3_isOverBehind_53 (by decide) ?_
    exact W.zret (v := 0) hx hb hr rfl (fun t ht hW => ⟨⟨0, (), rfl, hw, by rw [ht]; exact hP, va_K.moved hW.alike hK, hD⟩, hS.F ht⟩) hS.2.2 dX3_isOverBehind_54
  · have hw := hw.2 c_1
    refine lv_aload_n (pc := 10) hx hb dX3_isOverBehind_10 rfl (lv_at hl 0 rfl) ?_
    refine lv_aload_n (pc := 11) hx hb dX3_isOverBehind_11 rfl (lv_at hl 0 rfl) ?_
    refine va_get (D := (dC, dI)) (ci := 3) (v := .ref h_M_arcs) (C := RX3) (T := TX3) (N := 16) (pc := 12) hx hb hts hin_X3 hown hK hP 0 rfl rfl 5 (by decide) (hts (.fieldLink RX3 19 "JobShopModel" "arcs" "[Z") (by decide +kernel)) (fun _ h9 => h9) rfl dX3_isOverBehind_12 ?_
    refine lv_iload_n (pc := 15) hx hb dX3_isOverBehind_15 rfl (lv_at hl 1 rfl) ?_
    refine lv_iload_n (pc := 16) hx hb dX3_isOverBehind_16 rfl (lv_at hl 2 rfl) ?_
    have hPx : va_P (dC, dI) vwCl ([] ++ (wM h_M h_M_jobOf h_M_machineOf h_M_durations h_M_arcs h_M_drafts h_M_starts h_M_heads h_M_tails h_M_chosen h_M_orders h_M_sizes cI cZ M_jobs M_many M_isPlanned M_least M_optima M_jobOf M_machineOf M_durations M_arcs M_drafts M_starts M_heads M_tails M_chosen M_orders M_sizes)) H := hP
    have hDx : va_D A ([] ++ (wM h_M h_M_jobOf h_M_machineOf h_M_durations h_M_arcs h_M_drafts h_M_starts h_M_heads h_M_tails h_M_chosen h_M_orders h_M_sizes cI cZ M_jobs M_many M_isPlanned M_least M_optima M_jobOf M_machineOf M_durations M_arcs M_drafts M_starts M_heads M_tails M_chosen M_orders M_sizes)) := hD
    refine kc_i (pc := 17) (w1 := (fun u : Unit => (wM h_M h_M_jobOf h_M_machineOf h_M_durations h_M_arcs h_M_drafts h_M_starts h_M_heads h_M_tails h_M_chosen h_M_orders h_M_sizes cI cZ M_jobs M_many M_isPlanned M_least M_optima M_jobOf M_machineOf M_durations M_arcs M_drafts M_starts M_heads M_tails M_chosen M_orders M_sizes))) (va_runV (As := [.ref h_M_arcs, .int a0, .int x2_2]) (rest := []) ⟨hx, hb, hml, hown, hts⟩ (c_X3_leads_a l dC dI h_M h_M_jobOf h_M_machineOf h_M_durations h_M_arcs h_M_drafts h_M_starts h_M_heads h_M_tails h_M_chosen h_M_orders h_M_sizes H.size cI cZ M_jobs M_many M_isPlanned M_least M_optima M_jobOf M_machineOf M_durations M_arcs M_drafts M_starts M_heads M_tails M_chosen M_orders M_sizes a0 x2_2 _ hw) (cwV 3 hts gX3_isOverBehind_X3_leads rfl rfl rfl (by decide +kernel) ⟨Nat.le_of_ble_eq_true rfl, Nat.le_of_ble_eq_true rfl⟩) (kc_preVM (q0 := 0) (ci := 3) hK hPx hDx [0, 1] rfl rfl rfl) rfl rfl hl.1 rfl (lv_room (Nat.le_of_ble_eq_true rfl)) dX3_isOverBehind_17 ⟨Nat.zero_le _, Nat.zero_le _⟩) hPx hDx hS hA (fun r_17 u H locs hw hP hD hS => ?_)
    have hP : va_P (dC, dI) vwCl (wM h_M h_M_jobOf h_M_machineOf h_M_durations h_M_arcs h_M_drafts h_M_starts h_M_heads h_M_tails h_M_chosen h_M_orders h_M_sizes cI cZ M_jobs M_many M_isPlanned M_least M_optima M_jobOf M_machineOf M_durations M_arcs M_drafts M_starts M_heads M_tails M_chosen M_orders M_sizes) H := hP
    have hD : va_D A (wM h_M h_M_jobOf h_M_machineOf h_M_durations h_M_arcs h_M_drafts h_M_starts h_M_heads h_M_tails h_M_chosen h_M_orders h_M_sizes cI cZ M_jobs M_many M_isPlanned M_least M_optima M_jobOf M_machineOf M_durations M_arcs M_drafts M_starts M_heads M_tails M_chosen M_orders M_sizes) := hD
    refine lv_if_eq (tgt := 47) (pc := 20) hx hb dX3_isOverBehind_20 (by decide) (fun c_2 => ?_) (fun c_2 => ?_)
    · have hw := hw.1 c_2
      refine lv_iinc (v := x2_2 + 1) (lv' := [(2, .int (x2_2 + 1)), (0, .ref h_M), (1, .int a0)]) (pc := 47) hx hb dX3_isOverBehind_47 hl (k := 2) rfl rfl (by decide) rfl (fun ls hl => ?_)
      refine lv_goto (tgt := 2) (pc := 50) hx hb dX3_isOverBehind_50 (by decide) ?_
      exact ih_2 (x2_2 + 1) _ _ _ hw.1 hw.2 ⟨hP, hD, hS, (lv_sub hl [1, 2, 0] rfl)⟩
    · have hw := hw.2 c_2
      refine lv_aload_n (pc := 23) hx hb dX3_isOverBehind_23 rfl (lv_at hl 0 rfl) ?_
      refine va_get (D := (dC, dI)) (ci := 3) (v := .ref h_M_drafts) (C := RX3) (T := TX3) (N := 16) (pc := 24) hx hb hts hin_X3 hown hK hP 0 rfl rfl 6 (by decide) (hts (.fieldLink RX3 23 "JobShopModel" "drafts" "[I") (by decide +kernel)) (fun _ h9 => h9) rfl dX3_isOverBehind_24 ?_
      refine lv_iload_n (pc := 27) hx hb dX3_isOverBehind_27 rfl (lv_at hl 1 rfl) ?_
      obtain ⟨b_3, hw⟩ := hw
      refine va_iald (pc := 28) hx hb hK hP 5 0 rfl rfl b_3 dX3_isOverBehind_28 ?_
      refine lv_aload_n (pc := 29) hx hb dX3_isOverBehind_29 rfl (lv_at hl 0 rfl) ?_
      refine va_get (D := (dC, dI)) (ci := 3) (v := .ref h_M_durations) (C := RX3) (T := TX3) (N := 16) (pc := 30) hx hb hts hin_X3 hown hK hP 0 rfl rfl 4 (by decide) (hts (.fieldLink RX3 16 "JobShopModel" "durations" "[I") (by decide +kernel)) (fun _ h9 => h9) rfl dX3_isOverBehind_30 ?_
      refine lv_iload_n (pc := 33) hx hb dX3_isOverBehind_33 rfl (lv_at hl 1 rfl) ?_
      obtain ⟨b_4, hw⟩ := hw
      refine va_iald (pc := 34) hx hb hK hP 3 0 rfl rfl b_4 dX3_isOverBehind_34 ?_
      refine lv_iadd (pc := 35) hx hb dX3_isOverBehind_35 ?_
      refine lv_aload_n (pc := 36) hx hb dX3_isOverBehind_36 rfl (lv_at hl 0 rfl) ?_
      refine va_get (D := (dC, dI)) (ci := 3) (v := .ref h_M_drafts) (C := RX3) (T := TX3) (N := 16) (pc := 37) hx hb hts hin_X3 hown hK hP 0 rfl rfl 6 (by decide) (hts (.fieldLink RX3 23 "JobShopModel" "drafts" "[I") (by decide +kernel)) (fun _ h9 => h9) rfl dX3_isOverBehind_37 ?_
      refine lv_iload_n (pc := 40) hx hb dX3_isOverBehind_40 rfl (lv_at hl 2 rfl) ?_
      obtain ⟨b_5, hw⟩ := hw
      refine va_iald (pc := 41) hx hb hK hP 5 0 rfl rfl b_5 dX3_isOverBehind_41 ?_
      refine lv_icmp_le (tgt := 47) (pc := 42) hx hb dX3_isOverBehind_42 (by decide) (fun c_6 => ?_) (fun c_6 => ?_)
      · have hw := hw.1 c_6
        refine lv_iinc (v := x2_2 + 1) (lv' := [(2, .int (x2_2 + 1)), (0, .ref h_M), (1, .int a0)]) (pc := 47) hx hb dX3_isOverBehind_47 hl (k := 2) rfl rfl (by decide) rfl (fun ls hl => ?_)
        refine lv_goto (tgt := 2) (pc := 50) hx hb dX3_isOverBehind_50 (by decide) ?_
        exact ih_2 (x2_2 + 1) _ _ _ hw.1 hw.2 ⟨hP, hD, hS, (lv_sub hl [1, 2, 0] rfl)⟩
      · have hw := hw.2 c_6
        refine lv_iconst (v := 1) (pc := 45) hx hb dX3_isOverBehind_45 (by decide) ?_
        exact W.zret (v := 1) hx hb hr rfl (fun t ht hW => ⟨⟨1, (), rfl, hw, by rw [ht]; exact hP, va_K.moved hW.alike hK, hD⟩, hS.F ht⟩) hS.2.2 dX3_isOverBehind_46
set_option maxHeartbeats 4000000 in
set_option maxRecDepth 100000 in
theorem c_X3_meets (l : Launch) (dC : Nat → ClassId) (dI : Nat → Nat → Nat) (h_M h_M_jobOf h_M_machineOf h_M_durations h_M_arcs h_M_drafts h_M_starts h_M_heads h_M_tails h_M_chosen h_M_orders h_M_sizes : Nat) (sz : Nat) (cI cZ : ClassId) (M_jobs : Int32) (M_many : Int32) (M_isPlanned : Int32) (M_least : Int32) (M_optima : Int32) (M_jobOf : Nat → Int32) (M_machineOf : Nat → Int32) (M_durations : Nat → Int32) (M_arcs : Nat → Int32) (M_drafts : Nat → Int32) (M_starts : Nat → Int32) (M_heads : Nat → Int32) (M_tails : Nat → Int32) (M_chosen : Nat → Int32) (M_orders : Nat → Int32) (M_sizes : Nat → Int32) (a0 : Int32) (post : Int32 → Prop) (hw : wp_X3_meets M_many M_machineOf M_durations M_drafts a0 post) : Met l yX3_meets wsX3_meets ({ frames := 0, cells := 0, slots := 0, locals := 0 }) (va_Pc [.ref h_M, .int a0] (fun U => U.heap.size = sz ∧ va_P (dC, dI) vwCl (wM h_M h_M_jobOf h_M_machineOf h_M_durations h_M_arcs h_M_drafts h_M_starts h_M_heads h_M_tails h_M_chosen h_M_orders h_M_sizes cI cZ M_jobs M_many M_isPlanned M_least M_optima M_jobOf M_machineOf M_durations M_arcs M_drafts M_starts M_heads M_tails M_chosen M_orders M_sizes) U.heap ∧ va_K (dC, dI) vwCl [(cI, .int), (cZ, .boolean)] U ∧ va_D (fun _ => True) (wM h_M h_M_jobOf h_M_machineOf h_M_durations h_M_arcs h_M_drafts h_M_starts h_M_heads h_M_tails h_M_chosen h_M_orders h_M_sizes cI cZ M_jobs M_many M_isPlanned M_least M_optima M_jobOf M_machineOf M_durations M_arcs M_drafts M_starts M_heads M_tails M_chosen M_orders M_sizes))) (va_Qi (fun (r : Int32) (u : Unit) => post r ) (fun u t => va_P (dC, dI) vwCl (wM h_M h_M_jobOf h_M_machineOf h_M_durations h_M_arcs h_M_drafts h_M_starts h_M_heads h_M_tails h_M_chosen h_M_orders h_M_sizes cI cZ M_jobs M_many M_isPlanned M_least M_optima M_jobOf M_machineOf M_durations M_arcs M_drafts M_starts M_heads M_tails M_chosen M_orders M_sizes) t.heap ∧ va_K (dC, dI) vwCl [(cI, .int), (cZ, .boolean)] t ∧ va_D (va_A (wM h_M h_M_jobOf h_M_machineOf h_M_durations h_M_arcs h_M_drafts h_M_starts h_M_heads h_M_tails h_M_chosen h_M_orders h_M_sizes cI cZ M_jobs M_many M_isPlanned M_least M_optima M_jobOf M_machineOf M_durations M_arcs M_drafts M_starts M_heads M_tails M_chosen M_orders M_sizes) sz) (wM h_M h_M_jobOf h_M_machineOf h_M_durations h_M_arcs h_M_drafts h_M_starts h_M_heads h_M_tails h_M_chosen h_M_orders h_M_sizes cI cZ M_jobs M_many M_isPlanned M_least M_optima M_jobOf M_machineOf M_durations M_arcs M_drafts M_starts M_heads M_tails M_chosen M_orders M_sizes)) (va_A (wM h_M h_M_jobOf h_M_machineOf h_M_durations h_M_arcs h_M_drafts h_M_starts h_M_heads h_M_tails h_M_chosen h_M_orders h_M_sizes cI cZ M_jobs M_many M_isPlanned M_least M_optima M_jobOf M_machineOf M_durations M_arcs M_drafts M_starts M_heads M_tails M_chosen M_orders M_sizes) sz)) 0 0 (va_A (wM h_M h_M_jobOf h_M_machineOf h_M_durations h_M_arcs h_M_drafts h_M_starts h_M_heads h_M_tails h_M_chosen h_M_orders h_M_sizes cI cZ M_jobs M_many M_isPlanned M_least M_optima M_jobOf M_machineOf M_durations M_arcs M_drafts M_starts M_heads M_tails M_chosen M_orders M_sizes) sz) := by
  refine Met.ofW (cc := cX3_meets) (maxL := 3) (ret := (some .boolean)) (by decide) rfl ?_
  intro p e s m args below meth c s₁ B hml hv
  obtain ⟨rfl, hsz, hP, hK, hD0⟩ := hv
  have hx := B.exec
  have hb := B.bytes
  have hr := B.returns
  have hts := atoms_spec (ws := wsX3_meets) B.pre
  have hown : s.vm.findClass RX3 = some m.cls := findClass_of_methodNamed B.named
  have hlocks := B.notSynchronized
  subst hsz
  have hD := hD0.self (sz := s.heap.size)
  generalize hAe : va_A (wM h_M h_M_jobOf h_M_machineOf h_M_durations h_M_arcs h_M_drafts h_M_starts h_M_heads h_M_tails h_M_chosen h_M_orders h_M_sizes cI cZ M_jobs M_many M_isPlanned M_least M_optima M_jobOf M_machineOf M_durations M_arcs M_drafts M_starts M_heads M_tails M_chosen M_orders M_sizes) s.heap.size = A at hD ⊢
  have hA : ∀ q : Nat, s.heap.size ≤ q → A q := fun q h => by rw [← hAe]; exact Or.inr h
  have hS : va_S A s.heap s.heap [] := va_S.rf
  have hP : va_P (dC, dI) vwCl (wM h_M h_M_jobOf h_M_machineOf h_M_durations h_M_arcs h_M_drafts h_M_starts h_M_heads h_M_tails h_M_chosen h_M_orders h_M_sizes cI cZ M_jobs M_many M_isPlanned M_least M_optima M_jobOf M_machineOf M_durations M_arcs M_drafts M_starts M_heads M_tails M_chosen M_orders M_sizes) s.heap := hP
  have hl := lv_entry ([.ref h_M, .int a0]) (n := 3) (Nat.le_of_ble_eq_true rfl)
  rw [lg_entry_eq]
  generalize (lg_sl ([.ref h_M, .int a0]) ++ List.replicate (3 - (lg_sl ([.ref h_M, .int a0])).length) Slot.unset).toArray = ls at hl ⊢
  have hl : lv_has ls 3 [(0, .ref h_M), (1, .int a0)] := hl
  obtain ⟨H, hH⟩ : ∃ H, H = s.heap := ⟨_, rfl⟩
  rw [← hH] at hP
  have hS : va_S A s.heap H [] := by rw [hH]; exact hS
  refine W_heap hH ?_
  unfold wp_X3_meets at hw
  have hin_X3 : ∀ w ∈ u_ws RX3 TX3 16, w ∈ wsX3_meets := by decide +kernel
  refine lv_iload_n (pc := 0) hx hb dX3_meets_0 rfl (lv_at hl 1 rfl) ?_
  refine lv_iconst (v := 1) (pc := 1) hx hb dX3_meets_1 (by decide) ?_
  refine lv_iadd (pc := 2) hx hb dX3_meets_2 ?_
  refine lv_istore_n (lv' := [(2, .int (a0 + 1)), (0, .ref h_M), (1, .int a0)]) (pc := 3) hx hb dX3_meets_3 rfl hl (by decide) rfl (fun ls hl => ?_)
  obtain ⟨I_4, μ_4, hI_4, hs_4⟩ := hw
  refine lp_W (I := fun z : Int32 => I_4 z) (fun z => μ_4 z) (fun (z : Int32) H locs ls => va_P (dC, dI) vwCl (wM h_M h_M_jobOf h_M_machineOf h_M_durations h_M_arcs h_M_drafts h_M_starts h_M_heads h_M_tails h_M_chosen h_M_orders h_M_sizes cI cZ M_jobs M_many M_isPlanned M_least M_optima M_jobOf M_machineOf M_durations M_arcs M_drafts M_starts M_heads M_tails M_chosen M_orders M_sizes) H ∧ va_D A (wM h_M h_M_jobOf h_M_machineOf h_M_durations h_M_arcs h_M_drafts h_M_starts h_M_heads h_M_tails h_M_chosen h_M_orders h_M_sizes cI cZ M_jobs M_many M_isPlanned M_least M_optima M_jobOf M_machineOf M_durations M_arcs M_drafts M_starts M_heads M_tails M_chosen M_orders M_sizes) ∧ va_S A s.heap H locs ∧ lv_has ls 3 [(0, .ref h_M), (1, .int a0), (2, .int z)]) ?_ (a0 + 1) _ _ _ hI_4 ⟨hP, hD, hS, (lv_sub hl [1, 2, 0] rfl)⟩
  rintro x2_4 H locs ls hI ⟨hP, hD, hS, hl⟩ ih_4
  have hw := hs_4 x2_4 hI
  have hP : va_P (dC, dI) vwCl (wM h_M h_M_jobOf h_M_machineOf h_M_durations h_M_arcs h_M_drafts h_M_starts h_M_heads h_M_tails h_M_chosen h_M_orders h_M_sizes cI cZ M_jobs M_many M_isPlanned M_least M_optima M_jobOf M_machineOf M_durations M_arcs M_drafts M_starts M_heads M_tails M_chosen M_orders M_sizes) H := hP
  have hD : va_D A (wM h_M h_M_jobOf h_M_machineOf h_M_durations h_M_arcs h_M_drafts h_M_starts h_M_heads h_M_tails h_M_chosen h_M_orders h_M_sizes cI cZ M_jobs M_many M_isPlanned M_least M_optima M_jobOf M_machineOf M_durations M_arcs M_drafts M_starts M_heads M_tails M_chosen M_orders M_sizes) := hD
  have hl : lv_has ls 3 [(0, .ref h_M), (1, .int a0), (2, .int x2_4)] := hl
  refine lv_iload_n (pc := 4) hx hb dX3_meets_4 rfl (lv_at hl 2 rfl) ?_
  refine lv_aload_n (pc := 5) hx hb dX3_meets_5 rfl (lv_at hl 0 rfl) ?_
  refine va_get (D := (dC, dI)) (ci := 3) (v := .int M_many) (C := RX3) (T := TX3) (N := 16) (pc := 6) hx hb hts hin_X3 hown hK hP 0 rfl rfl 1 (by decide) (hts (.fieldLink RX3 48 "JobShopModel" "many" "I") (by decide +kernel)) (fun _ h9 => h9) rfl dX3_meets_6 ?_
  refine lv_icmp_ge (tgt := 79) (pc := 9) hx hb dX3_meets_9 (by decide) (fun c_1 => ?_) (fun c_1 => ?_)
  · have hw := hw.1 c_1
    refine lv_iconst (v := 0) (pc := 79) hx hb dX3_meets_79 (by decide) ?_
    exact W.zret (v := 0) hx hb hr rfl (fun t ht hW => ⟨⟨0, (), rfl, hw, by rw [ht]; exact hP, va_K.moved hW.alike hK, hD⟩, hS.F ht⟩) hS.2.2 dX3_meets_80
  · have hw := hw.2 c_1
    refine lv_aload_n (pc := 12) hx hb dX3_meets_12 rfl (lv_at hl 0 rfl) ?_
    refine va_get (D := (dC, dI)) (ci := 3) (v := .ref h_M_machineOf) (C := RX3) (T := TX3) (N := 16) (pc := 13) hx hb hts hin_X3 hown hK hP 0 rfl rfl 3 (by decide) (hts (.fieldLink RX3 13 "JobShopModel" "machineOf" "[I") (by decide +kernel)) (fun _ h9 => h9) rfl dX3_meets_13 ?_
    refine lv_iload_n (pc := 16) hx hb dX3_meets_16 rfl (lv_at hl 2 rfl) ?_
    obtain ⟨b_2, hw⟩ := hw
    refine va_iald (pc := 17) hx hb hK hP 2 0 rfl rfl b_2 dX3_meets_17 ?_
    refine lv_aload_n (pc := 18) hx hb dX3_meets_18 rfl (lv_at hl 0 rfl) ?_
    refine va_get (D := (dC, dI)) (ci := 3) (v := .ref h_M_machineOf) (C := RX3) (T := TX3) (N := 16) (pc := 19) hx hb hts hin_X3 hown hK hP 0 rfl rfl 3 (by decide) (hts (.fieldLink RX3 13 "JobShopModel" "machineOf" "[I") (by decide +kernel)) (fun _ h9 => h9) rfl dX3_meets_19 ?_
    refine lv_iload_n (pc := 22) hx hb dX3_meets_22 rfl (lv_at hl 1 rfl) ?_
    obtain ⟨b_3, hw⟩ := hw
    refine va_iald (pc := 23) hx hb hK hP 2 0 rfl rfl b_3 dX3_meets_23 ?_
    refine lv_icmp_ne (tgt := 73) (pc := 24) hx hb dX3_meets_24 (by decide) (fun c_4 => ?_) (fun c_4 => ?_)
    · have hw := hw.1 c_4
      refine lv_iinc (v := x2_4 + 1) (lv' := [(2, .int (x2_4 + 1)), (0, .ref h_M), (1, .int a0)]) (pc := 73) hx hb dX3_meets_73 hl (k := 2) rfl rfl (by decide) rfl (fun ls hl => ?_)
      refine lv_goto (tgt := 4) (pc := 76) hx hb dX3_meets_76 (by decide) ?_
      exact ih_4 (x2_4 + 1) _ _ _ hw.1 hw.2 ⟨hP, hD, hS, (lv_sub hl [1, 2, 0] rfl)⟩
    · have hw := hw.2 c_4
      refine lv_aload_n (pc := 27) hx hb dX3_meets_27 rfl (lv_at hl 0 rfl) ?_
      refine va_get (D := (dC, dI)) (ci := 3) (v := .ref h_M_drafts) (C := RX3) (T := TX3) (N := 16) (pc := 28) hx hb hts hin_X3 hown hK hP 0 rfl rfl 6 (by decide) (hts (.fieldLink RX3 23 "JobShopModel" "drafts" "[I") (by decide +kernel)) (fun _ h9 => h9) rfl dX3_meets_28 ?_
      refine lv_iload_n (pc := 31) hx hb dX3_meets_31 rfl (lv_at hl 1 rfl) ?_
      obtain ⟨b_5, hw⟩ := hw
      refine va_iald (pc := 32) hx hb hK hP 5 0 rfl rfl b_5 dX3_meets_32 ?_
      refine lv_aload_n (pc := 33) hx hb dX3_meets_33 rfl (lv_at hl 0 rfl) ?_
      refine va_get (D := (dC, dI)) (ci := 3) (v := .ref h_M_drafts) (C := RX3) (T := TX3) (N := 16) (pc := 34) hx hb hts hin_X3 hown hK hP 0 rfl rfl 6 (by decide) (hts (.fieldLink RX3 23 "JobShopModel" "drafts" "[I") (by decide +kernel)) (fun _ h9 => h9) rfl dX3_meets_34 ?_
      refine lv_iload_n (pc := 37) hx hb dX3_meets_37 rfl (lv_at hl 2 rfl) ?_
      obtain ⟨b_6, hw⟩ := hw
      refine va_iald (pc := 38) hx hb hK hP 5 0 rfl rfl b_6 dX3_meets_38 ?_
      refine lv_aload_n (pc := 39) hx hb dX3_meets_39 rfl (lv_at hl 0 rfl) ?_
      refine va_get (D := (dC, dI)) (ci := 3) (v := .ref h_M_durations) (C := RX3) (T := TX3) (N := 16) (pc := 40) hx hb hts hin_X3 hown hK hP 0 rfl rfl 4 (by decide) (hts (.fieldLink RX3 16 "JobShopModel" "durations" "[I") (by decide +kernel)) (fun _ h9 => h9) rfl dX3_meets_40 ?_
      refine lv_iload_n (pc := 43) hx hb dX3_meets_43 rfl (lv_at hl 2 rfl) ?_
      obtain ⟨b_7, hw⟩ := hw
      refine va_iald (pc := 44) hx hb hK hP 3 0 rfl rfl b_7 dX3_meets_44 ?_
      refine lv_iadd (pc := 45) hx hb dX3_meets_45 ?_
      refine lv_icmp_ge (tgt := 73) (pc := 46) hx hb dX3_meets_46 (by decide) (fun c_8 => ?_) (fun c_8 => ?_)
      · have hw := hw.1 c_8
        refine lv_iinc (v := x2_4 + 1) (lv' := [(2, .int (x2_4 + 1)), (0, .ref h_M), (1, .int a0)]) (pc := 73) hx hb dX3_meets_73 hl (k := 2) rfl rfl (by decide) rfl (fun ls hl => ?_)
        refine lv_goto (tgt := 4) (pc := 76) hx hb dX3_meets_76 (by decide) ?_
        exact ih_4 (x2_4 + 1) _ _ _ hw.1 hw.2 ⟨hP, hD, hS, (lv_sub hl [1, 2, 0] rfl)⟩
      · have hw := hw.2 c_8
        refine lv_aload_n (pc := 49) hx hb dX3_meets_49 rfl (lv_at hl 0 rfl) ?_
        refine va_get (D := (dC, dI)) (ci := 3) (v := .ref h_M_drafts) (C := RX3) (T := TX3) (N := 16) (pc := 50) hx hb hts hin_X3 hown hK hP 0 rfl rfl 6 (by decide) (hts (.fieldLink RX3 23 "JobShopModel" "drafts" "[I") (by decide +kernel)) (fun _ h9 => h9) rfl dX3_meets_50 ?_
        refine lv_iload_n (pc := 53) hx hb dX3_meets_53 rfl (lv_at hl 2 rfl) ?_
        obtain ⟨b_9, hw⟩ := hw
        refine va_iald (pc := 54) hx hb hK hP 5 0 rfl rfl b_9 dX3_meets_54 ?_
        refine lv_aload_n (pc := 55) hx hb dX3_meets_55 rfl (lv_at hl 0 rfl) ?_
        refine va_get (D := (dC, dI)) (ci := 3) (v := .ref h_M_drafts) (C := RX3) (T := TX3) (N := 16) (pc := 56) hx hb hts hin_X3 hown hK hP 0 rfl rfl 6 (by decide) (hts (.fieldLink RX3 23 "JobShopModel" "drafts" "[I") (by decide +kernel)) (fun _ h9 => h9) rfl dX3_meets_56 ?_
        refine lv_iload_n (pc := 59) hx hb dX3_meets_59 rfl (lv_at hl 1 rfl) ?_
        obtain ⟨b_10, hw⟩ := hw
        refine va_iald (pc := 60) hx hb hK hP 5 0 rfl rfl b_10 dX3_meets_60 ?_
        refine lv_aload_n (pc := 61) hx hb dX3_meets_61 rfl (lv_at hl 0 rfl) ?_
        refine va_get (D := (dC, dI)) (ci := 3) (v := .ref h_M_durations) (C := RX3) (T := TX3) (N := 16) (pc := 62) hx hb hts hin_X3 hown hK hP 0 rfl rfl 4 (by decide) (hts (.fieldLink RX3 16 "JobShopModel" "durations" "[I") (by decide +kernel)) (fun _ h9 => h9) rfl dX3_meets_62 ?_
        refine lv_iload_n (pc := 65) hx hb dX3_meets_65 rfl (lv_at hl 1 rfl) ?_
        obtain ⟨b_11, hw⟩ := hw
        refine va_iald (pc := 66) hx hb hK hP 3 0 rfl rfl b_11 dX3_meets_66 ?_
        refine lv_iadd (pc := 67) hx hb dX3_meets_67 ?_
        refine lv_icmp_ge (tgt := 73) (pc := 68) hx hb dX3_meets_68 (by decide) (fun c_12 => ?_) (fun c_12 => ?_)
        · have hw := hw.1 c_12
          refine lv_iinc (v := x2_4 + 1) (lv' := [(2, .int (x2_4 + 1)), (0, .ref h_M), (1, .int a0)]) (pc := 73) hx hb dX3_meets_73 hl (k := 2) rfl rfl (by decide) rfl (fun ls hl => ?_)
          refine lv_goto (tgt := 4) (pc := 76) hx hb dX3_meets_76 (by decide) ?_
          exact ih_4 (x2_4 + 1) _ _ _ hw.1 hw.2 ⟨hP, hD, hS, (lv_sub hl [1, 2, 0] rfl)⟩
        · have hw := hw.2 c_12
          refine lv_iconst (v := 1) (pc := 71) hx hb dX3_meets_71 (by decide) ?_
          exact W.zret (v := 1) hx hb hr rfl (fun t ht hW => ⟨⟨1, (), rfl, hw, by rw [ht]; exact hP, va_K.moved hW.alike hK, hD⟩, hS.F ht⟩) hS.2.2 dX3_meets_72
set_option maxHeartbeats 4000000 in
set_option maxRecDepth 100000 in
theorem c_X3_check (l : Launch) (dC : Nat → ClassId) (dI : Nat → Nat → Nat) (h_M h_M_jobOf h_M_machineOf h_M_durations h_M_arcs h_M_drafts h_M_starts h_M_heads h_M_tails h_M_chosen h_M_orders h_M_sizes : Nat) (sz : Nat) (cI cZ : ClassId) (M_jobs : Int32) (M_many : Int32) (M_isPlanned : Int32) (M_least : Int32) (M_optima : Int32) (M_jobOf : Nat → Int32) (M_machineOf : Nat → Int32) (M_durations : Nat → Int32) (M_arcs : Nat → Int32) (M_drafts : Nat → Int32) (M_starts : Nat → Int32) (M_heads : Nat → Int32) (M_tails : Nat → Int32) (M_chosen : Nat → Int32) (M_orders : Nat → Int32) (M_sizes : Nat → Int32) (post : Int32 → Prop) (hw : wp_X3_check M_many M_jobOf M_machineOf M_durations M_arcs M_drafts post) : Met l yX3_check wsX3_check ({ frames := 3, cells := 0, slots := 0, locals := 67 }) (va_Pc [.ref h_M] (fun U => U.heap.size = sz ∧ va_P (dC, dI) vwCl (wM h_M h_M_jobOf h_M_machineOf h_M_durations h_M_arcs h_M_drafts h_M_starts h_M_heads h_M_tails h_M_chosen h_M_orders h_M_sizes cI cZ M_jobs M_many M_isPlanned M_least M_optima M_jobOf M_machineOf M_durations M_arcs M_drafts M_starts M_heads M_tails M_chosen M_orders M_sizes) U.heap ∧ va_K (dC, dI) vwCl [(cI, .int), (cZ, .boolean)] U ∧ va_D (fun _ => True) (wM h_M h_M_jobOf h_M_machineOf h_M_durations h_M_arcs h_M_drafts h_M_starts h_M_heads h_M_tails h_M_chosen h_M_orders h_M_sizes cI cZ M_jobs M_many M_isPlanned M_least M_optima M_jobOf M_machineOf M_durations M_arcs M_drafts M_starts M_heads M_tails M_chosen M_orders M_sizes))) (va_Qi (fun (r : Int32) (u : Unit) => post r ) (fun u t => va_P (dC, dI) vwCl (wM h_M h_M_jobOf h_M_machineOf h_M_durations h_M_arcs h_M_drafts h_M_starts h_M_heads h_M_tails h_M_chosen h_M_orders h_M_sizes cI cZ M_jobs M_many M_isPlanned M_least M_optima M_jobOf M_machineOf M_durations M_arcs M_drafts M_starts M_heads M_tails M_chosen M_orders M_sizes) t.heap ∧ va_K (dC, dI) vwCl [(cI, .int), (cZ, .boolean)] t ∧ va_D (va_A (wM h_M h_M_jobOf h_M_machineOf h_M_durations h_M_arcs h_M_drafts h_M_starts h_M_heads h_M_tails h_M_chosen h_M_orders h_M_sizes cI cZ M_jobs M_many M_isPlanned M_least M_optima M_jobOf M_machineOf M_durations M_arcs M_drafts M_starts M_heads M_tails M_chosen M_orders M_sizes) sz) (wM h_M h_M_jobOf h_M_machineOf h_M_durations h_M_arcs h_M_drafts h_M_starts h_M_heads h_M_tails h_M_chosen h_M_orders h_M_sizes cI cZ M_jobs M_many M_isPlanned M_least M_optima M_jobOf M_machineOf M_durations M_arcs M_drafts M_starts M_heads M_tails M_chosen M_orders M_sizes)) (va_A (wM h_M h_M_jobOf h_M_machineOf h_M_durations h_M_arcs h_M_drafts h_M_starts h_M_heads h_M_tails h_M_chosen h_M_orders h_M_sizes cI cZ M_jobs M_many M_isPlanned M_least M_optima M_jobOf M_machineOf M_durations M_arcs M_drafts M_starts M_heads M_tails M_chosen M_orders M_sizes) sz)) 0 0 (va_A (wM h_M h_M_jobOf h_M_machineOf h_M_durations h_M_arcs h_M_drafts h_M_starts h_M_heads h_M_tails h_M_chosen h_M_orders h_M_sizes cI cZ M_jobs M_many M_isPlanned M_least M_optima M_jobOf M_machineOf M_durations M_arcs M_drafts M_starts M_heads M_tails M_chosen M_orders M_sizes) sz) := by
  refine Met.ofW (cc := cX3_check) (maxL := 4) (ret := (some .int)) (by decide) rfl ?_
  intro p e s m args below meth c s₁ B hml hv
  obtain ⟨rfl, hsz, hP, hK, hD0⟩ := hv
  have hx := B.exec
  have hb := B.bytes
  have hr := B.returns
  have hts := atoms_spec (ws := wsX3_check) B.pre
  have hown : s.vm.findClass RX3 = some m.cls := findClass_of_methodNamed B.named
  have hlocks := B.notSynchronized
  subst hsz
  have hD := hD0.self (sz := s.heap.size)
  generalize hAe : va_A (wM h_M h_M_jobOf h_M_machineOf h_M_durations h_M_arcs h_M_drafts h_M_starts h_M_heads h_M_tails h_M_chosen h_M_orders h_M_sizes cI cZ M_jobs M_many M_isPlanned M_least M_optima M_jobOf M_machineOf M_durations M_arcs M_drafts M_starts M_heads M_tails M_chosen M_orders M_sizes) s.heap.size = A at hD ⊢
  have hA : ∀ q : Nat, s.heap.size ≤ q → A q := fun q h => by rw [← hAe]; exact Or.inr h
  have hS : va_S A s.heap s.heap [] := va_S.rf
  have hP : va_P (dC, dI) vwCl (wM h_M h_M_jobOf h_M_machineOf h_M_durations h_M_arcs h_M_drafts h_M_starts h_M_heads h_M_tails h_M_chosen h_M_orders h_M_sizes cI cZ M_jobs M_many M_isPlanned M_least M_optima M_jobOf M_machineOf M_durations M_arcs M_drafts M_starts M_heads M_tails M_chosen M_orders M_sizes) s.heap := hP
  have hl := lv_entry ([.ref h_M]) (n := 4) (Nat.le_of_ble_eq_true rfl)
  rw [lg_entry_eq]
  generalize (lg_sl ([.ref h_M]) ++ List.replicate (4 - (lg_sl ([.ref h_M])).length) Slot.unset).toArray = ls at hl ⊢
  have hl : lv_has ls 4 [(0, .ref h_M)] := hl
  obtain ⟨H, hH⟩ : ∃ H, H = s.heap := ⟨_, rfl⟩
  rw [← hH] at hP
  have hS : va_S A s.heap H [] := by rw [hH]; exact hS
  refine W_heap hH ?_
  unfold wp_X3_check at hw
  have hin_X3 : ∀ w ∈ u_ws RX3 TX3 16, w ∈ wsX3_check := by decide +kernel
  refine lv_iconst (v := 0) (pc := 0) hx hb dX3_check_0 (by decide) ?_
  refine lv_istore_n (lv' := [(1, .int 0), (0, .ref h_M)]) (pc := 1) hx hb dX3_check_1 rfl hl (by decide) rfl (fun ls hl => ?_)
  obtain ⟨I_2, μ_2, hI_2, hs_2⟩ := hw
  refine lp_W (I := fun z : Int32 => I_2 z) (fun z => μ_2 z) (fun (z : Int32) H locs ls => va_P (dC, dI) vwCl (wM h_M h_M_jobOf h_M_machineOf h_M_durations h_M_arcs h_M_drafts h_M_starts h_M_heads h_M_tails h_M_chosen h_M_orders h_M_sizes cI cZ M_jobs M_many M_isPlanned M_least M_optima M_jobOf M_machineOf M_durations M_arcs M_drafts M_starts M_heads M_tails M_chosen M_orders M_sizes) H ∧ va_D A (wM h_M h_M_jobOf h_M_machineOf h_M_durations h_M_arcs h_M_drafts h_M_starts h_M_heads h_M_tails h_M_chosen h_M_orders h_M_sizes cI cZ M_jobs M_many M_isPlanned M_least M_optima M_jobOf M_machineOf M_durations M_arcs M_drafts M_starts M_heads M_tails M_chosen M_orders M_sizes) ∧ va_S A s.heap H locs ∧ lv_has ls 4 [(0, .ref h_M), (1, .int z)]) ?_ 0 _ _ _ hI_2 ⟨hP, hD, hS, (lv_sub hl [1, 0] rfl)⟩
  rintro x1_2 H locs ls hI ⟨hP, hD, hS, hl⟩ ih_2
  have hw := hs_2 x1_2 hI
  have hP : va_P (dC, dI) vwCl (wM h_M h_M_jobOf h_M_machineOf h_M_durations h_M_arcs h_M_drafts h_M_starts h_M_heads h_M_tails h_M_chosen h_M_orders h_M_sizes cI cZ M_jobs M_many M_isPlanned M_least M_optima M_jobOf M_machineOf M_durations M_arcs M_drafts M_starts M_heads M_tails M_chosen M_orders M_sizes) H := hP
  have hD : va_D A (wM h_M h_M_jobOf h_M_machineOf h_M_durations h_M_arcs h_M_drafts h_M_starts h_M_heads h_M_tails h_M_chosen h_M_orders h_M_sizes cI cZ M_jobs M_many M_isPlanned M_least M_optima M_jobOf M_machineOf M_durations M_arcs M_drafts M_starts M_heads M_tails M_chosen M_orders M_sizes) := hD
  have hl : lv_has ls 4 [(0, .ref h_M), (1, .int x1_2)] := hl
  refine lv_iload_n (pc := 2) hx hb dX3_check_2 rfl (lv_at hl 1 rfl) ?_
  refine lv_aload_n (pc := 3) hx hb dX3_check_3 rfl (lv_at hl 0 rfl) ?_
  refine va_get (D := (dC, dI)) (ci := 3) (v := .int M_many) (C := RX3) (T := TX3) (N := 16) (pc := 4) hx hb hts hin_X3 hown hK hP 0 rfl rfl 1 (by decide) (hts (.fieldLink RX3 48 "JobShopModel" "many" "I") (by decide +kernel)) (fun _ h9 => h9) rfl dX3_check_4 ?_
  refine lv_icmp_ge (tgt := 29) (pc := 7) hx hb dX3_check_7 (by decide) (fun c_1 => ?_) (fun c_1 => ?_)
  · have hw := hw.1 c_1
    refine lv_iconst (v := 0) (pc := 29) hx hb dX3_check_29 (by decide) ?_
    refine lv_istore_n (lv' := [(1, .int 0), (0, .ref h_M)]) (pc := 30) hx hb dX3_check_30 rfl hl (by decide) rfl (fun ls hl => ?_)
    refine lv_iconst (v := 0) (pc := 31) hx hb dX3_check_31 (by decide) ?_
    refine lv_istore_n (lv' := [(2, .int 0), (1, .int 0), (0, .ref h_M)]) (pc := 32) hx hb dX3_check_32 rfl hl (by decide) rfl (fun ls hl => ?_)
    obtain ⟨I_33, μ_33, hI_33, hs_33⟩ := hw
    refine lp_W (I := fun z : Int32 × Int32 => I_33 z.1 z.2) (fun z => μ_33 z.1 z.2) (fun (z : Int32 × Int32) H locs ls => va_P (dC, dI) vwCl (wM h_M h_M_jobOf h_M_machineOf h_M_durations h_M_arcs h_M_drafts h_M_starts h_M_heads h_M_tails h_M_chosen h_M_orders h_M_sizes cI cZ M_jobs M_many M_isPlanned M_least M_optima M_jobOf M_machineOf M_durations M_arcs M_drafts M_starts M_heads M_tails M_chosen M_orders M_sizes) H ∧ va_D A (wM h_M h_M_jobOf h_M_machineOf h_M_durations h_M_arcs h_M_drafts h_M_starts h_M_heads h_M_tails h_M_chosen h_M_orders h_M_sizes cI cZ M_jobs M_many M_isPlanned M_least M_optima M_jobOf M_machineOf M_durations M_arcs M_drafts M_starts M_heads M_tails M_chosen M_orders M_sizes) ∧ va_S A s.heap H locs ∧ lv_has ls 4 [(0, .ref h_M), (1, .int z.1), (2, .int z.2)]) ?_ (0, 0) _ _ _ hI_33 ⟨hP, hD, hS, (lv_sub hl [2, 1, 0] rfl)⟩
    rintro ⟨x1_33, x2_33⟩ H locs ls hI ⟨hP, hD, hS, hl⟩ ih_33
    have hw := hs_33 x1_33 x2_33 hI
    have hP : va_P (dC, dI) vwCl (wM h_M h_M_jobOf h_M_machineOf h_M_durations h_M_arcs h_M_drafts h_M_starts h_M_heads h_M_tails h_M_chosen h_M_orders h_M_sizes cI cZ M_jobs M_many M_isPlanned M_least M_optima M_jobOf M_machineOf M_durations M_arcs M_drafts M_starts M_heads M_tails M_chosen M_orders M_sizes) H := hP
    have hD : va_D A (wM h_M h_M_jobOf h_M_machineOf h_M_durations h_M_arcs h_M_drafts h_M_starts h_M_heads h_M_tails h_M_chosen h_M_orders h_M_sizes cI cZ M_jobs M_many M_isPlanned M_least M_optima M_jobOf M_machineOf M_durations M_arcs M_drafts M_starts M_heads M_tails M_chosen M_orders M_sizes) := hD
    have hl : lv_has ls 4 [(0, .ref h_M), (1, .int x1_33), (2, .int x2_33)] := hl
    refine lv_iload_n (pc := 33) hx hb dX3_check_33 rfl (lv_at hl 2 rfl) ?_
    refine lv_aload_n (pc := 34) hx hb dX3_check_34 rfl (lv_at hl 0 rfl) ?_
    refine va_get (D := (dC, dI)) (ci := 3) (v := .int M_many) (C := RX3) (T := TX3) (N := 16) (pc := 35) hx hb hts hin_X3 hown hK hP 0 rfl rfl 1 (by decide) (hts (.fieldLink RX3 48 "JobShopModel" "many" "I") (by decide +kernel)) (fun _ h9 => h9) rfl dX3_check_35 ?_
    refine lv_icmp_ge (tgt := 85) (pc := 38) hx hb dX3_check_38 (by decide) (fun c_2 => ?_) (fun c_2 => ?_)
    · have hw := hw.1 c_2
      refine lv_iload_n (pc := 85) hx hb dX3_check_85 rfl (lv_at hl 1 rfl) ?_
      exact W.iret (v := x1_33) hx hb hr (fun t ht hW => ⟨⟨x1_33, (), rfl, hw, by rw [ht]; exact hP, va_K.moved hW.alike hK, hD⟩, hS.F ht⟩) hS.2.2 dX3_check_86
    · have hw := hw.2 c_2
      refine lv_aload_n (pc := 41) hx hb dX3_check_41 rfl (lv_at hl 0 rfl) ?_
      refine lv_iload_n (pc := 42) hx hb dX3_check_42 rfl (lv_at hl 2 rfl) ?_
      have hPx : va_P (dC, dI) vwCl ([] ++ (wM h_M h_M_jobOf h_M_machineOf h_M_durations h_M_arcs h_M_drafts h_M_starts h_M_heads h_M_tails h_M_chosen h_M_orders h_M_sizes cI cZ M_jobs M_many M_isPlanned M_least M_optima M_jobOf M_machineOf M_durations M_arcs M_drafts M_starts M_heads M_tails M_chosen M_orders M_sizes)) H := hP
      have hDx : va_D A ([] ++ (wM h_M h_M_jobOf h_M_machineOf h_M_durations h_M_arcs h_M_drafts h_M_starts h_M_heads h_M_tails h_M_chosen h_M_orders h_M_sizes cI cZ M_jobs M_many M_isPlanned M_least M_optima M_jobOf M_machineOf M_durations M_arcs M_drafts M_starts M_heads M_tails M_chosen M_orders M_sizes)) := hD
      refine kc_i (pc := 43) (w1 := (fun u : Unit => (wM h_M h_M_jobOf h_M_machineOf h_M_durations h_M_arcs h_M_drafts h_M_starts h_M_heads h_M_tails h_M_chosen h_M_orders h_M_sizes cI cZ M_jobs M_many M_isPlanned M_least M_optima M_jobOf M_machineOf M_durations M_arcs M_drafts M_starts M_heads M_tails M_chosen M_orders M_sizes))) (va_runV (As := [.int x2_33]) (rest := []) ⟨hx, hb, hml, hown, hts⟩ (c_X3_meets l dC dI h_M h_M_jobOf h_M_machineOf h_M_durations h_M_arcs h_M_drafts h_M_starts h_M_heads h_M_tails h_M_chosen h_M_orders h_M_sizes H.size cI cZ M_jobs M_many M_isPlanned M_least M_optima M_jobOf M_machineOf M_durations M_arcs M_drafts M_starts M_heads M_tails M_chosen M_orders M_sizes x2_33 _ hw) (cwV 1 hts gX3_check_X3_meets rfl rfl rfl (by decide +kernel) ⟨Nat.le_of_ble_eq_true rfl, Nat.le_of_ble_eq_true rfl⟩) (kc_preVM (q0 := 0) (ci := 3) hK hPx hDx [0, 1] rfl rfl rfl) rfl rfl hl.1 rfl (lv_room (Nat.le_of_ble_eq_true rfl)) dX3_check_43 ⟨Nat.zero_le _, Nat.zero_le _⟩) hPx hDx hS hA (fun r_43 u H locs hw hP hD hS => ?_)
      have hP : va_P (dC, dI) vwCl (wM h_M h_M_jobOf h_M_machineOf h_M_durations h_M_arcs h_M_drafts h_M_starts h_M_heads h_M_tails h_M_chosen h_M_orders h_M_sizes cI cZ M_jobs M_many M_isPlanned M_least M_optima M_jobOf M_machineOf M_durations M_arcs M_drafts M_starts M_heads M_tails M_chosen M_orders M_sizes) H := hP
      have hD : va_D A (wM h_M h_M_jobOf h_M_machineOf h_M_durations h_M_arcs h_M_drafts h_M_starts h_M_heads h_M_tails h_M_chosen h_M_orders h_M_sizes cI cZ M_jobs M_many M_isPlanned M_least M_optima M_jobOf M_machineOf M_durations M_arcs M_drafts M_starts M_heads M_tails M_chosen M_orders M_sizes) := hD
      refine lv_if_eq (tgt := 54) (pc := 46) hx hb dX3_check_46 (by decide) (fun c_3 => ?_) (fun c_3 => ?_)
      · have hw := hw.1 c_3
        refine lv_aload_n (pc := 54) hx hb dX3_check_54 rfl (lv_at hl 0 rfl) ?_
        refine va_get (D := (dC, dI)) (ci := 3) (v := .ref h_M_drafts) (C := RX3) (T := TX3) (N := 16) (pc := 55) hx hb hts hin_X3 hown hK hP 0 rfl rfl 6 (by decide) (hts (.fieldLink RX3 23 "JobShopModel" "drafts" "[I") (by decide +kernel)) (fun _ h9 => h9) rfl dX3_check_55 ?_
        refine lv_iload_n (pc := 58) hx hb dX3_check_58 rfl (lv_at hl 2 rfl) ?_
        obtain ⟨b_4, hw⟩ := hw
        refine va_iald (pc := 59) hx hb hK hP 5 0 rfl rfl b_4 dX3_check_59 ?_
        refine lv_aload_n (pc := 60) hx hb dX3_check_60 rfl (lv_at hl 0 rfl) ?_
        refine va_get (D := (dC, dI)) (ci := 3) (v := .ref h_M_durations) (C := RX3) (T := TX3) (N := 16) (pc := 61) hx hb hts hin_X3 hown hK hP 0 rfl rfl 4 (by decide) (hts (.fieldLink RX3 16 "JobShopModel" "durations" "[I") (by decide +kernel)) (fun _ h9 => h9) rfl dX3_check_61 ?_
        refine lv_iload_n (pc := 64) hx hb dX3_check_64 rfl (lv_at hl 2 rfl) ?_
        obtain ⟨b_5, hw⟩ := hw
        refine va_iald (pc := 65) hx hb hK hP 3 0 rfl rfl b_5 dX3_check_65 ?_
        refine lv_iadd (pc := 66) hx hb dX3_check_66 ?_
        refine lv_istore_n (lv' := [(3, .int ((M_drafts x2_33.toNatClampNeg) + (M_durations x2_33.toNatClampNeg))), (0, .ref h_M), (1, .int x1_33), (2, .int x2_33)]) (pc := 67) hx hb dX3_check_67 rfl hl (by decide) rfl (fun ls hl => ?_)
        refine lv_iload_n (pc := 68) hx hb dX3_check_68 rfl (lv_at hl 0 rfl) ?_
        refine lv_iload_n (pc := 69) hx hb dX3_check_69 rfl (lv_at hl 2 rfl) ?_
        refine lv_icmp_le (tgt := 77) (pc := 70) hx hb dX3_check_70 (by decide) (fun c_6 => ?_) (fun c_6 => ?_)
        · have hw := hw.1 c_6
          refine lv_iload_n (pc := 77) hx hb dX3_check_77 rfl (lv_at hl 2 rfl) ?_
          refine lv_istore_n (lv' := [(1, .int x1_33), (3, .int ((M_drafts x2_33.toNatClampNeg) + (M_durations x2_33.toNatClampNeg))), (0, .ref h_M), (2, .int x2_33)]) (pc := 78) hx hb dX3_check_78 rfl hl (by decide) rfl (fun ls hl => ?_)
          refine lv_iinc (v := x2_33 + 1) (lv' := [(2, .int (x2_33 + 1)), (1, .int x1_33), (3, .int ((M_drafts x2_33.toNatClampNeg) + (M_durations x2_33.toNatClampNeg))), (0, .ref h_M)]) (pc := 79) hx hb dX3_check_79 hl (k := 3) rfl rfl (by decide) rfl (fun ls hl => ?_)
          refine lv_goto (tgt := 33) (pc := 82) hx hb dX3_check_82 (by decide) ?_
          exact ih_33 (x1_33, (x2_33 + 1)) _ _ _ hw.1 hw.2 ⟨hP, hD, hS, (lv_sub hl [3, 1, 0] rfl)⟩
        · have hw := hw.2 c_6
          refine lv_iload_n (pc := 73) hx hb dX3_check_73 rfl (lv_at hl 0 rfl) ?_
          refine lv_goto (tgt := 78) (pc := 74) hx hb dX3_check_74 (by decide) ?_
          refine lv_istore_n (lv' := [(1, .int ((M_drafts x2_33.toNatClampNeg) + (M_durations x2_33.toNatClampNeg))), (3, .int ((M_drafts x2_33.toNatClampNeg) + (M_durations x2_33.toNatClampNeg))), (0, .ref h_M), (2, .int x2_33)]) (pc := 78) hx hb dX3_check_78 rfl hl (by decide) rfl (fun ls hl => ?_)
          refine lv_iinc (v := x2_33 + 1) (lv' := [(2, .int (x2_33 + 1)), (1, .int ((M_drafts x2_33.toNatClampNeg) + (M_durations x2_33.toNatClampNeg))), (3, .int ((M_drafts x2_33.toNatClampNeg) + (M_durations x2_33.toNatClampNeg))), (0, .ref h_M)]) (pc := 79) hx hb dX3_check_79 hl (k := 3) rfl rfl (by decide) rfl (fun ls hl => ?_)
          refine lv_goto (tgt := 33) (pc := 82) hx hb dX3_check_82 (by decide) ?_
          exact ih_33 (((M_drafts x2_33.toNatClampNeg) + (M_durations x2_33.toNatClampNeg)), (x2_33 + 1)) _ _ _ hw.1 hw.2 ⟨hP, hD, hS, (lv_sub hl [3, 1, 0] rfl)⟩
      · have hw := hw.2 c_3
        refine lv_bipush (v := (-30)) (pc := 49) hx hb dX3_check_49 (by decide) ?_
        refine lv_iload_n (pc := 51) hx hb dX3_check_51 rfl (lv_at hl 2 rfl) ?_
        refine lv_isub (pc := 52) hx hb dX3_check_52 ?_
        exact W.iret (v := ((-30) - x2_33)) hx hb hr (fun t ht hW => ⟨⟨((-30) - x2_33), (), rfl, hw, by rw [ht]; exact hP, va_K.moved hW.alike hK, hD⟩, hS.F ht⟩) hS.2.2 dX3_check_53
  · have hw := hw.2 c_1
    refine lv_aload_n (pc := 10) hx hb dX3_check_10 rfl (lv_at hl 0 rfl) ?_
    refine lv_iload_n (pc := 11) hx hb dX3_check_11 rfl (lv_at hl 1 rfl) ?_
    have hPx : va_P (dC, dI) vwCl ([] ++ (wM h_M h_M_jobOf h_M_machineOf h_M_durations h_M_arcs h_M_drafts h_M_starts h_M_heads h_M_tails h_M_chosen h_M_orders h_M_sizes cI cZ M_jobs M_many M_isPlanned M_least M_optima M_jobOf M_machineOf M_durations M_arcs M_drafts M_starts M_heads M_tails M_chosen M_orders M_sizes)) H := hP
    have hDx : va_D A ([] ++ (wM h_M h_M_jobOf h_M_machineOf h_M_durations h_M_arcs h_M_drafts h_M_starts h_M_heads h_M_tails h_M_chosen h_M_orders h_M_sizes cI cZ M_jobs M_many M_isPlanned M_least M_optima M_jobOf M_machineOf M_durations M_arcs M_drafts M_starts M_heads M_tails M_chosen M_orders M_sizes)) := hD
    refine kc_i (pc := 12) (w1 := (fun u : Unit => (wM h_M h_M_jobOf h_M_machineOf h_M_durations h_M_arcs h_M_drafts h_M_starts h_M_heads h_M_tails h_M_chosen h_M_orders h_M_sizes cI cZ M_jobs M_many M_isPlanned M_least M_optima M_jobOf M_machineOf M_durations M_arcs M_drafts M_starts M_heads M_tails M_chosen M_orders M_sizes))) (va_runV (As := [.int x1_2]) (rest := []) ⟨hx, hb, hml, hown, hts⟩ (c_X3_isOverBehind l dC dI h_M h_M_jobOf h_M_machineOf h_M_durations h_M_arcs h_M_drafts h_M_starts h_M_heads h_M_tails h_M_chosen h_M_orders h_M_sizes H.size cI cZ M_jobs M_many M_isPlanned M_least M_optima M_jobOf M_machineOf M_durations M_arcs M_drafts M_starts M_heads M_tails M_chosen M_orders M_sizes x1_2 _ hw) (cwV 1 hts gX3_check_X3_isOverBehind rfl rfl rfl (by decide +kernel) ⟨Nat.le_of_ble_eq_true rfl, Nat.le_of_ble_eq_true rfl⟩) (kc_preVM (q0 := 0) (ci := 3) hK hPx hDx [0, 1] rfl rfl rfl) rfl rfl hl.1 rfl (lv_room (Nat.le_of_ble_eq_true rfl)) dX3_check_12 ⟨Nat.zero_le _, Nat.zero_le _⟩) hPx hDx hS hA (fun r_12 u H locs hw hP hD hS => ?_)
    have hP : va_P (dC, dI) vwCl (wM h_M h_M_jobOf h_M_machineOf h_M_durations h_M_arcs h_M_drafts h_M_starts h_M_heads h_M_tails h_M_chosen h_M_orders h_M_sizes cI cZ M_jobs M_many M_isPlanned M_least M_optima M_jobOf M_machineOf M_durations M_arcs M_drafts M_starts M_heads M_tails M_chosen M_orders M_sizes) H := hP
    have hD : va_D A (wM h_M h_M_jobOf h_M_machineOf h_M_durations h_M_arcs h_M_drafts h_M_starts h_M_heads h_M_tails h_M_chosen h_M_orders h_M_sizes cI cZ M_jobs M_many M_isPlanned M_least M_optima M_jobOf M_machineOf M_durations M_arcs M_drafts M_starts M_heads M_tails M_chosen M_orders M_sizes) := hD
    refine lv_if_eq (tgt := 23) (pc := 15) hx hb dX3_check_15 (by decide) (fun c_7 => ?_) (fun c_7 => ?_)
    · have hw := hw.1 c_7
      refine lv_iinc (v := x1_2 + 1) (lv' := [(1, .int (x1_2 + 1)), (0, .ref h_M)]) (pc := 23) hx hb dX3_check_23 hl (k := 1) rfl rfl (by decide) rfl (fun ls hl => ?_)
      refine lv_goto (tgt := 2) (pc := 26) hx hb dX3_check_26 (by decide) ?_
      exact ih_2 (x1_2 + 1) _ _ _ hw.1 hw.2 ⟨hP, hD, hS, (lv_sub hl [1, 0] rfl)⟩
    · have hw := hw.2 c_7
      refine lv_bipush (v := (-10)) (pc := 18) hx hb dX3_check_18 (by decide) ?_
      refine lv_iload_n (pc := 20) hx hb dX3_check_20 rfl (lv_at hl 1 rfl) ?_
      refine lv_isub (pc := 21) hx hb dX3_check_21 ?_
      exact W.iret (v := ((-10) - x1_2)) hx hb hr (fun t ht hW => ⟨⟨((-10) - x1_2), (), rfl, hw, by rw [ht]; exact hP, va_K.moved hW.alike hK, hD⟩, hS.F ht⟩) hS.2.2 dX3_check_22
set_option maxHeartbeats 4000000 in
set_option maxRecDepth 100000 in
theorem c_X3_adopt (l : Launch) (dC : Nat → ClassId) (dI : Nat → Nat → Nat) (h_M h_M_jobOf h_M_machineOf h_M_durations h_M_arcs h_M_drafts h_M_starts h_M_heads h_M_tails h_M_chosen h_M_orders h_M_sizes : Nat) (sz : Nat) (cI cZ : ClassId) (M_jobs : Int32) (M_many : Int32) (M_isPlanned : Int32) (M_least : Int32) (M_optima : Int32) (M_jobOf : Nat → Int32) (M_machineOf : Nat → Int32) (M_durations : Nat → Int32) (M_arcs : Nat → Int32) (M_drafts : Nat → Int32) (M_starts : Nat → Int32) (M_heads : Nat → Int32) (M_tails : Nat → Int32) (M_chosen : Nat → Int32) (M_orders : Nat → Int32) (M_sizes : Nat → Int32) (post : Int32 → (Nat → Int32) → Prop) (hw : wp_X3_adopt M_many M_isPlanned M_least M_drafts M_starts post) : Met l yX3_adopt wsX3_adopt ({ frames := 0, cells := 0, slots := 0, locals := 0 }) (va_Pc [.ref h_M] (fun U => U.heap.size = sz ∧ va_P (dC, dI) vwCl (wM h_M h_M_jobOf h_M_machineOf h_M_durations h_M_arcs h_M_drafts h_M_starts h_M_heads h_M_tails h_M_chosen h_M_orders h_M_sizes cI cZ M_jobs M_many M_isPlanned M_least M_optima M_jobOf M_machineOf M_durations M_arcs M_drafts M_starts M_heads M_tails M_chosen M_orders M_sizes) U.heap ∧ va_K (dC, dI) vwCl [(cI, .int), (cZ, .boolean)] U ∧ va_D (fun _ => True) (wM h_M h_M_jobOf h_M_machineOf h_M_durations h_M_arcs h_M_drafts h_M_starts h_M_heads h_M_tails h_M_chosen h_M_orders h_M_sizes cI cZ M_jobs M_many M_isPlanned M_least M_optima M_jobOf M_machineOf M_durations M_arcs M_drafts M_starts M_heads M_tails M_chosen M_orders M_sizes))) (va_Qi (fun (r : Int32) (u : Nat → Int32) => post r u) (fun u t => va_P (dC, dI) vwCl (wM h_M h_M_jobOf h_M_machineOf h_M_durations h_M_arcs h_M_drafts h_M_starts h_M_heads h_M_tails h_M_chosen h_M_orders h_M_sizes cI cZ M_jobs M_many M_isPlanned M_least M_optima M_jobOf M_machineOf M_durations M_arcs u M_starts M_heads M_tails M_chosen M_orders M_sizes) t.heap ∧ va_K (dC, dI) vwCl [(cI, .int), (cZ, .boolean)] t ∧ va_D (va_A (wM h_M h_M_jobOf h_M_machineOf h_M_durations h_M_arcs h_M_drafts h_M_starts h_M_heads h_M_tails h_M_chosen h_M_orders h_M_sizes cI cZ M_jobs M_many M_isPlanned M_least M_optima M_jobOf M_machineOf M_durations M_arcs M_drafts M_starts M_heads M_tails M_chosen M_orders M_sizes) sz) (wM h_M h_M_jobOf h_M_machineOf h_M_durations h_M_arcs h_M_drafts h_M_starts h_M_heads h_M_tails h_M_chosen h_M_orders h_M_sizes cI cZ M_jobs M_many M_isPlanned M_least M_optima M_jobOf M_machineOf M_durations M_arcs u M_starts M_heads M_tails M_chosen M_orders M_sizes)) (va_A (wM h_M h_M_jobOf h_M_machineOf h_M_durations h_M_arcs h_M_drafts h_M_starts h_M_heads h_M_tails h_M_chosen h_M_orders h_M_sizes cI cZ M_jobs M_many M_isPlanned M_least M_optima M_jobOf M_machineOf M_durations M_arcs M_drafts M_starts M_heads M_tails M_chosen M_orders M_sizes) sz)) 0 0 (va_A (wM h_M h_M_jobOf h_M_machineOf h_M_durations h_M_arcs h_M_drafts h_M_starts h_M_heads h_M_tails h_M_chosen h_M_orders h_M_sizes cI cZ M_jobs M_many M_isPlanned M_least M_optima M_jobOf M_machineOf M_durations M_arcs M_drafts M_starts M_heads M_tails M_chosen M_orders M_sizes) sz) := by
  refine Met.ofW (cc := cX3_adopt) (maxL := 2) (ret := (some .int)) (by decide) rfl ?_
  intro p e s m args below meth c s₁ B hml hv
  obtain ⟨rfl, hsz, hP, hK, hD0⟩ := hv
  have hx := B.exec
  have hb := B.bytes
  have hr := B.returns
  have hts := atoms_spec (ws := wsX3_adopt) B.pre
  have hown : s.vm.findClass RX3 = some m.cls := findClass_of_methodNamed B.named
  have hlocks := B.notSynchronized
  subst hsz
  have hD := hD0.self (sz := s.heap.size)
  generalize hAe : va_A (wM h_M h_M_jobOf h_M_machineOf h_M_durations h_M_arcs h_M_drafts h_M_starts h_M_heads h_M_tails h_M_chosen h_M_orders h_M_sizes cI cZ M_jobs M_many M_isPlanned M_least M_optima M_jobOf M_machineOf M_durations M_arcs M_drafts M_starts M_heads M_tails M_chosen M_orders M_sizes) s.heap.size = A at hD ⊢
  have hA : ∀ q : Nat, s.heap.size ≤ q → A q := fun q h => by rw [← hAe]; exact Or.inr h
  have hS : va_S A s.heap s.heap [] := va_S.rf
  have hP : va_P (dC, dI) vwCl (wM h_M h_M_jobOf h_M_machineOf h_M_durations h_M_arcs h_M_drafts h_M_starts h_M_heads h_M_tails h_M_chosen h_M_orders h_M_sizes cI cZ M_jobs M_many M_isPlanned M_least M_optima M_jobOf M_machineOf M_durations M_arcs M_drafts M_starts M_heads M_tails M_chosen M_orders M_sizes) s.heap := hP
  have hl := lv_entry ([.ref h_M]) (n := 2) (Nat.le_of_ble_eq_true rfl)
  rw [lg_entry_eq]
  generalize (lg_sl ([.ref h_M]) ++ List.replicate (2 - (lg_sl ([.ref h_M])).length) Slot.unset).toArray = ls at hl ⊢
  have hl : lv_has ls 2 [(0, .ref h_M)] := hl
  obtain ⟨H, hH⟩ : ∃ H, H = s.heap := ⟨_, rfl⟩
  rw [← hH] at hP
  have hS : va_S A s.heap H [] := by rw [hH]; exact hS
  refine W_heap hH ?_
  unfold wp_X3_adopt at hw
  have hin_X3 : ∀ w ∈ u_ws RX3 TX3 16, w ∈ wsX3_adopt := by decide +kernel
  refine lv_aload_n (pc := 0) hx hb dX3_adopt_0 rfl (lv_at hl 0 rfl) ?_
  refine va_get (D := (dC, dI)) (ci := 3) (v := .int M_isPlanned) (C := RX3) (T := TX3) (N := 16) (pc := 1) hx hb hts hin_X3 hown hK hP 0 rfl rfl 7 (by decide) (hts (.fieldLink RX3 59 "JobShopModel" "isPlanned" "Z") (by decide +kernel)) (fun _ h9 => h9) rfl dX3_adopt_1 ?_
  refine lv_if_ne (tgt := 9) (pc := 4) hx hb dX3_adopt_4 (by decide) (fun c_1 => ?_) (fun c_1 => ?_)
  · have hw := hw.1 c_1
    refine lv_iconst (v := 0) (pc := 9) hx hb dX3_adopt_9 (by decide) ?_
    refine lv_istore_n (lv' := [(1, .int 0), (0, .ref h_M)]) (pc := 10) hx hb dX3_adopt_10 rfl hl (by decide) rfl (fun ls hl => ?_)
    obtain ⟨I_11, μ_11, hI_11, hs_11⟩ := hw
    refine lp_W (I := fun z : Int32 × (Nat → Int32) => I_11 z.1 z.2) (fun z => μ_11 z.1 z.2) (fun (z : Int32 × (Nat → Int32)) H locs ls => va_P (dC, dI) vwCl (wM h_M h_M_jobOf h_M_machineOf h_M_durations h_M_arcs h_M_drafts h_M_starts h_M_heads h_M_tails h_M_chosen h_M_orders h_M_sizes cI cZ M_jobs M_many M_isPlanned M_least M_optima M_jobOf M_machineOf M_durations M_arcs z.2 M_starts M_heads M_tails M_chosen M_orders M_sizes) H ∧ va_D A (wM h_M h_M_jobOf h_M_machineOf h_M_durations h_M_arcs h_M_drafts h_M_starts h_M_heads h_M_tails h_M_chosen h_M_orders h_M_sizes cI cZ M_jobs M_many M_isPlanned M_least M_optima M_jobOf M_machineOf M_durations M_arcs z.2 M_starts M_heads M_tails M_chosen M_orders M_sizes) ∧ va_S A s.heap H locs ∧ lv_has ls 2 [(0, .ref h_M), (1, .int z.1)]) ?_ (0, M_drafts) _ _ _ hI_11 ⟨hP, hD, hS, (lv_sub hl [1, 0] rfl)⟩
    rintro ⟨x1_11, M_drafts_11⟩ H locs ls hI ⟨hP, hD, hS, hl⟩ ih_11
    have hw := hs_11 x1_11 M_drafts_11 hI
    have hP : va_P (dC, dI) vwCl (wM h_M h_M_jobOf h_M_machineOf h_M_durations h_M_arcs h_M_drafts h_M_starts h_M_heads h_M_tails h_M_chosen h_M_orders h_M_sizes cI cZ M_jobs M_many M_isPlanned M_least M_optima M_jobOf M_machineOf M_durations M_arcs M_drafts_11 M_starts M_heads M_tails M_chosen M_orders M_sizes) H := hP
    have hD : va_D A (wM h_M h_M_jobOf h_M_machineOf h_M_durations h_M_arcs h_M_drafts h_M_starts h_M_heads h_M_tails h_M_chosen h_M_orders h_M_sizes cI cZ M_jobs M_many M_isPlanned M_least M_optima M_jobOf M_machineOf M_durations M_arcs M_drafts_11 M_starts M_heads M_tails M_chosen M_orders M_sizes) := hD
    have hl : lv_has ls 2 [(0, .ref h_M), (1, .int x1_11)] := hl
    refine lv_iload_n (pc := 11) hx hb dX3_adopt_11 rfl (lv_at hl 1 rfl) ?_
    refine lv_aload_n (pc := 12) hx hb dX3_adopt_12 rfl (lv_at hl 0 rfl) ?_
    refine va_get (D := (dC, dI)) (ci := 3) (v := .int M_many) (C := RX3) (T := TX3) (N := 16) (pc := 13) hx hb hts hin_X3 hown hK hP 0 rfl rfl 1 (by decide) (hts (.fieldLink RX3 48 "JobShopModel" "many" "I") (by decide +kernel)) (fun _ h9 => h9) rfl dX3_adopt_13 ?_
    refine lv_icmp_ge (tgt := 37) (pc := 16) hx hb dX3_adopt_16 (by decide) (fun c_2 => ?_) (fun c_2 => ?_)
    · have hw := hw.1 c_2
      refine lv_aload_n (pc := 37) hx hb dX3_adopt_37 rfl (lv_at hl 0 rfl) ?_
      refine va_get (D := (dC, dI)) (ci := 3) (v := .int M_least) (C := RX3) (T := TX3) (N := 16) (pc := 38) hx hb hts hin_X3 hown hK hP 0 rfl rfl 9 (by decide) (hts (.fieldLink RX3 44 "JobShopModel" "least" "I") (by decide +kernel)) (fun _ h9 => h9) rfl dX3_adopt_38 ?_
      exact W.iret (v := M_least) hx hb hr (fun t ht hW => ⟨⟨M_least, M_drafts_11, rfl, hw, by rw [ht]; exact hP, va_K.moved hW.alike hK, hD⟩, hS.F ht⟩) hS.2.2 dX3_adopt_41
    · have hw := hw.2 c_2
      refine lv_aload_n (pc := 19) hx hb dX3_adopt_19 rfl (lv_at hl 0 rfl) ?_
      refine va_get (D := (dC, dI)) (ci := 3) (v := .ref h_M_drafts) (C := RX3) (T := TX3) (N := 16) (pc := 20) hx hb hts hin_X3 hown hK hP 0 rfl rfl 6 (by decide) (hts (.fieldLink RX3 23 "JobShopModel" "drafts" "[I") (by decide +kernel)) (fun _ h9 => h9) rfl dX3_adopt_20 ?_
      refine lv_iload_n (pc := 23) hx hb dX3_adopt_23 rfl (lv_at hl 1 rfl) ?_
      refine lv_aload_n (pc := 24) hx hb dX3_adopt_24 rfl (lv_at hl 0 rfl) ?_
      refine va_get (D := (dC, dI)) (ci := 3) (v := .ref h_M_starts) (C := RX3) (T := TX3) (N := 16) (pc := 25) hx hb hts hin_X3 hown hK hP 0 rfl rfl 8 (by decide) (hts (.fieldLink RX3 26 "JobShopModel" "starts" "[I") (by decide +kernel)) (fun _ h9 => h9) rfl dX3_adopt_25 ?_
      refine lv_iload_n (pc := 28) hx hb dX3_adopt_28 rfl (lv_at hl 1 rfl) ?_
      obtain ⟨b_3, hw⟩ := hw
      refine va_iald (pc := 29) hx hb hK hP 6 0 rfl rfl b_3 dX3_adopt_29 ?_
      obtain ⟨b_4, hw⟩ := hw
      refine va_iast (pc := 30) hx hb hK hP hD hS 5 0 rfl rfl b_4 dX3_adopt_30 (fun H locs hP hD hS => ?_)
      have hP : va_P (dC, dI) vwCl (wM h_M h_M_jobOf h_M_machineOf h_M_durations h_M_arcs h_M_drafts h_M_starts h_M_heads h_M_tails h_M_chosen h_M_orders h_M_sizes cI cZ M_jobs M_many M_isPlanned M_least M_optima M_jobOf M_machineOf M_durations M_arcs (upd M_drafts_11 x1_11.toNatClampNeg (M_starts x1_11.toNatClampNeg)) M_starts M_heads M_tails M_chosen M_orders M_sizes) H := hP
      have hD : va_D A (wM h_M h_M_jobOf h_M_machineOf h_M_durations h_M_arcs h_M_drafts h_M_starts h_M_heads h_M_tails h_M_chosen h_M_orders h_M_sizes cI cZ M_jobs M_many M_isPlanned M_least M_optima M_jobOf M_machineOf M_durations M_arcs (upd M_drafts_11 x1_11.toNatClampNeg (M_starts x1_11.toNatClampNeg)) M_starts M_heads M_tails M_chosen M_orders M_sizes) := hD
      refine lv_iinc (v := x1_11 + 1) (lv' := [(1, .int (x1_11 + 1)), (0, .ref h_M)]) (pc := 31) hx hb dX3_adopt_31 hl (k := 1) rfl rfl (by decide) rfl (fun ls hl => ?_)
      refine lv_goto (tgt := 11) (pc := 34) hx hb dX3_adopt_34 (by decide) ?_
      exact ih_11 ((x1_11 + 1), (upd M_drafts_11 x1_11.toNatClampNeg (M_starts x1_11.toNatClampNeg))) _ _ _ hw.1 hw.2 ⟨hP, hD, hS, (lv_sub hl [1, 0] rfl)⟩
  · have hw := hw.2 c_1
    refine lv_iconst (v := (-1)) (pc := 7) hx hb dX3_adopt_7 (by decide) ?_
    exact W.iret (v := (-1)) hx hb hr (fun t ht hW => ⟨⟨(-1), M_drafts, rfl, hw, by rw [ht]; exact hP, va_K.moved hW.alike hK, hD⟩, hS.F ht⟩) hS.2.2 dX3_adopt_8
set_option maxHeartbeats 4000000 in
set_option maxRecDepth 100000 in
theorem c_X3_count (l : Launch) (dC : Nat → ClassId) (dI : Nat → Nat → Nat) (h_M h_M_jobOf h_M_machineOf h_M_durations h_M_arcs h_M_drafts h_M_starts h_M_heads h_M_tails h_M_chosen h_M_orders h_M_sizes : Nat) (sz : Nat) (cI cZ : ClassId) (M_jobs : Int32) (M_many : Int32) (M_isPlanned : Int32) (M_least : Int32) (M_optima : Int32) (M_jobOf : Nat → Int32) (M_machineOf : Nat → Int32) (M_durations : Nat → Int32) (M_arcs : Nat → Int32) (M_drafts : Nat → Int32) (M_starts : Nat → Int32) (M_heads : Nat → Int32) (M_tails : Nat → Int32) (M_chosen : Nat → Int32) (M_orders : Nat → Int32) (M_sizes : Nat → Int32) (a0 : Int32) (post : Int32 → (Nat → Int32) → (Nat → Int32) → Prop) (hw : wp_X3_count M_jobs M_many M_isPlanned M_least M_jobOf M_machineOf M_durations M_arcs M_heads M_tails a0 post) : Met l yX3_count wsX3_count ({ frames := 5, cells := 0, slots := 0, locals := 121 }) (va_Pc [.ref h_M, .int a0] (fun U => U.heap.size = sz ∧ va_P (dC, dI) vwCl (wM h_M h_M_jobOf h_M_machineOf h_M_durations h_M_arcs h_M_drafts h_M_starts h_M_heads h_M_tails h_M_chosen h_M_orders h_M_sizes cI cZ M_jobs M_many M_isPlanned M_least M_optima M_jobOf M_machineOf M_durations M_arcs M_drafts M_starts M_heads M_tails M_chosen M_orders M_sizes) U.heap ∧ va_K (dC, dI) vwCl [(cI, .int), (cZ, .boolean)] U ∧ va_D (fun _ => True) (wM h_M h_M_jobOf h_M_machineOf h_M_durations h_M_arcs h_M_drafts h_M_starts h_M_heads h_M_tails h_M_chosen h_M_orders h_M_sizes cI cZ M_jobs M_many M_isPlanned M_least M_optima M_jobOf M_machineOf M_durations M_arcs M_drafts M_starts M_heads M_tails M_chosen M_orders M_sizes))) (va_Qi (fun (r : Int32) (u : (Nat → Int32) × (Nat → Int32)) => post r u.1 u.2) (fun u t => va_P (dC, dI) vwCl (wM h_M h_M_jobOf h_M_machineOf h_M_durations h_M_arcs h_M_drafts h_M_starts h_M_heads h_M_tails h_M_chosen h_M_orders h_M_sizes cI cZ M_jobs M_many M_isPlanned M_least M_optima M_jobOf M_machineOf M_durations M_arcs M_drafts M_starts u.1 u.2 M_chosen M_orders M_sizes) t.heap ∧ va_K (dC, dI) vwCl [(cI, .int), (cZ, .boolean)] t ∧ va_D (va_A (wM h_M h_M_jobOf h_M_machineOf h_M_durations h_M_arcs h_M_drafts h_M_starts h_M_heads h_M_tails h_M_chosen h_M_orders h_M_sizes cI cZ M_jobs M_many M_isPlanned M_least M_optima M_jobOf M_machineOf M_durations M_arcs M_drafts M_starts M_heads M_tails M_chosen M_orders M_sizes) sz) (wM h_M h_M_jobOf h_M_machineOf h_M_durations h_M_arcs h_M_drafts h_M_starts h_M_heads h_M_tails h_M_chosen h_M_orders h_M_sizes cI cZ M_jobs M_many M_isPlanned M_least M_optima M_jobOf M_machineOf M_durations M_arcs M_drafts M_starts u.1 u.2 M_chosen M_orders M_sizes)) (va_A (wM h_M h_M_jobOf h_M_machineOf h_M_durations h_M_arcs h_M_drafts h_M_starts h_M_heads h_M_tails h_M_chosen h_M_orders h_M_sizes cI cZ M_jobs M_many M_isPlanned M_least M_optima M_jobOf M_machineOf M_durations M_arcs M_drafts M_starts M_heads M_tails M_chosen M_orders M_sizes) sz)) 0 0 (va_A (wM h_M h_M_jobOf h_M_machineOf h_M_durations h_M_arcs h_M_drafts h_M_starts h_M_heads h_M_tails h_M_chosen h_M_orders h_M_sizes cI cZ M_jobs M_many M_isPlanned M_least M_optima M_jobOf M_machineOf M_durations M_arcs M_drafts M_starts M_heads M_tails M_chosen M_orders M_sizes) sz) := by
  refine Met.ofW (cc := cX3_count) (maxL := 7) (ret := (some .int)) (by decide) rfl ?_
  intro p e s m args below meth c s₁ B hml hv
  obtain ⟨rfl, hsz, hP, hK, hD0⟩ := hv
  have hx := B.exec
  have hb := B.bytes
  have hr := B.returns
  have hts := atoms_spec (ws := wsX3_count) B.pre
  have hown : s.vm.findClass RX3 = some m.cls := findClass_of_methodNamed B.named
  have hlocks := B.notSynchronized
  subst hsz
  have hD := hD0.self (sz := s.heap.size)
  generalize hAe : va_A (wM h_M h_M_jobOf h_M_machineOf h_M_durations h_M_arcs h_M_drafts h_M_starts h_M_heads h_M_tails h_M_chosen h_M_orders h_M_sizes cI cZ M_jobs M_many M_isPlanned M_least M_optima M_jobOf M_machineOf M_durations M_arcs M_drafts M_starts M_heads M_tails M_chosen M_orders M_sizes) s.heap.size = A at hD ⊢
  have hA : ∀ q : Nat, s.heap.size ≤ q → A q := fun q h => by rw [← hAe]; exact Or.inr h
  have hS : va_S A s.heap s.heap [] := va_S.rf
  have hP : va_P (dC, dI) vwCl (wM h_M h_M_jobOf h_M_machineOf h_M_durations h_M_arcs h_M_drafts h_M_starts h_M_heads h_M_tails h_M_chosen h_M_orders h_M_sizes cI cZ M_jobs M_many M_isPlanned M_least M_optima M_jobOf M_machineOf M_durations M_arcs M_drafts M_starts M_heads M_tails M_chosen M_orders M_sizes) s.heap := hP
  have hl := lv_entry ([.ref h_M, .int a0]) (n := 7) (Nat.le_of_ble_eq_true rfl)
  rw [lg_entry_eq]
  generalize (lg_sl ([.ref h_M, .int a0]) ++ List.replicate (7 - (lg_sl ([.ref h_M, .int a0])).length) Slot.unset).toArray = ls at hl ⊢
  have hl : lv_has ls 7 [(0, .ref h_M), (1, .int a0)] := hl
  obtain ⟨H, hH⟩ : ∃ H, H = s.heap := ⟨_, rfl⟩
  rw [← hH] at hP
  have hS : va_S A s.heap H [] := by rw [hH]; exact hS
  refine W_heap hH ?_
  unfold wp_X3_count at hw
  have hin_X3 : ∀ w ∈ u_ws RX3 TX3 16, w ∈ wsX3_count := by decide +kernel
  refine lv_iconst (v := 0) (pc := 0) hx hb dX3_count_0 (by decide) ?_
  refine lv_istore_n (lv' := [(2, .int 0), (0, .ref h_M), (1, .int a0)]) (pc := 1) hx hb dX3_count_1 rfl hl (by decide) rfl (fun ls hl => ?_)
  refine lv_iconst (v := 0) (pc := 2) hx hb dX3_count_2 (by decide) ?_
  refine lv_istore_n (lv' := [(3, .int 0), (2, .int 0), (0, .ref h_M), (1, .int a0)]) (pc := 3) hx hb dX3_count_3 rfl hl (by decide) rfl (fun ls hl => ?_)
  refine lv_iconst (v := 0) (pc := 4) hx hb dX3_count_4 (by decide) ?_
  refine lv_istore (lv' := [(4, .int 0), (3, .int 0), (2, .int 0), (0, .ref h_M), (1, .int a0)]) (pc := 5) hx hb dX3_count_5 hl (by decide) rfl (fun ls hl => ?_)
  obtain ⟨I_7, μ_7, hI_7, hs_7⟩ := hw
  refine lp_W (I := fun z : Int32 × Int32 × Int32 => I_7 z.1 z.2.1 z.2.2) (fun z => μ_7 z.1 z.2.1 z.2.2) (fun (z : Int32 × Int32 × Int32) H locs ls => va_P (dC, dI) vwCl (wM h_M h_M_jobOf h_M_machineOf h_M_durations h_M_arcs h_M_drafts h_M_starts h_M_heads h_M_tails h_M_chosen h_M_orders h_M_sizes cI cZ M_jobs M_many M_isPlanned M_least M_optima M_jobOf M_machineOf M_durations M_arcs M_drafts M_starts M_heads M_tails M_chosen M_orders M_sizes) H ∧ va_D A (wM h_M h_M_jobOf h_M_machineOf h_M_durations h_M_arcs h_M_drafts h_M_starts h_M_heads h_M_tails h_M_chosen h_M_orders h_M_sizes cI cZ M_jobs M_many M_isPlanned M_least M_optima M_jobOf M_machineOf M_durations M_arcs M_drafts M_starts M_heads M_tails M_chosen M_orders M_sizes) ∧ va_S A s.heap H locs ∧ lv_has ls 7 [(0, .ref h_M), (1, .int a0), (2, .int z.1), (3, .int z.2.1), (4, .int z.2.2)]) ?_ (0, 0, 0) _ _ _ hI_7 ⟨hP, hD, hS, (lv_sub hl [3, 4, 2, 1, 0] rfl)⟩
  rintro ⟨x2_7, x3_7, x4_7⟩ H locs ls hI ⟨hP, hD, hS, hl⟩ ih_7
  have hw := hs_7 x2_7 x3_7 x4_7 hI
  have hP : va_P (dC, dI) vwCl (wM h_M h_M_jobOf h_M_machineOf h_M_durations h_M_arcs h_M_drafts h_M_starts h_M_heads h_M_tails h_M_chosen h_M_orders h_M_sizes cI cZ M_jobs M_many M_isPlanned M_least M_optima M_jobOf M_machineOf M_durations M_arcs M_drafts M_starts M_heads M_tails M_chosen M_orders M_sizes) H := hP
  have hD : va_D A (wM h_M h_M_jobOf h_M_machineOf h_M_durations h_M_arcs h_M_drafts h_M_starts h_M_heads h_M_tails h_M_chosen h_M_orders h_M_sizes cI cZ M_jobs M_many M_isPlanned M_least M_optima M_jobOf M_machineOf M_durations M_arcs M_drafts M_starts M_heads M_tails M_chosen M_orders M_sizes) := hD
  have hl : lv_has ls 7 [(0, .ref h_M), (1, .int a0), (2, .int x2_7), (3, .int x3_7), (4, .int x4_7)] := hl
  refine lv_iload (pc := 7) hx hb dX3_count_7 (lv_at hl 4 rfl) ?_
  refine lv_aload_n (pc := 9) hx hb dX3_count_9 rfl (lv_at hl 0 rfl) ?_
  refine va_get (D := (dC, dI)) (ci := 3) (v := .int M_many) (C := RX3) (T := TX3) (N := 16) (pc := 10) hx hb hts hin_X3 hown hK hP 0 rfl rfl 1 (by decide) (hts (.fieldLink RX3 48 "JobShopModel" "many" "I") (by decide +kernel)) (fun _ h9 => h9) rfl dX3_count_10 ?_
  refine lv_icmp_ge (tgt := 122) (pc := 13) hx hb dX3_count_13 (by decide) (fun c_1 => ?_) (fun c_1 => ?_)
  · have hw := hw.1 c_1
    refine lv_iload_n (pc := 122) hx hb dX3_count_122 rfl (lv_at hl 1 rfl) ?_
    by_cases k_2 : a0 = 0
    · refine lv_tableIn (off := 37) (tgt := 160) (pc := 123) hx hb dX3_count_123 (by rw [k_2]; decide) (by rw [k_2]; decide) (by rw [k_2]; rfl) (by decide) ?_
      have hw := hw.1 k_2
      refine lv_aload_n (pc := 160) hx hb dX3_count_160 rfl (lv_at hl 0 rfl) ?_
      refine va_get (D := (dC, dI)) (ci := 3) (v := .int M_jobs) (C := RX3) (T := TX3) (N := 16) (pc := 161) hx hb hts hin_X3 hown hK hP 0 rfl rfl 0 (by decide) (hts (.fieldLink RX3 63 "JobShopModel" "jobs" "I") (by decide +kernel)) (fun _ h9 => h9) rfl dX3_count_161 ?_
      exact W.iret (v := M_jobs) hx hb hr (fun t ht hW => ⟨⟨M_jobs, (M_heads, M_tails), rfl, hw, by rw [ht]; exact hP, va_K.moved hW.alike hK, hD⟩, hS.F ht⟩) hS.2.2 dX3_count_164
    by_cases k_3 : a0 = 1
    · refine lv_tableIn (off := 42) (tgt := 165) (pc := 123) hx hb dX3_count_123 (by rw [k_3]; decide) (by rw [k_3]; decide) (by rw [k_3]; rfl) (by decide) ?_
      have hw := hw.2.1 k_3
      refine lv_aload_n (pc := 165) hx hb dX3_count_165 rfl (lv_at hl 0 rfl) ?_
      refine va_get (D := (dC, dI)) (ci := 3) (v := .int M_many) (C := RX3) (T := TX3) (N := 16) (pc := 166) hx hb hts hin_X3 hown hK hP 0 rfl rfl 1 (by decide) (hts (.fieldLink RX3 48 "JobShopModel" "many" "I") (by decide +kernel)) (fun _ h9 => h9) rfl dX3_count_166 ?_
      exact W.iret (v := M_many) hx hb hr (fun t ht hW => ⟨⟨M_many, (M_heads, M_tails), rfl, hw, by rw [ht]; exact hP, va_K.moved hW.alike hK, hD⟩, hS.F ht⟩) hS.2.2 dX3_count_169
    by_cases k_4 : a0 = 2
    · refine lv_tableIn (off := 47) (tgt := 170) (pc := 123) hx hb dX3_count_123 (by rw [k_4]; decide) (by rw [k_4]; decide) (by rw [k_4]; rfl) (by decide) ?_
      have hw := hw.2.2.1 k_4
      refine lv_iload_n (pc := 170) hx hb dX3_count_170 rfl (lv_at hl 2 rfl) ?_
      exact W.iret (v := x2_7) hx hb hr (fun t ht hW => ⟨⟨x2_7, (M_heads, M_tails), rfl, hw, by rw [ht]; exact hP, va_K.moved hW.alike hK, hD⟩, hS.F ht⟩) hS.2.2 dX3_count_171
    by_cases k_5 : a0 = 3
    · refine lv_tableIn (off := 49) (tgt := 172) (pc := 123) hx hb dX3_count_123 (by rw [k_5]; decide) (by rw [k_5]; decide) (by rw [k_5]; rfl) (by decide) ?_
      have hw := hw.2.2.2.1 k_5
      refine lv_iload_n (pc := 172) hx hb dX3_count_172 rfl (lv_at hl 3 rfl) ?_
      exact W.iret (v := x3_7) hx hb hr (fun t ht hW => ⟨⟨x3_7, (M_heads, M_tails), rfl, hw, by rw [ht]; exact hP, va_K.moved hW.alike hK, hD⟩, hS.F ht⟩) hS.2.2 dX3_count_173
    by_cases k_6 : a0 = 4
    · refine lv_tableIn (off := 51) (tgt := 174) (pc := 123) hx hb dX3_count_123 (by rw [k_6]; decide) (by rw [k_6]; decide) (by rw [k_6]; rfl) (by decide) ?_
      have hw := hw.2.2.2.2.1 k_6
      refine lv_aload_n (pc := 174) hx hb dX3_count_174 rfl (lv_at hl 0 rfl) ?_
      have hPx : va_P (dC, dI) vwCl ([] ++ (wM h_M h_M_jobOf h_M_machineOf h_M_durations h_M_arcs h_M_drafts h_M_starts h_M_heads h_M_tails h_M_chosen h_M_orders h_M_sizes cI cZ M_jobs M_many M_isPlanned M_least M_optima M_jobOf M_machineOf M_durations M_arcs M_drafts M_starts M_heads M_tails M_chosen M_orders M_sizes)) H := hP
      have hDx : va_D A ([] ++ (wM h_M h_M_jobOf h_M_machineOf h_M_durations h_M_arcs h_M_drafts h_M_starts h_M_heads h_M_tails h_M_chosen h_M_orders h_M_sizes cI cZ M_jobs M_many M_isPlanned M_least M_optima M_jobOf M_machineOf M_durations M_arcs M_drafts M_starts M_heads M_tails M_chosen M_orders M_sizes)) := hD
      refine kc_i (pc := 175) (w1 := (fun u : (Nat → Int32) × (Nat → Int32) => (wM h_M h_M_jobOf h_M_machineOf h_M_durations h_M_arcs h_M_drafts h_M_starts h_M_heads h_M_tails h_M_chosen h_M_orders h_M_sizes cI cZ M_jobs M_many M_isPlanned M_least M_optima M_jobOf M_machineOf M_durations M_arcs M_drafts M_starts u.1 u.2 M_chosen M_orders M_sizes))) (va_runV (As := []) (rest := []) ⟨hx, hb, hml, hown, hts⟩ (c_X3_length l dC dI h_M h_M_jobOf h_M_machineOf h_M_durations h_M_arcs h_M_drafts h_M_starts h_M_heads h_M_tails h_M_chosen h_M_orders h_M_sizes H.size cI cZ M_jobs M_many M_isPlanned M_least M_optima M_jobOf M_machineOf M_durations M_arcs M_drafts M_starts M_heads M_tails M_chosen M_orders M_sizes _ hw) (cwV 0 hts gX3_count_X3_length rfl rfl rfl (by decide +kernel) ⟨Nat.le_of_ble_eq_true rfl, Nat.le_of_ble_eq_true rfl⟩) (kc_preVM (q0 := 0) (ci := 3) hK hPx hDx [0, 1] rfl rfl rfl) rfl rfl hl.1 rfl (lv_room (Nat.le_of_ble_eq_true rfl)) dX3_count_175 ⟨Nat.zero_le _, Nat.zero_le _⟩) hPx hDx hS hA (fun r_175 u H locs hw hP hD hS => ?_)
      obtain ⟨M_heads_175, M_tails_175⟩ := u
      have hP : va_P (dC, dI) vwCl (wM h_M h_M_jobOf h_M_machineOf h_M_durations h_M_arcs h_M_drafts h_M_starts h_M_heads h_M_tails h_M_chosen h_M_orders h_M_sizes cI cZ M_jobs M_many M_isPlanned M_least M_optima M_jobOf M_machineOf M_durations M_arcs M_drafts M_starts M_heads_175 M_tails_175 M_chosen M_orders M_sizes) H := hP
      have hD : va_D A (wM h_M h_M_jobOf h_M_machineOf h_M_durations h_M_arcs h_M_drafts h_M_starts h_M_heads h_M_tails h_M_chosen h_M_orders h_M_sizes cI cZ M_jobs M_many M_isPlanned M_least M_optima M_jobOf M_machineOf M_durations M_arcs M_drafts M_starts M_heads_175 M_tails_175 M_chosen M_orders M_sizes) := hD
      refine lv_istore (lv' := [(4, .int r_175), (0, .ref h_M), (1, .int a0), (2, .int x2_7), (3, .int x3_7)]) (pc := 178) hx hb dX3_count_178 hl (by decide) rfl (fun ls hl => ?_)
      refine lv_iconst (v := 0) (pc := 180) hx hb dX3_count_180 (by decide) ?_
      refine lv_istore (lv' := [(5, .int 0), (4, .int r_175), (0, .ref h_M), (1, .int a0), (2, .int x2_7), (3, .int x3_7)]) (pc := 181) hx hb dX3_count_181 hl (by decide) rfl (fun ls hl => ?_)
      obtain ⟨I_183, μ_183, hI_183, hs_183⟩ := hw
      refine lp_W (I := fun z : Int32 × Int32 × (Nat → Int32) × (Nat → Int32) => I_183 z.1 z.2.1 z.2.2.1 z.2.2.2) (fun z => μ_183 z.1 z.2.1 z.2.2.1 z.2.2.2) (fun (z : Int32 × Int32 × (Nat → Int32) × (Nat → Int32)) H locs ls => va_P (dC, dI) vwCl (wM h_M h_M_jobOf h_M_machineOf h_M_durations h_M_arcs h_M_drafts h_M_starts h_M_heads h_M_tails h_M_chosen h_M_orders h_M_sizes cI cZ M_jobs M_many M_isPlanned M_least M_optima M_jobOf M_machineOf M_durations M_arcs M_drafts M_starts z.2.2.1 z.2.2.2 M_chosen M_orders M_sizes) H ∧ va_D A (wM h_M h_M_jobOf h_M_machineOf h_M_durations h_M_arcs h_M_drafts h_M_starts h_M_heads h_M_tails h_M_chosen h_M_orders h_M_sizes cI cZ M_jobs M_many M_isPlanned M_least M_optima M_jobOf M_machineOf M_durations M_arcs M_drafts M_starts z.2.2.1 z.2.2.2 M_chosen M_orders M_sizes) ∧ va_S A s.heap H locs ∧ lv_has ls 7 [(0, .ref h_M), (4, .int z.1), (5, .int z.2.1)]) ?_ (r_175, 0, M_heads_175, M_tails_175) _ _ _ hI_183 ⟨hP, hD, hS, (lv_sub hl [2, 1, 0] rfl)⟩
      rintro ⟨x4_183, x5_183, M_heads_183, M_tails_183⟩ H locs ls hI ⟨hP, hD, hS, hl⟩ ih_183
      have hw := hs_183 x4_183 x5_183 M_heads_183 M_tails_183 hI
      have hP : va_P (dC, dI) vwCl (wM h_M h_M_jobOf h_M_machineOf h_M_durations h_M_arcs h_M_drafts h_M_starts h_M_heads h_M_tails h_M_chosen h_M_orders h_M_sizes cI cZ M_jobs M_many M_isPlanned M_least M_optima M_jobOf M_machineOf M_durations M_arcs M_drafts M_starts M_heads_183 M_tails_183 M_chosen M_orders M_sizes) H := hP
      have hD : va_D A (wM h_M h_M_jobOf h_M_machineOf h_M_durations h_M_arcs h_M_drafts h_M_starts h_M_heads h_M_tails h_M_chosen h_M_orders h_M_sizes cI cZ M_jobs M_many M_isPlanned M_least M_optima M_jobOf M_machineOf M_durations M_arcs M_drafts M_starts M_heads_183 M_tails_183 M_chosen M_orders M_sizes) := hD
      have hl : lv_has ls 7 [(0, .ref h_M), (4, .int x4_183), (5, .int x5_183)] := hl
      refine lv_iload (pc := 183) hx hb dX3_count_183 (lv_at hl 2 rfl) ?_
      refine lv_iconst (v := 4) (pc := 185) hx hb dX3_count_185 (by decide) ?_
      refine lv_icmp_ge (tgt := 219) (pc := 186) hx hb dX3_count_186 (by decide) (fun c_7 => ?_) (fun c_7 => ?_)
      · have hw := hw.1 c_7
        refine lv_iload (pc := 219) hx hb dX3_count_219 (lv_at hl 1 rfl) ?_
        exact W.iret (v := x4_183) hx hb hr (fun t ht hW => ⟨⟨x4_183, (M_heads_183, M_tails_183), rfl, hw, by rw [ht]; exact hP, va_K.moved hW.alike hK, hD⟩, hS.F ht⟩) hS.2.2 dX3_count_221
      · have hw := hw.2 c_7
        refine lv_aload_n (pc := 189) hx hb dX3_count_189 rfl (lv_at hl 0 rfl) ?_
        refine lv_iload (pc := 190) hx hb dX3_count_190 (lv_at hl 2 rfl) ?_
        have hPx : va_P (dC, dI) vwCl ([] ++ (wM h_M h_M_jobOf h_M_machineOf h_M_durations h_M_arcs h_M_drafts h_M_starts h_M_heads h_M_tails h_M_chosen h_M_orders h_M_sizes cI cZ M_jobs M_many M_isPlanned M_least M_optima M_jobOf M_machineOf M_durations M_arcs M_drafts M_starts M_heads_183 M_tails_183 M_chosen M_orders M_sizes)) H := hP
        have hDx : va_D A ([] ++ (wM h_M h_M_jobOf h_M_machineOf h_M_durations h_M_arcs h_M_drafts h_M_starts h_M_heads h_M_tails h_M_chosen h_M_orders h_M_sizes cI cZ M_jobs M_many M_isPlanned M_least M_optima M_jobOf M_machineOf M_durations M_arcs M_drafts M_starts M_heads_183 M_tails_183 M_chosen M_orders M_sizes)) := hD
        refine kc_i (pc := 192) (w1 := (fun u : (Nat → Int32) × (Nat → Int32) => (wM h_M h_M_jobOf h_M_machineOf h_M_durations h_M_arcs h_M_drafts h_M_starts h_M_heads h_M_tails h_M_chosen h_M_orders h_M_sizes cI cZ M_jobs M_many M_isPlanned M_least M_optima M_jobOf M_machineOf M_durations M_arcs M_drafts M_starts u.1 u.2 M_chosen M_orders M_sizes))) (va_runV (As := [.int x5_183]) (rest := []) ⟨hx, hb, hml, hown, hts⟩ (c_X3_load l dC dI h_M h_M_jobOf h_M_machineOf h_M_durations h_M_arcs h_M_drafts h_M_starts h_M_heads h_M_tails h_M_chosen h_M_orders h_M_sizes H.size cI cZ M_jobs M_many M_isPlanned M_least M_optima M_jobOf M_machineOf M_durations M_arcs M_drafts M_starts M_heads_183 M_tails_183 M_chosen M_orders M_sizes x5_183 _ hw) (cwV 1 hts gX3_count_X3_load rfl rfl rfl (by decide +kernel) ⟨Nat.le_of_ble_eq_true rfl, Nat.le_of_ble_eq_true rfl⟩) (kc_preVM (q0 := 0) (ci := 3) hK hPx hDx [0, 1] rfl rfl rfl) rfl rfl hl.1 rfl (lv_room (Nat.le_of_ble_eq_true rfl)) dX3_count_192 ⟨Nat.zero_le _, Nat.zero_le _⟩) hPx hDx hS hA (fun r_192 u H locs hw hP hD hS => ?_)
        obtain ⟨M_heads_192, M_tails_192⟩ := u
        have hP : va_P (dC, dI) vwCl (wM h_M h_M_jobOf h_M_machineOf h_M_durations h_M_arcs h_M_drafts h_M_starts h_M_heads h_M_tails h_M_chosen h_M_orders h_M_sizes cI cZ M_jobs M_many M_isPlanned M_least M_optima M_jobOf M_machineOf M_durations M_arcs M_drafts M_starts M_heads_192 M_tails_192 M_chosen M_orders M_sizes) H := hP
        have hD : va_D A (wM h_M h_M_jobOf h_M_machineOf h_M_durations h_M_arcs h_M_drafts h_M_starts h_M_heads h_M_tails h_M_chosen h_M_orders h_M_sizes cI cZ M_jobs M_many M_isPlanned M_least M_optima M_jobOf M_machineOf M_durations M_arcs M_drafts M_starts M_heads_192 M_tails_192 M_chosen M_orders M_sizes) := hD
        refine lv_istore (lv' := [(6, .int r_192), (0, .ref h_M), (4, .int x4_183), (5, .int x5_183)]) (pc := 195) hx hb dX3_count_195 hl (by decide) rfl (fun ls hl => ?_)
        refine lv_iload (pc := 197) hx hb dX3_count_197 (lv_at hl 0 rfl) ?_
        refine lv_iload (pc := 199) hx hb dX3_count_199 (lv_at hl 2 rfl) ?_
        refine lv_icmp_le (tgt := 209) (pc := 201) hx hb dX3_count_201 (by decide) (fun c_8 => ?_) (fun c_8 => ?_)
        · have hw := hw.1 c_8
          refine lv_iload (pc := 209) hx hb dX3_count_209 (lv_at hl 2 rfl) ?_
          refine lv_istore (lv' := [(4, .int x4_183), (6, .int r_192), (0, .ref h_M), (5, .int x5_183)]) (pc := 211) hx hb dX3_count_211 hl (by decide) rfl (fun ls hl => ?_)
          refine lv_iinc (v := x5_183 + 1) (lv' := [(5, .int (x5_183 + 1)), (4, .int x4_183), (6, .int r_192), (0, .ref h_M)]) (pc := 213) hx hb dX3_count_213 hl (k := 3) rfl rfl (by decide) rfl (fun ls hl => ?_)
          refine lv_goto (tgt := 183) (pc := 216) hx hb dX3_count_216 (by decide) ?_
          exact ih_183 (x4_183, (x5_183 + 1), M_heads_192, M_tails_192) _ _ _ hw.1 hw.2 ⟨hP, hD, hS, (lv_sub hl [3, 1, 0] rfl)⟩
        · have hw := hw.2 c_8
          refine lv_iload (pc := 204) hx hb dX3_count_204 (lv_at hl 0 rfl) ?_
          refine lv_goto (tgt := 211) (pc := 206) hx hb dX3_count_206 (by decide) ?_
          refine lv_istore (lv' := [(4, .int r_192), (6, .int r_192), (0, .ref h_M), (5, .int x5_183)]) (pc := 211) hx hb dX3_count_211 hl (by decide) rfl (fun ls hl => ?_)
          refine lv_iinc (v := x5_183 + 1) (lv' := [(5, .int (x5_183 + 1)), (4, .int r_192), (6, .int r_192), (0, .ref h_M)]) (pc := 213) hx hb dX3_count_213 hl (k := 3) rfl rfl (by decide) rfl (fun ls hl => ?_)
          refine lv_goto (tgt := 183) (pc := 216) hx hb dX3_count_216 (by decide) ?_
          exact ih_183 (r_192, (x5_183 + 1), M_heads_192, M_tails_192) _ _ _ hw.1 hw.2 ⟨hP, hD, hS, (lv_sub hl [3, 1, 0] rfl)⟩
    by_cases k_9 : a0 = 5
    · refine lv_tableIn (off := 99) (tgt := 222) (pc := 123) hx hb dX3_count_123 (by rw [k_9]; decide) (by rw [k_9]; decide) (by rw [k_9]; rfl) (by decide) ?_
      have hw := hw.2.2.2.2.2.1 k_9
      refine lv_aload_n (pc := 222) hx hb dX3_count_222 rfl (lv_at hl 0 rfl) ?_
      refine va_get (D := (dC, dI)) (ci := 3) (v := .int M_isPlanned) (C := RX3) (T := TX3) (N := 16) (pc := 223) hx hb hts hin_X3 hown hK hP 0 rfl rfl 7 (by decide) (hts (.fieldLink RX3 59 "JobShopModel" "isPlanned" "Z") (by decide +kernel)) (fun _ h9 => h9) rfl dX3_count_223 ?_
      refine lv_if_eq (tgt := 236) (pc := 226) hx hb dX3_count_226 (by decide) (fun c_10 => ?_) (fun c_10 => ?_)
      · have hw := hw.1 c_10
        refine lv_iconst (v := (-1)) (pc := 236) hx hb dX3_count_236 (by decide) ?_
        exact W.iret (v := (-1)) hx hb hr (fun t ht hW => ⟨⟨(-1), (M_heads, M_tails), rfl, hw, by rw [ht]; exact hP, va_K.moved hW.alike hK, hD⟩, hS.F ht⟩) hS.2.2 dX3_count_237
      · have hw := hw.2 c_10
        refine lv_aload_n (pc := 229) hx hb dX3_count_229 rfl (lv_at hl 0 rfl) ?_
        refine va_get (D := (dC, dI)) (ci := 3) (v := .int M_least) (C := RX3) (T := TX3) (N := 16) (pc := 230) hx hb hts hin_X3 hown hK hP 0 rfl rfl 9 (by decide) (hts (.fieldLink RX3 44 "JobShopModel" "least" "I") (by decide +kernel)) (fun _ h9 => h9) rfl dX3_count_230 ?_
        refine lv_goto (tgt := 237) (pc := 233) hx hb dX3_count_233 (by decide) ?_
        exact W.iret (v := M_least) hx hb hr (fun t ht hW => ⟨⟨M_least, (M_heads, M_tails), rfl, hw, by rw [ht]; exact hP, va_K.moved hW.alike hK, hD⟩, hS.F ht⟩) hS.2.2 dX3_count_237
    have ho : a0.toInt < 0 ∨ 5 < a0.toInt := by have q0 := lv_neT k_2 (a := 0) rfl; have q1 := lv_neT k_3 (a := 1) rfl; have q2 := lv_neT k_4 (a := 2) rfl; have q3 := lv_neT k_5 (a := 3) rfl; have q4 := lv_neT k_6 (a := 4) rfl; have q5 := lv_neT k_9 (a := 5) rfl; omega
    refine lv_tableOut (tgt := 238) (pc := 123) hx hb dX3_count_123 ho (by decide) ?_
    have hw := hw.2.2.2.2.2.2 ho
    refine lv_bipush (v := (-2)) (pc := 238) hx hb dX3_count_238 (by decide) ?_
    exact W.iret (v := (-2)) hx hb hr (fun t ht hW => ⟨⟨(-2), (M_heads, M_tails), rfl, hw, by rw [ht]; exact hP, va_K.moved hW.alike hK, hD⟩, hS.F ht⟩) hS.2.2 dX3_count_240
  · have hw := hw.2 c_1
    refine lv_iconst (v := 0) (pc := 16) hx hb dX3_count_16 (by decide) ?_
    refine lv_istore (lv' := [(5, .int 0), (0, .ref h_M), (1, .int a0), (2, .int x2_7), (3, .int x3_7), (4, .int x4_7)]) (pc := 17) hx hb dX3_count_17 hl (by decide) rfl (fun ls hl => ?_)
    obtain ⟨I_19, μ_19, hI_19, hs_19⟩ := hw
    refine lp_W (I := fun z : Int32 × Int32 × Int32 => I_19 z.1 z.2.1 z.2.2) (fun z => μ_19 z.1 z.2.1 z.2.2) (fun (z : Int32 × Int32 × Int32) H locs ls => va_P (dC, dI) vwCl (wM h_M h_M_jobOf h_M_machineOf h_M_durations h_M_arcs h_M_drafts h_M_starts h_M_heads h_M_tails h_M_chosen h_M_orders h_M_sizes cI cZ M_jobs M_many M_isPlanned M_least M_optima M_jobOf M_machineOf M_durations M_arcs M_drafts M_starts M_heads M_tails M_chosen M_orders M_sizes) H ∧ va_D A (wM h_M h_M_jobOf h_M_machineOf h_M_durations h_M_arcs h_M_drafts h_M_starts h_M_heads h_M_tails h_M_chosen h_M_orders h_M_sizes cI cZ M_jobs M_many M_isPlanned M_least M_optima M_jobOf M_machineOf M_durations M_arcs M_drafts M_starts M_heads M_tails M_chosen M_orders M_sizes) ∧ va_S A s.heap H locs ∧ lv_has ls 7 [(0, .ref h_M), (1, .int a0), (2, .int z.1), (3, .int z.2.1), (4, .int x4_7), (5, .int z.2.2)]) ?_ (x2_7, x3_7, 0) _ _ _ hI_19 ⟨hP, hD, hS, (lv_sub hl [1, 2, 3, 4, 5, 0] rfl)⟩
    rintro ⟨x2_19, x3_19, x5_19⟩ H locs ls hI ⟨hP, hD, hS, hl⟩ ih_19
    have hw := hs_19 x2_19 x3_19 x5_19 hI
    have hP : va_P (dC, dI) vwCl (wM h_M h_M_jobOf h_M_machineOf h_M_durations h_M_arcs h_M_drafts h_M_starts h_M_heads h_M_tails h_M_chosen h_M_orders h_M_sizes cI cZ M_jobs M_many M_isPlanned M_least M_optima M_jobOf M_machineOf M_durations M_arcs M_drafts M_starts M_heads M_tails M_chosen M_orders M_sizes) H := hP
    have hD : va_D A (wM h_M h_M_jobOf h_M_machineOf h_M_durations h_M_arcs h_M_drafts h_M_starts h_M_heads h_M_tails h_M_chosen h_M_orders h_M_sizes cI cZ M_jobs M_many M_isPlanned M_least M_optima M_jobOf M_machineOf M_durations M_arcs M_drafts M_starts M_heads M_tails M_chosen M_orders M_sizes) := hD
    have hl : lv_has ls 7 [(0, .ref h_M), (1, .int a0), (2, .int x2_19), (3, .int x3_19), (4, .int x4_7), (5, .int x5_19)] := hl
    refine lv_iload (pc := 19) hx hb dX3_count_19 (lv_at hl 5 rfl) ?_
    refine lv_aload_n (pc := 21) hx hb dX3_count_21 rfl (lv_at hl 0 rfl) ?_
    refine va_get (D := (dC, dI)) (ci := 3) (v := .int M_many) (C := RX3) (T := TX3) (N := 16) (pc := 22) hx hb hts hin_X3 hown hK hP 0 rfl rfl 1 (by decide) (hts (.fieldLink RX3 48 "JobShopModel" "many" "I") (by decide +kernel)) (fun _ h9 => h9) rfl dX3_count_22 ?_
    refine lv_icmp_ge (tgt := 116) (pc := 25) hx hb dX3_count_25 (by decide) (fun c_11 => ?_) (fun c_11 => ?_)
    · have hw := hw.1 c_11
      refine lv_iinc (v := x4_7 + 1) (lv' := [(4, .int (x4_7 + 1)), (0, .ref h_M), (1, .int a0), (2, .int x2_19), (3, .int x3_19), (5, .int x5_19)]) (pc := 116) hx hb dX3_count_116 hl (k := 4) rfl rfl (by decide) rfl (fun ls hl => ?_)
      refine lv_goto (tgt := 7) (pc := 119) hx hb dX3_count_119 (by decide) ?_
      exact ih_7 (x2_19, x3_19, (x4_7 + 1)) _ _ _ hw.1 hw.2 ⟨hP, hD, hS, (lv_sub hl [1, 2, 3, 4, 0] rfl)⟩
    · have hw := hw.2 c_11
      refine lv_aload_n (pc := 28) hx hb dX3_count_28 rfl (lv_at hl 0 rfl) ?_
      refine va_get (D := (dC, dI)) (ci := 3) (v := .ref h_M_arcs) (C := RX3) (T := TX3) (N := 16) (pc := 29) hx hb hts hin_X3 hown hK hP 0 rfl rfl 5 (by decide) (hts (.fieldLink RX3 19 "JobShopModel" "arcs" "[Z") (by decide +kernel)) (fun _ h9 => h9) rfl dX3_count_29 ?_
      refine lv_bipush (v := 12) (pc := 32) hx hb dX3_count_32 (by decide) ?_
      refine lv_iload (pc := 34) hx hb dX3_count_34 (lv_at hl 4 rfl) ?_
      refine lv_imul (pc := 36) hx hb dX3_count_36 ?_
      refine lv_iload (pc := 37) hx hb dX3_count_37 (lv_at hl 5 rfl) ?_
      refine lv_iadd (pc := 39) hx hb dX3_count_39 ?_
      obtain ⟨b_12, hw⟩ := hw
      refine va_zald (pc := 40) hx hb hK hP 4 1 rfl rfl b_12 dX3_count_40 ?_
      obtain ⟨J_51, hs_51, hw⟩ := hw
      refine jn_W (J := fun z : Int32 => J_51 z) 51 (fun z => [.int z]) (fun (z : Int32) H locs ls => va_P (dC, dI) vwCl (wM h_M h_M_jobOf h_M_machineOf h_M_durations h_M_arcs h_M_drafts h_M_starts h_M_heads h_M_tails h_M_chosen h_M_orders h_M_sizes cI cZ M_jobs M_many M_isPlanned M_least M_optima M_jobOf M_machineOf M_durations M_arcs M_drafts M_starts M_heads M_tails M_chosen M_orders M_sizes) H ∧ va_D A (wM h_M h_M_jobOf h_M_machineOf h_M_durations h_M_arcs h_M_drafts h_M_starts h_M_heads h_M_tails h_M_chosen h_M_orders h_M_sizes cI cZ M_jobs M_many M_isPlanned M_least M_optima M_jobOf M_machineOf M_durations M_arcs M_drafts M_starts M_heads M_tails M_chosen M_orders M_sizes) ∧ va_S A s.heap H locs ∧ lv_has ls 7 [(0, .ref h_M), (1, .int a0), (3, .int x3_19), (4, .int x4_7), (5, .int x5_19)]) ?_ ?_
      · rintro y0_51 H locs ls hI ⟨hP, hD, hS, hl⟩
        have hw := hs_51 y0_51 hI
        have hP : va_P (dC, dI) vwCl (wM h_M h_M_jobOf h_M_machineOf h_M_durations h_M_arcs h_M_drafts h_M_starts h_M_heads h_M_tails h_M_chosen h_M_orders h_M_sizes cI cZ M_jobs M_many M_isPlanned M_least M_optima M_jobOf M_machineOf M_durations M_arcs M_drafts M_starts M_heads M_tails M_chosen M_orders M_sizes) H := hP
        have hD : va_D A (wM h_M h_M_jobOf h_M_machineOf h_M_durations h_M_arcs h_M_drafts h_M_starts h_M_heads h_M_tails h_M_chosen h_M_orders h_M_sizes cI cZ M_jobs M_many M_isPlanned M_least M_optima M_jobOf M_machineOf M_durations M_arcs M_drafts M_starts M_heads M_tails M_chosen M_orders M_sizes) := hD
        have hl : lv_has ls 7 [(0, .ref h_M), (1, .int a0), (3, .int x3_19), (4, .int x4_7), (5, .int x5_19)] := hl
        refine W.eq (g2 := F0 m 51 ls [.int y0_51]) rfl ?_
        refine lv_istore_n (lv' := [(2, .int y0_51), (0, .ref h_M), (1, .int a0), (3, .int x3_19), (4, .int x4_7), (5, .int x5_19)]) (pc := 51) hx hb dX3_count_51 rfl hl (by decide) rfl (fun ls hl => ?_)
        refine lv_iload (pc := 52) hx hb dX3_count_52 (lv_at hl 4 rfl) ?_
        refine lv_iload (pc := 54) hx hb dX3_count_54 (lv_at hl 5 rfl) ?_
        refine lv_icmp_ge (tgt := 108) (pc := 56) hx hb dX3_count_56 (by decide) (fun c_13 => ?_) (fun c_13 => ?_)
        · have hw := hw.1 c_13
          refine lv_iload_n (pc := 108) hx hb dX3_count_108 rfl (lv_at hl 3 rfl) ?_
          refine lv_istore_n (lv' := [(3, .int x3_19), (2, .int y0_51), (0, .ref h_M), (1, .int a0), (4, .int x4_7), (5, .int x5_19)]) (pc := 109) hx hb dX3_count_109 rfl hl (by decide) rfl (fun ls hl => ?_)
          refine lv_iinc (v := x5_19 + 1) (lv' := [(5, .int (x5_19 + 1)), (3, .int x3_19), (2, .int y0_51), (0, .ref h_M), (1, .int a0), (4, .int x4_7)]) (pc := 110) hx hb dX3_count_110 hl (k := 5) rfl rfl (by decide) rfl (fun ls hl => ?_)
          refine lv_goto (tgt := 19) (pc := 113) hx hb dX3_count_113 (by decide) ?_
          exact ih_19 (y0_51, x3_19, (x5_19 + 1)) _ _ _ hw.1 hw.2 ⟨hP, hD, hS, (lv_sub hl [3, 4, 2, 1, 5, 0] rfl)⟩
        · have hw := hw.2 c_13
          refine lv_aload_n (pc := 59) hx hb dX3_count_59 rfl (lv_at hl 1 rfl) ?_
          refine lv_iload (pc := 60) hx hb dX3_count_60 (lv_at hl 4 rfl) ?_
          refine lv_iload (pc := 62) hx hb dX3_count_62 (lv_at hl 5 rfl) ?_
          have hPx : va_P (dC, dI) vwCl ([] ++ (wM h_M h_M_jobOf h_M_machineOf h_M_durations h_M_arcs h_M_drafts h_M_starts h_M_heads h_M_tails h_M_chosen h_M_orders h_M_sizes cI cZ M_jobs M_many M_isPlanned M_least M_optima M_jobOf M_machineOf M_durations M_arcs M_drafts M_starts M_heads M_tails M_chosen M_orders M_sizes)) H := hP
          have hDx : va_D A ([] ++ (wM h_M h_M_jobOf h_M_machineOf h_M_durations h_M_arcs h_M_drafts h_M_starts h_M_heads h_M_tails h_M_chosen h_M_orders h_M_sizes cI cZ M_jobs M_many M_isPlanned M_least M_optima M_jobOf M_machineOf M_durations M_arcs M_drafts M_starts M_heads M_tails M_chosen M_orders M_sizes)) := hD
          refine kc_i (pc := 64) (w1 := (fun u : Unit => (wM h_M h_M_jobOf h_M_machineOf h_M_durations h_M_arcs h_M_drafts h_M_starts h_M_heads h_M_tails h_M_chosen h_M_orders h_M_sizes cI cZ M_jobs M_many M_isPlanned M_least M_optima M_jobOf M_machineOf M_durations M_arcs M_drafts M_starts M_heads M_tails M_chosen M_orders M_sizes))) (va_runV (As := [.int x4_7, .int x5_19]) (rest := []) ⟨hx, hb, hml, hown, hts⟩ (c_X3_isPair l dC dI h_M h_M_jobOf h_M_machineOf h_M_durations h_M_arcs h_M_drafts h_M_starts h_M_heads h_M_tails h_M_chosen h_M_orders h_M_sizes H.size cI cZ M_jobs M_many M_isPlanned M_least M_optima M_jobOf M_machineOf M_durations M_arcs M_drafts M_starts M_heads M_tails M_chosen M_orders M_sizes x4_7 x5_19 _ hw) (cwV 2 hts gX3_count_X3_isPair rfl rfl rfl (by decide +kernel) ⟨Nat.le_of_ble_eq_true rfl, Nat.le_of_ble_eq_true rfl⟩) (kc_preVM (q0 := 0) (ci := 3) hK hPx hDx [0, 1] rfl rfl rfl) rfl rfl hl.1 rfl (lv_room (Nat.le_of_ble_eq_true rfl)) dX3_count_64 ⟨Nat.zero_le _, Nat.zero_le _⟩) hPx hDx hS hA (fun r_64 u H locs hw hP hD hS => ?_)
          have hP : va_P (dC, dI) vwCl (wM h_M h_M_jobOf h_M_machineOf h_M_durations h_M_arcs h_M_drafts h_M_starts h_M_heads h_M_tails h_M_chosen h_M_orders h_M_sizes cI cZ M_jobs M_many M_isPlanned M_least M_optima M_jobOf M_machineOf M_durations M_arcs M_drafts M_starts M_heads M_tails M_chosen M_orders M_sizes) H := hP
          have hD : va_D A (wM h_M h_M_jobOf h_M_machineOf h_M_durations h_M_arcs h_M_drafts h_M_starts h_M_heads h_M_tails h_M_chosen h_M_orders h_M_sizes cI cZ M_jobs M_many M_isPlanned M_least M_optima M_jobOf M_machineOf M_durations M_arcs M_drafts M_starts M_heads M_tails M_chosen M_orders M_sizes) := hD
          refine lv_if_eq (tgt := 108) (pc := 67) hx hb dX3_count_67 (by decide) (fun c_14 => ?_) (fun c_14 => ?_)
          · have hw := hw.1 c_14
            refine lv_iload_n (pc := 108) hx hb dX3_count_108 rfl (lv_at hl 3 rfl) ?_
            refine lv_istore_n (lv' := [(3, .int x3_19), (2, .int y0_51), (0, .ref h_M), (1, .int a0), (4, .int x4_7), (5, .int x5_19)]) (pc := 109) hx hb dX3_count_109 rfl hl (by decide) rfl (fun ls hl => ?_)
            refine lv_iinc (v := x5_19 + 1) (lv' := [(5, .int (x5_19 + 1)), (3, .int x3_19), (2, .int y0_51), (0, .ref h_M), (1, .int a0), (4, .int x4_7)]) (pc := 110) hx hb dX3_count_110 hl (k := 5) rfl rfl (by decide) rfl (fun ls hl => ?_)
            refine lv_goto (tgt := 19) (pc := 113) hx hb dX3_count_113 (by decide) ?_
            exact ih_19 (y0_51, x3_19, (x5_19 + 1)) _ _ _ hw.1 hw.2 ⟨hP, hD, hS, (lv_sub hl [3, 4, 2, 1, 5, 0] rfl)⟩
          · have hw := hw.2 c_14
            refine lv_aload_n (pc := 70) hx hb dX3_count_70 rfl (lv_at hl 1 rfl) ?_
            refine va_get (D := (dC, dI)) (ci := 3) (v := .ref h_M_arcs) (C := RX3) (T := TX3) (N := 16) (pc := 71) hx hb hts hin_X3 hown hK hP 0 rfl rfl 5 (by decide) (hts (.fieldLink RX3 19 "JobShopModel" "arcs" "[Z") (by decide +kernel)) (fun _ h9 => h9) rfl dX3_count_71 ?_
            refine lv_bipush (v := 12) (pc := 74) hx hb dX3_count_74 (by decide) ?_
            refine lv_iload (pc := 76) hx hb dX3_count_76 (lv_at hl 4 rfl) ?_
            refine lv_imul (pc := 78) hx hb dX3_count_78 ?_
            refine lv_iload (pc := 79) hx hb dX3_count_79 (lv_at hl 5 rfl) ?_
            refine lv_iadd (pc := 81) hx hb dX3_count_81 ?_
            obtain ⟨b_15, hw⟩ := hw
            refine va_zald (pc := 82) hx hb hK hP 4 1 rfl rfl b_15 dX3_count_82 ?_
            refine lv_if_ne (tgt := 108) (pc := 83) hx hb dX3_count_83 (by decide) (fun c_16 => ?_) (fun c_16 => ?_)
            · have hw := hw.1 c_16
              refine lv_iload_n (pc := 108) hx hb dX3_count_108 rfl (lv_at hl 3 rfl) ?_
              refine lv_istore_n (lv' := [(3, .int x3_19), (2, .int y0_51), (0, .ref h_M), (1, .int a0), (4, .int x4_7), (5, .int x5_19)]) (pc := 109) hx hb dX3_count_109 rfl hl (by decide) rfl (fun ls hl => ?_)
              refine lv_iinc (v := x5_19 + 1) (lv' := [(5, .int (x5_19 + 1)), (3, .int x3_19), (2, .int y0_51), (0, .ref h_M), (1, .int a0), (4, .int x4_7)]) (pc := 110) hx hb dX3_count_110 hl (k := 5) rfl rfl (by decide) rfl (fun ls hl => ?_)
              refine lv_goto (tgt := 19) (pc := 113) hx hb dX3_count_113 (by decide) ?_
              exact ih_19 (y0_51, x3_19, (x5_19 + 1)) _ _ _ hw.1 hw.2 ⟨hP, hD, hS, (lv_sub hl [3, 4, 2, 1, 5, 0] rfl)⟩
            · have hw := hw.2 c_16
              refine lv_aload_n (pc := 86) hx hb dX3_count_86 rfl (lv_at hl 1 rfl) ?_
              refine va_get (D := (dC, dI)) (ci := 3) (v := .ref h_M_arcs) (C := RX3) (T := TX3) (N := 16) (pc := 87) hx hb hts hin_X3 hown hK hP 0 rfl rfl 5 (by decide) (hts (.fieldLink RX3 19 "JobShopModel" "arcs" "[Z") (by decide +kernel)) (fun _ h9 => h9) rfl dX3_count_87 ?_
              refine lv_bipush (v := 12) (pc := 90) hx hb dX3_count_90 (by decide) ?_
              refine lv_iload (pc := 92) hx hb dX3_count_92 (lv_at hl 5 rfl) ?_
              refine lv_imul (pc := 94) hx hb dX3_count_94 ?_
              refine lv_iload (pc := 95) hx hb dX3_count_95 (lv_at hl 4 rfl) ?_
              refine lv_iadd (pc := 97) hx hb dX3_count_97 ?_
              obtain ⟨b_17, hw⟩ := hw
              refine va_zald (pc := 98) hx hb hK hP 4 1 rfl rfl b_17 dX3_count_98 ?_
              refine lv_if_ne (tgt := 108) (pc := 99) hx hb dX3_count_99 (by decide) (fun c_18 => ?_) (fun c_18 => ?_)
              · have hw := hw.1 c_18
                refine lv_iload_n (pc := 108) hx hb dX3_count_108 rfl (lv_at hl 3 rfl) ?_
                refine lv_istore_n (lv' := [(3, .int x3_19), (2, .int y0_51), (0, .ref h_M), (1, .int a0), (4, .int x4_7), (5, .int x5_19)]) (pc := 109) hx hb dX3_count_109 rfl hl (by decide) rfl (fun ls hl => ?_)
                refine lv_iinc (v := x5_19 + 1) (lv' := [(5, .int (x5_19 + 1)), (3, .int x3_19), (2, .int y0_51), (0, .ref h_M), (1, .int a0), (4, .int x4_7)]) (pc := 110) hx hb dX3_count_110 hl (k := 5) rfl rfl (by decide) rfl (fun ls hl => ?_)
                refine lv_goto (tgt := 19) (pc := 113) hx hb dX3_count_113 (by decide) ?_
                exact ih_19 (y0_51, x3_19, (x5_19 + 1)) _ _ _ hw.1 hw.2 ⟨hP, hD, hS, (lv_sub hl [3, 4, 2, 1, 5, 0] rfl)⟩
              · have hw := hw.2 c_18
                refine lv_iload_n (pc := 102) hx hb dX3_count_102 rfl (lv_at hl 3 rfl) ?_
                refine lv_iconst (v := 1) (pc := 103) hx hb dX3_count_103 (by decide) ?_
                refine lv_iadd (pc := 104) hx hb dX3_count_104 ?_
                refine lv_goto (tgt := 109) (pc := 105) hx hb dX3_count_105 (by decide) ?_
                refine lv_istore_n (lv' := [(3, .int (x3_19 + 1)), (2, .int y0_51), (0, .ref h_M), (1, .int a0), (4, .int x4_7), (5, .int x5_19)]) (pc := 109) hx hb dX3_count_109 rfl hl (by decide) rfl (fun ls hl => ?_)
                refine lv_iinc (v := x5_19 + 1) (lv' := [(5, .int (x5_19 + 1)), (3, .int (x3_19 + 1)), (2, .int y0_51), (0, .ref h_M), (1, .int a0), (4, .int x4_7)]) (pc := 110) hx hb dX3_count_110 hl (k := 5) rfl rfl (by decide) rfl (fun ls hl => ?_)
                refine lv_goto (tgt := 19) (pc := 113) hx hb dX3_count_113 (by decide) ?_
                exact ih_19 (y0_51, (x3_19 + 1), (x5_19 + 1)) _ _ _ hw.1 hw.2 ⟨hP, hD, hS, (lv_sub hl [3, 4, 2, 1, 5, 0] rfl)⟩
      · intro hj_51
        refine lv_if_eq (tgt := 50) (pc := 41) hx hb dX3_count_41 (by decide) (fun c_19 => ?_) (fun c_19 => ?_)
        · have hw := hw.1 c_19
          refine lv_iload_n (pc := 50) hx hb dX3_count_50 rfl (lv_at hl 2 rfl) ?_
          exact hj_51 x2_19 _ _ _ hw ⟨hP, hD, hS, (lv_sub hl [0, 1, 3, 4, 5] rfl)⟩
        · have hw := hw.2 c_19
          refine lv_iload_n (pc := 44) hx hb dX3_count_44 rfl (lv_at hl 2 rfl) ?_
          refine lv_iconst (v := 1) (pc := 45) hx hb dX3_count_45 (by decide) ?_
          refine lv_iadd (pc := 46) hx hb dX3_count_46 ?_
          refine lv_goto (tgt := 51) (pc := 47) hx hb dX3_count_47 (by decide) ?_
          exact hj_51 (x2_19 + 1) _ _ _ hw ⟨hP, hD, hS, (lv_sub hl [0, 1, 3, 4, 5] rfl)⟩
